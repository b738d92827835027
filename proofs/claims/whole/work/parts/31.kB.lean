/-! the law: its cases -/
section
variable {b B Lw i : Nat} {xs : Nat → Int32} {w : Wd} {I : MI} {L : ML} {P : MP}
def LwS (b B Lw : Nat) (xs : Nat → Int32) (i pc : Nat) (w : Wd) (I : MI) (L : ML) (P : MP) : Prop := ∀ x5 x6 x7 x8, ∃ l5 l6 l7 l8 w2 I2 L2 P2, go 225 pc [.ref b, .ref B, .ref (B + 284), .ref (B + 289), .int (nI (6 * i)), x5, x6, x7, x8] [] w I L P = go 225 1536 [.ref b, .ref B, .ref (B + 284), .ref (B + 289), .int (nI (6 * i)), l5, l6, l7, l8] [] w2 I2 L2 P2 ∧ LI b B Lw xs (i + 1) w2 I2 L2 P2
theorem lw_c0 (hl : LI b B Lw xs i w I L P) (hi : 6 * i + 6 ≤ Lw) (hL : Lw ≤ 3072) : LwS b B Lw xs i 160 w I L P := by
  obtain ⟨hb, N, st, Ks, len, tx, hc, hm, hw1, hw9, hI, hk1, hk2⟩ := hl
  intro x5 x6 x7 x8
  have t0 := hc.1.1
  have w71 := hm.1.1
  have ix : ∀ j, j < 6 → inA w b 14 (nI (6 * i) + nI j) := fun j hj => by rw [nI_add]; exact inA_nI hw1 (by omega) (by omega)
  have ev : ∀ j, j < 6 → I b (Int32.toNatClampNeg (nI (6 * i) + nI j)) = xs (6 * i + j) := fun j hj => by rw [nI_add, cl_nI (by omega)]; exact hI _
  rcases lw_sc (T' := 4000 * (i + 1)) hb hw1 hw9 hI hk1 hk2 hc (by omega) hm (Nat.le_refl _) (SC_T (sc_begin hc (xs (6 * i + 1))) (by omega)) with ⟨v, J, K, Q, a1, hJ, a2⟩ | ⟨e, v, J2, K2, a1, f1, f2, a2, a3, a4⟩
  · obtain ⟨J2, K2, b1, b2, b3, b4⟩ := a2 (updL K (B + 289) 0 (Int32.toInt64 v)) (fun x h => updL_o h)
    replace b1 : call 163 [.ref (B + 284), .int (xs (6 * i + 1))] w J (updL K (B + 289) 0 (Int32.toInt64 v)) Q = some (.inl (some (.int v)), w, J2, K2, Q) := b1
    have evJ : ∀ j, j < 6 → J b (Int32.toNatClampNeg (nI (6 * i) + nI j)) = xs (6 * i + j) := fun j hj => by rw [nI_add, cl_nI (by omega)]; exact hJ _
    refine ⟨.int (nI 0), .int v, x7, x8, w, J2, K2, Q, ?_, b4⟩
    rw [Law_law_160_3 _ _ _ _ _ _ _ _ _ _ _ _ _ (ix 1 (by omega)), ev 1 (by omega), (lh_begin t0 (xs (6 * i + 1))).1 v hw9 a1]
    simp only [kC_ret, Option.toList, List.cons_append, List.nil_append, fix1_int, fix1_ref, fix1_unk, fix1_null, fix1_long]
    rw [Law_law_171 _ _ _ _ _ _ _ _ _ _ _ _ _ _ (ix 1 (by omega)) w71, evJ 1 (by omega), b1]
    simp only [kC_ret, Option.toList, List.cons_append, List.nil_append, fix1_int, fix1_ref, fix1_unk, fix1_null, fix1_long]
    rw [Law_law_183 _ _ _ _ _ _ _ _ _ _ _ _ _ _ w71, Model_thrown_E, Model_thrown_0 _ _ _ _ _ w71, b2]
    simp only [kC_ret, Option.toList, List.cons_append, List.nil_append, fix1_int, fix1_ref, fix1_unk, fix1_null, fix1_long]
    rw [Law_law_189, if_pos rfl, Law_law_196, if_neg (fun h => h n00), Law_law_201 _ _ _ _ _ _ _ _ _ _ _ _ _ (inA_nI hw9 (by omega) (by omega)), cl_nI (by omega), b3, updL_s, lg_self, if_pos rfl, Law_law_213]
  · replace a2 : call 163 [.ref (B + 284), .int (xs (6 * i + 1))] (thrT w) I L P = some (.inl (some (.int v)), thrT w, J2, K2, P) := a2
    have ixT : ∀ j, j < 6 → inA (thrT w) b 14 (nI (6 * i) + nI j) := fun j hj => by rw [nI_add]; exact inA_nI (show (thrT w).1 b = some (14, Lw) from hw1) (by omega) (by omega)
    refine ⟨.int (nI ((fun e => if e = 0 then 1 else 0) e)), .int v, x7, x8, thrT w, J2, K2, P, ?_, a4⟩
    rw [Law_law_160_3 _ _ _ _ _ _ _ _ _ _ _ _ _ (ix 1 (by omega)), ev 1 (by omega), (lh_begin t0 (xs (6 * i + 1))).2 e a1 f1]
    simp only [kC_ret, Option.toList, List.cons_append, List.nil_append, fix1_int, fix1_ref, fix1_unk, fix1_null, fix1_long]
    rw [Law_law_171 _ _ _ _ _ _ _ _ _ _ _ _ _ _ (ixT 1 (by omega)) (show (thrT w).1 (B + 284) = some (7, 0) from w71), ev 1 (by omega), a2]
    simp only [kC_ret, Option.toList, List.cons_append, List.nil_append, fix1_int, fix1_ref, fix1_unk, fix1_null, fix1_long]
    rw [Law_law_183 _ _ _ _ _ _ _ _ _ _ _ _ _ _ (show (thrT w).1 (B + 284) = some (7, 0) from w71), Model_thrown_E, Model_thrown_0 _ _ _ _ _ (show (thrT w).1 (B + 284) = some (7, 0) from w71), a3]
    simp only [kC_ret, Option.toList, List.cons_append, List.nil_append, fix1_int, fix1_ref, fix1_unk, fix1_null, fix1_long]
    rw [Law_law_189, if_pos rfl, Law_law_196, if_pos (nI_ne0 f1 (by omega)), Law_law_213]
theorem lw_c1 (hl : LI b B Lw xs i w I L P) (hi : 6 * i + 6 ≤ Lw) (hL : Lw ≤ 3072) : LwS b B Lw xs i 216 w I L P := by
  obtain ⟨hb, N, st, Ks, len, tx, hc, hm, hw1, hw9, hI, hk1, hk2⟩ := hl
  intro x5 x6 x7 x8
  have t0 := hc.1.1
  have w71 := hm.1.1
  have ix : ∀ j, j < 6 → inA w b 14 (nI (6 * i) + nI j) := fun j hj => by rw [nI_add]; exact inA_nI hw1 (by omega) (by omega)
  have ev : ∀ j, j < 6 → I b (Int32.toNatClampNeg (nI (6 * i) + nI j)) = xs (6 * i + j) := fun j hj => by rw [nI_add, cl_nI (by omega)]; exact hI _
  rcases lw_sc (T' := 4000 * (i + 1)) hb hw1 hw9 hI hk1 hk2 hc (by omega) hm (Nat.le_refl _) (SC_T (sc_addListener hc (xs (6 * i + 1)) (xs (6 * i + 2))) (by omega)) with ⟨v, J, K, Q, a1, hJ, a2⟩ | ⟨e, v, J2, K2, a1, f1, f2, a2, a3, a4⟩
  · obtain ⟨J2, K2, b1, b2, b3, b4⟩ := a2 (updL K (B + 289) 0 (Int32.toInt64 v)) (fun x h => updL_o h)
    replace b1 : call 164 [.ref (B + 284), .int (xs (6 * i + 1)), .int (xs (6 * i + 2))] w J (updL K (B + 289) 0 (Int32.toInt64 v)) Q = some (.inl (some (.int v)), w, J2, K2, Q) := b1
    have evJ : ∀ j, j < 6 → J b (Int32.toNatClampNeg (nI (6 * i) + nI j)) = xs (6 * i + j) := fun j hj => by rw [nI_add, cl_nI (by omega)]; exact hJ _
    refine ⟨.int (nI 0), .int v, x7, x8, w, J2, K2, Q, ?_, b4⟩
    rw [Law_law_216_3 _ _ _ _ _ _ _ _ _ _ _ _ _ (ix 1 (by omega)) (ix 2 (by omega)), ev 1 (by omega), ev 2 (by omega), (lh_addListener t0 (xs (6 * i + 1)) (xs (6 * i + 2))).1 v hw9 a1]
    simp only [kC_ret, Option.toList, List.cons_append, List.nil_append, fix1_int, fix1_ref, fix1_unk, fix1_null, fix1_long]
    rw [Law_law_233 _ _ _ _ _ _ _ _ _ _ _ _ _ _ (ix 1 (by omega)) (ix 2 (by omega)) w71, evJ 1 (by omega), evJ 2 (by omega), b1]
    simp only [kC_ret, Option.toList, List.cons_append, List.nil_append, fix1_int, fix1_ref, fix1_unk, fix1_null, fix1_long]
    rw [Law_law_251 _ _ _ _ _ _ _ _ _ _ _ _ _ _ w71, Model_thrown_E, Model_thrown_0 _ _ _ _ _ w71, b2]
    simp only [kC_ret, Option.toList, List.cons_append, List.nil_append, fix1_int, fix1_ref, fix1_unk, fix1_null, fix1_long]
    rw [Law_law_257, if_pos rfl, Law_law_264, if_neg (fun h => h n00), Law_law_269 _ _ _ _ _ _ _ _ _ _ _ _ _ (inA_nI hw9 (by omega) (by omega)), cl_nI (by omega), b3, updL_s, lg_self, if_pos rfl, Law_law_281]
  · replace a2 : call 164 [.ref (B + 284), .int (xs (6 * i + 1)), .int (xs (6 * i + 2))] (thrT w) I L P = some (.inl (some (.int v)), thrT w, J2, K2, P) := a2
    have ixT : ∀ j, j < 6 → inA (thrT w) b 14 (nI (6 * i) + nI j) := fun j hj => by rw [nI_add]; exact inA_nI (show (thrT w).1 b = some (14, Lw) from hw1) (by omega) (by omega)
    refine ⟨.int (nI ((fun e => if e < 2 then e + 1 else 0) e)), .int v, x7, x8, thrT w, J2, K2, P, ?_, a4⟩
    rw [Law_law_216_3 _ _ _ _ _ _ _ _ _ _ _ _ _ (ix 1 (by omega)) (ix 2 (by omega)), ev 1 (by omega), ev 2 (by omega), (lh_addListener t0 (xs (6 * i + 1)) (xs (6 * i + 2))).2 e a1 f1]
    simp only [kC_ret, Option.toList, List.cons_append, List.nil_append, fix1_int, fix1_ref, fix1_unk, fix1_null, fix1_long]
    rw [Law_law_233 _ _ _ _ _ _ _ _ _ _ _ _ _ _ (ixT 1 (by omega)) (ixT 2 (by omega)) (show (thrT w).1 (B + 284) = some (7, 0) from w71), ev 1 (by omega), ev 2 (by omega), a2]
    simp only [kC_ret, Option.toList, List.cons_append, List.nil_append, fix1_int, fix1_ref, fix1_unk, fix1_null, fix1_long]
    rw [Law_law_251 _ _ _ _ _ _ _ _ _ _ _ _ _ _ (show (thrT w).1 (B + 284) = some (7, 0) from w71), Model_thrown_E, Model_thrown_0 _ _ _ _ _ (show (thrT w).1 (B + 284) = some (7, 0) from w71), a3]
    simp only [kC_ret, Option.toList, List.cons_append, List.nil_append, fix1_int, fix1_ref, fix1_unk, fix1_null, fix1_long]
    rw [Law_law_257, if_pos rfl, Law_law_264, if_pos (nI_ne0 f1 (by omega)), Law_law_281]
theorem lw_c2 (hl : LI b B Lw xs i w I L P) (hi : 6 * i + 6 ≤ Lw) (hL : Lw ≤ 3072) : LwS b B Lw xs i 284 w I L P := by
  obtain ⟨hb, N, st, Ks, len, tx, hc, hm, hw1, hw9, hI, hk1, hk2⟩ := hl
  intro x5 x6 x7 x8
  have t0 := hc.1.1
  have w71 := hm.1.1
  have ix : ∀ j, j < 6 → inA w b 14 (nI (6 * i) + nI j) := fun j hj => by rw [nI_add]; exact inA_nI hw1 (by omega) (by omega)
  have ev : ∀ j, j < 6 → I b (Int32.toNatClampNeg (nI (6 * i) + nI j)) = xs (6 * i + j) := fun j hj => by rw [nI_add, cl_nI (by omega)]; exact hI _
  have tv : ∃ v, (v = nI 0 ∨ v = nI 1) ∧ (∀ w I L P x5 x6 x7 x8, w.1 b = some (14, Lw) → (∀ k, I b k = xs k) → go 225 284 [.ref b, .ref B, .ref (B + 284), .ref (B + 289), .int (nI (6 * i)), x5, x6, x7, x8] [] w I L P = go 225 305 [.ref b, .ref B, .ref (B + 284), .ref (B + 289), .int (nI (6 * i)), x5, x6, x7, x8] [.int v, .int (xs (6 * i + 1)), .ref B] w I L P) ∧ ∀ w I L P x5 x6 x7 x8 y, w.1 b = some (14, Lw) → (∀ k, I b k = xs k) → go 225 309 [.ref b, .ref B, .ref (B + 284), .ref (B + 289), .int (nI (6 * i)), x5, x6, x7, x8] [.int y] w I L P = go 225 332 [.ref b, .ref B, .ref (B + 284), .ref (B + 289), .int (nI (6 * i)), .int y, x6, x7, x8] [.int v, .int (xs (6 * i + 1)), .ref (B + 284)] w I L P := by
    by_cases z : xs (6 * i + 2) = 0
    · refine ⟨nI 0, Or.inl rfl, ?_, ?_⟩
      · intro w I L P x5 x6 x7 x8 g1 g2
        rw [Law_law_284_1 _ _ _ _ _ _ _ _ _ _ _ _ _ (by rw [nI_add]; exact inA_nI g1 (by omega) (by omega)) (by rw [nI_add]; exact inA_nI g1 (by omega) (by omega)), nI_add, nI_add, cl_nI (by omega), cl_nI (by omega), g2, g2, if_pos z, Law_law_304]
      · intro w I L P x5 x6 x7 x8 y g1 g2
        rw [Law_law_309_1 _ _ _ _ _ _ _ _ _ _ _ _ _ _ (by rw [nI_add]; exact inA_nI g1 (by omega) (by omega)) (by rw [nI_add]; exact inA_nI g1 (by omega) (by omega)), nI_add, nI_add, cl_nI (by omega), cl_nI (by omega), g2, g2, if_pos z, Law_law_331]
    · refine ⟨nI 1, Or.inr rfl, ?_, ?_⟩
      · intro w I L P x5 x6 x7 x8 g1 g2
        rw [Law_law_284_1 _ _ _ _ _ _ _ _ _ _ _ _ _ (by rw [nI_add]; exact inA_nI g1 (by omega) (by omega)) (by rw [nI_add]; exact inA_nI g1 (by omega) (by omega)), nI_add, nI_add, cl_nI (by omega), cl_nI (by omega), g2, g2, if_neg z, Law_law_300]
      · intro w I L P x5 x6 x7 x8 y g1 g2
        rw [Law_law_309_1 _ _ _ _ _ _ _ _ _ _ _ _ _ _ (by rw [nI_add]; exact inA_nI g1 (by omega) (by omega)) (by rw [nI_add]; exact inA_nI g1 (by omega) (by omega)), nI_add, nI_add, cl_nI (by omega), cl_nI (by omega), g2, g2, if_neg z, Law_law_327]
  obtain ⟨tv, hv, e1, e2⟩ := tv
  rcases lw_sc (T' := 4000 * (i + 1)) hb hw1 hw9 hI hk1 hk2 hc (by omega) hm (Nat.le_refl _) (SC_T (sc_turn hc (xs (6 * i + 1)) tv hv) (by omega)) with ⟨v, J, K, Q, a1, hJ, a2⟩ | ⟨e, v, J2, K2, a1, f1, f2, a2, a3, a4⟩
  · obtain ⟨J2, K2, b1, b2, b3, b4⟩ := a2 (updL K (B + 289) 0 (Int32.toInt64 v)) (fun x h => updL_o h)
    replace b1 : call 166 [.ref (B + 284), .int (xs (6 * i + 1)), .int tv] w J (updL K (B + 289) 0 (Int32.toInt64 v)) Q = some (.inl (some (.int v)), w, J2, K2, Q) := b1
    have evJ : ∀ j, j < 6 → J b (Int32.toNatClampNeg (nI (6 * i) + nI j)) = xs (6 * i + j) := fun j hj => by rw [nI_add, cl_nI (by omega)]; exact hJ _
    refine ⟨.int (nI 0), .int v, x7, x8, w, J2, K2, Q, ?_, b4⟩
    rw [e1 _ _ _ _ _ _ _ _ hw1 hI, Law_law_305_3 _ _ _ _ _ _ _ _ _ _ _ _ _ _ _ _, (lh_turn t0 (xs (6 * i + 1)) tv).1 v hw9 a1]
    simp only [kC_ret, Option.toList, List.cons_append, List.nil_append, fix1_int, fix1_ref, fix1_unk, fix1_null, fix1_long]
    rw [e2 _ _ _ _ _ _ _ _ _ hw1 hJ, Law_law_332 _ _ _ _ _ _ _ _ _ _ _ _ _ _ _ _ w71, b1]
    simp only [kC_ret, Option.toList, List.cons_append, List.nil_append, fix1_int, fix1_ref, fix1_unk, fix1_null, fix1_long]
    rw [Law_law_335 _ _ _ _ _ _ _ _ _ _ _ _ _ _ w71, Model_thrown_E, Model_thrown_0 _ _ _ _ _ w71, b2]
    simp only [kC_ret, Option.toList, List.cons_append, List.nil_append, fix1_int, fix1_ref, fix1_unk, fix1_null, fix1_long]
    rw [Law_law_341, if_pos rfl, Law_law_348, if_neg (fun h => h n00), Law_law_353 _ _ _ _ _ _ _ _ _ _ _ _ _ (inA_nI hw9 (by omega) (by omega)), cl_nI (by omega), b3, updL_s, lg_self, if_pos rfl, Law_law_365]
  · replace a2 : call 166 [.ref (B + 284), .int (xs (6 * i + 1)), .int tv] (thrT w) I L P = some (.inl (some (.int v)), thrT w, J2, K2, P) := a2
    have ixT : ∀ j, j < 6 → inA (thrT w) b 14 (nI (6 * i) + nI j) := fun j hj => by rw [nI_add]; exact inA_nI (show (thrT w).1 b = some (14, Lw) from hw1) (by omega) (by omega)
    refine ⟨.int (nI ((fun e => if e = 1 then 2 else if e = 2 then 1 else 0) e)), .int v, x7, x8, thrT w, J2, K2, P, ?_, a4⟩
    rw [e1 _ _ _ _ _ _ _ _ hw1 hI, Law_law_305_3 _ _ _ _ _ _ _ _ _ _ _ _ _ _ _ _, (lh_turn t0 (xs (6 * i + 1)) tv).2 e a1 f1]
    simp only [kC_ret, Option.toList, List.cons_append, List.nil_append, fix1_int, fix1_ref, fix1_unk, fix1_null, fix1_long]
    rw [e2 (thrT w) _ _ _ _ _ _ _ _ hw1 hI, Law_law_332 _ _ _ _ _ _ _ _ _ _ _ _ _ _ _ _ (show (thrT w).1 (B + 284) = some (7, 0) from w71), a2]
    simp only [kC_ret, Option.toList, List.cons_append, List.nil_append, fix1_int, fix1_ref, fix1_unk, fix1_null, fix1_long]
    rw [Law_law_335 _ _ _ _ _ _ _ _ _ _ _ _ _ _ (show (thrT w).1 (B + 284) = some (7, 0) from w71), Model_thrown_E, Model_thrown_0 _ _ _ _ _ (show (thrT w).1 (B + 284) = some (7, 0) from w71), a3]
    simp only [kC_ret, Option.toList, List.cons_append, List.nil_append, fix1_int, fix1_ref, fix1_unk, fix1_null, fix1_long]
    rw [Law_law_341, if_pos rfl, Law_law_348, if_pos (nI_ne0 f1 (by omega)), Law_law_365]
theorem lw_c3 (hl : LI b B Lw xs i w I L P) (hi : 6 * i + 6 ≤ Lw) (hL : Lw ≤ 3072) : LwS b B Lw xs i 368 w I L P := by
  obtain ⟨hb, N, st, Ks, len, tx, hc, hm, hw1, hw9, hI, hk1, hk2⟩ := hl
  intro x5 x6 x7 x8
  have t0 := hc.1.1
  have w71 := hm.1.1
  have ix : ∀ j, j < 6 → inA w b 14 (nI (6 * i) + nI j) := fun j hj => by rw [nI_add]; exact inA_nI hw1 (by omega) (by omega)
  have ev : ∀ j, j < 6 → I b (Int32.toNatClampNeg (nI (6 * i) + nI j)) = xs (6 * i + j) := fun j hj => by rw [nI_add, cl_nI (by omega)]; exact hI _
  rcases lw_sc (T' := 4000 * (i + 1)) hb hw1 hw9 hI hk1 hk2 hc (by omega) hm (Nat.le_refl _) (SC_T (sc_empty hc (xs (6 * i + 1))) (by omega)) with ⟨v, J, K, Q, a1, hJ, a2⟩ | ⟨e, v, J2, K2, a1, f1, f2, a2, a3, a4⟩
  · obtain ⟨J2, K2, b1, b2, b3, b4⟩ := a2 (updL K (B + 289) 0 (Int32.toInt64 v)) (fun x h => updL_o h)
    replace b1 : call 167 [.ref (B + 284), .int (xs (6 * i + 1))] w J (updL K (B + 289) 0 (Int32.toInt64 v)) Q = some (.inl (some (.int v)), w, J2, K2, Q) := b1
    have evJ : ∀ j, j < 6 → J b (Int32.toNatClampNeg (nI (6 * i) + nI j)) = xs (6 * i + j) := fun j hj => by rw [nI_add, cl_nI (by omega)]; exact hJ _
    refine ⟨.int (nI 0), .int v, x7, x8, w, J2, K2, Q, ?_, b4⟩
    rw [Law_law_368_3 _ _ _ _ _ _ _ _ _ _ _ _ _ (ix 1 (by omega)), ev 1 (by omega), (lh_empty t0 (xs (6 * i + 1))).1 v hw9 a1]
    simp only [kC_ret, Option.toList, List.cons_append, List.nil_append, fix1_int, fix1_ref, fix1_unk, fix1_null, fix1_long]
    rw [Law_law_379 _ _ _ _ _ _ _ _ _ _ _ _ _ _ (ix 1 (by omega)) w71, evJ 1 (by omega), b1]
    simp only [kC_ret, Option.toList, List.cons_append, List.nil_append, fix1_int, fix1_ref, fix1_unk, fix1_null, fix1_long]
    rw [Law_law_391 _ _ _ _ _ _ _ _ _ _ _ _ _ _ w71, Model_thrown_E, Model_thrown_0 _ _ _ _ _ w71, b2]
    simp only [kC_ret, Option.toList, List.cons_append, List.nil_append, fix1_int, fix1_ref, fix1_unk, fix1_null, fix1_long]
    rw [Law_law_397, if_pos rfl, Law_law_404, if_neg (fun h => h n00), Law_law_409 _ _ _ _ _ _ _ _ _ _ _ _ _ (inA_nI hw9 (by omega) (by omega)), cl_nI (by omega), b3, updL_s, lg_self, if_pos rfl, Law_law_421]
  · replace a2 : call 167 [.ref (B + 284), .int (xs (6 * i + 1))] (thrT w) I L P = some (.inl (some (.int v)), thrT w, J2, K2, P) := a2
    have ixT : ∀ j, j < 6 → inA (thrT w) b 14 (nI (6 * i) + nI j) := fun j hj => by rw [nI_add]; exact inA_nI (show (thrT w).1 b = some (14, Lw) from hw1) (by omega) (by omega)
    refine ⟨.int (nI ((fun e => if e = 2 then 1 else 0) e)), .int v, x7, x8, thrT w, J2, K2, P, ?_, a4⟩
    rw [Law_law_368_3 _ _ _ _ _ _ _ _ _ _ _ _ _ (ix 1 (by omega)), ev 1 (by omega), (lh_empty t0 (xs (6 * i + 1))).2 e a1 f1]
    simp only [kC_ret, Option.toList, List.cons_append, List.nil_append, fix1_int, fix1_ref, fix1_unk, fix1_null, fix1_long]
    rw [Law_law_379 _ _ _ _ _ _ _ _ _ _ _ _ _ _ (ixT 1 (by omega)) (show (thrT w).1 (B + 284) = some (7, 0) from w71), ev 1 (by omega), a2]
    simp only [kC_ret, Option.toList, List.cons_append, List.nil_append, fix1_int, fix1_ref, fix1_unk, fix1_null, fix1_long]
    rw [Law_law_391 _ _ _ _ _ _ _ _ _ _ _ _ _ _ (show (thrT w).1 (B + 284) = some (7, 0) from w71), Model_thrown_E, Model_thrown_0 _ _ _ _ _ (show (thrT w).1 (B + 284) = some (7, 0) from w71), a3]
    simp only [kC_ret, Option.toList, List.cons_append, List.nil_append, fix1_int, fix1_ref, fix1_unk, fix1_null, fix1_long]
    rw [Law_law_397, if_pos rfl, Law_law_404, if_pos (nI_ne0 f1 (by omega)), Law_law_421]
theorem lw_c4 (hl : LI b B Lw xs i w I L P) (hi : 6 * i + 6 ≤ Lw) (hL : Lw ≤ 3072) : LwS b B Lw xs i 424 w I L P := by
  obtain ⟨hb, N, st, Ks, len, tx, hc, hm, hw1, hw9, hI, hk1, hk2⟩ := hl
  intro x5 x6 x7 x8
  have t0 := hc.1.1
  have w71 := hm.1.1
  have ix : ∀ j, j < 6 → inA w b 14 (nI (6 * i) + nI j) := fun j hj => by rw [nI_add]; exact inA_nI hw1 (by omega) (by omega)
  have ev : ∀ j, j < 6 → I b (Int32.toNatClampNeg (nI (6 * i) + nI j)) = xs (6 * i + j) := fun j hj => by rw [nI_add, cl_nI (by omega)]; exact hI _
  rcases lw_sc (T' := 4000 * (i + 1)) hb hw1 hw9 hI hk1 hk2 hc (by omega) hm (Nat.le_refl _) (SC_T (sc_setLimit hc (xs (6 * i + 1))) (by omega)) with ⟨v, J, K, Q, a1, hJ, a2⟩ | ⟨e, v, J2, K2, a1, f1, f2, a2, a3, a4⟩
  · obtain ⟨J2, K2, b1, b2, b3, b4⟩ := a2 (updL K (B + 289) 0 (Int32.toInt64 v)) (fun x h => updL_o h)
    replace b1 : call 168 [.ref (B + 284), .int (xs (6 * i + 1))] w J (updL K (B + 289) 0 (Int32.toInt64 v)) Q = some (.inl (some (.int v)), w, J2, K2, Q) := b1
    have evJ : ∀ j, j < 6 → J b (Int32.toNatClampNeg (nI (6 * i) + nI j)) = xs (6 * i + j) := fun j hj => by rw [nI_add, cl_nI (by omega)]; exact hJ _
    refine ⟨.int (nI 0), .int v, x7, x8, w, J2, K2, Q, ?_, b4⟩
    rw [Law_law_424_3 _ _ _ _ _ _ _ _ _ _ _ _ _ (ix 1 (by omega)), ev 1 (by omega), (lh_setLimit t0 (xs (6 * i + 1))).1 v hw9 a1]
    simp only [kC_ret, Option.toList, List.cons_append, List.nil_append, fix1_int, fix1_ref, fix1_unk, fix1_null, fix1_long]
    rw [Law_law_435 _ _ _ _ _ _ _ _ _ _ _ _ _ _ (ix 1 (by omega)) w71, evJ 1 (by omega), b1]
    simp only [kC_ret, Option.toList, List.cons_append, List.nil_append, fix1_int, fix1_ref, fix1_unk, fix1_null, fix1_long]
    rw [Law_law_447 _ _ _ _ _ _ _ _ _ _ _ _ _ _ w71, Model_thrown_E, Model_thrown_0 _ _ _ _ _ w71, b2]
    simp only [kC_ret, Option.toList, List.cons_append, List.nil_append, fix1_int, fix1_ref, fix1_unk, fix1_null, fix1_long]
    rw [Law_law_453, if_pos rfl, Law_law_460, if_neg (fun h => h n00), Law_law_465 _ _ _ _ _ _ _ _ _ _ _ _ _ (inA_nI hw9 (by omega) (by omega)), cl_nI (by omega), b3, updL_s, lg_self, if_pos rfl, Law_law_477]
  · replace a2 : call 168 [.ref (B + 284), .int (xs (6 * i + 1))] (thrT w) I L P = some (.inl (some (.int v)), thrT w, J2, K2, P) := a2
    have ixT : ∀ j, j < 6 → inA (thrT w) b 14 (nI (6 * i) + nI j) := fun j hj => by rw [nI_add]; exact inA_nI (show (thrT w).1 b = some (14, Lw) from hw1) (by omega) (by omega)
    refine ⟨.int (nI ((fun e => if e = 0 then 1 else 0) e)), .int v, x7, x8, thrT w, J2, K2, P, ?_, a4⟩
    rw [Law_law_424_3 _ _ _ _ _ _ _ _ _ _ _ _ _ (ix 1 (by omega)), ev 1 (by omega), (lh_setLimit t0 (xs (6 * i + 1))).2 e a1 f1]
    simp only [kC_ret, Option.toList, List.cons_append, List.nil_append, fix1_int, fix1_ref, fix1_unk, fix1_null, fix1_long]
    rw [Law_law_435 _ _ _ _ _ _ _ _ _ _ _ _ _ _ (ixT 1 (by omega)) (show (thrT w).1 (B + 284) = some (7, 0) from w71), ev 1 (by omega), a2]
    simp only [kC_ret, Option.toList, List.cons_append, List.nil_append, fix1_int, fix1_ref, fix1_unk, fix1_null, fix1_long]
    rw [Law_law_447 _ _ _ _ _ _ _ _ _ _ _ _ _ _ (show (thrT w).1 (B + 284) = some (7, 0) from w71), Model_thrown_E, Model_thrown_0 _ _ _ _ _ (show (thrT w).1 (B + 284) = some (7, 0) from w71), a3]
    simp only [kC_ret, Option.toList, List.cons_append, List.nil_append, fix1_int, fix1_ref, fix1_unk, fix1_null, fix1_long]
    rw [Law_law_453, if_pos rfl, Law_law_460, if_pos (nI_ne0 f1 (by omega)), Law_law_477]
theorem lw_c5 (hl : LI b B Lw xs i w I L P) (hi : 6 * i + 6 ≤ Lw) (hL : Lw ≤ 3072) : LwS b B Lw xs i 480 w I L P := by
  obtain ⟨hb, N, st, Ks, len, tx, hc, hm, hw1, hw9, hI, hk1, hk2⟩ := hl
  intro x5 x6 x7 x8
  have t0 := hc.1.1
  have w71 := hm.1.1
  have ix : ∀ j, j < 6 → inA w b 14 (nI (6 * i) + nI j) := fun j hj => by rw [nI_add]; exact inA_nI hw1 (by omega) (by omega)
  have ev : ∀ j, j < 6 → I b (Int32.toNatClampNeg (nI (6 * i) + nI j)) = xs (6 * i + j) := fun j hj => by rw [nI_add, cl_nI (by omega)]; exact hI _
  rcases lw_sc (T' := 4000 * (i + 1)) hb hw1 hw9 hI hk1 hk2 hc (by omega) hm (Nat.le_refl _) (SC_T (sc_write hc (xs (6 * i + 1)) (xs (6 * i + 2)) (xs (6 * i + 3)) ((Int32.toInt64 (xs (6 * i + 4)) <<< (Int32.toInt64 (nI 32) &&& 63)) ||| (Int32.toInt64 (xs (6 * i + 5)) &&& 4294967295))) (by omega)) with ⟨v, J, K, Q, a1, hJ, a2⟩ | ⟨e, v, J2, K2, a1, f1, f2, a2, a3, a4⟩
  · obtain ⟨J2, K2, b1, b2, b3, b4⟩ := a2 (updL K (B + 289) 0 (Int32.toInt64 v)) (fun x h => updL_o h)
    replace b1 : call 169 [.ref (B + 284), .int (xs (6 * i + 1)), .int (xs (6 * i + 2)), .int (xs (6 * i + 3)), .long ((Int32.toInt64 (xs (6 * i + 4)) <<< (Int32.toInt64 (nI 32) &&& 63)) ||| (Int32.toInt64 (xs (6 * i + 5)) &&& 4294967295))] w J (updL K (B + 289) 0 (Int32.toInt64 v)) Q = some (.inl (some (.int v)), w, J2, K2, Q) := b1
    have evJ : ∀ j, j < 6 → J b (Int32.toNatClampNeg (nI (6 * i) + nI j)) = xs (6 * i + j) := fun j hj => by rw [nI_add, cl_nI (by omega)]; exact hJ _
    refine ⟨.int (nI 0), .int v, x7, x8, w, J2, K2, Q, ?_, b4⟩
    rw [Law_law_480_3 _ _ _ _ _ _ _ _ _ _ _ _ _ (ix 1 (by omega)) (ix 2 (by omega)) (ix 3 (by omega)) (ix 4 (by omega)) (ix 5 (by omega)), ev 1 (by omega), ev 2 (by omega), ev 3 (by omega), ev 4 (by omega), ev 5 (by omega), (lh_write t0 (xs (6 * i + 1)) (xs (6 * i + 2)) (xs (6 * i + 3)) ((Int32.toInt64 (xs (6 * i + 4)) <<< (Int32.toInt64 (nI 32) &&& 63)) ||| (Int32.toInt64 (xs (6 * i + 5)) &&& 4294967295))).1 v hw9 a1]
    simp only [kC_ret, Option.toList, List.cons_append, List.nil_append, fix1_int, fix1_ref, fix1_unk, fix1_null, fix1_long]
    rw [Law_law_525 _ _ _ _ _ _ _ _ _ _ _ _ _ _ (ix 1 (by omega)) (ix 2 (by omega)) (ix 3 (by omega)) (ix 4 (by omega)) (ix 5 (by omega)) w71, evJ 1 (by omega), evJ 2 (by omega), evJ 3 (by omega), evJ 4 (by omega), evJ 5 (by omega), b1]
    simp only [kC_ret, Option.toList, List.cons_append, List.nil_append, fix1_int, fix1_ref, fix1_unk, fix1_null, fix1_long]
    rw [Law_law_571 _ _ _ _ _ _ _ _ _ _ _ _ _ _ w71, Model_thrown_E, Model_thrown_0 _ _ _ _ _ w71, b2]
    simp only [kC_ret, Option.toList, List.cons_append, List.nil_append, fix1_int, fix1_ref, fix1_unk, fix1_null, fix1_long]
    rw [Law_law_577, if_pos rfl, Law_law_584, if_neg (fun h => h n00), Law_law_589 _ _ _ _ _ _ _ _ _ _ _ _ _ (inA_nI hw9 (by omega) (by omega)), cl_nI (by omega), b3, updL_s, lg_self, if_pos rfl, Law_law_601]
  · replace a2 : call 169 [.ref (B + 284), .int (xs (6 * i + 1)), .int (xs (6 * i + 2)), .int (xs (6 * i + 3)), .long ((Int32.toInt64 (xs (6 * i + 4)) <<< (Int32.toInt64 (nI 32) &&& 63)) ||| (Int32.toInt64 (xs (6 * i + 5)) &&& 4294967295))] (thrT w) I L P = some (.inl (some (.int v)), thrT w, J2, K2, P) := a2
    have ixT : ∀ j, j < 6 → inA (thrT w) b 14 (nI (6 * i) + nI j) := fun j hj => by rw [nI_add]; exact inA_nI (show (thrT w).1 b = some (14, Lw) from hw1) (by omega) (by omega)
    refine ⟨.int (nI ((fun e => if e = 2 then 1 else if e < 2 then e + 2 else 0) e)), .int v, x7, x8, thrT w, J2, K2, P, ?_, a4⟩
    rw [Law_law_480_3 _ _ _ _ _ _ _ _ _ _ _ _ _ (ix 1 (by omega)) (ix 2 (by omega)) (ix 3 (by omega)) (ix 4 (by omega)) (ix 5 (by omega)), ev 1 (by omega), ev 2 (by omega), ev 3 (by omega), ev 4 (by omega), ev 5 (by omega), (lh_write t0 (xs (6 * i + 1)) (xs (6 * i + 2)) (xs (6 * i + 3)) ((Int32.toInt64 (xs (6 * i + 4)) <<< (Int32.toInt64 (nI 32) &&& 63)) ||| (Int32.toInt64 (xs (6 * i + 5)) &&& 4294967295))).2 e a1 f1]
    simp only [kC_ret, Option.toList, List.cons_append, List.nil_append, fix1_int, fix1_ref, fix1_unk, fix1_null, fix1_long]
    rw [Law_law_525 _ _ _ _ _ _ _ _ _ _ _ _ _ _ (ixT 1 (by omega)) (ixT 2 (by omega)) (ixT 3 (by omega)) (ixT 4 (by omega)) (ixT 5 (by omega)) (show (thrT w).1 (B + 284) = some (7, 0) from w71), ev 1 (by omega), ev 2 (by omega), ev 3 (by omega), ev 4 (by omega), ev 5 (by omega), a2]
    simp only [kC_ret, Option.toList, List.cons_append, List.nil_append, fix1_int, fix1_ref, fix1_unk, fix1_null, fix1_long]
    rw [Law_law_571 _ _ _ _ _ _ _ _ _ _ _ _ _ _ (show (thrT w).1 (B + 284) = some (7, 0) from w71), Model_thrown_E, Model_thrown_0 _ _ _ _ _ (show (thrT w).1 (B + 284) = some (7, 0) from w71), a3]
    simp only [kC_ret, Option.toList, List.cons_append, List.nil_append, fix1_int, fix1_ref, fix1_unk, fix1_null, fix1_long]
    rw [Law_law_577, if_pos rfl, Law_law_584, if_pos (nI_ne0 f1 (by omega)), Law_law_601]
theorem lw_c6 (hl : LI b B Lw xs i w I L P) (hi : 6 * i + 6 ≤ Lw) (hL : Lw ≤ 3072) : LwS b B Lw xs i 604 w I L P := by
  obtain ⟨hb, N, st, Ks, len, tx, hc, hm, hw1, hw9, hI, hk1, hk2⟩ := hl
  intro x5 x6 x7 x8
  have t0 := hc.1.1
  have w71 := hm.1.1
  have ix : ∀ j, j < 6 → inA w b 14 (nI (6 * i) + nI j) := fun j hj => by rw [nI_add]; exact inA_nI hw1 (by omega) (by omega)
  have ev : ∀ j, j < 6 → I b (Int32.toNatClampNeg (nI (6 * i) + nI j)) = xs (6 * i + j) := fun j hj => by rw [nI_add, cl_nI (by omega)]; exact hI _
  rcases lw_sc (T' := 4000 * (i + 1)) hb hw1 hw9 hI hk1 hk2 hc (by omega) hm (Nat.le_refl _) (SC_T (sc_read hc (xs (6 * i + 1)) (xs (6 * i + 2)) (xs (6 * i + 3))) (by omega)) with ⟨v, J, K, Q, a1, hJ, a2⟩ | ⟨e, v, J2, K2, a1, f1, f2, a2, a3, a4⟩
  · obtain ⟨J2, K2, b1, b2, b3, b4⟩ := a2 (updL K (B + 289) 0 (Int32.toInt64 v)) (fun x h => updL_o h)
    replace b1 : call 170 [.ref (B + 284), .int (xs (6 * i + 1)), .int (xs (6 * i + 2)), .int (xs (6 * i + 3))] w J (updL K (B + 289) 0 (Int32.toInt64 v)) Q = some (.inl (some (.int v)), w, J2, K2, Q) := b1
    have evJ : ∀ j, j < 6 → J b (Int32.toNatClampNeg (nI (6 * i) + nI j)) = xs (6 * i + j) := fun j hj => by rw [nI_add, cl_nI (by omega)]; exact hJ _
    refine ⟨.int (nI 0), .int v, x7, x8, w, J2, K2, Q, ?_, b4⟩
    rw [Law_law_604_3 _ _ _ _ _ _ _ _ _ _ _ _ _ (ix 1 (by omega)) (ix 2 (by omega)) (ix 3 (by omega)), ev 1 (by omega), ev 2 (by omega), ev 3 (by omega), (lh_read t0 (xs (6 * i + 1)) (xs (6 * i + 2)) (xs (6 * i + 3))).1 v hw9 a1]
    simp only [kC_ret, Option.toList, List.cons_append, List.nil_append, fix1_int, fix1_ref, fix1_unk, fix1_null, fix1_long]
    rw [Law_law_627 _ _ _ _ _ _ _ _ _ _ _ _ _ _ (ix 1 (by omega)) (ix 2 (by omega)) (ix 3 (by omega)) w71, evJ 1 (by omega), evJ 2 (by omega), evJ 3 (by omega), b1]
    simp only [kC_ret, Option.toList, List.cons_append, List.nil_append, fix1_int, fix1_ref, fix1_unk, fix1_null, fix1_long]
    rw [Law_law_651 _ _ _ _ _ _ _ _ _ _ _ _ _ _ w71, Model_thrown_E, Model_thrown_0 _ _ _ _ _ w71, b2]
    simp only [kC_ret, Option.toList, List.cons_append, List.nil_append, fix1_int, fix1_ref, fix1_unk, fix1_null, fix1_long]
    rw [Law_law_657, if_pos rfl, Law_law_664, if_neg (fun h => h n00), Law_law_669 _ _ _ _ _ _ _ _ _ _ _ _ _ (inA_nI hw9 (by omega) (by omega)), cl_nI (by omega), b3, updL_s, lg_self, if_pos rfl, Law_law_681]
  · replace a2 : call 170 [.ref (B + 284), .int (xs (6 * i + 1)), .int (xs (6 * i + 2)), .int (xs (6 * i + 3))] (thrT w) I L P = some (.inl (some (.int v)), thrT w, J2, K2, P) := a2
    have ixT : ∀ j, j < 6 → inA (thrT w) b 14 (nI (6 * i) + nI j) := fun j hj => by rw [nI_add]; exact inA_nI (show (thrT w).1 b = some (14, Lw) from hw1) (by omega) (by omega)
    refine ⟨.int (nI ((fun e => if e = 2 then 1 else if e < 2 then e + 2 else 0) e)), .int v, x7, x8, thrT w, J2, K2, P, ?_, a4⟩
    rw [Law_law_604_3 _ _ _ _ _ _ _ _ _ _ _ _ _ (ix 1 (by omega)) (ix 2 (by omega)) (ix 3 (by omega)), ev 1 (by omega), ev 2 (by omega), ev 3 (by omega), (lh_read t0 (xs (6 * i + 1)) (xs (6 * i + 2)) (xs (6 * i + 3))).2 e a1 f1]
    simp only [kC_ret, Option.toList, List.cons_append, List.nil_append, fix1_int, fix1_ref, fix1_unk, fix1_null, fix1_long]
    rw [Law_law_627 _ _ _ _ _ _ _ _ _ _ _ _ _ _ (ixT 1 (by omega)) (ixT 2 (by omega)) (ixT 3 (by omega)) (show (thrT w).1 (B + 284) = some (7, 0) from w71), ev 1 (by omega), ev 2 (by omega), ev 3 (by omega), a2]
    simp only [kC_ret, Option.toList, List.cons_append, List.nil_append, fix1_int, fix1_ref, fix1_unk, fix1_null, fix1_long]
    rw [Law_law_651 _ _ _ _ _ _ _ _ _ _ _ _ _ _ (show (thrT w).1 (B + 284) = some (7, 0) from w71), Model_thrown_E, Model_thrown_0 _ _ _ _ _ (show (thrT w).1 (B + 284) = some (7, 0) from w71), a3]
    simp only [kC_ret, Option.toList, List.cons_append, List.nil_append, fix1_int, fix1_ref, fix1_unk, fix1_null, fix1_long]
    rw [Law_law_657, if_pos rfl, Law_law_664, if_pos (nI_ne0 f1 (by omega)), Law_law_681]
theorem lw_c7 (hl : LI b B Lw xs i w I L P) (hi : 6 * i + 6 ≤ Lw) (hL : Lw ≤ 3072) : LwS b B Lw xs i 684 w I L P := by
  obtain ⟨hb, N, st, Ks, len, tx, hc, hm, hw1, hw9, hI, hk1, hk2⟩ := hl
  intro x5 x6 x7 x8
  have t0 := hc.1.1
  have w71 := hm.1.1
  have ix : ∀ j, j < 6 → inA w b 14 (nI (6 * i) + nI j) := fun j hj => by rw [nI_add]; exact inA_nI hw1 (by omega) (by omega)
  have ev : ∀ j, j < 6 → I b (Int32.toNatClampNeg (nI (6 * i) + nI j)) = xs (6 * i + j) := fun j hj => by rw [nI_add, cl_nI (by omega)]; exact hI _
  rcases lw_sc (T' := 4000 * (i + 1)) hb hw1 hw9 hI hk1 hk2 hc (by omega) hm (Nat.le_refl _) (SC_T (sc_cancel hc (xs (6 * i + 1))) (by omega)) with ⟨v, J, K, Q, a1, hJ, a2⟩ | ⟨e, v, J2, K2, a1, f1, f2, a2, a3, a4⟩
  · obtain ⟨J2, K2, b1, b2, b3, b4⟩ := a2 (updL K (B + 289) 0 (Int32.toInt64 v)) (fun x h => updL_o h)
    replace b1 : call 171 [.ref (B + 284), .int (xs (6 * i + 1))] w J (updL K (B + 289) 0 (Int32.toInt64 v)) Q = some (.inl (some (.int v)), w, J2, K2, Q) := b1
    have evJ : ∀ j, j < 6 → J b (Int32.toNatClampNeg (nI (6 * i) + nI j)) = xs (6 * i + j) := fun j hj => by rw [nI_add, cl_nI (by omega)]; exact hJ _
    refine ⟨.int (nI 0), .int v, x7, x8, w, J2, K2, Q, ?_, b4⟩
    rw [Law_law_684_3 _ _ _ _ _ _ _ _ _ _ _ _ _ (ix 1 (by omega)), ev 1 (by omega), (lh_cancel t0 (xs (6 * i + 1))).1 v hw9 a1]
    simp only [kC_ret, Option.toList, List.cons_append, List.nil_append, fix1_int, fix1_ref, fix1_unk, fix1_null, fix1_long]
    rw [Law_law_695 _ _ _ _ _ _ _ _ _ _ _ _ _ _ (ix 1 (by omega)) w71, evJ 1 (by omega), b1]
    simp only [kC_ret, Option.toList, List.cons_append, List.nil_append, fix1_int, fix1_ref, fix1_unk, fix1_null, fix1_long]
    rw [Law_law_707 _ _ _ _ _ _ _ _ _ _ _ _ _ _ w71, Model_thrown_E, Model_thrown_0 _ _ _ _ _ w71, b2]
    simp only [kC_ret, Option.toList, List.cons_append, List.nil_append, fix1_int, fix1_ref, fix1_unk, fix1_null, fix1_long]
    rw [Law_law_713, if_pos rfl, Law_law_720, if_neg (fun h => h n00), Law_law_725 _ _ _ _ _ _ _ _ _ _ _ _ _ (inA_nI hw9 (by omega) (by omega)), cl_nI (by omega), b3, updL_s, lg_self, if_pos rfl, Law_law_737]
  · replace a2 : call 171 [.ref (B + 284), .int (xs (6 * i + 1))] (thrT w) I L P = some (.inl (some (.int v)), thrT w, J2, K2, P) := a2
    have ixT : ∀ j, j < 6 → inA (thrT w) b 14 (nI (6 * i) + nI j) := fun j hj => by rw [nI_add]; exact inA_nI (show (thrT w).1 b = some (14, Lw) from hw1) (by omega) (by omega)
    refine ⟨.int (nI ((fun e => if e = 1 then 2 else if e = 2 then 1 else 0) e)), .int v, x7, x8, thrT w, J2, K2, P, ?_, a4⟩
    rw [Law_law_684_3 _ _ _ _ _ _ _ _ _ _ _ _ _ (ix 1 (by omega)), ev 1 (by omega), (lh_cancel t0 (xs (6 * i + 1))).2 e a1 f1]
    simp only [kC_ret, Option.toList, List.cons_append, List.nil_append, fix1_int, fix1_ref, fix1_unk, fix1_null, fix1_long]
    rw [Law_law_695 _ _ _ _ _ _ _ _ _ _ _ _ _ _ (ixT 1 (by omega)) (show (thrT w).1 (B + 284) = some (7, 0) from w71), ev 1 (by omega), a2]
    simp only [kC_ret, Option.toList, List.cons_append, List.nil_append, fix1_int, fix1_ref, fix1_unk, fix1_null, fix1_long]
    rw [Law_law_707 _ _ _ _ _ _ _ _ _ _ _ _ _ _ (show (thrT w).1 (B + 284) = some (7, 0) from w71), Model_thrown_E, Model_thrown_0 _ _ _ _ _ (show (thrT w).1 (B + 284) = some (7, 0) from w71), a3]
    simp only [kC_ret, Option.toList, List.cons_append, List.nil_append, fix1_int, fix1_ref, fix1_unk, fix1_null, fix1_long]
    rw [Law_law_713, if_pos rfl, Law_law_720, if_pos (nI_ne0 f1 (by omega)), Law_law_737]
theorem lw_c8 (hl : LI b B Lw xs i w I L P) (hi : 6 * i + 6 ≤ Lw) (hL : Lw ≤ 3072) : LwS b B Lw xs i 740 w I L P := by
  obtain ⟨hb, N, st, Ks, len, tx, hc, hm, hw1, hw9, hI, hk1, hk2⟩ := hl
  intro x5 x6 x7 x8
  have t0 := hc.1.1
  have w71 := hm.1.1
  have ix : ∀ j, j < 6 → inA w b 14 (nI (6 * i) + nI j) := fun j hj => by rw [nI_add]; exact inA_nI hw1 (by omega) (by omega)
  have ev : ∀ j, j < 6 → I b (Int32.toNatClampNeg (nI (6 * i) + nI j)) = xs (6 * i + j) := fun j hj => by rw [nI_add, cl_nI (by omega)]; exact hI _
  rcases lw_sc (T' := 4000 * (i + 1)) hb hw1 hw9 hI hk1 hk2 hc (by omega) hm (Nat.le_refl _) (SC_T (sc_pass hc (by omega) (xs (6 * i + 1))) (by omega)) with ⟨v, J, K, Q, a1, hJ, a2⟩ | ⟨e, v, J2, K2, a1, f1, f2, a2, a3, a4⟩
  · obtain ⟨J2, K2, b1, b2, b3, b4⟩ := a2 (updL K (B + 289) 0 (Int32.toInt64 v)) (fun x h => updL_o h)
    replace b1 : call 172 [.ref (B + 284), .int (xs (6 * i + 1))] w J (updL K (B + 289) 0 (Int32.toInt64 v)) Q = some (.inl (some (.int v)), w, J2, K2, Q) := b1
    have evJ : ∀ j, j < 6 → J b (Int32.toNatClampNeg (nI (6 * i) + nI j)) = xs (6 * i + j) := fun j hj => by rw [nI_add, cl_nI (by omega)]; exact hJ _
    refine ⟨.int (nI 0), .int v, x7, x8, w, J2, K2, Q, ?_, b4⟩
    rw [Law_law_740_3 _ _ _ _ _ _ _ _ _ _ _ _ _ (ix 1 (by omega)), ev 1 (by omega), (lh_pass t0 (xs (6 * i + 1))).1 v hw9 a1]
    simp only [kC_ret, Option.toList, List.cons_append, List.nil_append, fix1_int, fix1_ref, fix1_unk, fix1_null, fix1_long]
    rw [Law_law_751 _ _ _ _ _ _ _ _ _ _ _ _ _ _ (ix 1 (by omega)) w71, evJ 1 (by omega), b1]
    simp only [kC_ret, Option.toList, List.cons_append, List.nil_append, fix1_int, fix1_ref, fix1_unk, fix1_null, fix1_long]
    rw [Law_law_763 _ _ _ _ _ _ _ _ _ _ _ _ _ _ w71, Model_thrown_E, Model_thrown_0 _ _ _ _ _ w71, b2]
    simp only [kC_ret, Option.toList, List.cons_append, List.nil_append, fix1_int, fix1_ref, fix1_unk, fix1_null, fix1_long]
    rw [Law_law_769, if_pos rfl, Law_law_776, if_neg (fun h => h n00), Law_law_781 _ _ _ _ _ _ _ _ _ _ _ _ _ (inA_nI hw9 (by omega) (by omega)), cl_nI (by omega), b3, updL_s, lg_self, if_pos rfl, Law_law_793]
  · replace a2 : call 172 [.ref (B + 284), .int (xs (6 * i + 1))] (thrT w) I L P = some (.inl (some (.int v)), thrT w, J2, K2, P) := a2
    have ixT : ∀ j, j < 6 → inA (thrT w) b 14 (nI (6 * i) + nI j) := fun j hj => by rw [nI_add]; exact inA_nI (show (thrT w).1 b = some (14, Lw) from hw1) (by omega) (by omega)
    refine ⟨.int (nI ((fun e => if e = 0 then 1 else 0) e)), .int v, x7, x8, thrT w, J2, K2, P, ?_, a4⟩
    rw [Law_law_740_3 _ _ _ _ _ _ _ _ _ _ _ _ _ (ix 1 (by omega)), ev 1 (by omega), (lh_pass t0 (xs (6 * i + 1))).2 e a1 f1]
    simp only [kC_ret, Option.toList, List.cons_append, List.nil_append, fix1_int, fix1_ref, fix1_unk, fix1_null, fix1_long]
    rw [Law_law_751 _ _ _ _ _ _ _ _ _ _ _ _ _ _ (ixT 1 (by omega)) (show (thrT w).1 (B + 284) = some (7, 0) from w71), ev 1 (by omega), a2]
    simp only [kC_ret, Option.toList, List.cons_append, List.nil_append, fix1_int, fix1_ref, fix1_unk, fix1_null, fix1_long]
    rw [Law_law_763 _ _ _ _ _ _ _ _ _ _ _ _ _ _ (show (thrT w).1 (B + 284) = some (7, 0) from w71), Model_thrown_E, Model_thrown_0 _ _ _ _ _ (show (thrT w).1 (B + 284) = some (7, 0) from w71), a3]
    simp only [kC_ret, Option.toList, List.cons_append, List.nil_append, fix1_int, fix1_ref, fix1_unk, fix1_null, fix1_long]
    rw [Law_law_769, if_pos rfl, Law_law_776, if_pos (nI_ne0 f1 (by omega)), Law_law_793]
theorem lw_c10 (hl : LI b B Lw xs i w I L P) (hi : 6 * i + 6 ≤ Lw) (hL : Lw ≤ 3072) : LwS b B Lw xs i 809 w I L P := by
  obtain ⟨hb, N, st, Ks, len, tx, hc, hm, hw1, hw9, hI, hk1, hk2⟩ := hl
  intro x5 x6 x7 x8
  have t0 := hc.1.1
  have w71 := hm.1.1
  have ix : ∀ j, j < 6 → inA w b 14 (nI (6 * i) + nI j) := fun j hj => by rw [nI_add]; exact inA_nI hw1 (by omega) (by omega)
  have ev : ∀ j, j < 6 → I b (Int32.toNatClampNeg (nI (6 * i) + nI j)) = xs (6 * i + j) := fun j hj => by rw [nI_add, cl_nI (by omega)]; exact hI _
  rcases lw_sc (T' := 4000 * (i + 1)) hb hw1 hw9 hI hk1 hk2 hc (by omega) hm (Nat.le_refl _) (SC_T (sc_caller hc (xs (6 * i + 1)) (xs (6 * i + 2))) (by omega)) with ⟨v, J, K, Q, a1, hJ, a2⟩ | ⟨e, v, J2, K2, a1, f1, f2, a2, a3, a4⟩
  · obtain ⟨J2, K2, b1, b2, b3, b4⟩ := a2 (updL K (B + 289) 0 (Int32.toInt64 v)) (fun x h => updL_o h)
    replace b1 : call 175 [.ref (B + 284), .int (xs (6 * i + 1)), .int (xs (6 * i + 2))] w J (updL K (B + 289) 0 (Int32.toInt64 v)) Q = some (.inl (some (.int v)), w, J2, K2, Q) := b1
    have evJ : ∀ j, j < 6 → J b (Int32.toNatClampNeg (nI (6 * i) + nI j)) = xs (6 * i + j) := fun j hj => by rw [nI_add, cl_nI (by omega)]; exact hJ _
    refine ⟨.int (nI 0), .int v, x7, x8, w, J2, K2, Q, ?_, b4⟩
    rw [Law_law_809_3 _ _ _ _ _ _ _ _ _ _ _ _ _ (ix 1 (by omega)) (ix 2 (by omega)), ev 1 (by omega), ev 2 (by omega), (lh_caller t0 (xs (6 * i + 1)) (xs (6 * i + 2))).1 v hw9 a1]
    simp only [kC_ret, Option.toList, List.cons_append, List.nil_append, fix1_int, fix1_ref, fix1_unk, fix1_null, fix1_long]
    rw [Law_law_826 _ _ _ _ _ _ _ _ _ _ _ _ _ _ (ix 1 (by omega)) (ix 2 (by omega)) w71, evJ 1 (by omega), evJ 2 (by omega), b1]
    simp only [kC_ret, Option.toList, List.cons_append, List.nil_append, fix1_int, fix1_ref, fix1_unk, fix1_null, fix1_long]
    rw [Law_law_844 _ _ _ _ _ _ _ _ _ _ _ _ _ _ w71, Model_thrown_E, Model_thrown_0 _ _ _ _ _ w71, b2]
    simp only [kC_ret, Option.toList, List.cons_append, List.nil_append, fix1_int, fix1_ref, fix1_unk, fix1_null, fix1_long]
    rw [Law_law_850, if_pos rfl, Law_law_857, if_neg (fun h => h n00), Law_law_862 _ _ _ _ _ _ _ _ _ _ _ _ _ (inA_nI hw9 (by omega) (by omega)), cl_nI (by omega), b3, updL_s, lg_self, if_pos rfl, Law_law_874]
  · replace a2 : call 175 [.ref (B + 284), .int (xs (6 * i + 1)), .int (xs (6 * i + 2))] (thrT w) I L P = some (.inl (some (.int v)), thrT w, J2, K2, P) := a2
    have ixT : ∀ j, j < 6 → inA (thrT w) b 14 (nI (6 * i) + nI j) := fun j hj => by rw [nI_add]; exact inA_nI (show (thrT w).1 b = some (14, Lw) from hw1) (by omega) (by omega)
    refine ⟨.int (nI ((fun e => if e = 2 then 1 else if e = 0 then 2 else 0) e)), .int v, x7, x8, thrT w, J2, K2, P, ?_, a4⟩
    rw [Law_law_809_3 _ _ _ _ _ _ _ _ _ _ _ _ _ (ix 1 (by omega)) (ix 2 (by omega)), ev 1 (by omega), ev 2 (by omega), (lh_caller t0 (xs (6 * i + 1)) (xs (6 * i + 2))).2 e a1 f1]
    simp only [kC_ret, Option.toList, List.cons_append, List.nil_append, fix1_int, fix1_ref, fix1_unk, fix1_null, fix1_long]
    rw [Law_law_826 _ _ _ _ _ _ _ _ _ _ _ _ _ _ (ixT 1 (by omega)) (ixT 2 (by omega)) (show (thrT w).1 (B + 284) = some (7, 0) from w71), ev 1 (by omega), ev 2 (by omega), a2]
    simp only [kC_ret, Option.toList, List.cons_append, List.nil_append, fix1_int, fix1_ref, fix1_unk, fix1_null, fix1_long]
    rw [Law_law_844 _ _ _ _ _ _ _ _ _ _ _ _ _ _ (show (thrT w).1 (B + 284) = some (7, 0) from w71), Model_thrown_E, Model_thrown_0 _ _ _ _ _ (show (thrT w).1 (B + 284) = some (7, 0) from w71), a3]
    simp only [kC_ret, Option.toList, List.cons_append, List.nil_append, fix1_int, fix1_ref, fix1_unk, fix1_null, fix1_long]
    rw [Law_law_850, if_pos rfl, Law_law_857, if_pos (nI_ne0 f1 (by omega)), Law_law_874]
theorem lw_c11 (hl : LI b B Lw xs i w I L P) (hi : 6 * i + 6 ≤ Lw) (hL : Lw ≤ 3072) : LwS b B Lw xs i 877 w I L P := by
  obtain ⟨hb, N, st, Ks, len, tx, hc, hm, hw1, hw9, hI, hk1, hk2⟩ := hl
  intro x5 x6 x7 x8
  have t0 := hc.1.1
  have w71 := hm.1.1
  have ix : ∀ j, j < 6 → inA w b 14 (nI (6 * i) + nI j) := fun j hj => by rw [nI_add]; exact inA_nI hw1 (by omega) (by omega)
  have ev : ∀ j, j < 6 → I b (Int32.toNatClampNeg (nI (6 * i) + nI j)) = xs (6 * i + j) := fun j hj => by rw [nI_add, cl_nI (by omega)]; exact hI _
  rcases lw_sc (T' := 4000 * (i + 1)) hb hw1 hw9 hI hk1 hk2 hc (by omega) hm (Nat.le_refl _) (SC_T (sc_message hc (xs (6 * i + 1)) (xs (6 * i + 2)) (xs (6 * i + 3))) (by omega)) with ⟨v, J, K, Q, a1, hJ, a2⟩ | ⟨e, v, J2, K2, a1, f1, f2, a2, a3, a4⟩
  · obtain ⟨J2, K2, b1, b2, b3, b4⟩ := a2 (updL K (B + 289) 0 (Int32.toInt64 v)) (fun x h => updL_o h)
    replace b1 : call 176 [.ref (B + 284), .int (xs (6 * i + 1)), .int (xs (6 * i + 2)), .int (xs (6 * i + 3))] w J (updL K (B + 289) 0 (Int32.toInt64 v)) Q = some (.inl (some (.int v)), w, J2, K2, Q) := b1
    have evJ : ∀ j, j < 6 → J b (Int32.toNatClampNeg (nI (6 * i) + nI j)) = xs (6 * i + j) := fun j hj => by rw [nI_add, cl_nI (by omega)]; exact hJ _
    refine ⟨.int (nI 0), .int v, x7, x8, w, J2, K2, Q, ?_, b4⟩
    rw [Law_law_877_3 _ _ _ _ _ _ _ _ _ _ _ _ _ (ix 1 (by omega)) (ix 2 (by omega)) (ix 3 (by omega)), ev 1 (by omega), ev 2 (by omega), ev 3 (by omega), (lh_message t0 (xs (6 * i + 1)) (xs (6 * i + 2)) (xs (6 * i + 3))).1 v hw9 a1]
    simp only [kC_ret, Option.toList, List.cons_append, List.nil_append, fix1_int, fix1_ref, fix1_unk, fix1_null, fix1_long]
    rw [Law_law_900 _ _ _ _ _ _ _ _ _ _ _ _ _ _ (ix 1 (by omega)) (ix 2 (by omega)) (ix 3 (by omega)) w71, evJ 1 (by omega), evJ 2 (by omega), evJ 3 (by omega), b1]
    simp only [kC_ret, Option.toList, List.cons_append, List.nil_append, fix1_int, fix1_ref, fix1_unk, fix1_null, fix1_long]
    rw [Law_law_924 _ _ _ _ _ _ _ _ _ _ _ _ _ _ w71, Model_thrown_E, Model_thrown_0 _ _ _ _ _ w71, b2]
    simp only [kC_ret, Option.toList, List.cons_append, List.nil_append, fix1_int, fix1_ref, fix1_unk, fix1_null, fix1_long]
    rw [Law_law_930, if_pos rfl, Law_law_937, if_neg (fun h => h n00), Law_law_942 _ _ _ _ _ _ _ _ _ _ _ _ _ (inA_nI hw9 (by omega) (by omega)), cl_nI (by omega), b3, updL_s, lg_self, if_pos rfl, Law_law_954]
  · replace a2 : call 176 [.ref (B + 284), .int (xs (6 * i + 1)), .int (xs (6 * i + 2)), .int (xs (6 * i + 3))] (thrT w) I L P = some (.inl (some (.int v)), thrT w, J2, K2, P) := a2
    have ixT : ∀ j, j < 6 → inA (thrT w) b 14 (nI (6 * i) + nI j) := fun j hj => by rw [nI_add]; exact inA_nI (show (thrT w).1 b = some (14, Lw) from hw1) (by omega) (by omega)
    refine ⟨.int (nI ((fun e => if e = 2 then 1 else if e = 0 then 2 else 0) e)), .int v, x7, x8, thrT w, J2, K2, P, ?_, a4⟩
    rw [Law_law_877_3 _ _ _ _ _ _ _ _ _ _ _ _ _ (ix 1 (by omega)) (ix 2 (by omega)) (ix 3 (by omega)), ev 1 (by omega), ev 2 (by omega), ev 3 (by omega), (lh_message t0 (xs (6 * i + 1)) (xs (6 * i + 2)) (xs (6 * i + 3))).2 e a1 f1]
    simp only [kC_ret, Option.toList, List.cons_append, List.nil_append, fix1_int, fix1_ref, fix1_unk, fix1_null, fix1_long]
    rw [Law_law_900 _ _ _ _ _ _ _ _ _ _ _ _ _ _ (ixT 1 (by omega)) (ixT 2 (by omega)) (ixT 3 (by omega)) (show (thrT w).1 (B + 284) = some (7, 0) from w71), ev 1 (by omega), ev 2 (by omega), ev 3 (by omega), a2]
    simp only [kC_ret, Option.toList, List.cons_append, List.nil_append, fix1_int, fix1_ref, fix1_unk, fix1_null, fix1_long]
    rw [Law_law_924 _ _ _ _ _ _ _ _ _ _ _ _ _ _ (show (thrT w).1 (B + 284) = some (7, 0) from w71), Model_thrown_E, Model_thrown_0 _ _ _ _ _ (show (thrT w).1 (B + 284) = some (7, 0) from w71), a3]
    simp only [kC_ret, Option.toList, List.cons_append, List.nil_append, fix1_int, fix1_ref, fix1_unk, fix1_null, fix1_long]
    rw [Law_law_930, if_pos rfl, Law_law_937, if_pos (nI_ne0 f1 (by omega)), Law_law_954]
theorem lw_c12 (hl : LI b B Lw xs i w I L P) (hi : 6 * i + 6 ≤ Lw) (hL : Lw ≤ 3072) : LwS b B Lw xs i 957 w I L P := by
  obtain ⟨hb, N, st, Ks, len, tx, hc, hm, hw1, hw9, hI, hk1, hk2⟩ := hl
  intro x5 x6 x7 x8
  have t0 := hc.1.1
  have w71 := hm.1.1
  have ix : ∀ j, j < 6 → inA w b 14 (nI (6 * i) + nI j) := fun j hj => by rw [nI_add]; exact inA_nI hw1 (by omega) (by omega)
  have ev : ∀ j, j < 6 → I b (Int32.toNatClampNeg (nI (6 * i) + nI j)) = xs (6 * i + j) := fun j hj => by rw [nI_add, cl_nI (by omega)]; exact hI _
  rcases lw_sc (T' := 4000 * (i + 1)) hb hw1 hw9 hI hk1 hk2 hc (by omega) hm (Nat.le_refl _) (SC_T (sc_listener hc (xs (6 * i + 1)) (xs (6 * i + 2))) (by omega)) with ⟨v, J, K, Q, a1, hJ, a2⟩ | ⟨e, v, J2, K2, a1, f1, f2, a2, a3, a4⟩
  · obtain ⟨J2, K2, b1, b2, b3, b4⟩ := a2 (updL K (B + 289) 0 (Int32.toInt64 v)) (fun x h => updL_o h)
    replace b1 : call 177 [.ref (B + 284), .int (xs (6 * i + 1)), .int (xs (6 * i + 2))] w J (updL K (B + 289) 0 (Int32.toInt64 v)) Q = some (.inl (some (.int v)), w, J2, K2, Q) := b1
    have evJ : ∀ j, j < 6 → J b (Int32.toNatClampNeg (nI (6 * i) + nI j)) = xs (6 * i + j) := fun j hj => by rw [nI_add, cl_nI (by omega)]; exact hJ _
    refine ⟨.int (nI 0), .int v, x7, x8, w, J2, K2, Q, ?_, b4⟩
    rw [Law_law_957_3 _ _ _ _ _ _ _ _ _ _ _ _ _ (ix 1 (by omega)) (ix 2 (by omega)), ev 1 (by omega), ev 2 (by omega), (lh_listener t0 (xs (6 * i + 1)) (xs (6 * i + 2))).1 v hw9 a1]
    simp only [kC_ret, Option.toList, List.cons_append, List.nil_append, fix1_int, fix1_ref, fix1_unk, fix1_null, fix1_long]
    rw [Law_law_974 _ _ _ _ _ _ _ _ _ _ _ _ _ _ (ix 1 (by omega)) (ix 2 (by omega)) w71, evJ 1 (by omega), evJ 2 (by omega), b1]
    simp only [kC_ret, Option.toList, List.cons_append, List.nil_append, fix1_int, fix1_ref, fix1_unk, fix1_null, fix1_long]
    rw [Law_law_992 _ _ _ _ _ _ _ _ _ _ _ _ _ _ w71, Model_thrown_E, Model_thrown_0 _ _ _ _ _ w71, b2]
    simp only [kC_ret, Option.toList, List.cons_append, List.nil_append, fix1_int, fix1_ref, fix1_unk, fix1_null, fix1_long]
    rw [Law_law_998, if_pos rfl, Law_law_1005, if_neg (fun h => h n00), Law_law_1010 _ _ _ _ _ _ _ _ _ _ _ _ _ (inA_nI hw9 (by omega) (by omega)), cl_nI (by omega), b3, updL_s, lg_self, if_pos rfl, Law_law_1022]
  · replace a2 : call 177 [.ref (B + 284), .int (xs (6 * i + 1)), .int (xs (6 * i + 2))] (thrT w) I L P = some (.inl (some (.int v)), thrT w, J2, K2, P) := a2
    have ixT : ∀ j, j < 6 → inA (thrT w) b 14 (nI (6 * i) + nI j) := fun j hj => by rw [nI_add]; exact inA_nI (show (thrT w).1 b = some (14, Lw) from hw1) (by omega) (by omega)
    refine ⟨.int (nI ((fun e => if e = 2 then 1 else if e = 0 then 2 else 0) e)), .int v, x7, x8, thrT w, J2, K2, P, ?_, a4⟩
    rw [Law_law_957_3 _ _ _ _ _ _ _ _ _ _ _ _ _ (ix 1 (by omega)) (ix 2 (by omega)), ev 1 (by omega), ev 2 (by omega), (lh_listener t0 (xs (6 * i + 1)) (xs (6 * i + 2))).2 e a1 f1]
    simp only [kC_ret, Option.toList, List.cons_append, List.nil_append, fix1_int, fix1_ref, fix1_unk, fix1_null, fix1_long]
    rw [Law_law_974 _ _ _ _ _ _ _ _ _ _ _ _ _ _ (ixT 1 (by omega)) (ixT 2 (by omega)) (show (thrT w).1 (B + 284) = some (7, 0) from w71), ev 1 (by omega), ev 2 (by omega), a2]
    simp only [kC_ret, Option.toList, List.cons_append, List.nil_append, fix1_int, fix1_ref, fix1_unk, fix1_null, fix1_long]
    rw [Law_law_992 _ _ _ _ _ _ _ _ _ _ _ _ _ _ (show (thrT w).1 (B + 284) = some (7, 0) from w71), Model_thrown_E, Model_thrown_0 _ _ _ _ _ (show (thrT w).1 (B + 284) = some (7, 0) from w71), a3]
    simp only [kC_ret, Option.toList, List.cons_append, List.nil_append, fix1_int, fix1_ref, fix1_unk, fix1_null, fix1_long]
    rw [Law_law_998, if_pos rfl, Law_law_1005, if_pos (nI_ne0 f1 (by omega)), Law_law_1022]
theorem lw_c13 (hl : LI b B Lw xs i w I L P) (hi : 6 * i + 6 ≤ Lw) (hL : Lw ≤ 3072) : LwS b B Lw xs i 1025 w I L P := by
  obtain ⟨hb, N, st, Ks, len, tx, hc, hm, hw1, hw9, hI, hk1, hk2⟩ := hl
  intro x5 x6 x7 x8
  have t0 := hc.1.1
  have w71 := hm.1.1
  have ix : ∀ j, j < 6 → inA w b 14 (nI (6 * i) + nI j) := fun j hj => by rw [nI_add]; exact inA_nI hw1 (by omega) (by omega)
  have ev : ∀ j, j < 6 → I b (Int32.toNatClampNeg (nI (6 * i) + nI j)) = xs (6 * i + j) := fun j hj => by rw [nI_add, cl_nI (by omega)]; exact hI _
  rcases lw_sc (T' := 4000 * (i + 1)) hb hw1 hw9 hI hk1 hk2 hc (by omega) hm (Nat.le_refl _) (SC_T (sc_memory hc (xs (6 * i + 1)) (xs (6 * i + 2))) (by omega)) with ⟨v, J, K, Q, a1, hJ, a2⟩ | ⟨e, v, J2, K2, a1, f1, f2, a2, a3, a4⟩
  · obtain ⟨J2, K2, b1, b2, b3, b4⟩ := a2 (updL K (B + 289) 0 (Int32.toInt64 v)) (fun x h => updL_o h)
    replace b1 : call 178 [.ref (B + 284), .int (xs (6 * i + 1)), .int (xs (6 * i + 2))] w J (updL K (B + 289) 0 (Int32.toInt64 v)) Q = some (.inl (some (.int v)), w, J2, K2, Q) := b1
    have evJ : ∀ j, j < 6 → J b (Int32.toNatClampNeg (nI (6 * i) + nI j)) = xs (6 * i + j) := fun j hj => by rw [nI_add, cl_nI (by omega)]; exact hJ _
    refine ⟨.int (nI 0), .int v, x7, x8, w, J2, K2, Q, ?_, b4⟩
    rw [Law_law_1025_3 _ _ _ _ _ _ _ _ _ _ _ _ _ (ix 1 (by omega)) (ix 2 (by omega)), ev 1 (by omega), ev 2 (by omega), (lh_memory t0 (xs (6 * i + 1)) (xs (6 * i + 2))).1 v hw9 a1]
    simp only [kC_ret, Option.toList, List.cons_append, List.nil_append, fix1_int, fix1_ref, fix1_unk, fix1_null, fix1_long]
    rw [Law_law_1042 _ _ _ _ _ _ _ _ _ _ _ _ _ _ (ix 1 (by omega)) (ix 2 (by omega)) w71, evJ 1 (by omega), evJ 2 (by omega), b1]
    simp only [kC_ret, Option.toList, List.cons_append, List.nil_append, fix1_int, fix1_ref, fix1_unk, fix1_null, fix1_long]
    rw [Law_law_1060 _ _ _ _ _ _ _ _ _ _ _ _ _ _ w71, Model_thrown_E, Model_thrown_0 _ _ _ _ _ w71, b2]
    simp only [kC_ret, Option.toList, List.cons_append, List.nil_append, fix1_int, fix1_ref, fix1_unk, fix1_null, fix1_long]
    rw [Law_law_1066, if_pos rfl, Law_law_1073, if_neg (fun h => h n00), Law_law_1078 _ _ _ _ _ _ _ _ _ _ _ _ _ (inA_nI hw9 (by omega) (by omega)), cl_nI (by omega), b3, updL_s, lg_self, if_pos rfl, Law_law_1090]
  · replace a2 : call 178 [.ref (B + 284), .int (xs (6 * i + 1)), .int (xs (6 * i + 2))] (thrT w) I L P = some (.inl (some (.int v)), thrT w, J2, K2, P) := a2
    have ixT : ∀ j, j < 6 → inA (thrT w) b 14 (nI (6 * i) + nI j) := fun j hj => by rw [nI_add]; exact inA_nI (show (thrT w).1 b = some (14, Lw) from hw1) (by omega) (by omega)
    refine ⟨.int (nI ((fun e => if e = 2 then 1 else 0) e)), .int v, x7, x8, thrT w, J2, K2, P, ?_, a4⟩
    rw [Law_law_1025_3 _ _ _ _ _ _ _ _ _ _ _ _ _ (ix 1 (by omega)) (ix 2 (by omega)), ev 1 (by omega), ev 2 (by omega), (lh_memory t0 (xs (6 * i + 1)) (xs (6 * i + 2))).2 e a1 f1]
    simp only [kC_ret, Option.toList, List.cons_append, List.nil_append, fix1_int, fix1_ref, fix1_unk, fix1_null, fix1_long]
    rw [Law_law_1042 _ _ _ _ _ _ _ _ _ _ _ _ _ _ (ixT 1 (by omega)) (ixT 2 (by omega)) (show (thrT w).1 (B + 284) = some (7, 0) from w71), ev 1 (by omega), ev 2 (by omega), a2]
    simp only [kC_ret, Option.toList, List.cons_append, List.nil_append, fix1_int, fix1_ref, fix1_unk, fix1_null, fix1_long]
    rw [Law_law_1060 _ _ _ _ _ _ _ _ _ _ _ _ _ _ (show (thrT w).1 (B + 284) = some (7, 0) from w71), Model_thrown_E, Model_thrown_0 _ _ _ _ _ (show (thrT w).1 (B + 284) = some (7, 0) from w71), a3]
    simp only [kC_ret, Option.toList, List.cons_append, List.nil_append, fix1_int, fix1_ref, fix1_unk, fix1_null, fix1_long]
    rw [Law_law_1066, if_pos rfl, Law_law_1073, if_pos (nI_ne0 f1 (by omega)), Law_law_1090]
theorem lw_c14 (hl : LI b B Lw xs i w I L P) (hi : 6 * i + 6 ≤ Lw) (hL : Lw ≤ 3072) : LwS b B Lw xs i 1093 w I L P := by
  obtain ⟨hb, N, st, Ks, len, tx, hc, hm, hw1, hw9, hI, hk1, hk2⟩ := hl
  intro x5 x6 x7 x8
  have t0 := hc.1.1
  have w71 := hm.1.1
  have ix : ∀ j, j < 6 → inA w b 14 (nI (6 * i) + nI j) := fun j hj => by rw [nI_add]; exact inA_nI hw1 (by omega) (by omega)
  have ev : ∀ j, j < 6 → I b (Int32.toNatClampNeg (nI (6 * i) + nI j)) = xs (6 * i + j) := fun j hj => by rw [nI_add, cl_nI (by omega)]; exact hI _
  rcases lw_sc (T' := 4000 * (i + 1)) hb hw1 hw9 hI hk1 hk2 hc (by omega) hm (Nat.le_refl _) (SC_T (sc_value hc (by omega) (xs (6 * i + 1))) (by omega)) with ⟨v, J, K, Q, a1, hJ, a2⟩ | ⟨e, v, J2, K2, a1, f1, f2, a2, a3, a4⟩
  · obtain ⟨J2, K2, b1, b2, b3, b4⟩ := a2 (updL K (B + 289) 0 (Int32.toInt64 v)) (fun x h => updL_o h)
    replace b1 : call 180 [.ref (B + 284), .int (xs (6 * i + 1))] w J (updL K (B + 289) 0 (Int32.toInt64 v)) Q = some (.inl (some (.int v)), w, J2, K2, Q) := b1
    have evJ : ∀ j, j < 6 → J b (Int32.toNatClampNeg (nI (6 * i) + nI j)) = xs (6 * i + j) := fun j hj => by rw [nI_add, cl_nI (by omega)]; exact hJ _
    refine ⟨.int (nI 0), .int v, x7, x8, w, J2, K2, Q, ?_, b4⟩
    rw [Law_law_1093_3 _ _ _ _ _ _ _ _ _ _ _ _ _ (ix 1 (by omega)), ev 1 (by omega), (lh_value t0 (xs (6 * i + 1))).1 v hw9 a1]
    simp only [kC_ret, Option.toList, List.cons_append, List.nil_append, fix1_int, fix1_ref, fix1_unk, fix1_null, fix1_long]
    rw [Law_law_1104 _ _ _ _ _ _ _ _ _ _ _ _ _ _ (ix 1 (by omega)) w71, evJ 1 (by omega), b1]
    simp only [kC_ret, Option.toList, List.cons_append, List.nil_append, fix1_int, fix1_ref, fix1_unk, fix1_null, fix1_long]
    rw [Law_law_1116 _ _ _ _ _ _ _ _ _ _ _ _ _ _ w71, Model_thrown_E, Model_thrown_0 _ _ _ _ _ w71, b2]
    simp only [kC_ret, Option.toList, List.cons_append, List.nil_append, fix1_int, fix1_ref, fix1_unk, fix1_null, fix1_long]
    rw [Law_law_1122, if_pos rfl, Law_law_1129, if_neg (fun h => h n00), Law_law_1134 _ _ _ _ _ _ _ _ _ _ _ _ _ (inA_nI hw9 (by omega) (by omega)), cl_nI (by omega), b3, updL_s, lg_self, if_pos rfl, Law_law_1146]
  · replace a2 : call 180 [.ref (B + 284), .int (xs (6 * i + 1))] (thrT w) I L P = some (.inl (some (.int v)), thrT w, J2, K2, P) := a2
    have ixT : ∀ j, j < 6 → inA (thrT w) b 14 (nI (6 * i) + nI j) := fun j hj => by rw [nI_add]; exact inA_nI (show (thrT w).1 b = some (14, Lw) from hw1) (by omega) (by omega)
    refine ⟨.int (nI ((fun e => if e = 0 then 1 else 0) e)), .int v, x7, x8, thrT w, J2, K2, P, ?_, a4⟩
    rw [Law_law_1093_3 _ _ _ _ _ _ _ _ _ _ _ _ _ (ix 1 (by omega)), ev 1 (by omega), (lh_value t0 (xs (6 * i + 1))).2 e a1 f1]
    simp only [kC_ret, Option.toList, List.cons_append, List.nil_append, fix1_int, fix1_ref, fix1_unk, fix1_null, fix1_long]
    rw [Law_law_1104 _ _ _ _ _ _ _ _ _ _ _ _ _ _ (ixT 1 (by omega)) (show (thrT w).1 (B + 284) = some (7, 0) from w71), ev 1 (by omega), a2]
    simp only [kC_ret, Option.toList, List.cons_append, List.nil_append, fix1_int, fix1_ref, fix1_unk, fix1_null, fix1_long]
    rw [Law_law_1116 _ _ _ _ _ _ _ _ _ _ _ _ _ _ (show (thrT w).1 (B + 284) = some (7, 0) from w71), Model_thrown_E, Model_thrown_0 _ _ _ _ _ (show (thrT w).1 (B + 284) = some (7, 0) from w71), a3]
    simp only [kC_ret, Option.toList, List.cons_append, List.nil_append, fix1_int, fix1_ref, fix1_unk, fix1_null, fix1_long]
    rw [Law_law_1122, if_pos rfl, Law_law_1129, if_pos (nI_ne0 f1 (by omega)), Law_law_1146]
theorem lw_c15 (hl : LI b B Lw xs i w I L P) (hi : 6 * i + 6 ≤ Lw) (hL : Lw ≤ 3072) : LwS b B Lw xs i 1149 w I L P := by
  obtain ⟨hb, N, st, Ks, len, tx, hc, hm, hw1, hw9, hI, hk1, hk2⟩ := hl
  intro x5 x6 x7 x8
  have t0 := hc.1.1
  have w71 := hm.1.1
  have ix : ∀ j, j < 6 → inA w b 14 (nI (6 * i) + nI j) := fun j hj => by rw [nI_add]; exact inA_nI hw1 (by omega) (by omega)
  have ev : ∀ j, j < 6 → I b (Int32.toNatClampNeg (nI (6 * i) + nI j)) = xs (6 * i + j) := fun j hj => by rw [nI_add, cl_nI (by omega)]; exact hI _
  rcases lw_sc (T' := 4000 * (i + 1)) hb hw1 hw9 hI hk1 hk2 hc (by omega) hm (Nat.le_refl _) (SC_T (sc_log hc (by omega) (xs (6 * i + 1)) (xs (6 * i + 2))) (by omega)) with ⟨v, J, K, Q, a1, hJ, a2⟩ | ⟨e, v, J2, K2, a1, f1, f2, a2, a3, a4⟩
  · obtain ⟨J2, K2, b1, b2, b3, b4⟩ := a2 (updL K (B + 289) 0 (Int32.toInt64 v)) (fun x h => updL_o h)
    replace b1 : call 183 [.ref (B + 284), .int (xs (6 * i + 1)), .int (xs (6 * i + 2))] w J (updL K (B + 289) 0 (Int32.toInt64 v)) Q = some (.inl (some (.int v)), w, J2, K2, Q) := b1
    have evJ : ∀ j, j < 6 → J b (Int32.toNatClampNeg (nI (6 * i) + nI j)) = xs (6 * i + j) := fun j hj => by rw [nI_add, cl_nI (by omega)]; exact hJ _
    refine ⟨.int (nI 0), .int v, x7, x8, w, J2, K2, Q, ?_, b4⟩
    rw [Law_law_1149_3 _ _ _ _ _ _ _ _ _ _ _ _ _ (ix 1 (by omega)) (ix 2 (by omega)), ev 1 (by omega), ev 2 (by omega), (lh_log t0 (xs (6 * i + 1)) (xs (6 * i + 2))).1 v hw9 a1]
    simp only [kC_ret, Option.toList, List.cons_append, List.nil_append, fix1_int, fix1_ref, fix1_unk, fix1_null, fix1_long]
    rw [Law_law_1166 _ _ _ _ _ _ _ _ _ _ _ _ _ _ (ix 1 (by omega)) (ix 2 (by omega)) w71, evJ 1 (by omega), evJ 2 (by omega), b1]
    simp only [kC_ret, Option.toList, List.cons_append, List.nil_append, fix1_int, fix1_ref, fix1_unk, fix1_null, fix1_long]
    rw [Law_law_1184 _ _ _ _ _ _ _ _ _ _ _ _ _ _ w71, Model_thrown_E, Model_thrown_0 _ _ _ _ _ w71, b2]
    simp only [kC_ret, Option.toList, List.cons_append, List.nil_append, fix1_int, fix1_ref, fix1_unk, fix1_null, fix1_long]
    rw [Law_law_1190, if_pos rfl, Law_law_1197, if_neg (fun h => h n00), Law_law_1202 _ _ _ _ _ _ _ _ _ _ _ _ _ (inA_nI hw9 (by omega) (by omega)), cl_nI (by omega), b3, updL_s, lg_self, if_pos rfl, Law_law_1214]
  · replace a2 : call 183 [.ref (B + 284), .int (xs (6 * i + 1)), .int (xs (6 * i + 2))] (thrT w) I L P = some (.inl (some (.int v)), thrT w, J2, K2, P) := a2
    have ixT : ∀ j, j < 6 → inA (thrT w) b 14 (nI (6 * i) + nI j) := fun j hj => by rw [nI_add]; exact inA_nI (show (thrT w).1 b = some (14, Lw) from hw1) (by omega) (by omega)
    refine ⟨.int (nI ((fun e => if e = 2 then 1 else if e = 0 then 2 else 0) e)), .int v, x7, x8, thrT w, J2, K2, P, ?_, a4⟩
    rw [Law_law_1149_3 _ _ _ _ _ _ _ _ _ _ _ _ _ (ix 1 (by omega)) (ix 2 (by omega)), ev 1 (by omega), ev 2 (by omega), (lh_log t0 (xs (6 * i + 1)) (xs (6 * i + 2))).2 e a1 f1]
    simp only [kC_ret, Option.toList, List.cons_append, List.nil_append, fix1_int, fix1_ref, fix1_unk, fix1_null, fix1_long]
    rw [Law_law_1166 _ _ _ _ _ _ _ _ _ _ _ _ _ _ (ixT 1 (by omega)) (ixT 2 (by omega)) (show (thrT w).1 (B + 284) = some (7, 0) from w71), ev 1 (by omega), ev 2 (by omega), a2]
    simp only [kC_ret, Option.toList, List.cons_append, List.nil_append, fix1_int, fix1_ref, fix1_unk, fix1_null, fix1_long]
    rw [Law_law_1184 _ _ _ _ _ _ _ _ _ _ _ _ _ _ (show (thrT w).1 (B + 284) = some (7, 0) from w71), Model_thrown_E, Model_thrown_0 _ _ _ _ _ (show (thrT w).1 (B + 284) = some (7, 0) from w71), a3]
    simp only [kC_ret, Option.toList, List.cons_append, List.nil_append, fix1_int, fix1_ref, fix1_unk, fix1_null, fix1_long]
    rw [Law_law_1190, if_pos rfl, Law_law_1197, if_pos (nI_ne0 f1 (by omega)), Law_law_1214]
theorem lw_c17 (hl : LI b B Lw xs i w I L P) (hi : 6 * i + 6 ≤ Lw) (hL : Lw ≤ 3072) : LwS b B Lw xs i 1230 w I L P := by
  obtain ⟨hb, N, st, Ks, len, tx, hc, hm, hw1, hw9, hI, hk1, hk2⟩ := hl
  intro x5 x6 x7 x8
  have t0 := hc.1.1
  have w71 := hm.1.1
  have ix : ∀ j, j < 6 → inA w b 14 (nI (6 * i) + nI j) := fun j hj => by rw [nI_add]; exact inA_nI hw1 (by omega) (by omega)
  have ev : ∀ j, j < 6 → I b (Int32.toNatClampNeg (nI (6 * i) + nI j)) = xs (6 * i + j) := fun j hj => by rw [nI_add, cl_nI (by omega)]; exact hI _
  rcases lw_sc (T' := 4000 * (i + 1)) hb hw1 hw9 hI hk1 hk2 hc (by omega) hm (Nat.le_refl _) (SC_T (sc_alone hc (xs (6 * i + 1))) (by omega)) with ⟨v, J, K, Q, a1, hJ, a2⟩ | ⟨e, v, J2, K2, a1, f1, f2, a2, a3, a4⟩
  · obtain ⟨J2, K2, b1, b2, b3, b4⟩ := a2 (updL K (B + 289) 0 (Int32.toInt64 v)) (fun x h => updL_o h)
    replace b1 : call 187 [.ref (B + 284), .int (xs (6 * i + 1))] w J (updL K (B + 289) 0 (Int32.toInt64 v)) Q = some (.inl (some (.int v)), w, J2, K2, Q) := b1
    have evJ : ∀ j, j < 6 → J b (Int32.toNatClampNeg (nI (6 * i) + nI j)) = xs (6 * i + j) := fun j hj => by rw [nI_add, cl_nI (by omega)]; exact hJ _
    refine ⟨.int (nI 0), .int v, x7, x8, w, J2, K2, Q, ?_, b4⟩
    rw [Law_law_1230_3 _ _ _ _ _ _ _ _ _ _ _ _ _ (ix 1 (by omega)), ev 1 (by omega), (lh_alone t0 (xs (6 * i + 1))).1 v hw9 a1]
    simp only [kC_ret, Option.toList, List.cons_append, List.nil_append, fix1_int, fix1_ref, fix1_unk, fix1_null, fix1_long]
    rw [Law_law_1241 _ _ _ _ _ _ _ _ _ _ _ _ _ _ (ix 1 (by omega)) w71, evJ 1 (by omega), b1]
    simp only [kC_ret, Option.toList, List.cons_append, List.nil_append, fix1_int, fix1_ref, fix1_unk, fix1_null, fix1_long]
    rw [Law_law_1253 _ _ _ _ _ _ _ _ _ _ _ _ _ _ w71, Model_thrown_E, Model_thrown_0 _ _ _ _ _ w71, b2]
    simp only [kC_ret, Option.toList, List.cons_append, List.nil_append, fix1_int, fix1_ref, fix1_unk, fix1_null, fix1_long]
    rw [Law_law_1259, if_pos rfl, Law_law_1266, if_neg (fun h => h n00), Law_law_1271 _ _ _ _ _ _ _ _ _ _ _ _ _ (inA_nI hw9 (by omega) (by omega)), cl_nI (by omega), b3, updL_s, lg_self, if_pos rfl, Law_law_1283]
  · replace a2 : call 187 [.ref (B + 284), .int (xs (6 * i + 1))] (thrT w) I L P = some (.inl (some (.int v)), thrT w, J2, K2, P) := a2
    have ixT : ∀ j, j < 6 → inA (thrT w) b 14 (nI (6 * i) + nI j) := fun j hj => by rw [nI_add]; exact inA_nI (show (thrT w).1 b = some (14, Lw) from hw1) (by omega) (by omega)
    refine ⟨.int (nI ((fun e => if e = 2 then 1 else 0) e)), .int v, x7, x8, thrT w, J2, K2, P, ?_, a4⟩
    rw [Law_law_1230_3 _ _ _ _ _ _ _ _ _ _ _ _ _ (ix 1 (by omega)), ev 1 (by omega), (lh_alone t0 (xs (6 * i + 1))).2 e a1 f1]
    simp only [kC_ret, Option.toList, List.cons_append, List.nil_append, fix1_int, fix1_ref, fix1_unk, fix1_null, fix1_long]
    rw [Law_law_1241 _ _ _ _ _ _ _ _ _ _ _ _ _ _ (ixT 1 (by omega)) (show (thrT w).1 (B + 284) = some (7, 0) from w71), ev 1 (by omega), a2]
    simp only [kC_ret, Option.toList, List.cons_append, List.nil_append, fix1_int, fix1_ref, fix1_unk, fix1_null, fix1_long]
    rw [Law_law_1253 _ _ _ _ _ _ _ _ _ _ _ _ _ _ (show (thrT w).1 (B + 284) = some (7, 0) from w71), Model_thrown_E, Model_thrown_0 _ _ _ _ _ (show (thrT w).1 (B + 284) = some (7, 0) from w71), a3]
    simp only [kC_ret, Option.toList, List.cons_append, List.nil_append, fix1_int, fix1_ref, fix1_unk, fix1_null, fix1_long]
    rw [Law_law_1259, if_pos rfl, Law_law_1266, if_pos (nI_ne0 f1 (by omega)), Law_law_1283]
theorem lw_c19 (hl : LI b B Lw xs i w I L P) (hi : 6 * i + 6 ≤ Lw) (hL : Lw ≤ 3072) : LwS b B Lw xs i 1299 w I L P := by
  obtain ⟨hb, N, st, Ks, len, tx, hc, hm, hw1, hw9, hI, hk1, hk2⟩ := hl
  intro x5 x6 x7 x8
  have t0 := hc.1.1
  have w71 := hm.1.1
  have ix : ∀ j, j < 6 → inA w b 14 (nI (6 * i) + nI j) := fun j hj => by rw [nI_add]; exact inA_nI hw1 (by omega) (by omega)
  have ev : ∀ j, j < 6 → I b (Int32.toNatClampNeg (nI (6 * i) + nI j)) = xs (6 * i + j) := fun j hj => by rw [nI_add, cl_nI (by omega)]; exact hI _
  rcases lw_sc (T' := 4000 * (i + 1)) hb hw1 hw9 hI hk1 hk2 hc (by omega) hm (Nat.le_refl _) (SC_T (sc_delivers hc (by omega) (xs (6 * i + 1))) (by omega)) with ⟨v, J, K, Q, a1, hJ, a2⟩ | ⟨e, v, J2, K2, a1, f1, f2, a2, a3, a4⟩
  · obtain ⟨J2, K2, b1, b2, b3, b4⟩ := a2 (updL K (B + 289) 0 (Int32.toInt64 v)) (fun x h => updL_o h)
    replace b1 : call 189 [.ref (B + 284), .int (xs (6 * i + 1))] w J (updL K (B + 289) 0 (Int32.toInt64 v)) Q = some (.inl (some (.int v)), w, J2, K2, Q) := b1
    have evJ : ∀ j, j < 6 → J b (Int32.toNatClampNeg (nI (6 * i) + nI j)) = xs (6 * i + j) := fun j hj => by rw [nI_add, cl_nI (by omega)]; exact hJ _
    refine ⟨.int (nI 0), .int v, x7, x8, w, J2, K2, Q, ?_, b4⟩
    rw [Law_law_1299_3 _ _ _ _ _ _ _ _ _ _ _ _ _ (ix 1 (by omega)), ev 1 (by omega), (lh_delivers t0 (xs (6 * i + 1))).1 v hw9 a1]
    simp only [kC_ret, Option.toList, List.cons_append, List.nil_append, fix1_int, fix1_ref, fix1_unk, fix1_null, fix1_long]
    rw [Law_law_1310 _ _ _ _ _ _ _ _ _ _ _ _ _ _ (ix 1 (by omega)) w71, evJ 1 (by omega), b1]
    simp only [kC_ret, Option.toList, List.cons_append, List.nil_append, fix1_int, fix1_ref, fix1_unk, fix1_null, fix1_long]
    rw [Law_law_1322 _ _ _ _ _ _ _ _ _ _ _ _ _ _ w71, Model_thrown_E, Model_thrown_0 _ _ _ _ _ w71, b2]
    simp only [kC_ret, Option.toList, List.cons_append, List.nil_append, fix1_int, fix1_ref, fix1_unk, fix1_null, fix1_long]
    rw [Law_law_1328, if_pos rfl, Law_law_1335, if_neg (fun h => h n00), Law_law_1340 _ _ _ _ _ _ _ _ _ _ _ _ _ (inA_nI hw9 (by omega) (by omega)), cl_nI (by omega), b3, updL_s, lg_self, if_pos rfl, Law_law_1352]
  · replace a2 : call 189 [.ref (B + 284), .int (xs (6 * i + 1))] (thrT w) I L P = some (.inl (some (.int v)), thrT w, J2, K2, P) := a2
    have ixT : ∀ j, j < 6 → inA (thrT w) b 14 (nI (6 * i) + nI j) := fun j hj => by rw [nI_add]; exact inA_nI (show (thrT w).1 b = some (14, Lw) from hw1) (by omega) (by omega)
    refine ⟨.int (nI ((fun e => if e = 2 then 1 else 0) e)), .int v, x7, x8, thrT w, J2, K2, P, ?_, a4⟩
    rw [Law_law_1299_3 _ _ _ _ _ _ _ _ _ _ _ _ _ (ix 1 (by omega)), ev 1 (by omega), (lh_delivers t0 (xs (6 * i + 1))).2 e a1 f1]
    simp only [kC_ret, Option.toList, List.cons_append, List.nil_append, fix1_int, fix1_ref, fix1_unk, fix1_null, fix1_long]
    rw [Law_law_1310 _ _ _ _ _ _ _ _ _ _ _ _ _ _ (ixT 1 (by omega)) (show (thrT w).1 (B + 284) = some (7, 0) from w71), ev 1 (by omega), a2]
    simp only [kC_ret, Option.toList, List.cons_append, List.nil_append, fix1_int, fix1_ref, fix1_unk, fix1_null, fix1_long]
    rw [Law_law_1322 _ _ _ _ _ _ _ _ _ _ _ _ _ _ (show (thrT w).1 (B + 284) = some (7, 0) from w71), Model_thrown_E, Model_thrown_0 _ _ _ _ _ (show (thrT w).1 (B + 284) = some (7, 0) from w71), a3]
    simp only [kC_ret, Option.toList, List.cons_append, List.nil_append, fix1_int, fix1_ref, fix1_unk, fix1_null, fix1_long]
    rw [Law_law_1328, if_pos rfl, Law_law_1335, if_pos (nI_ne0 f1 (by omega)), Law_law_1352]
theorem lw_c21 (hl : LI b B Lw xs i w I L P) (hi : 6 * i + 6 ≤ Lw) (hL : Lw ≤ 3072) : LwS b B Lw xs i 1396 w I L P := by
  obtain ⟨hb, N, st, Ks, len, tx, hc, hm, hw1, hw9, hI, hk1, hk2⟩ := hl
  intro x5 x6 x7 x8
  have t0 := hc.1.1
  have w71 := hm.1.1
  have ix : ∀ j, j < 6 → inA w b 14 (nI (6 * i) + nI j) := fun j hj => by rw [nI_add]; exact inA_nI hw1 (by omega) (by omega)
  have ev : ∀ j, j < 6 → I b (Int32.toNatClampNeg (nI (6 * i) + nI j)) = xs (6 * i + j) := fun j hj => by rw [nI_add, cl_nI (by omega)]; exact hI _
  rcases lw_sc (T' := 4000 * (i + 1)) hb hw1 hw9 hI hk1 hk2 hc (by omega) hm (Nat.le_refl _) (SC_T (sc_append hc (xs (6 * i + 1))) (by omega)) with ⟨v, J, K, Q, a1, hJ, a2⟩ | ⟨e, v, J2, K2, a1, f1, f2, a2, a3, a4⟩
  · obtain ⟨J2, K2, b1, b2, b3, b4⟩ := a2 (updL K (B + 289) 0 (Int32.toInt64 v)) (fun x h => updL_o h)
    replace b1 : call 191 [.ref (B + 284), .int (xs (6 * i + 1))] w J (updL K (B + 289) 0 (Int32.toInt64 v)) Q = some (.inl (some (.int v)), w, J2, K2, Q) := b1
    have evJ : ∀ j, j < 6 → J b (Int32.toNatClampNeg (nI (6 * i) + nI j)) = xs (6 * i + j) := fun j hj => by rw [nI_add, cl_nI (by omega)]; exact hJ _
    refine ⟨.int (nI 0), .int v, x7, x8, w, J2, K2, Q, ?_, b4⟩
    rw [Law_law_1396_3 _ _ _ _ _ _ _ _ _ _ _ _ _ (ix 1 (by omega)), ev 1 (by omega), (lh_append t0 (xs (6 * i + 1))).1 v hw9 a1]
    simp only [kC_ret, Option.toList, List.cons_append, List.nil_append, fix1_int, fix1_ref, fix1_unk, fix1_null, fix1_long]
    rw [Law_law_1407 _ _ _ _ _ _ _ _ _ _ _ _ _ _ (ix 1 (by omega)) w71, evJ 1 (by omega), b1]
    simp only [kC_ret, Option.toList, List.cons_append, List.nil_append, fix1_int, fix1_ref, fix1_unk, fix1_null, fix1_long]
    rw [Law_law_1419 _ _ _ _ _ _ _ _ _ _ _ _ _ _ w71, Model_thrown_E, Model_thrown_0 _ _ _ _ _ w71, b2]
    simp only [kC_ret, Option.toList, List.cons_append, List.nil_append, fix1_int, fix1_ref, fix1_unk, fix1_null, fix1_long]
    rw [Law_law_1425, if_pos rfl, Law_law_1432, if_neg (fun h => h n00), Law_law_1437 _ _ _ _ _ _ _ _ _ _ _ _ _ (inA_nI hw9 (by omega) (by omega)), cl_nI (by omega), b3, updL_s, lg_self, if_pos rfl, Law_law_1449]
  · replace a2 : call 191 [.ref (B + 284), .int (xs (6 * i + 1))] (thrT w) I L P = some (.inl (some (.int v)), thrT w, J2, K2, P) := a2
    have ixT : ∀ j, j < 6 → inA (thrT w) b 14 (nI (6 * i) + nI j) := fun j hj => by rw [nI_add]; exact inA_nI (show (thrT w).1 b = some (14, Lw) from hw1) (by omega) (by omega)
    refine ⟨.int (nI ((fun e => if e < 2 then e + 1 else 0) e)), .int v, x7, x8, thrT w, J2, K2, P, ?_, a4⟩
    rw [Law_law_1396_3 _ _ _ _ _ _ _ _ _ _ _ _ _ (ix 1 (by omega)), ev 1 (by omega), (lh_append t0 (xs (6 * i + 1))).2 e a1 f1]
    simp only [kC_ret, Option.toList, List.cons_append, List.nil_append, fix1_int, fix1_ref, fix1_unk, fix1_null, fix1_long]
    rw [Law_law_1407 _ _ _ _ _ _ _ _ _ _ _ _ _ _ (ixT 1 (by omega)) (show (thrT w).1 (B + 284) = some (7, 0) from w71), ev 1 (by omega), a2]
    simp only [kC_ret, Option.toList, List.cons_append, List.nil_append, fix1_int, fix1_ref, fix1_unk, fix1_null, fix1_long]
    rw [Law_law_1419 _ _ _ _ _ _ _ _ _ _ _ _ _ _ (show (thrT w).1 (B + 284) = some (7, 0) from w71), Model_thrown_E, Model_thrown_0 _ _ _ _ _ (show (thrT w).1 (B + 284) = some (7, 0) from w71), a3]
    simp only [kC_ret, Option.toList, List.cons_append, List.nil_append, fix1_int, fix1_ref, fix1_unk, fix1_null, fix1_long]
    rw [Law_law_1425, if_pos rfl, Law_law_1432, if_pos (nI_ne0 f1 (by omega)), Law_law_1449]
theorem lw_c24 (hl : LI b B Lw xs i w I L P) (hi : 6 * i + 6 ≤ Lw) (hL : Lw ≤ 3072) : LwS b B Lw xs i 1478 w I L P := by
  obtain ⟨hb, N, st, Ks, len, tx, hc, hm, hw1, hw9, hI, hk1, hk2⟩ := hl
  intro x5 x6 x7 x8
  have t0 := hc.1.1
  have w71 := hm.1.1
  have ix : ∀ j, j < 6 → inA w b 14 (nI (6 * i) + nI j) := fun j hj => by rw [nI_add]; exact inA_nI hw1 (by omega) (by omega)
  have ev : ∀ j, j < 6 → I b (Int32.toNatClampNeg (nI (6 * i) + nI j)) = xs (6 * i + j) := fun j hj => by rw [nI_add, cl_nI (by omega)]; exact hI _
  rcases lw_sc (T' := 4000 * (i + 1)) hb hw1 hw9 hI hk1 hk2 hc (by omega) hm (Nat.le_refl _) (SC_T (sc_undo hc ) (by omega)) with ⟨v, J, K, Q, a1, hJ, a2⟩ | ⟨e, v, J2, K2, a1, f1, f2, a2, a3, a4⟩
  · obtain ⟨J2, K2, b1, b2, b3, b4⟩ := a2 (updL K (B + 289) 0 (Int32.toInt64 v)) (fun x h => updL_o h)
    replace b1 : call 138 [.ref (B + 284)] w J (updL K (B + 289) 0 (Int32.toInt64 v)) Q = some (.inl (some (.int v)), w, J2, K2, Q) := b1
    have evJ : ∀ j, j < 6 → J b (Int32.toNatClampNeg (nI (6 * i) + nI j)) = xs (6 * i + j) := fun j hj => by rw [nI_add, cl_nI (by omega)]; exact hJ _
    refine ⟨.int (nI 0), .int v, x7, x8, w, J2, K2, Q, ?_, b4⟩
    rw [Law_law_1478_3 _ _ _ _ _ _ _ _ _ _ _ _ _, (lh_undo t0 ).1 v hw9 a1]
    simp only [kC_ret, Option.toList, List.cons_append, List.nil_append, fix1_int, fix1_ref, fix1_unk, fix1_null, fix1_long]
    rw [Law_law_1483 _ _ _ _ _ _ _ _ _ _ _ _ _ _ w71, b1]
    simp only [kC_ret, Option.toList, List.cons_append, List.nil_append, fix1_int, fix1_ref, fix1_unk, fix1_null, fix1_long]
    rw [Law_law_1489 _ _ _ _ _ _ _ _ _ _ _ _ _ _ w71, Model_thrown_E, Model_thrown_0 _ _ _ _ _ w71, b2]
    simp only [kC_ret, Option.toList, List.cons_append, List.nil_append, fix1_int, fix1_ref, fix1_unk, fix1_null, fix1_long]
    rw [Law_law_1495, if_pos rfl, Law_law_1502, if_neg (fun h => h n00), Law_law_1507 _ _ _ _ _ _ _ _ _ _ _ _ _ (inA_nI hw9 (by omega) (by omega)), cl_nI (by omega), b3, updL_s, lg_self, if_pos rfl, Law_law_1519]
  · replace a2 : call 138 [.ref (B + 284)] (thrT w) I L P = some (.inl (some (.int v)), thrT w, J2, K2, P) := a2
    have ixT : ∀ j, j < 6 → inA (thrT w) b 14 (nI (6 * i) + nI j) := fun j hj => by rw [nI_add]; exact inA_nI (show (thrT w).1 b = some (14, Lw) from hw1) (by omega) (by omega)
    refine ⟨.int (nI ((fun e => if e = 1 then 1 else 0) e)), .int v, x7, x8, thrT w, J2, K2, P, ?_, a4⟩
    rw [Law_law_1478_3 _ _ _ _ _ _ _ _ _ _ _ _ _, (lh_undo t0 ).2 e a1 f1]
    simp only [kC_ret, Option.toList, List.cons_append, List.nil_append, fix1_int, fix1_ref, fix1_unk, fix1_null, fix1_long]
    rw [Law_law_1483 _ _ _ _ _ _ _ _ _ _ _ _ _ _ (show (thrT w).1 (B + 284) = some (7, 0) from w71), a2]
    simp only [kC_ret, Option.toList, List.cons_append, List.nil_append, fix1_int, fix1_ref, fix1_unk, fix1_null, fix1_long]
    rw [Law_law_1489 _ _ _ _ _ _ _ _ _ _ _ _ _ _ (show (thrT w).1 (B + 284) = some (7, 0) from w71), Model_thrown_E, Model_thrown_0 _ _ _ _ _ (show (thrT w).1 (B + 284) = some (7, 0) from w71), a3]
    simp only [kC_ret, Option.toList, List.cons_append, List.nil_append, fix1_int, fix1_ref, fix1_unk, fix1_null, fix1_long]
    rw [Law_law_1495, if_pos rfl, Law_law_1502, if_pos (nI_ne0 f1 (by omega)), Law_law_1519]
theorem lw_c9 (hl : LI b B Lw xs i w I L P) (hi : 6 * i + 6 ≤ Lw) (hL : Lw ≤ 3072) : LwS b B Lw xs i 796 w I L P := by
  obtain ⟨hb, N, st, Ks, len, tx, hc, hm, hw1, hw9, hI, hk1, hk2⟩ := hl
  intro x5 x6 x7 x8
  have t0 := hc.1.1
  have w71 := hm.1.1
  have ix : ∀ j, j < 6 → inA w b 14 (nI (6 * i) + nI j) := fun j hj => by rw [nI_add]; exact inA_nI hw1 (by omega) (by omega)
  have ev : ∀ j, j < 6 → I b (Int32.toNatClampNeg (nI (6 * i) + nI j)) = xs (6 * i + j) := fun j hj => by rw [nI_add, cl_nI (by omega)]; exact hI _
  rcases lw_sc (T' := 4000 * (i + 1)) hb hw1 hw9 hI hk1 hk2 hc (by omega) hm (Nat.le_refl _) (SC_T (sc_finish hc (by omega)) (by omega)) with ⟨v, J, K, Q, a1, hJ, a2⟩ | ⟨e, v, J2, K2, a1, f1, f2, a2, a3, a4⟩
  · obtain ⟨J2, K2, b1, b2, b3, b4⟩ := a2 K (fun _ _ => rfl)
    replace b1 : call 173 [.ref (B + 284)] w J K Q = some (.inl (some (.int v)), w, J2, K2, Q) := b1
    refine ⟨x5, x6, x7, x8, w, J2, K2, Q, ?_, b4⟩
    rw [Law_law_796 _ _ _ _ _ _ _ _ _ _ _ _ _ t0, a1]
    simp only [kC_ret, Option.toList, List.cons_append, List.nil_append, fix1_int, fix1_ref, fix1_unk, fix1_null, fix1_long]
    rw [Law_law_800 _ _ _ _ _ _ _ _ _ _ _ _ _ _ w71, b1]
    simp only [kC_ret, Option.toList, List.cons_append, List.nil_append, fix1_int, fix1_ref, fix1_unk, fix1_null, fix1_long]
    rw [Law_law_804, if_pos rfl]
  · exact absurd f1 (Nat.lt_irrefl 0)
theorem lw_c16 (hl : LI b B Lw xs i w I L P) (hi : 6 * i + 6 ≤ Lw) (hL : Lw ≤ 3072) : LwS b B Lw xs i 1217 w I L P := by
  obtain ⟨hb, N, st, Ks, len, tx, hc, hm, hw1, hw9, hI, hk1, hk2⟩ := hl
  intro x5 x6 x7 x8
  have t0 := hc.1.1
  have w71 := hm.1.1
  have ix : ∀ j, j < 6 → inA w b 14 (nI (6 * i) + nI j) := fun j hj => by rw [nI_add]; exact inA_nI hw1 (by omega) (by omega)
  have ev : ∀ j, j < 6 → I b (Int32.toNatClampNeg (nI (6 * i) + nI j)) = xs (6 * i + j) := fun j hj => by rw [nI_add, cl_nI (by omega)]; exact hI _
  rcases lw_sc (T' := 4000 * (i + 1)) hb hw1 hw9 hI hk1 hk2 hc (by omega) hm (Nat.le_refl _) (SC_T (sc_slotsToFinish hc (by omega)) (by omega)) with ⟨v, J, K, Q, a1, hJ, a2⟩ | ⟨e, v, J2, K2, a1, f1, f2, a2, a3, a4⟩
  · obtain ⟨J2, K2, b1, b2, b3, b4⟩ := a2 K (fun _ _ => rfl)
    replace b1 : call 185 [.ref (B + 284)] w J K Q = some (.inl (some (.int v)), w, J2, K2, Q) := b1
    refine ⟨x5, x6, x7, x8, w, J2, K2, Q, ?_, b4⟩
    rw [Law_law_1217 _ _ _ _ _ _ _ _ _ _ _ _ _ t0, a1]
    simp only [kC_ret, Option.toList, List.cons_append, List.nil_append, fix1_int, fix1_ref, fix1_unk, fix1_null, fix1_long]
    rw [Law_law_1221 _ _ _ _ _ _ _ _ _ _ _ _ _ _ w71, b1]
    simp only [kC_ret, Option.toList, List.cons_append, List.nil_append, fix1_int, fix1_ref, fix1_unk, fix1_null, fix1_long]
    rw [Law_law_1225, if_pos rfl]
  · exact absurd f1 (Nat.lt_irrefl 0)
theorem lw_c18 (hl : LI b B Lw xs i w I L P) (hi : 6 * i + 6 ≤ Lw) (hL : Lw ≤ 3072) : LwS b B Lw xs i 1286 w I L P := by
  obtain ⟨hb, N, st, Ks, len, tx, hc, hm, hw1, hw9, hI, hk1, hk2⟩ := hl
  intro x5 x6 x7 x8
  have t0 := hc.1.1
  have w71 := hm.1.1
  have ix : ∀ j, j < 6 → inA w b 14 (nI (6 * i) + nI j) := fun j hj => by rw [nI_add]; exact inA_nI hw1 (by omega) (by omega)
  have ev : ∀ j, j < 6 → I b (Int32.toNatClampNeg (nI (6 * i) + nI j)) = xs (6 * i + j) := fun j hj => by rw [nI_add, cl_nI (by omega)]; exact hI _
  rcases lw_sc (T' := 4000 * (i + 1)) hb hw1 hw9 hI hk1 hk2 hc (by omega) hm (Nat.le_refl _) (SC_T (sc_winners hc) (by omega)) with ⟨v, J, K, Q, a1, hJ, a2⟩ | ⟨e, v, J2, K2, a1, f1, f2, a2, a3, a4⟩
  · obtain ⟨J2, K2, b1, b2, b3, b4⟩ := a2 K (fun _ _ => rfl)
    replace b1 : call 188 [.ref (B + 284)] w J K Q = some (.inl (some (.int v)), w, J2, K2, Q) := b1
    refine ⟨x5, x6, x7, x8, w, J2, K2, Q, ?_, b4⟩
    rw [Law_law_1286 _ _ _ _ _ _ _ _ _ _ _ _ _ t0, a1]
    simp only [kC_ret, Option.toList, List.cons_append, List.nil_append, fix1_int, fix1_ref, fix1_unk, fix1_null, fix1_long]
    rw [Law_law_1290 _ _ _ _ _ _ _ _ _ _ _ _ _ _ w71, b1]
    simp only [kC_ret, Option.toList, List.cons_append, List.nil_append, fix1_int, fix1_ref, fix1_unk, fix1_null, fix1_long]
    rw [Law_law_1294, if_pos rfl]
  · exact absurd f1 (Nat.lt_irrefl 0)
theorem lw_c22 (hl : LI b B Lw xs i w I L P) (hi : 6 * i + 6 ≤ Lw) (hL : Lw ≤ 3072) : LwS b B Lw xs i 1452 w I L P := by
  obtain ⟨hb, N, st, Ks, len, tx, hc, hm, hw1, hw9, hI, hk1, hk2⟩ := hl
  intro x5 x6 x7 x8
  have t0 := hc.1.1
  have w71 := hm.1.1
  have ix : ∀ j, j < 6 → inA w b 14 (nI (6 * i) + nI j) := fun j hj => by rw [nI_add]; exact inA_nI hw1 (by omega) (by omega)
  have ev : ∀ j, j < 6 → I b (Int32.toNatClampNeg (nI (6 * i) + nI j)) = xs (6 * i + j) := fun j hj => by rw [nI_add, cl_nI (by omega)]; exact hI _
  rcases lw_sc (T' := 4000 * (i + 1)) hb hw1 hw9 hI hk1 hk2 hc (by omega) hm (Nat.le_refl _) (SC_T (sc_clearText hc) (by omega)) with ⟨v, J, K, Q, a1, hJ, a2⟩ | ⟨e, v, J2, K2, a1, f1, f2, a2, a3, a4⟩
  · obtain ⟨J2, K2, b1, b2, b3, b4⟩ := a2 K (fun _ _ => rfl)
    replace b1 : call 192 [.ref (B + 284)] w J K Q = some (.inl (some (.int v)), w, J2, K2, Q) := b1
    refine ⟨x5, x6, x7, x8, w, J2, K2, Q, ?_, b4⟩
    rw [Law_law_1452 _ _ _ _ _ _ _ _ _ _ _ _ _ t0, a1]
    simp only [kC_ret, Option.toList, List.cons_append, List.nil_append, fix1_int, fix1_ref, fix1_unk, fix1_null, fix1_long]
    rw [Law_law_1456 _ _ _ _ _ _ _ _ _ _ _ _ _ _ w71, b1]
    simp only [kC_ret, Option.toList, List.cons_append, List.nil_append, fix1_int, fix1_ref, fix1_unk, fix1_null, fix1_long]
    rw [Law_law_1460, if_pos rfl]
  · exact absurd f1 (Nat.lt_irrefl 0)
theorem lw_c23 (hl : LI b B Lw xs i w I L P) (hi : 6 * i + 6 ≤ Lw) (hL : Lw ≤ 3072) : LwS b B Lw xs i 1465 w I L P := by
  obtain ⟨hb, N, st, Ks, len, tx, hc, hm, hw1, hw9, hI, hk1, hk2⟩ := hl
  intro x5 x6 x7 x8
  have t0 := hc.1.1
  have w71 := hm.1.1
  have ix : ∀ j, j < 6 → inA w b 14 (nI (6 * i) + nI j) := fun j hj => by rw [nI_add]; exact inA_nI hw1 (by omega) (by omega)
  have ev : ∀ j, j < 6 → I b (Int32.toNatClampNeg (nI (6 * i) + nI j)) = xs (6 * i + j) := fun j hj => by rw [nI_add, cl_nI (by omega)]; exact hI _
  rcases lw_sc (T' := 4000 * (i + 1)) hb hw1 hw9 hI hk1 hk2 hc (by omega) hm (Nat.le_refl _) (SC_T (sc_carryOut hc (by omega)) (by omega)) with ⟨v, J, K, Q, a1, hJ, a2⟩ | ⟨e, v, J2, K2, a1, f1, f2, a2, a3, a4⟩
  · obtain ⟨J2, K2, b1, b2, b3, b4⟩ := a2 K (fun _ _ => rfl)
    replace b1 : call 203 [.ref (B + 284)] w J K Q = some (.inl (some (.int v)), w, J2, K2, Q) := b1
    refine ⟨x5, x6, x7, x8, w, J2, K2, Q, ?_, b4⟩
    rw [Law_law_1465 _ _ _ _ _ _ _ _ _ _ _ _ _ t0, a1]
    simp only [kC_ret, Option.toList, List.cons_append, List.nil_append, fix1_int, fix1_ref, fix1_unk, fix1_null, fix1_long]
    rw [Law_law_1469 _ _ _ _ _ _ _ _ _ _ _ _ _ _ w71, b1]
    simp only [kC_ret, Option.toList, List.cons_append, List.nil_append, fix1_int, fix1_ref, fix1_unk, fix1_null, fix1_long]
    rw [Law_law_1473, if_pos rfl]
  · exact absurd f1 (Nat.lt_irrefl 0)
end
