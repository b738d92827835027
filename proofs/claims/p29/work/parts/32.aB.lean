/-! the class's calls, each by its answers: queues and slots -/
section
variable {B : Nat} {w : Wd} {I : MI} {L : ML} {P : MP} {N : Nat → Int32} {st : Nat} {Ks : Nat → Nat → Int32} {len : Nat} {tx : Nat → Nat} {T : Nat}
theorem cx_write (h : CW B w I L P N st Ks len tx T) {k c : Nat} (hk1 : N 1 = nI k) (hk3 : k ≤ 3) (hck : c < k) (y z : Int32) (b : Int64) : call 85 [.ref B, .int (nI c), .int y, .int z, .long b] w I L P = if qOk y z b then go 85 49 [.ref B, .int (nI c), .int y, .int z, .long b, unk, .ref (B + 1 + 7 + 7 * c)] [] w I L P else some (.inr 0, thrT w, I, L, P) := by
  obtain ⟨hw, p0, tb, hst, q, k0, n, md, hq, hbc, hlg⟩ := CW_bc h
  have t0 := hw.1
  obtain ⟨⟨hk0, hk, h1, i1⟩, -, -, -, -, -, hbq, -⟩ := hbc
  have ek : k0 = k := by
    rw [h1, nI_eq (by omega) (by omega)] at hk1
    exact hk1
  subst ek
  obtain ⟨co1, co2⟩ := cl_cOT hw p0 hbq hk I L i1
  rw [Two_write_E, Two_write_0 _ _ _ _ _ _ _ _ _ _ _ t0, co1 c hck]
  simp only [kC_ret, Option.toList, List.cons_append, List.nil_append, fix1_int, fix1_ref, fix1_unk, fix1_null, fix1_long]
  rw [Two_write_5_1, cl_range, fix1_unk]
  by_cases g1 : RG y 0 127
  · rw [if_pos g1]
    simp only [kC_ret, Option.toList, List.cons_append, List.nil_append, fix1_int, fix1_ref, fix1_unk, fix1_null, fix1_long]
    rw [Two_write_14, cl_range]
    by_cases g2 : RG z 1 4
    · rw [if_pos g2]
      simp only [kC_ret, Option.toList, List.cons_append, List.nil_append, fix1_int, fix1_ref, fix1_unk, fix1_null, fix1_long]
      obtain ⟨cnt, hc1, hc4, rfl⟩ := RG_ex (by omega) (by omega) g2
      have bo := by_ok (by omega) hc4 b
      rw [Two_write_20]
      by_cases g3 : lg_cmp b 0 < 0
      · rw [if_pos g3, Two_write_39, if_neg (fun g => (bo.mpr g.2.2).1 g3)]
      · rw [if_neg g3, Two_write_27]
        by_cases g4 : lg_cmp b (1 <<< (Int32.toInt64 ((nI 8) * nI cnt) &&& 63)) < 0
        · rw [if_pos g4, if_pos ⟨g1, g2, bo.mp ⟨g3, g4⟩⟩]
        · rw [if_neg g4, Two_write_39, if_neg (fun g => g4 (bo.mpr g.2.2).2)]
    · rw [if_neg g2, kC_thr, if_neg (fun g => g2 g.2.1)]
  · rw [if_neg g1, kC_thr, if_neg (fun g => g1 g.1)]
theorem cc_write (h : CW B w I L P N st Ks len tx T) {k c s a cnt : Nat} {b : Int64} (hk1 : N 1 = nI k) (hk3 : k ≤ 3) (hck : c < k) (e0 : N (207 + 40 * c) = nI s) (hs4 : s ≤ 4) (ha : a < 128) (hc1 : 1 ≤ cnt) (hc4 : cnt ≤ 4) (hb : 0 ≤ b ∧ b ≤ mostV (nI cnt)) : (s = 4 → call 85 [.ref B, .int (nI c), .int (nI a), .int (nI cnt), .long b] w I L P = some (.inr 1, thrT w, I, L, P)) ∧ (s < 4 → Cok B w I L P (.int (nI (s + 1))) (queN N c s (nI a) (nI 0) (nI cnt) b) (svS st) (svK st Ks N) len tx T (call 85 [.ref B, .int (nI c), .int (nI a), .int (nI cnt), .long b] w I L P)) := by
  have c5 := cx_write h hk1 hk3 hck (nI a) (nI cnt) b
  rw [if_pos ⟨RG_of (by omega) (by omega) (by omega), RG_of hc1 hc4 (by omega), hb⟩] at c5
  obtain ⟨hw, p0, tb, hst, q, k0, n, md, hq, hbc, hlg⟩ := CW_bc h
  have t0 := hw.1
  have ek : k0 = k := by
    rw [hbc.1.2.2.1, nI_eq (by have := hbc.1.2.1; omega) (by omega)] at hk1
    exact hk1
  subst ek
  obtain ⟨q1, q2⟩ := cl_queue (b := b) h hbc hck e0 hs4 ha (Or.inl rfl : nI 0 = nI 0 ∨ nI 0 = nI 1) hc1 hc4
  refine ⟨fun hs => ?_, fun hs => ?_⟩
  · rw [c5, Two_write_49_1 _ _ _ _ _ _ _ _ _ _ _ t0, q1 hs, kC_thr]
  · obtain ⟨J, K, Q, r1, r2, r3⟩ := q2 hs
    refine ⟨J, K, Q, ?_, r2, r3⟩
    rw [c5, Two_write_49_1 _ _ _ _ _ _ _ _ _ _ _ t0, r1]
    simp only [kC_ret, Option.toList, List.cons_append, List.nil_append, fix1_int, fix1_ref, fix1_unk, fix1_null, fix1_long]
    rw [Two_write_60]
theorem ce_write0 (h : CW B w I L P N st Ks len tx T) {k c : Nat} (hk1 : N 1 = nI k) (hk3 : k ≤ 3) (hck : c < k) {y z : Int32} {b : Int64} (hn : ¬ qOk y z b) : call 85 [.ref B, .int (nI c), .int y, .int z, .long b] w I L P = some (.inr 0, thrT w, I, L, P) := by
  rw [cx_write h hk1 hk3 hck y z b, if_neg hn]
theorem ce_write2 (h : CW B w I L P N st Ks len tx T) {k : Nat} (hk1 : N 1 = nI k) (hk3 : k ≤ 3) {x y z : Int32} {b : Int64} (hx : x < 0 ∨ nI k ≤ x) : call 85 [.ref B, .int x, .int y, .int z, .long b] w I L P = some (.inr 2, thrT w, I, L, P) := by
  obtain ⟨hw, p0, tb, hst, q, k0, n, md, hq, hbc, hlg⟩ := CW_bc h
  have t0 := hw.1
  obtain ⟨⟨hk0, hk, h1, i1⟩, -, -, -, -, -, hbq, -⟩ := hbc
  have ek : k0 = k := by
    rw [h1, nI_eq (by omega) (by omega)] at hk1
    exact hk1
  subst ek
  obtain ⟨co1, co2⟩ := cl_cOT hw p0 hbq hk I L i1
  rw [Two_write_E, Two_write_0 _ _ _ _ _ _ _ _ _ _ _ t0, co2 x hx, kC_thr]
theorem cx_read (h : CW B w I L P N st Ks len tx T) {k c : Nat} (hk1 : N 1 = nI k) (hk3 : k ≤ 3) (hck : c < k) (y z : Int32) : call 86 [.ref B, .int (nI c), .int y, .int z] w I L P = if qOk y z 0 then go 86 20 [.ref B, .int (nI c), .int y, .int z, .ref (B + 1 + 7 + 7 * c)] [] w I L P else some (.inr 0, thrT w, I, L, P) := by
  obtain ⟨hw, p0, tb, hst, q, k0, n, md, hq, hbc, hlg⟩ := CW_bc h
  have t0 := hw.1
  obtain ⟨⟨hk0, hk, h1, i1⟩, -, -, -, -, -, hbq, -⟩ := hbc
  have ek : k0 = k := by
    rw [h1, nI_eq (by omega) (by omega)] at hk1
    exact hk1
  subst ek
  obtain ⟨co1, co2⟩ := cl_cOT hw p0 hbq hk I L i1
  rw [Two_read_E, Two_read_0 _ _ _ _ _ _ _ _ _ t0, co1 c hck]
  simp only [kC_ret, Option.toList, List.cons_append, List.nil_append, fix1_int, fix1_ref, fix1_unk, fix1_null, fix1_long]
  rw [Two_read_5_1, cl_range, fix1_int]
  by_cases g1 : RG y 0 127
  · rw [if_pos g1]
    simp only [kC_ret, Option.toList, List.cons_append, List.nil_append, fix1_int, fix1_ref, fix1_unk, fix1_null, fix1_long]
    rw [Two_read_14, cl_range]
    by_cases g2 : RG z 1 4
    · rw [if_pos g2]
      simp only [kC_ret, Option.toList, List.cons_append, List.nil_append, fix1_int, fix1_ref, fix1_unk, fix1_null, fix1_long]
      obtain ⟨cnt, hc1, hc4, rfl⟩ := RG_ex (by omega) (by omega) g2
      have l0 : (0 : Int64) ≤ 0 ∧ (0 : Int64) ≤ mostV (nI cnt) := by
        rcases (show cnt = 1 ∨ cnt = 2 ∨ cnt = 3 ∨ cnt = 4 by omega) with rfl | rfl | rfl | rfl <;> decide
      rw [if_pos ⟨g1, g2, l0⟩]
    · rw [if_neg g2, kC_thr, if_neg (fun g => g2 g.2.1)]
  · rw [if_neg g1, kC_thr, if_neg (fun g => g1 g.1)]
theorem cc_read (h : CW B w I L P N st Ks len tx T) {k c s a cnt : Nat} (hk1 : N 1 = nI k) (hk3 : k ≤ 3) (hck : c < k) (e0 : N (207 + 40 * c) = nI s) (hs4 : s ≤ 4) (ha : a < 128) (hc1 : 1 ≤ cnt) (hc4 : cnt ≤ 4) : (s = 4 → call 86 [.ref B, .int (nI c), .int (nI a), .int (nI cnt)] w I L P = some (.inr 1, thrT w, I, L, P)) ∧ (s < 4 → Cok B w I L P (.int (nI (s + 1))) (queN N c s (nI a) (nI 1) (nI cnt) 0) (svS st) (svK st Ks N) len tx T (call 86 [.ref B, .int (nI c), .int (nI a), .int (nI cnt)] w I L P)) := by
  have c5 := cx_read h hk1 hk3 hck (nI a) (nI cnt)
  have l0 : (0 : Int64) ≤ 0 ∧ (0 : Int64) ≤ mostV (nI cnt) := by
    rcases (show cnt = 1 ∨ cnt = 2 ∨ cnt = 3 ∨ cnt = 4 by omega) with rfl | rfl | rfl | rfl <;> decide
  rw [if_pos ⟨RG_of (by omega) (by omega) (by omega), RG_of hc1 hc4 (by omega), l0⟩] at c5
  obtain ⟨hw, p0, tb, hst, q, k0, n, md, hq, hbc, hlg⟩ := CW_bc h
  have t0 := hw.1
  have ek : k0 = k := by
    rw [hbc.1.2.2.1, nI_eq (by have := hbc.1.2.1; omega) (by omega)] at hk1
    exact hk1
  subst ek
  obtain ⟨q1, q2⟩ := cl_queue (b := 0) h hbc hck e0 hs4 ha (Or.inr rfl : nI 1 = nI 0 ∨ nI 1 = nI 1) hc1 hc4
  refine ⟨fun hs => ?_, fun hs => ?_⟩
  · rw [c5, Two_read_20_1 _ _ _ _ _ _ _ _ _ t0, q1 hs, kC_thr]
  · obtain ⟨J, K, Q, r1, r2, r3⟩ := q2 hs
    refine ⟨J, K, Q, ?_, r2, r3⟩
    rw [c5, Two_read_20_1 _ _ _ _ _ _ _ _ _ t0, r1]
    simp only [kC_ret, Option.toList, List.cons_append, List.nil_append, fix1_int, fix1_ref, fix1_unk, fix1_null, fix1_long]
    rw [Two_read_30]
theorem ce_read0 (h : CW B w I L P N st Ks len tx T) {k c : Nat} (hk1 : N 1 = nI k) (hk3 : k ≤ 3) (hck : c < k) {y z : Int32} (hn : ¬ qOk y z 0) : call 86 [.ref B, .int (nI c), .int y, .int z] w I L P = some (.inr 0, thrT w, I, L, P) := by
  rw [cx_read h hk1 hk3 hck y z, if_neg hn]
theorem ce_read2 (h : CW B w I L P N st Ks len tx T) {k : Nat} (hk1 : N 1 = nI k) (hk3 : k ≤ 3) {x y z : Int32} (hx : x < 0 ∨ nI k ≤ x) : call 86 [.ref B, .int x, .int y, .int z] w I L P = some (.inr 2, thrT w, I, L, P) := by
  obtain ⟨hw, p0, tb, hst, q, k0, n, md, hq, hbc, hlg⟩ := CW_bc h
  have t0 := hw.1
  obtain ⟨⟨hk0, hk, h1, i1⟩, -, -, -, -, -, hbq, -⟩ := hbc
  have ek : k0 = k := by
    rw [h1, nI_eq (by omega) (by omega)] at hk1
    exact hk1
  subst ek
  obtain ⟨co1, co2⟩ := cl_cOT hw p0 hbq hk I L i1
  rw [Two_read_E, Two_read_0 _ _ _ _ _ _ _ _ _ t0, co2 x hx, kC_thr]
theorem cc_pass (h : CW B w I L P N st Ks len tx T) (hT : T < 2147000000) {f : Nat} (hf1 : 1 ≤ f) (hf2 : f ≤ 200) : Cok B w I L P (.int (slotsN N f 0)) (slotsN N f) (svS st) (svK st Ks N) len tx (T + 4000) (call 88 [.ref B, .int (nI f)] w I L P) := by
  obtain ⟨hw, p0, tb, hst, -⟩ := CW_bc h
  obtain ⟨q, hqT, hg, h0⟩ := CW_GN h
  have t0 := hw.1
  have hx : RG (nI f) 1 200 := RG_of hf1 hf2 (by omega)
  obtain ⟨hgo, hgq⟩ := GN_ok (GN_slots hg f (by omega))
  obtain ⟨J, K, Q, a1, a2, a3⟩ := cl_save h
  have a2' := a2
  obtain ⟨-, ⟨r, hp', -⟩, -, ⟨q', hq', hbr'⟩, -⟩ := a2'
  have eq : q' = q := by
    have := hbr'.2.1
    rw [h0, nI_eq (by omega) (by omega)] at this
    exact this.symm
  subst eq
  obtain ⟨J2, Q2, b1, b2, b3⟩ := cl_slots (f := f) tb hbr' (by omega)
  have hbq2 := BR_BS b2
  have f2 : Fr (B + 1) (B + 41) J J2 K K Q Q2 := b3
  have hB : Q2 B 0 = some (B + 1) := by rw [(b3 B (by omega)).2.2]; exact hp'.1
  refine ⟨J2, K, Q2, ?_, CW_bus a2 f2 (by omega) (by omega) b2, Fr_trans (FvS_Fr a3) (Fr_B f2)⟩
  rw [Two_pass_E, Two_pass_0, cl_range, if_pos hx]
  simp only [kC_ret, Option.toList, List.cons_append, List.nil_append, fix1_int, fix1_ref, fix1_unk, fix1_null, fix1_long]
  rw [Two_pass_8 _ _ _ _ _ _ t0, a1]
  simp only [kC_ret, Option.toList, List.cons_append, List.nil_append, fix1_int, fix1_ref, fix1_unk, fix1_null, fix1_long]
  rw [Two_pass_12 _ _ _ _ _ _ t0, hp'.1, rf_some, Two_pass_16 _ _ _ _ _ _ _ tb.1, b1]
  simp only [kC_ret, Option.toList, List.cons_append, List.nil_append, fix1_int, fix1_ref, fix1_unk, fix1_null, fix1_long]
  rw [Two_pass_20 _ _ _ _ _ _ t0, hB, rf_some, Two_pass_24 _ _ _ _ _ _ _ tb.1, hbq2.1.2.2.1, rf_some, Two_pass_27 _ _ _ _ _ _ _ tb.2.2.2.1, b2.2.2.1, ← b2.2.1]
theorem ce_pass {x : Int32} (hx : ¬ RG x 1 200) : call 88 [.ref B, .int x] w I L P = some (.inr 0, thrT w, I, L, P) := by
  rw [Two_pass_E, Two_pass_0, cl_range, if_neg hx, kC_thr]
theorem cc_finish (h : CW B w I L P N st Ks len tx T) (hT : T < 2147000000) {f : Nat} (hf1 : f ≤ 1291) (hf2 : doneN (slotsN N f)) (hf3 : ∀ j, j < f → ¬ doneN (slotsN N j)) : Cok B w I L P (.int (nI f)) (slotsN N f) (svS st) (svK st Ks N) len tx (T + 4000) (call 89 [.ref B] w I L P) := by
  obtain ⟨hw, p0, tb, hst, -⟩ := CW_bc h
  obtain ⟨q, hqT, hg, h0⟩ := CW_GN h
  have t0 := hw.1
  obtain ⟨J, K, Q, a1, a2, a3⟩ := cl_save h
  have a2' := a2
  obtain ⟨-, ⟨r, hp', -⟩, -, ⟨q', hq', hbr'⟩, -⟩ := a2'
  have eq : q' = q := by
    have := hbr'.2.1
    rw [h0, nI_eq (by omega) (by omega)] at this
    exact this.symm
  subst eq
  obtain ⟨J2, Q2, b1, b2, b3⟩ := cl_rest tb hbr' (by omega) (by omega) hf2 hf3
  have f2 : Fr (B + 1) (B + 41) J J2 K K Q Q2 := b3
  refine ⟨J2, K, Q2, ?_, CW_bus a2 f2 (by omega) (by omega) b2, Fr_trans (FvS_Fr a3) (Fr_B f2)⟩
  rw [Two_finish_E, Two_finish_0 _ _ _ _ _ t0, a1]
  simp only [kC_ret, Option.toList, List.cons_append, List.nil_append, fix1_int, fix1_ref, fix1_unk, fix1_null, fix1_long]
  rw [Two_finish_4 _ _ _ _ _ t0, hp'.1, rf_some, Two_finish_8 _ _ _ _ _ _ tb.1, b1]
  simp only [kC_ret, Option.toList, List.cons_append, List.nil_append, fix1_int, fix1_ref, fix1_unk, fix1_null, fix1_long]
  rw [Two_finish_11]
theorem cc_slotsToFinish (h : CW B w I L P N st Ks len tx T) (hT : T < 2147000000) {f : Nat} (hf1 : f ≤ 1291) (hf2 : doneN (slotsN N f)) (hf3 : ∀ j, j < f → ¬ doneN (slotsN N j)) : Cok B w I L P (.int (nI f)) N st Ks len tx T (call 96 [.ref B] w I L P) := by
  obtain ⟨hw, p0, tb, hst, -⟩ := CW_bc h
  obtain ⟨q, hqT, hg, h0⟩ := CW_GN h
  have t0 := hw.1
  obtain ⟨J, K, Q, a1, a2, -, a4⟩ := cl_trial h hT h0 (by omega) (by omega) hf2 hf3
  refine ⟨J, K, Q, ?_, a2, Fr_mono a4 (by omega) (by omega)⟩
  rw [Two_slotsToFinish_E, Two_slotsToFinish_0 _ _ _ _ _ t0, a1]
  simp only [kC_ret, Option.toList, List.cons_append, List.nil_append, fix1_int, fix1_ref, fix1_unk, fix1_null, fix1_long]
  rw [Two_slotsToFinish_4]
end
