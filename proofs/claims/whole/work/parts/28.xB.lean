/-! calls: write, read, cancel -/
def mostV (z : Int32) : Int64 := if z ≠ nI 1 then (if z ≠ nI 2 then (if z ≠ nI 3 then 4294967295 else 16777215) else 65535) else 255
theorem mo_most (z : Int32) (w : Wd) (I : MI) (L : ML) (P : MP) : call 160 [.int z] w I L P = some (.inl (some (.long (mostV z))), w, I, L, P) := by
  rw [Model_most_E, Model_most_0]
  unfold mostV
  by_cases h1 : z = nI 1
  · rw [if_neg (by simp [h1]), if_neg (by simp [h1]), Model_most_5, Model_most_36]
  · rw [if_pos h1, if_pos h1, Model_most_11]
    by_cases h2 : z = nI 2
    · rw [if_neg (by simp [h2]), if_neg (by simp [h2]), Model_most_16, Model_most_36]
    · rw [if_pos h2, if_pos h2, Model_most_22]
      by_cases h3 : z = nI 3
      · rw [if_neg (by simp [h3]), if_neg (by simp [h3]), Model_most_27, Model_most_36]
      · rw [if_pos h3, if_pos h3, Model_most_33, Model_most_36]
theorem by_ok {cnt : Nat} (h0 : 0 < cnt) (h4 : cnt ≤ 4) (b : Int64) : (¬ lg_cmp b 0 < 0 ∧ lg_cmp b (1 <<< (Int32.toInt64 ((nI 8) * nI cnt) &&& 63)) < 0) ↔ (0 ≤ b ∧ b ≤ mostV (nI cnt)) := by
  rw [lg_cmp_lt, lg_cmp_lt, Int64.not_lt]
  have key : ∀ (u v : Int64) (m : Int), u.toInt = m + 1 → v.toInt = m → (b < u ↔ b ≤ v) := by
    intro u v m hu hv
    rw [Int64.lt_iff_toInt_lt, Int64.le_iff_toInt_le, hu, hv]
    omega
  rcases (show cnt = 1 ∨ cnt = 2 ∨ cnt = 3 ∨ cnt = 4 by omega) with rfl | rfl | rfl | rfl
  · rw [key _ (mostV (nI 1)) 255 (by decide) (by decide)]
  · rw [key _ (mostV (nI 2)) 65535 (by decide) (by decide)]
  · rw [key _ (mostV (nI 3)) 16777215 (by decide) (by decide)]
  · rw [key _ (mostV (nI 4)) 4294967295 (by decide) (by decide)]
/-- what a queued message must keep to -/
abbrev qOk (y z : Int32) (b : Int64) : Prop := RG y 0 127 ∧ RG z 1 4 ∧ (0 ≤ b ∧ b ≤ mostV z)
theorem mo_queues1 {w : Wd} {P : MP} {mo d : Nat} (h7 : w.1 mo = some (7, 0)) (hd : w.1 d = some (8, 459)) (p0 : P mo 0 = some d) {k : Nat} (I : MI) (L : ML) (h1 : I d 1 = nI k) (hk : k ≤ 3) (x y rd z : Int32) (b : Int64) (hx : ¬ ∃ c, c < k ∧ x = nI c) : call 161 [.ref mo, .int x, .int y, .int rd, .int z, .long b] w I L P = some (.inl (some (.int (nI 1))), w, I, L, P) := by
  rw [Model_queues_E, Model_queues_0 _ _ _ _ _ _ _ _ _ _ _ _ _ h7, mo_isCaller h7 hd p0, h1, if_neg (fun q => hx ((mo_ix (by omega)).mp q))]
  simp only [kC_ret, Option.toList, List.cons_append, List.nil_append, fix1_int, fix1_ref, fix1_unk, fix1_null, fix1_long]
  rw [Model_queues_5, if_neg (by simp [n00]), Model_queues_8]
theorem mo_queues2 {w : Wd} {P : MP} {mo d : Nat} (h7 : w.1 mo = some (7, 0)) (hd : w.1 d = some (8, 459)) (p0 : P mo 0 = some d) {k c : Nat} (I : MI) (L : ML) (h1 : I d 1 = nI k) (hk : k ≤ 3) (hc : c < k) (y rd z : Int32) (b : Int64) : (¬ qOk y z b → call 161 [.ref mo, .int (nI c), .int y, .int rd, .int z, .long b] w I L P = some (.inl (some (.int (nI 2))), w, I, L, P)) ∧ (qOk y z b → call 161 [.ref mo, .int (nI c), .int y, .int rd, .int z, .long b] w I L P = go 161 51 [.ref mo, .int (nI c), .int y, .int rd, .int z, .long b, unk, unk, unk] [] w I L P) := by
  have st : call 161 [.ref mo, .int (nI c), .int y, .int rd, .int z, .long b] w I L P = if RG y 0 127 then (if RG z 1 4 then (if 0 ≤ b ∧ b ≤ mostV z then go 161 51 [.ref mo, .int (nI c), .int y, .int rd, .int z, .long b, unk, unk, unk] [] w I L P else some (.inl (some (.int (nI 2))), w, I, L, P)) else some (.inl (some (.int (nI 2))), w, I, L, P)) else some (.inl (some (.int (nI 2))), w, I, L, P) := by
    rw [Model_queues_E, Model_queues_0 _ _ _ _ _ _ _ _ _ _ _ _ _ h7, mo_isCaller h7 hd p0, h1, if_pos ((mo_ix (by omega)).mpr ⟨c, hc, rfl⟩)]
    simp only [kC_ret, Option.toList, List.cons_append, List.nil_append, fix1_int, fix1_ref, fix1_unk, fix1_null, fix1_long]
    rw [Model_queues_5, if_pos n10, Model_queues_10, mo_rg y 0 127 0 127 l0_i l127_i]
    simp only [kC_ret, Option.toList, List.cons_append, List.nil_append, fix1_int, fix1_ref, fix1_unk, fix1_null, fix1_long]
    rw [Model_queues_19]
    by_cases g1 : RG y 0 127
    · rw [if_pos g1, if_pos g1, if_neg n10, Model_queues_22, mo_rg z 1 4 1 4 l1_i l4_i]
      simp only [kC_ret, Option.toList, List.cons_append, List.nil_append, fix1_int, fix1_ref, fix1_unk, fix1_null, fix1_long]
      rw [Model_queues_32]
      by_cases g2 : RG z 1 4
      · rw [if_pos g2, if_pos g2, if_neg n10, Model_queues_35, mo_most]
        simp only [kC_ret, Option.toList, List.cons_append, List.nil_append, fix1_int, fix1_ref, fix1_unk, fix1_null, fix1_long]
        rw [Model_queues_43, mo_in]
        simp only [kC_ret, Option.toList, List.cons_append, List.nil_append, fix1_int, fix1_ref, fix1_unk, fix1_null, fix1_long]
        rw [Model_queues_46]
        by_cases g3 : 0 ≤ b ∧ b ≤ mostV z
        · rw [if_pos g3, if_pos g3, if_pos n10]
        · rw [if_neg g3, if_neg g3, if_neg (by simp [n00]), Model_queues_49]
      · rw [if_neg g2, if_neg g2, if_pos n00, Model_queues_49]
    · rw [if_neg g1, if_neg g1, if_pos n00, Model_queues_49]
  rw [st]
  constructor
  · intro hn
    by_cases g1 : RG y 0 127
    · rw [if_pos g1]
      by_cases g2 : RG z 1 4
      · rw [if_pos g2, if_neg (fun g3 => hn ⟨g1, g2, g3⟩)]
      · rw [if_neg g2]
    · rw [if_neg g1]
  · rintro ⟨g1, g2, g3⟩
    rw [if_pos g1, if_pos g2, if_pos g3]
theorem mo_queues3 {w : Wd} {P : MP} {mo d : Nat} (h7 : w.1 mo = some (7, 0)) (hd : w.1 d = some (8, 459)) (p0 : P mo 0 = some d) {c : Nat} (I : MI) (L : ML) (hc : c < 3) (h0 : I d (207 + 40 * c) = nI 4) (y rd z : Int32) (b : Int64) : go 161 51 [.ref mo, .int (nI c), .int y, .int rd, .int z, .long b, unk, unk, unk] [] w I L P = some (.inl (some (.int (nI 3))), w, I, L, P) := by
  rw [Model_queues_51 _ _ _ _ _ _ _ _ _ _ _ _ _ h7, mo_of h7 hd p0 (c := c) (k := 0) (by omega), Nat.add_zero, h0]
  simp only [kC_ret, Option.toList, List.cons_append, List.nil_append, fix1_int, fix1_ref, fix1_unk, fix1_null, fix1_long]
  rw [Model_queues_57, if_neg (by simp), Model_queues_61]
theorem mo_queues4 {w : Wd} {P : MP} {mo d : Nat} (h7 : w.1 mo = some (7, 0)) (hd : w.1 d = some (8, 459)) (p0 : P mo 0 = some d) {c s : Nat} (hmd : mo ≠ d) (I : MI) (L : ML) (hc : c < 3) (hs : s < 4) (h0 : I d (207 + 40 * c) = nI s) (y rd z : Int32) (b : Int64) : go 161 51 [.ref mo, .int (nI c), .int y, .int rd, .int z, .long b, unk, unk, unk] [] w I L P = some (.inl (some (.int (nI 0))), w, wr (wr I d (queN (I d) c s y rd z b)) mo (sN (I mo) 7 (nI (s + 1))), L, P) := by
  have hne : nI s ≠ nI 4 := fun q => by rw [nI_eq (by omega) (by omega)] at q; omega
  have e5 : 207 + 40 * c + 8 + 8 * s = 215 + 40 * c + 8 * s := by omega
  rw [Model_queues_51 _ _ _ _ _ _ _ _ _ _ _ _ _ h7, mo_of h7 hd p0 (c := c) (k := 0) (by omega), Nat.add_zero, h0]
  simp only [kC_ret, Option.toList, List.cons_append, List.nil_append, fix1_int, fix1_ref, fix1_unk, fix1_null, fix1_long]
  rw [Model_queues_57, if_pos hne, Model_queues_63 _ _ _ _ _ _ _ _ _ _ _ _ _ h7, mo_of h7 hd p0 (c := c) (k := 0) (by omega), Nat.add_zero, h0]
  simp only [kC_ret, Option.toList, List.cons_append, List.nil_append, fix1_int, fix1_ref, fix1_unk, fix1_null, fix1_long]
  rw [Model_queues_82 _ _ _ _ _ _ _ _ _ _ _ _ _ _ _ _ h7, p0, rf_some, pk_mul, pk_mul, nI_add, nI_add, nI_add, e5]
  simp only [kC_ret, Option.toList, List.cons_append, List.nil_append, fix1_int, fix1_ref, fix1_unk, fix1_null, fix1_long]
  rw [Model_queues_90 _ _ _ _ _ _ _ _ _ _ _ _ _ _ (inA_nI hd (by omega) (by omega)) h7, p0, rf_some, Model_queues_98 _ _ _ _ _ _ _ _ _ _ _ _ _ _ (by rw [nI_add]; exact inA_nI hd (by omega) (by omega)) h7, p0, rf_some, nI_add, Model_queues_108 _ _ _ _ _ _ _ _ _ _ _ _ _ _ (by rw [nI_add]; exact inA_nI hd (by omega) (by omega)) h7, p0, rf_some, nI_add, Model_queues_119 _ _ _ _ _ _ _ _ _ _ _ _ _ _ (by rw [nI_add]; exact inA_nI hd (by omega) (by omega)), nI_add, cl_nI (by omega), cl_nI (by omega), cl_nI (by omega), cl_nI (by omega)]
  simp only [updI_wr, wr_wr, wr_same]
  have loop : ∀ (X : Nat → Int32) (v6 : Value) k, k < 4 → go 161 128 [.ref mo, .int (nI c), .int y, .int rd, .int z, .long b, v6, .int (nI (215 + 40 * c + 8 * s)), .int (nI k)] [] w (wr I d X) L P = go 161 128 [.ref mo, .int (nI c), .int y, .int rd, .int z, .long b, v6, .int (nI (215 + 40 * c + 8 * s)), .int (nI (k + 1))] [] w (wr I d (sN X (215 + 40 * c + 8 * s + 4 + k) (qby rd z b k))) L P := by
    intro X v6 k hk
    have fin : ∀ v, go 161 179 [.ref mo, .int (nI c), .int y, .int rd, .int z, .long b, v6, .int (nI (215 + 40 * c + 8 * s)), .int (nI k)] [.int v, .int (nI (215 + 40 * c + 8 * s + 4 + k)), .ref d] w (wr I d X) L P = go 161 128 [.ref mo, .int (nI c), .int y, .int rd, .int z, .long b, v6, .int (nI (215 + 40 * c + 8 * s)), .int (nI (k + 1))] [] w (wr I d (sN X (215 + 40 * c + 8 * s + 4 + k) v)) L P := by
      intro v
      rw [Model_queues_179 _ _ _ _ _ _ _ _ _ _ _ _ _ _ _ _ (inA_nI hd (by omega) (by omega)), cl_nI (by omega), updI_wr, wr_wr, wr_same, nI_add, fix1_int]
    rw [Model_queues_128, if_neg (nI_ge hk (by omega)), Model_queues_134 _ _ _ _ _ _ _ _ _ _ _ _ _ h7, p0, rf_some, Model_queues_138, nI_add, nI_add]
    unfold qby
    by_cases g1 : rd = nI 1
    · rw [if_pos g1, if_pos g1, Model_queues_157, fin]
    · rw [if_neg g1, if_neg g1, Model_queues_150]
      by_cases g2 : nI k < z
      · rw [if_pos g2, if_pos g2, Model_queues_161, fin]
      · rw [if_neg g2, if_neg g2, Model_queues_157, fin]
  rw [loop _ _ 0 (by omega), loop _ _ 1 (by omega), loop _ _ 2 (by omega), loop _ _ 3 (by omega), Model_queues_128, if_pos (nI_le (by omega) (by omega)), Model_queues_186 _ _ _ _ _ _ _ _ _ _ _ _ _ h7, mo_adds h7 hd p0 (c := c) (k := 0) (by omega), Nat.add_zero]
  simp only [kC_ret, Option.toList, List.cons_append, List.nil_append, fix1_int, fix1_ref, fix1_unk, fix1_null, fix1_long]
  rw [Model_queues_193 _ _ _ _ _ _ _ _ _ _ _ _ _ h7, mo_of h7 hd p0 (c := c) (k := 0) (by omega), Nat.add_zero]
  simp only [kC_ret, Option.toList, List.cons_append, List.nil_append, fix1_int, fix1_ref, fix1_unk, fix1_null, fix1_long]
  rw [Model_queues_200 _ _ _ _ _ _ _ _ _ _ _ _ _ _ _ h7]
  simp only [updI_wr, wr_wr, wr_same, sN_eq, Nat.add_zero]
  have e0 : ∀ X, X = sN (sN (sN (sN (sN (sN (sN (sN (I d) (215 + 40 * c + 8 * s) y) (215 + 40 * c + 8 * s + 1) rd) (215 + 40 * c + 8 * s + 2) z) (215 + 40 * c + 8 * s + 3) (nI 0)) (215 + 40 * c + 8 * s + 4) (qby rd z b 0)) (215 + 40 * c + 8 * s + 4 + 1) (qby rd z b 1)) (215 + 40 * c + 8 * s + 4 + 2) (qby rd z b 2)) (215 + 40 * c + 8 * s + 4 + 3) (qby rd z b 3) → X (207 + 40 * c) + nI 1 = nI (s + 1) := by
    rintro X rfl
    rw [sN_ne (by omega), sN_ne (by omega), sN_ne (by omega), sN_ne (by omega), sN_ne (by omega), sN_ne (by omega), sN_ne (by omega), sN_ne (by omega), h0, nI_add]
  rw [e0 _ rfl, wr_ne _ _ hmd]
  rfl
section
variable {B : Nat} {w : Wd} {I : MI} {L : ML} {P : MP} {N : Nat → Int32} {st : Nat} {Ks : Nat → Nat → Int32} {len : Nat} {tx : Nat → Nat} {T : Nat}
theorem mw_endsF (h : MW B w I P N st Ks len tx) {c : Nat} (hc : 0 < c) (hc2 : c < 100) : Mok B w I L P (.int (nI 0)) c N st Ks len tx (call 137 [.ref (B + 284), .int (nI c)] w I L P) := by
  obtain ⟨J3, K3, d1, d2, d3, d4⟩ := mw_fails (L := L) h c
  refine ⟨J3, K3, ?_, d2, d3, d4⟩
  rw [Model_ends_E, Model_ends_0, if_neg (nI_nle hc (by omega)), Model_ends_4 _ _ _ _ _ _ h.1.1, d1]
  simp only [kC_ret, Option.toList, List.cons_append, List.nil_append, fix1_int, fix1_ref, fix1_unk, fix1_null, fix1_long]
  rw [Model_ends_9]
theorem mw_endsS {A : Nat → Int32} {v : Int32} (h : MW B w I P N st Ks len tx) (hst : st ≤ 4) (hA : ∀ j, j < 459 → I (B + 287) j = A j) (hv : I (B + 284) 7 = v) : Mok B w I L P (.int v) 0 N (svS st) (svK st Ks A) len tx (call 137 [.ref (B + 284), .int (nI 0)] w I L P) := by
  obtain ⟨J, a1, a2, a3, a4, a5⟩ := mw_saves (L := L) h hst hA
  obtain ⟨J3, K3, d1, d2, d3, d4⟩ := mw_well (L := L) a2 v
  refine ⟨J3, K3, ?_, d2, d3, Fr_trans a5 d4⟩
  rw [Model_ends_E, Model_ends_0, if_pos (by decide), Model_ends_10 _ _ _ _ _ _ h.1.1, a1]
  simp only [kC_ret, Option.toList, List.cons_append, List.nil_append, fix1_int, fix1_ref, fix1_unk, fix1_null, fix1_long]
  rw [Model_ends_14 _ _ _ _ _ _ h.1.1, a4 7 (by omega), hv, d1]
  simp only [kC_ret, Option.toList, List.cons_append, List.nil_append, fix1_int, fix1_ref, fix1_unk, fix1_null, fix1_long]
  rw [Model_ends_22]
/-- a message is queued by the class -/
theorem cl_queue (h : CW B w I L P N st Ks len tx T) {k n md c s a cnt : Nat} {rd : Int32} {b : Int64} (hbc : BC (B + 1) N I L P k n md) (hck : c < k) (e0 : N (207 + 40 * c) = nI s) (hs4 : s ≤ 4) (ha : a < 128) (hr : rd = nI 0 ∨ rd = nI 1) (hc0 : 0 < cnt) (hc4 : cnt ≤ 4) : (s = 4 → call 113 [.ref B, .ref (B + 1 + 7 + 7 * c), .int rd, .int (nI a), .int (nI cnt), .long b] w I L P = some (.inr 1, thrT w, I, L, P)) ∧ (s < 4 → Cok B w I L P (.int (nI (s + 1))) (queN N c s (nI a) rd (nI cnt) b) (svS st) (svK st Ks N) len tx T (call 113 [.ref B, .ref (B + 1 + 7 + 7 * c), .int rd, .int (nI a), .int (nI cnt), .long b] w I L P)) := by
  obtain ⟨hw, p0, tb, hst, -⟩ := CW_bc h
  have t0 := hw.1
  have hk : k ≤ 3 := hbc.1.2.1
  have tc := (tb.2.2.2.2.2.1 c (by omega)).1
  obtain ⟨qq, s', hp, g1, g2, g3, -⟩ := hbc.2.2.2.2.2.2.2.1 c (by omega)
  have es : s' = s := by
    rw [e0, nI_eq (by omega) (by omega)] at g2
    exact g2.symm
  subst es
  constructor
  · intro e
    rw [Two_queueMessage_E, Two_queueMessage_0 _ _ _ _ _ _ _ _ _ _ _ tc, g3, e, if_neg (by decide), Two_queueMessage_8]
  · intro hs
    obtain ⟨J, K, Q, a1, a2, a3⟩ := cl_save h
    obtain ⟨-, p0', -, -, q', k', n', md', hq', hbc', hlg'⟩ := CW_bc a2
    have ek : k' = k := by
      have h1 := hbc'.1.2.2.1
      rw [hbc.1.2.2.1, nI_eq (by omega) (by have := hbc'.1.2.1; omega)] at h1
      exact h1.symm
    subst ek
    obtain ⟨J2, K2, b1, b2, b3, b4⟩ := BR_enq (bt := b) tb hbc' hlg' hck hs e0 ha hr hc0 hc4
    have f2 : Fr (B + 1) (B + 41) J J2 K K2 Q Q := Fr_mono b4 (by omega) (by omega)
    refine ⟨J2, K2, Q, ?_, CW_bus a2 f2 (Nat.le_refl T) hq' b2, Fr_trans (FvS_Fr a3) (Fr_B f2)⟩
    rw [Two_queueMessage_E, Two_queueMessage_0 _ _ _ _ _ _ _ _ _ _ _ tc, g3, if_pos (nI_lt hs (by omega)), Two_queueMessage_18 _ _ _ _ _ _ _ _ _ _ _ t0, a1]
    simp only [kC_ret, Option.toList, List.cons_append, List.nil_append, fix1_int, fix1_ref, fix1_unk, fix1_null, fix1_long]
    rw [Two_queueMessage_22 _ _ _ _ _ _ _ _ _ _ _ tc, b1]
    simp only [kC_ret, Option.toList, List.cons_append, List.nil_append, fix1_int, fix1_ref, fix1_unk, fix1_null, fix1_long]
    rw [Two_queueMessage_32 _ _ _ _ _ _ _ _ _ _ _ _ tc, b3]
end
