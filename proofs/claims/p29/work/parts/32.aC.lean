/-! the class's calls, each by its answers: cancel, and what is told -/
section
variable {B : Nat} {w : Wd} {I : MI} {L : ML} {P : MP} {N : Nat → Int32} {st : Nat} {Ks : Nat → Nat → Int32} {len : Nat} {tx : Nat → Nat} {T : Nat}
theorem cc_cancel (h : CW B w I L P N st Ks len tx T) {k c s' : Nat} (hk1 : N 1 = nI k) (hk3 : k ≤ 3) (hck : c < k) (e0 : N (207 + 40 * c) = nI s') (hs4 : s' ≤ 4) : (s' = 0 ∨ (s' = 1 ∧ conB N (nI c)) → call 87 [.ref B, .int (nI c)] w I L P = some (.inr 1, thrT w, I, L, P)) ∧ (∀ s, s' = s + 1 → ¬ (s' = 0 ∨ (s' = 1 ∧ conB N (nI c))) → Cok B w I L P (.int (N (215 + 40 * c + 8 * s))) (sN N (207 + 40 * c) (nI s)) (svS st) (svK st Ks N) len tx T (call 87 [.ref B, .int (nI c)] w I L P)) := by
  obtain ⟨hw, p0, tb, hst, q, k0, n, md, hq, hbc, hlg⟩ := CW_bc h
  have t0 := hw.1
  have hbc' := hbc
  obtain ⟨⟨hk0, hk, h1, i1⟩, -, -, -, i7, -, hbq, hcs, -, -, hi, -⟩ := hbc'
  have ek0 : k0 = k := by
    rw [h1, nI_eq (by omega) (by omega)] at hk1
    exact hk1
  subst ek0
  obtain ⟨co1, co2⟩ := cl_cOT hw p0 hbq hk I L i1
  have hc3 : c < 3 := by omega
  have tc := tb.2.2.2.2.2.1 c hc3
  obtain ⟨qq, s0, hp, g1, g2, g3, -⟩ := hcs c hc3
  have es : s0 = s' := by
    rw [e0, nI_eq (by omega) (by omega)] at g2
    exact g2.symm
  subst es
  have cc : call 87 [.ref B, .int (nI c)] w I L P = if s0 = 0 ∨ (s0 = 1 ∧ conB N (nI c)) then some (.inr 1, thrT w, I, L, P) else go 87 52 [.ref B, .int (nI c), .ref (B + 1 + 7 + 7 * c)] [] w I L P := by
    rw [Two_cancel_E, Two_cancel_0 _ _ _ _ _ _ _ t0, co1 c hck]
    simp only [kC_ret, Option.toList, List.cons_append, List.nil_append, fix1_int, fix1_ref, fix1_unk, fix1_null, fix1_long]
    rw [Two_cancel_5 _ _ _ _ _ _ _ _ tc.1, g3, fix1_int]
    by_cases z : s0 = 0
    · rw [z, if_neg (by simp [n00]), Two_cancel_13, if_pos (Or.inl rfl)]
    · rw [if_pos (nI_ne0 (by omega) (by omega)), Two_cancel_23 _ _ _ _ _ _ _ tc.1, g3]
      by_cases z1 : s0 = 1
      · rw [z1, if_neg (by simp), Two_cancel_31 _ _ _ _ _ _ _ t0, p0, rf_some, Two_cancel_35 _ _ _ _ _ _ _ _ tb.1, cl_contends tb, i7]
        simp only [kC_ret, Option.toList, List.cons_append, List.nil_append, fix1_int, fix1_ref, fix1_unk, fix1_null, fix1_long]
        rw [Two_cancel_39]
        by_cases z2 : conB N (nI c)
        · rw [if_pos (show conB' (N 5) (nI c) from z2), if_neg n10, Two_cancel_42, if_pos (Or.inr ⟨by first | trivial | rfl, z2⟩)]
        · rw [if_neg (show ¬ conB' (N 5) (nI c) from z2), if_pos n00, if_neg (by rintro (g | g); exact absurd g (by omega); exact z2 g.2)]
      · rw [if_pos (fun g => by rw [nI_eq (by omega) (by omega)] at g; exact z1 g), if_neg (by rintro (g | g); exact z g; exact z1 g.1)]
  refine ⟨fun hf => by rw [cc, if_pos hf], ?_⟩
  intro s hss hf
  subst hss
  obtain ⟨J, K, Q, a1, a2, a3⟩ := cl_save h
  obtain ⟨-, p0', -, -, q', k', n', md', hq', hbc', hlg'⟩ := CW_bc a2
  have hbc'' := hbc'
  obtain ⟨⟨-, hk', h1', -⟩, -, -, -, -, -, -, hcs', -, -, hi', -⟩ := hbc''
  have ek : k' = k0 := by
    rw [h1, nI_eq (by omega) (by omega)] at h1'
    exact h1'.symm
  subst ek
  obtain ⟨qq', s2, hp', u1, u2, u3, u4, u5, u6, u7, u8⟩ := hcs' c hc3
  have es2 : s2 = s + 1 := by
    rw [e0, nI_eq (by omega) (by omega)] at u2
    exact u2.symm
  subst es2
  have hqs := hp'.2.2.2.1 s (by omega)
  have tm := tc.2.2.2 _ hqs
  have f : Fr (B + 1 + 7 + 7 * c) (B + 1 + 7 + 7 * c + 7) J (wr J (B + 1 + 7 + 7 * c) (sN (J (B + 1 + 7 + 7 * c)) 1 (nI s))) K K Q Q := fun z hz => ⟨wr_ne _ _ (by omega), rfl, rfl⟩
  have hbr : BR (B + 1) (sN N (207 + 40 * c) (nI s)) (wr J (B + 1 + 7 + 7 * c) (sN (J (B + 1 + 7 + 7 * c)) 1 (nI s))) K Q q' := by
    refine BR_cal hbc' hlg' hc3 (fun z hz => sN_ne (by omega)) f ⟨qq', s, hp', by omega, sN_eq, by rw [wr_same, sN_eq], ?_, ?_, ?_, ?_, ?_⟩ ?_ ?_
    · intro i hi0 hi5
      rw [wr_ne _ _ (by omega), sN_ne (by omega)]; exact u4 i hi0 hi5
    · rw [wr_same, sN_ne (by omega), sN_ne (by omega)]; exact u5
    · rw [wr_same, sN_ne (by omega), sN_ne (by omega)]; exact u6
    · rw [wr_same, sN_ne (by omega), sN_ne (by omega)]; exact u7
    · intro i hi'
      have := hp'.2.2.2.1 i (by omega)
      exact MR_N (MR_I (u8 i (by omega)) (wr_ne _ _ (by omega)) rfl) (fun z z1 z2 => sN_ne (by omega))
    · obtain ⟨s3, z1, z2, z3, z4⟩ := hi'.1 c hc3
      have es3 : s3 = s + 1 := by
        rw [e0, nI_eq (by omega) (by omega)] at z2
        exact z2.symm
      subst es3
      exact ⟨s, by omega, sN_eq, fun y => by have := z3 y; omega, fun i hi => OM_S (z4 i (by omega)) (fun z y1 y2 => sN_ne (by omega))⟩
    · intro hcon
      have hs1 : s ≠ 0 := fun z => hf (Or.inr ⟨by omega, hcon⟩)
      exact ⟨⟨s - 1, by omega, by rw [sN_eq, show s - 1 + 1 = s from by omega]⟩, fun z z1 z2 => sN_ne (by omega)⟩
  have f2 : Fr (B + 1) (B + 41) J (wr J (B + 1 + 7 + 7 * c) (sN (J (B + 1 + 7 + 7 * c)) 1 (nI s))) K K Q Q := Fr_mono f (by omega) (by omega)
  refine ⟨_, K, Q, ?_, CW_bus a2 f2 (Nat.le_refl T) hq' hbr, Fr_trans (FvS_Fr a3) (Fr_B f2)⟩
  rw [cc, if_neg hf, Two_cancel_52 _ _ _ _ _ _ _ t0, a1]
  simp only [kC_ret, Option.toList, List.cons_append, List.nil_append, fix1_int, fix1_ref, fix1_unk, fix1_null, fix1_long]
  rw [Two_cancel_56 _ _ _ _ _ _ _ tc.1, Caller_takeBack_E, Caller_takeBack_0 _ _ _ _ _ _ tc.1, u3, pk_sub (by omega), Nat.add_sub_cancel, cl_messageAt tc hp' u1 (show s < s + 1 by omega) J K u3]
  simp only [kC_ret, Option.toList, List.cons_append, List.nil_append, fix1_int, fix1_ref, fix1_unk, fix1_null, fix1_long]
  rw [Caller_takeBack_10_1, fix1_ref, Caller_takeBack_17 _ _ _ _ _ _ tc.1 tm, updI_wr, wr_ne _ _ (show B + 1 + 7 + 7 * c + 3 + qq' s ≠ B + 1 + 7 + 7 * c by omega), u3, pk_sub (by omega), Nat.add_sub_cancel, (u8 s (by omega)).2.1, show 207 + 40 * c + 8 + 8 * s = 215 + 40 * c + 8 * s from by omega]
  simp only [kC_ret, Option.toList, List.cons_append, List.nil_append, fix1_int, fix1_ref, fix1_unk, fix1_null, fix1_long]
  rw [Two_cancel_60]
theorem CW_cOT (h : CW B w I L P N st Ks len tx T) {k : Nat} (hk1 : N 1 = nI k) (hk3 : k ≤ 3) : (∀ c, c < k → call 111 [.ref B, .int (nI c)] w I L P = some (.inl (some (.ref (B + 1 + 7 + 7 * c))), w, I, L, P)) ∧ ∀ x : Int32, (x < 0 ∨ nI k ≤ x) → call 111 [.ref B, .int x] w I L P = some (.inr 2, thrT w, I, L, P) := by
  obtain ⟨hw, p0, tb, hst, q, k0, n, md, hq, hbc, hlg⟩ := CW_bc h
  obtain ⟨⟨hk0, hk, h1, i1⟩, -, -, -, -, -, hbq, -⟩ := hbc
  have ek : k0 = k := by
    rw [h1, nI_eq (by omega) (by omega)] at hk1
    exact hk1
  subst ek
  exact cl_cOT hw p0 hbq hk I L i1
theorem CW_lOT (h : CW B w I L P N st Ks len tx T) {n : Nat} (h2 : N 2 = nI n) (hn : n ≤ 6) : (∀ l, l < n → call 112 [.ref B, .int (nI l)] w I L P = some (.inl (some (.ref (B + 1 + 28 + 2 * l))), w, I, L, P)) ∧ ∀ x : Int32, (x < 0 ∨ nI n ≤ x) → call 112 [.ref B, .int x] w I L P = some (.inr 2, thrT w, I, L, P) := by
  obtain ⟨hw, p0, tb, hst, q, k0, n0, md, hq, hbc, hlg⟩ := CW_bc h
  obtain ⟨-, ⟨hn0, h20, i3⟩, -, -, -, -, hbq, -⟩ := hbc
  have ek : n0 = n := by
    rw [h20, nI_eq (by omega) (by omega)] at h2
    exact h2
  subst ek
  exact cl_lOT hw p0 hbq hn I L i3
theorem ce_cancel (h : CW B w I L P N st Ks len tx T) {k : Nat} (hk1 : N 1 = nI k) (hk3 : k ≤ 3) {x : Int32} (hx : x < 0 ∨ nI k ≤ x) : call 87 [.ref B, .int x] w I L P = some (.inr 2, thrT w, I, L, P) := by
  rw [Two_cancel_E, Two_cancel_0 _ _ _ _ _ _ _ h.1.1, (CW_cOT h hk1 hk3).2 x hx, kC_thr]
theorem cv_value (h : CW B w I L P N st Ks len tx T) (hT : T < 2147000000) {v : Nat} (hv : v < 10) : call 94 [.ref B, .int (nI v)] w I L P = some (.inl (some (.int (numV N v))), w, I, L, P) := by
  obtain ⟨hw, p0, tb, hst, q, k, n, md, hq, hbc, hlg⟩ := CW_bc h
  have t0 := hw.1
  rw [Two_value_E, Two_value_0, cl_range, if_pos (RG_of (by omega) (by omega) (by omega))]
  simp only [kC_ret, Option.toList, List.cons_append, List.nil_append, fix1_int, fix1_ref, fix1_unk, fix1_null, fix1_long]
  rw [Two_value_7 _ _ _ _ _ _ t0, p0, rf_some, Two_value_11 _ _ _ _ _ _ _ tb.1, cl_btell tb hbc hlg (by omega) (by omega)]
  simp only [kC_ret, Option.toList, List.cons_append, List.nil_append, fix1_int, fix1_ref, fix1_unk, fix1_null, fix1_long]
  rw [Two_value_15]
theorem ce_value {x : Int32} (hx : ¬ RG x 0 9) : call 94 [.ref B, .int x] w I L P = some (.inr 0, thrT w, I, L, P) := by
  rw [Two_value_E, Two_value_0, cl_range, if_neg hx, kC_thr]
theorem cv_caller (h : CW B w I L P N st Ks len tx T) {k c v : Nat} (hk1 : N 1 = nI k) (hk3 : k ≤ 3) (hck : c < k) (hv : v < 9) : call 90 [.ref B, .int (nI c), .int (nI v)] w I L P = some (.inl (some (.int (calV N c v))), w, I, L, P) := by
  have co1 := (CW_cOT h hk1 hk3).1
  obtain ⟨hw, p0, tb, hst, q, k0, n, md, hq, hbc, hlg⟩ := CW_bc h
  have t0 := hw.1
  have hbc' := hbc
  obtain ⟨⟨hk0, hk, h1, i1⟩, -, -, -, i7, -, hbq, -⟩ := hbc'
  have tc := (tb.2.2.2.2.2.1 c (by omega)).1
  rw [Two_caller_E, Two_caller_0 _ _ _ _ _ _ _ _ t0, co1 c hck]
  simp only [kC_ret, Option.toList, List.cons_append, List.nil_append, fix1_int, fix1_ref, fix1_unk, fix1_null, fix1_long]
  rw [Two_caller_5_1, cl_range, if_pos (RG_of (by omega) (by omega) (by omega))]
  simp only [kC_ret, Option.toList, List.cons_append, List.nil_append, fix1_int, fix1_ref, fix1_unk, fix1_null, fix1_long]
  rw [Two_caller_13]
  unfold calV
  by_cases g : v < 8
  · rw [if_pos (fun z => by rw [nI_eq (by omega) (by omega)] at z; omega), Two_caller_36 _ _ _ _ _ _ _ _ tc, cl_ctell tb hbc (by omega) g, if_pos g]
    simp only [kC_ret, Option.toList, List.cons_append, List.nil_append, fix1_int, fix1_ref, fix1_unk, fix1_null, fix1_long]
    rw [Two_caller_41]
  · have : v = 8 := by omega
    subst this
    rw [if_neg (by simp), Two_caller_19 _ _ _ _ _ _ _ _ t0, p0, rf_some, Two_caller_23 _ _ _ _ _ _ _ _ _ tb.1, cl_contends tb, i7, if_neg g]
    simp only [kC_ret, Option.toList, List.cons_append, List.nil_append, fix1_int, fix1_ref, fix1_unk, fix1_null, fix1_long]
    rw [Two_caller_27]
    by_cases z : conB N (nI c)
    · rw [if_pos (show conB' (N 5) (nI c) from z), if_neg n10, Two_caller_30, Two_caller_35]
    · rw [if_neg (show ¬ conB' (N 5) (nI c) from z), if_pos n00, Two_caller_34, Two_caller_35]
theorem ce_caller2 (h : CW B w I L P N st Ks len tx T) {k : Nat} (hk1 : N 1 = nI k) (hk3 : k ≤ 3) {x y : Int32} (hx : x < 0 ∨ nI k ≤ x) : call 90 [.ref B, .int x, .int y] w I L P = some (.inr 2, thrT w, I, L, P) := by
  rw [Two_caller_E, Two_caller_0 _ _ _ _ _ _ _ _ h.1.1, (CW_cOT h hk1 hk3).2 x hx, kC_thr]
theorem ce_caller0 (h : CW B w I L P N st Ks len tx T) {k c : Nat} (hk1 : N 1 = nI k) (hk3 : k ≤ 3) (hck : c < k) {y : Int32} (hy : ¬ RG y 0 8) : call 90 [.ref B, .int (nI c), .int y] w I L P = some (.inr 0, thrT w, I, L, P) := by
  rw [Two_caller_E, Two_caller_0 _ _ _ _ _ _ _ _ h.1.1, (CW_cOT h hk1 hk3).1 c hck]
  simp only [kC_ret, Option.toList, List.cons_append, List.nil_append, fix1_int, fix1_ref, fix1_unk, fix1_null, fix1_long]
  rw [Two_caller_5_1, cl_range, if_neg hy, kC_thr]
theorem cv_message (h : CW B w I L P N st Ks len tx T) {k c s p v : Nat} (hk1 : N 1 = nI k) (hk3 : k ≤ 3) (hck : c < k) (e0 : N (207 + 40 * c) = nI s) (hs4 : s ≤ 4) (hps : p < s) (hv : v < 8) : call 91 [.ref B, .int (nI c), .int (nI p), .int (nI v)] w I L P = some (.inl (some (.int (N (215 + 40 * c + 8 * p + v)))), w, I, L, P) := by
  have co1 := (CW_cOT h hk1 hk3).1
  obtain ⟨hw, p0, tb, hst, q, k0, n, md, hq, hbc, hlg⟩ := CW_bc h
  have t0 := hw.1
  have hbc' := hbc
  obtain ⟨⟨hk0, hk, h1, i1⟩, -, -, -, i7, -, hbq, hcs, -, -, hi, -⟩ := hbc'
  have tc := tb.2.2.2.2.2.1 c (by omega)
  obtain ⟨s1, hs14, e1, -, hom⟩ := hi.1 c (by omega)
  have es1 : s1 = s := by
    rw [e0, nI_eq (by omega) (by omega)] at e1
    exact e1.symm
  subst es1
  obtain ⟨qq, s', hp, g1, g2, g3, -, -, -, -, g8⟩ := hcs c (by omega)
  have es : s' = s1 := by
    rw [e0, nI_eq (by omega) (by omega)] at g2
    exact g2.symm
  subst es
  have hqp := hp.2.2.2.1 p (by omega)
  have tm := tc.2.2.2 _ hqp
  have hmr := g8 p hps
  rw [show 207 + 40 * c + 8 + 8 * p = 215 + 40 * c + 8 * p from by omega] at hmr
  rw [Two_message_E, Two_message_0 _ _ _ _ _ _ _ _ _ t0, co1 c hck]
  simp only [kC_ret, Option.toList, List.cons_append, List.nil_append, fix1_int, fix1_ref, fix1_unk, fix1_null, fix1_long]
  rw [Two_message_5 _ _ _ _ _ _ _ _ _ _ tc.1, cl_messageAt tc hp g1 hps I L g3]
  simp only [kC_ret, Option.toList, List.cons_append, List.nil_append, fix1_int, fix1_ref, fix1_unk, fix1_null, fix1_long]
  rw [Two_message_9_1, fix1_int, Two_message_26, cl_range, if_pos (RG_of (by omega) (by omega) (by omega))]
  simp only [kC_ret, Option.toList, List.cons_append, List.nil_append, fix1_int, fix1_ref, fix1_unk, fix1_null, fix1_long]
  rw [Two_message_33 _ _ _ _ _ _ _ _ _ tm, cl_mtell tm hmr (hom p hps).2.1 (by omega)]
  simp only [kC_ret, Option.toList, List.cons_append, List.nil_append, fix1_int, fix1_ref, fix1_unk, fix1_null, fix1_long]
  rw [Two_message_39]
theorem ce_message2 (h : CW B w I L P N st Ks len tx T) {k : Nat} (hk1 : N 1 = nI k) (hk3 : k ≤ 3) {x z y : Int32} (hx : x < 0 ∨ nI k ≤ x) : call 91 [.ref B, .int x, .int z, .int y] w I L P = some (.inr 2, thrT w, I, L, P) := by
  rw [Two_message_E, Two_message_0 _ _ _ _ _ _ _ _ _ h.1.1, (CW_cOT h hk1 hk3).2 x hx, kC_thr]
theorem ce_message3 (h : CW B w I L P N st Ks len tx T) {k c s : Nat} (hk1 : N 1 = nI k) (hk3 : k ≤ 3) (hck : c < k) (e0 : N (207 + 40 * c) = nI s) (hs4 : s ≤ 4) {z y : Int32} (hz2 : z < 0 ∨ nI s ≤ z) : call 91 [.ref B, .int (nI c), .int z, .int y] w I L P = some (.inr 2, thrT w, I, L, P) := by
  have co1 := (CW_cOT h hk1 hk3).1
  obtain ⟨hw, p0, tb, hst, q, k0, n, md, hq, hbc, hlg⟩ := CW_bc h
  have t0 := hw.1
  obtain ⟨⟨hk0, hk, h1, i1⟩, -, -, -, i7, -, hbq, hcs, -⟩ := hbc
  have tc := tb.2.2.2.2.2.1 c (by omega)
  obtain ⟨qq, s', hp, g1, g2, g3, -⟩ := hcs c (by omega)
  have es : s' = s := by
    rw [e0, nI_eq (by omega) (by omega)] at g2
    exact g2.symm
  subst es
  have en : call 7 [.ref (B + 1 + 7 + 7 * c), .int z] w I L P = some (.inl (some .null), w, I, L, P) := by
    rw [Caller_messageAt_E, Caller_messageAt_0]
    rcases hz2 with g | g
    · rw [if_pos g, Caller_messageAt_30, Caller_messageAt_31_0]
    · by_cases g' : z < 0
      · rw [if_pos g', Caller_messageAt_30, Caller_messageAt_31_0]
      · rw [if_neg g', Caller_messageAt_4 _ _ _ _ _ _ tc.1, g3, if_pos g, Caller_messageAt_30, Caller_messageAt_31_0]
  rw [Two_message_E, Two_message_0 _ _ _ _ _ _ _ _ _ t0, co1 c hck]
  simp only [kC_ret, Option.toList, List.cons_append, List.nil_append, fix1_int, fix1_ref, fix1_unk, fix1_null, fix1_long]
  rw [Two_message_5 _ _ _ _ _ _ _ _ _ _ tc.1, en]
  simp only [kC_ret, Option.toList, List.cons_append, List.nil_append, fix1_int, fix1_ref, fix1_unk, fix1_null, fix1_long]
  rw [Two_message_9_0, Two_message_16]
theorem cv_listener (h : CW B w I L P N st Ks len tx T) {n l v : Nat} (h2 : N 2 = nI n) (hn6 : n ≤ 6) (hln : l < n) (hv : v < 6) : call 92 [.ref B, .int (nI l), .int (nI v)] w I L P = some (.inl (some (.int (N (327 + 22 * l + v)))), w, I, L, P) := by
  have lo1 := (CW_lOT h h2 hn6).1
  obtain ⟨hw, p0, tb, hst, q, k, n0, md, hq, hbc, hlg⟩ := CW_bc h
  have t0 := hw.1
  have en : n0 = n := by
    rw [hbc.2.1.2.1, nI_eq (by have := hbc.2.1.1; omega) (by omega)] at h2
    exact h2
  subst en
  rw [Two_listener_E, Two_listener_0 _ _ _ _ _ _ _ _ t0, lo1 l hln]
  simp only [kC_ret, Option.toList, List.cons_append, List.nil_append, fix1_int, fix1_ref, fix1_unk, fix1_null, fix1_long]
  rw [Two_listener_5_1, cl_range, if_pos (RG_of (by omega) (by omega) (by omega))]
  simp only [kC_ret, Option.toList, List.cons_append, List.nil_append, fix1_int, fix1_ref, fix1_unk, fix1_null, fix1_long]
  rw [Two_listener_12 _ _ _ _ _ _ _ _ (tb.2.2.2.2.2.2 l (by omega)).1, cl_ltell tb hbc hln (by omega)]
  simp only [kC_ret, Option.toList, List.cons_append, List.nil_append, fix1_int, fix1_ref, fix1_unk, fix1_null, fix1_long]
  rw [Two_listener_17]
theorem ce_listener2 (h : CW B w I L P N st Ks len tx T) {n : Nat} (h2 : N 2 = nI n) (hn6 : n ≤ 6) {x y : Int32} (hx : x < 0 ∨ nI n ≤ x) : call 92 [.ref B, .int x, .int y] w I L P = some (.inr 2, thrT w, I, L, P) := by
  rw [Two_listener_E, Two_listener_0 _ _ _ _ _ _ _ _ h.1.1, (CW_lOT h h2 hn6).2 x hx, kC_thr]
theorem ce_listener0 (h : CW B w I L P N st Ks len tx T) {n l : Nat} (h2 : N 2 = nI n) (hn6 : n ≤ 6) (hln : l < n) {y : Int32} (hy : ¬ RG y 0 5) : call 92 [.ref B, .int (nI l), .int y] w I L P = some (.inr 0, thrT w, I, L, P) := by
  rw [Two_listener_E, Two_listener_0 _ _ _ _ _ _ _ _ h.1.1, (CW_lOT h h2 hn6).1 l hln]
  simp only [kC_ret, Option.toList, List.cons_append, List.nil_append, fix1_int, fix1_ref, fix1_unk, fix1_null, fix1_long]
  rw [Two_listener_5_1, cl_range, if_neg hy, kC_thr]
theorem ce_memory2 (h : CW B w I L P N st Ks len tx T) {n : Nat} (h2 : N 2 = nI n) (hn6 : n ≤ 6) {x y : Int32} (hx : x < 0 ∨ nI n ≤ x) : call 93 [.ref B, .int x, .int y] w I L P = some (.inr 2, thrT w, I, L, P) := by
  rw [Two_memory_E, Two_memory_0 _ _ _ _ _ _ _ _ h.1.1, (CW_lOT h h2 hn6).2 x hx, kC_thr]
theorem ce_memory3 (h : CW B w I L P N st Ks len tx T) {n l m : Nat} (h2 : N 2 = nI n) (hn6 : n ≤ 6) (hln : l < n) (hm : N (327 + 22 * l + 2) = nI m) (hm16 : m ≤ 16) {y : Int32} (hy2 : y < 0 ∨ nI m ≤ y) : call 93 [.ref B, .int (nI l), .int y] w I L P = some (.inr 2, thrT w, I, L, P) := by
  have lo1 := (CW_lOT h h2 hn6).1
  obtain ⟨hw, p0, tb, hst, q, k, n0, md, hq, hbc, hlg⟩ := CW_bc h
  have t0 := hw.1
  have en : n0 = n := by
    rw [hbc.2.1.2.1, nI_eq (by have := hbc.2.1.1; omega) (by omega)] at h2
    exact h2
  subst en
  obtain ⟨m0, hr⟩ := hbc.2.2.2.2.2.2.2.2.1 l hln
  have tl := (tb.2.2.2.2.2.2 l (by omega)).1
  obtain ⟨hm16', -, -, -, -, l5, l6, -⟩ := hr
  have em : m0 = m := by
    rw [hm, nI_eq (by omega) (by omega)] at l6
    exact l6.symm
  subst em
  rw [Two_memory_E, Two_memory_0 _ _ _ _ _ _ _ _ t0, lo1 l hln]
  simp only [kC_ret, Option.toList, List.cons_append, List.nil_append, fix1_int, fix1_ref, fix1_unk, fix1_null, fix1_long]
  rw [Two_memory_5_1]
  by_cases g : y < 0
  · rw [if_pos g, Two_memory_18]
  · rcases hy2 with g2 | g2
    · exact absurd g2 g
    · rw [if_neg g, Two_memory_10 _ _ _ _ _ _ _ _ tl, l5, if_neg (Int32.not_lt.mpr g2), Two_memory_18]
theorem cx_log (h : CW B w I L P N st Ks len tx T) (hT : T < 2147000000) {q : Nat} (h0 : N 0 = nI q) (hq : q < 2147483648) {x y : Int32} (g : ¬ x < 0) : call 95 [.ref B, .int x, .int y] w I L P = if x < nI (kept q) then go 95 28 [.ref B, .int x, .int y] [] w I L P else go 95 18 [.ref B, .int x, .int y] [] w I L P := by
  obtain ⟨hw, p0, tb, hst, q0, k, n, md, hqT, hbc, hlg⟩ := CW_bc h
  have t0 := hw.1
  have eq : q0 = q := by
    have := hlg.1
    rw [h0, nI_eq (by omega) (by omega)] at this
    exact this.symm
  subst eq
  have hbq := hbc.2.2.2.2.2.2.1
  have t3 := tb.2.2.2.1
  rw [Two_log_E, Two_log_0, if_neg g, Two_log_4 _ _ _ _ _ _ _ t0, p0, rf_some, Two_log_9 _ _ _ _ _ _ _ _ _ tb.1, hbq.2.2.1, rf_some, Two_log_12 _ _ _ _ _ _ _ _ _ t3, cl_kept tb hlg hq]
  simp only [kC_ret, Option.toList, List.cons_append, List.nil_append, fix1_int, fix1_ref, fix1_unk, fix1_null, fix1_long]
  rw [Two_log_15]
theorem cv_log (h : CW B w I L P N st Ks len tx T) (hT : T < 2147000000) {q bk v : Nat} (h0 : N 0 = nI q) (hq : q < 2147483648) (hbk : bk < kept q) (hv : v < 3) : call 95 [.ref B, .int (nI bk), .int (nI v)] w I L P = some (.inl (some (.int (N (15 + 3 * ((q - 1 - bk) % 64) + v)))), w, I, L, P) := by
  have hkp := kept_le q
  have c15 := cx_log h hT h0 hq (x := nI bk) (y := nI v) (nI_pos (by omega))
  obtain ⟨hw, p0, tb, hst, q0, k, n, md, hqT, hbc, hlg⟩ := CW_bc h
  have t0 := hw.1
  have eq : q0 = q := by
    have := hlg.1
    rw [h0, nI_eq (by omega) (by omega)] at this
    exact this.symm
  subst eq
  have hbq := hbc.2.2.2.2.2.2.1
  have t3 := tb.2.2.2.1
  rw [c15, if_pos (nI_lt hbk (by omega)), Two_log_28, cl_range, if_pos (RG_of (by omega) (by omega) (by omega))]
  simp only [kC_ret, Option.toList, List.cons_append, List.nil_append, fix1_int, fix1_ref, fix1_unk, fix1_null, fix1_long]
  rw [Two_log_34 _ _ _ _ _ _ _ t0, p0, rf_some, Two_log_38 _ _ _ _ _ _ _ _ tb.1, hbq.2.2.1, rf_some, Two_log_41 _ _ _ _ _ _ _ _ t3, cl_gtell tb hbq hlg hq (by omega) (by omega)]
  simp only [kC_ret, Option.toList, List.cons_append, List.nil_append, fix1_int, fix1_ref, fix1_unk, fix1_null, fix1_long]
  rw [Two_log_46]
theorem ce_log (h : CW B w I L P N st Ks len tx T) (hT : T < 2147000000) {q : Nat} (h0 : N 0 = nI q) (hq : q < 2147483648) {x y : Int32} (hx2 : x < 0 ∨ nI (kept q) ≤ x) : call 95 [.ref B, .int x, .int y] w I L P = some (.inr 2, thrT w, I, L, P) := by
  by_cases g : x < 0
  · rw [Two_log_E, Two_log_0, if_pos g, Two_log_18]
  · rcases hx2 with g2 | g2
    · exact absurd g2 g
    · rw [cx_log h hT h0 hq g, if_neg (Int32.not_lt.mpr g2), Two_log_18]
end
