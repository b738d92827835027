/-! the class's calls, each by its answers: forecasts, text, digest -/
section
variable {B : Nat} {w : Wd} {I : MI} {L : ML} {P : MP} {N : Nat → Int32} {st : Nat} {Ks : Nat → Nat → Int32} {len : Nat} {tx : Nat → Nat} {T : Nat}
theorem cc_delivers (h : CW B w I L P N st Ks len tx T) (hT : T < 2147000000) {k c f : Nat} (hk1 : N 1 = nI k) (hk3 : k ≤ 3) (hck : c < k) (hf1 : f ≤ 1291) (hf2 : doneN (slotsN N f)) (hf3 : ∀ j, j < f → ¬ doneN (slotsN N j)) : Cok B w I L P (.int (slotsN N f (207 + 40 * c + 1) - N (207 + 40 * c + 1))) N st Ks len tx T (call 99 [.ref B, .int (nI c)] w I L P) := by
  have co1 := (CW_cOT h hk1 hk3).1
  obtain ⟨hw, p0, tb, hst, q0, k0, n, md, hq, hbc, hlg⟩ := CW_bc h
  obtain ⟨q, hqT, hg, h0⟩ := CW_GN h
  have t0 := hw.1
  have tt : BT w (B + 41) := hw.2.1 1 (by omega)
  have hbc' := hbc
  obtain ⟨⟨hk0, hk, h1, i1⟩, -, -, -, i7, -, hbq, -⟩ := hbc'
  have ek0 : k0 = k := by
    rw [h1, nI_eq (by omega) (by omega)] at hk1
    exact hk1
  subst ek0
  have tc := (tb.2.2.2.2.2.1 c (by omega)).1
  have tc2 := (tt.2.2.2.2.2.1 c (by omega)).1
  obtain ⟨J, K, Q, a1, a2, a3, a4⟩ := cl_trial h hT h0 (by omega) (by omega) hf2 hf3
  obtain ⟨⟨k', n', md', hbc2⟩, -⟩ := a3
  have hbc2' := hbc2
  obtain ⟨⟨-, hk', h1', i1'⟩, -, -, -, -, -, hbq', -⟩ := hbc2'
  have ek : k' = k0 := by
    rw [GN_1s hg f (by omega), h1, nI_eq (by omega) (by omega)] at h1'
    exact h1'.symm
  subst ek
  have pT : Q B 1 = some (B + 41) := by
    obtain ⟨-, ⟨r, hp', -⟩, -⟩ := a2
    exact hp'.2.1
  refine ⟨J, K, Q, ?_, a2, Fr_mono a4 (by omega) (by omega)⟩
  rw [Two_delivers_E, Two_delivers_0 _ _ _ _ _ _ _ _ t0, co1 c hck]
  simp only [kC_ret, Option.toList, List.cons_append, List.nil_append, fix1_int, fix1_ref, fix1_unk, fix1_null, fix1_long]
  rw [Two_delivers_5 _ _ _ _ _ _ _ _ _ tc, cl_ctell tb hbc (by omega) (v := 1) (by omega)]
  simp only [kC_ret, Option.toList, List.cons_append, List.nil_append, fix1_int, fix1_ref, fix1_unk, fix1_null, fix1_long]
  rw [Two_delivers_9 _ _ _ _ _ _ _ _ _ t0, a1]
  simp only [kC_ret, Option.toList, List.cons_append, List.nil_append, fix1_int, fix1_ref, fix1_unk, fix1_null, fix1_long]
  rw [Two_delivers_14 _ _ _ _ _ _ _ _ _ t0, pT, rf_some, Two_delivers_19 _ _ _ _ _ _ _ _ _ tt.1]
  simp only [kC_ret, Option.toList, List.cons_append, List.nil_append, fix1_int, fix1_ref, fix1_unk, fix1_null, fix1_long]
  rw [cl_callerAt tt hbq' hk' hck J K i1']
  simp only [kC_ret, Option.toList, List.cons_append, List.nil_append, fix1_int, fix1_ref, fix1_unk, fix1_null, fix1_long]
  rw [Two_delivers_23_1, fix1_int, Two_delivers_32 _ _ _ _ _ _ _ _ tc2, cl_ctell tt hbc2 (by omega) (v := 1) (by omega)]
  simp only [kC_ret, Option.toList, List.cons_append, List.nil_append, fix1_int, fix1_ref, fix1_unk, fix1_null, fix1_long]
  rw [Two_delivers_37, Two_delivers_39]
theorem ce_delivers (h : CW B w I L P N st Ks len tx T) {k : Nat} (hk1 : N 1 = nI k) (hk3 : k ≤ 3) {x : Int32} (hx : x < 0 ∨ nI k ≤ x) : call 99 [.ref B, .int x] w I L P = some (.inr 2, thrT w, I, L, P) := by
  rw [Two_delivers_E, Two_delivers_0 _ _ _ _ _ _ _ _ h.1.1, (CW_cOT h hk1 hk3).2 x hx, kC_thr]
theorem cv_alone (h : CW B w I L P N st Ks len tx T) {k c s n : Nat} (hk1 : N 1 = nI k) (hk3 : k ≤ 3) (hck : c < k) (h2 : N 2 = nI n) (hn : n ≤ 6) (e0 : N (207 + 40 * c) = nI s) (hs4 : s ≤ 4) : call 97 [.ref B, .int (nI c)] w I L P = some (.inl (some (.int (if s = 0 then -1 else aloV N c n))), w, I, L, P) := by
  have co1 := (CW_cOT h hk1 hk3).1
  obtain ⟨hw, p0, tb, hst, q, k0, n0, md, hq, hbc, hlg⟩ := CW_bc h
  have t0 := hw.1
  have hbc' := hbc
  obtain ⟨⟨hk0, hk, h1, i1⟩, ⟨hn0, h20, -⟩, -, -, i7, -, hbq, hcs, -, -, hi, hol, -⟩ := hbc'
  have en0 : n0 = n := by
    rw [h20, nI_eq (by omega) (by omega)] at h2
    exact h2
  subst en0
  have tc := tb.2.2.2.2.2.1 c (by omega)
  obtain ⟨s1, hs14, e1, -, hom⟩ := hi.1 c (by omega)
  have es1 : s1 = s := by
    rw [e0, nI_eq (by omega) (by omega)] at e1
    exact e1.symm
  subst es1
  obtain ⟨qq, s', hp, g1, g2, g3, -, -, -, -, g8⟩ := hcs c (by omega)
  have es : s' = s1 := by
    rw [e0, nI_eq (by omega) (by omega)] at g2
    exact g2.symm
  subst es
  by_cases z : s' = 0
  · subst z
    rw [if_pos rfl, Two_alone_E, Two_alone_0 _ _ _ _ _ _ _ t0, co1 c hck]
    simp only [kC_ret, Option.toList, List.cons_append, List.nil_append, fix1_int, fix1_ref, fix1_unk, fix1_null, fix1_long]
    rw [Two_alone_5 _ _ _ _ _ _ _ _ tc.1, cl_messageAtN tc g1 (by omega) (by omega) I L g3]
    simp only [kC_ret, Option.toList, List.cons_append, List.nil_append, fix1_int, fix1_ref, fix1_unk, fix1_null, fix1_long]
    rw [Two_alone_9_0, Two_alone_14, Two_alone_26]
  · have hqp := hp.2.2.2.1 0 (by omega)
    have tm := tc.2.2.2 _ hqp
    have hmr := g8 0 (by omega)
    rw [show 207 + 40 * c + 8 + 8 * 0 = 215 + 40 * c from by omega] at hmr
    have ho := hom 0 (by omega)
    rw [Nat.mul_zero, Nat.add_zero] at ho
    rw [if_neg z, Two_alone_E, Two_alone_0 _ _ _ _ _ _ _ t0, co1 c hck]
    simp only [kC_ret, Option.toList, List.cons_append, List.nil_append, fix1_int, fix1_ref, fix1_unk, fix1_null, fix1_long]
    rw [Two_alone_5 _ _ _ _ _ _ _ _ tc.1, cl_messageAt tc hp g1 (by omega) I L g3]
    simp only [kC_ret, Option.toList, List.cons_append, List.nil_append, fix1_int, fix1_ref, fix1_unk, fix1_null, fix1_long]
    rw [Two_alone_9_1, fix1_int, Two_alone_18 _ _ _ _ _ _ _ t0, p0, rf_some, Two_alone_22_1 _ _ _ _ _ _ _ _ tb.1, cl_slotsAlone tb hbc (by omega) tm hmr ho]
    simp only [kC_ret, Option.toList, List.cons_append, List.nil_append, fix1_int, fix1_ref, fix1_unk, fix1_null, fix1_long]
    rw [Two_alone_26]
theorem ce_alone (h : CW B w I L P N st Ks len tx T) {k : Nat} (hk1 : N 1 = nI k) (hk3 : k ≤ 3) {x : Int32} (hx : x < 0 ∨ nI k ≤ x) : call 97 [.ref B, .int x] w I L P = some (.inr 2, thrT w, I, L, P) := by
  rw [Two_alone_E, Two_alone_0 _ _ _ _ _ _ _ h.1.1, (CW_cOT h hk1 hk3).2 x hx, kC_thr]
theorem cv_winners (h : CW B w I L P N st Ks len tx T) {k : Nat} (hk1 : N 1 = nI k) (hk3 : k ≤ 3) : call 98 [.ref B] w I L P = some (.inl (some (.int (wlN N k 0 (nI 256) (nI 0)))), w, I, L, P) := by
  obtain ⟨hw, p0, tb, hst, q, k0, n, md, hq, hbc, hlg⟩ := CW_bc h
  have t0 := hw.1
  have ek0 : k0 = k := by
    rw [hbc.1.2.2.1, nI_eq (by have := hbc.1.2.1; omega) (by omega)] at hk1
    exact hk1
  subst ek0
  rw [Two_winners_E, Two_winners_0 _ _ _ _ _ t0, p0, rf_some, Two_winners_4 _ _ _ _ _ _ tb.1, Bus_lowestHeaders_E, Bus_lowestHeaders_0, fix1_ref, cl_wl tb hbc k0 0 (by omega)]
  simp only [kC_ret, Option.toList, List.cons_append, List.nil_append, fix1_int, fix1_ref, fix1_unk, fix1_null, fix1_long]
  rw [Two_winners_7]
theorem cc_append (h : CW B w I L P N st Ks len tx T) {v : Nat} (hv : v < 128) (hl2 : len < 100) : Cok B w I L P (.int (nI (len + 1))) N st Ks (len + 1) (txA tx len v) T (call 101 [.ref B, .int (nI v)] w I L P) := by
  obtain ⟨u1, u2, u3, u4, u5, u6, u7⟩ := CW_tb h
  have t0 := h.1.1
  refine ⟨wr (wr I (B + 123) (sN (I (B + 123)) len (nI v))) (B + 122) (sN (I (B + 122)) 1 (nI (len + 1))), L, P, ?_, ?_, ?_⟩
  · rw [Two_append_E, Two_append_0, cl_range, if_pos (RG_of (by omega) (by omega) (by omega))]
    simp only [kC_ret, Option.toList, List.cons_append, List.nil_append, fix1_int, fix1_ref, fix1_unk, fix1_null, fix1_long]
    rw [Two_append_7 _ _ _ _ _ _ t0, u3, rf_some, Two_append_11 _ _ _ _ _ _ _ u1, u6, if_pos (nI_lt hl2 (by omega)), Two_append_29 _ _ _ _ _ _ t0, u3, rf_some, Two_append_33 _ _ _ _ _ _ _ u1, Text_add_E, Text_add_0 _ _ _ _ _ _ u1, u6, if_neg (nI_pos (by omega)), Text_add_7 _ _ _ _ _ _ u1, u4, rf_some, u6, Text_add_15 _ _ _ _ _ _ _ _ (isAr_of u2), alen_of u2, if_neg (nI_ge hl2 (by omega)), Text_add_19 _ _ _ _ _ _ u1, u4, rf_some, Text_add_23 _ _ _ _ _ _ _ u1 (by rw [u6]; exact inA_nI u2 (by omega) (by omega)), u6, cl_nI (by omega), updI_wr, updI_wr, wr_ne _ _ (by omega), u6, nI_add, Text_add_39 _ _ _ _ _ _ u1, wr_same, sN_eq]
    simp only [kC_ret, Option.toList, List.cons_append, List.nil_append, fix1_int, fix1_ref, fix1_unk, fix1_null, fix1_long]
    rw [Two_append_37]
  · refine CW_set h (fun x g1 g2 => ⟨by rw [wr_ne _ _ g1, wr_ne _ _ g2], rfl⟩) (by omega) (by rw [wr_same, sN_eq]) ?_
    intro j hj
    rw [wr_ne _ _ (by omega), wr_same]
    unfold txA
    by_cases g : j = len
    · subst g; rw [if_pos rfl, sN_eq]; exact ⟨by omega, rfl⟩
    · rw [if_neg g, sN_ne g]; exact u7 j (by omega)
  · intro x hx2
    exact ⟨by rw [wr_ne _ _ (by omega), wr_ne _ _ (by omega)], rfl, rfl⟩
theorem ce_append0 {x : Int32} (hx : ¬ RG x 0 127) : call 101 [.ref B, .int x] w I L P = some (.inr 0, thrT w, I, L, P) := by
  rw [Two_append_E, Two_append_0, cl_range, if_neg hx, kC_thr]
theorem cc_clearText (h : CW B w I L P N st Ks len tx T) : Cok B w I L P (.int (nI len)) N st Ks 0 tx T (call 102 [.ref B] w I L P) := by
  obtain ⟨u1, u2, u3, u4, u5, u6, u7⟩ := CW_tb h
  have t0 := h.1.1
  refine ⟨wr I (B + 122) (sN (I (B + 122)) 1 (nI 0)), L, P, ?_, ?_, ?_⟩
  · rw [Two_clearText_E, Two_clearText_0 _ _ _ _ _ _ t0, u3, rf_some, Two_clearText_4 _ _ _ _ _ _ _ u1 t0, u3, rf_some, u6, Two_clearText_12 _ _ _ _ _ _ _ u1, updI_wr]
  · exact CW_set h (fun x g1 g2 => ⟨by rw [wr_ne _ _ g1], rfl⟩) (by omega) (by rw [wr_same, sN_eq]) (fun j hj => by omega)
  · intro x hx2
    exact ⟨by rw [wr_ne _ _ (by omega)], rfl, rfl⟩
theorem cc_digest (h : CW B w I L P N st Ks len tx T) (hT : T < 2147000000) {k n q0 f : Nat} (hk1 : N 1 = nI k) (hk3 : k ≤ 3) (h2 : N 2 = nI n) (hn6 : n ≤ 6) (h00 : N 0 = nI q0) (hq00 : q0 < 2147483648) (hf1 : f ≤ 1291) (hf2 : doneN (slotsN N f)) (hf3 : ∀ j, j < f → ¬ doneN (slotsN N j)) : Cok B w I L P (.long (dgA N len k n q0 f st)) N st Ks len tx T (call 105 [.ref B] w I L P) := by
  obtain ⟨hw, p0, tb, hst, q1, k1, n1, md, hq0, hbc, hlg⟩ := CW_bc h
  obtain ⟨q, hqT, hg, h0⟩ := CW_GN h
  have eq : q1 = q0 := by
    have := hlg.1
    rw [h00, nI_eq (by omega) (by omega)] at this
    exact this.symm
  subst eq
  have eq2 : q = q1 := by
    rw [h00, nI_eq (by omega) (by omega)] at h0
    exact h0.symm
  subst eq2
  obtain ⟨u1, u2, u3, u4, u5, u6, u7⟩ := CW_tb h
  obtain ⟨-, ⟨r, -, s4, -⟩, -⟩ := id h
  have t0 := hw.1
  have t3 := tb.2.2.2.1
  have hbc' := hbc
  obtain ⟨⟨hk0, hk, h1, i1⟩, ⟨hn, h20, i3⟩, -, -, i7, -, hbq, hcs, hls, -, hi, hol, -⟩ := hbc'
  have ek : k1 = k := by
    rw [h1, nI_eq (by omega) (by omega)] at hk1
    exact hk1
  subst ek
  have en : n1 = n := by
    rw [h20, nI_eq (by omega) (by omega)] at h2
    exact h2
  subst en
  obtain ⟨kp1, kp2⟩ := kept_le q
  obtain ⟨J, K, Q, a1, a2, -, a4⟩ := cl_trial h hT h0 (by omega) (by omega) hf2 hf3
  refine ⟨J, K, Q, ?_, a2, Fr_mono a4 (by omega) (by omega)⟩
  have l1 : ∀ g v, v + g = 10 → ∀ hh x4, go 105 16 [.ref B, .long hh, unk, .int (nI v), x4] [] w I L P = go 105 41 [.ref B, .long (fd2 (fun v h => mxN h (numV N v)) g v hh), unk, .int (nI 10), x4] [] w I L P := by
    intro g
    induction g with
    | zero =>
      intro v hv hh x4
      have : v = 10 := by omega
      subst this
      rw [Two_digest_16, if_pos (nI_lt (by omega) (by omega))]; rfl
    | succ g ih =>
      intro v hv hh x4
      rw [Two_digest_16, if_neg (nI_nlt (by omega) (by omega)), Two_digest_22 _ _ _ _ _ _ _ _ _ t0, p0, rf_some, Two_digest_27 _ _ _ _ _ _ _ _ _ _ _ tb.1, cl_btell tb hbc hlg (by omega) (show v < 10 by omega)]
      simp only [kC_ret, Option.toList, List.cons_append, List.nil_append, fix1_int, fix1_ref, fix1_unk, fix1_null, fix1_long]
      rw [Two_digest_31, cl_mix]
      simp only [kC_ret, Option.toList, List.cons_append, List.nil_append, fix1_int, fix1_ref, fix1_unk, fix1_null, fix1_long]
      rw [Two_digest_34, fix1_ref, nI_add, ih (v + 1) (by omega)]
      rfl
  have l2 : ∀ g c, c + g = k1 → ∀ hh x4, go 105 43 [.ref B, .long hh, unk, .int (nI c), x4] [] w I L P = go 105 67 [.ref B, .long (fd2 (fun c h => dgC N c h) g c hh), unk, .int (nI k1), x4] [] w I L P := by
    intro g
    induction g with
    | zero =>
      intro c hc hh x4
      have : c = k1 := by omega
      subst this
      rw [Two_digest_43 _ _ _ _ _ _ _ _ _ t0, p0, rf_some, Two_digest_48 _ _ _ _ _ _ _ _ _ _ _ tb.1, i1, if_pos (nI_le (by omega) (by omega))]; rfl
    | succ g ih =>
      intro c hc hh x4
      rw [Two_digest_43 _ _ _ _ _ _ _ _ _ t0, p0, rf_some, Two_digest_48 _ _ _ _ _ _ _ _ _ _ _ tb.1, i1, if_neg (nI_ge (by omega) (by omega)), Two_digest_54 _ _ _ _ _ _ _ _ _ t0, cl_mixC t0 p0 tb hbc (show c < k1 by omega)]
      simp only [kC_ret, Option.toList, List.cons_append, List.nil_append, fix1_int, fix1_ref, fix1_unk, fix1_null, fix1_long]
      rw [Two_digest_60, fix1_ref, nI_add, ih (c + 1) (by omega)]
      rfl
  have l3 : ∀ g l, l + g = n1 → ∀ hh x4, go 105 69 [.ref B, .long hh, unk, .int (nI l), x4] [] w I L P = go 105 99 [.ref B, .long (fd2 (fun l h => dgL N l h) g l hh), unk, .int (nI n1), x4] [] w I L P := by
    intro g
    induction g with
    | zero =>
      intro l hl hh x4
      have : l = n1 := by omega
      subst this
      rw [Two_digest_69 _ _ _ _ _ _ _ _ _ t0, p0, rf_some, Two_digest_74 _ _ _ _ _ _ _ _ _ _ _ tb.1, i3, if_pos (nI_le (by omega) (by omega))]; rfl
    | succ g ih =>
      intro l hl hh x4
      rw [Two_digest_69 _ _ _ _ _ _ _ _ _ t0, p0, rf_some, Two_digest_74 _ _ _ _ _ _ _ _ _ _ _ tb.1, i3, if_neg (nI_ge (by omega) (by omega)), Two_digest_80 _ _ _ _ _ _ _ _ _ t0, p0, rf_some, Two_digest_85 _ _ _ _ _ _ _ _ _ _ _ tb.1, cl_listenerAt tb hbq hn (show l < n1 by omega) I L i3]
      simp only [kC_ret, Option.toList, List.cons_append, List.nil_append, fix1_int, fix1_ref, fix1_unk, fix1_null, fix1_long]
      rw [Two_digest_89_1, cl_mixL tb hbc (show l < n1 by omega)]
      simp only [kC_ret, Option.toList, List.cons_append, List.nil_append, fix1_int, fix1_ref, fix1_unk, fix1_null, fix1_long]
      rw [Two_digest_92, fix1_ref, nI_add, ih (l + 1) (by omega)]
      rfl
  have l4 : ∀ g b, b + g = kept q → ∀ hh, go 105 113 [.ref B, .long hh, unk, .int (nI (kept q)), .int (nI b)] [] w I L P = go 105 143 [.ref B, .long (fd2 (fun b h => mxN h (N (15 + 3 * ((q - 1 - b) % 64)))) g b hh), unk, .int (nI (kept q)), .int (nI (kept q))] [] w I L P := by
    intro g
    induction g with
    | zero =>
      intro b hb hh
      have : b = kept q := by omega
      subst this
      rw [Two_digest_113, if_pos (nI_le (by omega) (by omega))]; rfl
    | succ g ih =>
      intro b hb hh
      rw [Two_digest_113, if_neg (nI_ge (by omega) (by omega)), Two_digest_119 _ _ _ _ _ _ _ _ _ t0, p0, rf_some, Two_digest_124 _ _ _ _ _ _ _ _ _ _ _ tb.1, hbq.2.2.1, rf_some, Two_digest_127 _ _ _ _ _ _ _ _ _ _ _ t3, cl_gtell tb hbq hlg (by omega) (show b < q by omega) (show 0 < 3 by omega), Nat.add_zero]
      simp only [kC_ret, Option.toList, List.cons_append, List.nil_append, fix1_int, fix1_ref, fix1_unk, fix1_null, fix1_long]
      rw [Two_digest_133, cl_mix]
      simp only [kC_ret, Option.toList, List.cons_append, List.nil_append, fix1_int, fix1_ref, fix1_unk, fix1_null, fix1_long]
      rw [Two_digest_136, fix1_ref, fix1_int, nI_add, ih (b + 1) (by omega)]
      rfl
  rw [Two_digest_E, Two_digest_0 _ _ _ _ _ _ _ _ _ t0, u3, rf_some, Two_digest_7 _ _ _ _ _ _ _ _ _ _ _ u1, cl_mix, u6]
  simp only [kC_ret, Option.toList, List.cons_append, List.nil_append, fix1_int, fix1_ref, fix1_unk, fix1_null, fix1_long]
  rw [Two_digest_13, fix1_ref, l1 10 0 (by omega), Two_digest_41, fix1_unk, l2 k1 0 (by omega), Two_digest_67, fix1_unk, l3 n1 0 (by omega), Two_digest_99 _ _ _ _ _ _ _ _ _ t0, p0, rf_some, Two_digest_103 _ _ _ _ _ _ _ _ _ _ tb.1, hbq.2.2.1, rf_some, Two_digest_106 _ _ _ _ _ _ _ _ _ _ t3, cl_kept tb hlg (by omega)]
  simp only [kC_ret, Option.toList, List.cons_append, List.nil_append, fix1_int, fix1_ref, fix1_unk, fix1_null, fix1_long]
  rw [Two_digest_109, fix1_unk, l4 (kept q) 0 (by omega), Two_digest_143 _ _ _ _ _ _ _ _ _ t0, a1]
  simp only [kC_ret, Option.toList, List.cons_append, List.nil_append, fix1_int, fix1_ref, fix1_unk, fix1_null, fix1_long]
  have e4 : J B 4 = nI st := by rw [(a4 B (by omega)).1]; exact s4
  rw [Two_digest_148, cl_mix]
  simp only [kC_ret, Option.toList, List.cons_append, List.nil_append, fix1_int, fix1_ref, fix1_unk, fix1_null, fix1_long]
  rw [Two_digest_151 _ _ _ _ _ _ _ _ _ _ t0, e4, cl_mix]
  simp only [kC_ret, Option.toList, List.cons_append, List.nil_append, fix1_int, fix1_ref, fix1_unk, fix1_null, fix1_long]
  rw [Two_digest_160]
  rfl
end
