/-! the class's calls, each by its answers: changes of the bus -/
section
variable {B : Nat} {w : Wd} {I : MI} {L : ML} {P : MP} {N : Nat → Int32} {st : Nat} {Ks : Nat → Nat → Int32} {len : Nat} {tx : Nat → Nat} {T : Nat}
theorem RG_of {a b k : Nat} (h1 : a ≤ k) (h2 : k ≤ b) (hb : b < 2147483648) : RG (nI k) a b := by
  constructor
  · exact nI_le h1 (by omega)
  · exact nI_le h2 hb
theorem cc_setLimit (h : CW B w I L P N st Ks len tx T) {x : Int32} (hx : RG x 1 9) : Cok B w I L P (.int (N 3)) (sN N 3 x) (svS st) (svK st Ks N) len tx T (call 84 [.ref B, .int x] w I L P) := by
  obtain ⟨hw, p0, tb, hst, q, k, n, md, hq, hbc, hlg⟩ := CW_bc h
  have t0 := hw.1
  obtain ⟨J, K, Q, a1, a2, a3⟩ := cl_save h
  obtain ⟨-, p0', -, -, q', k', n', md', hq', hbc', hlg'⟩ := CW_bc a2
  refine ⟨wr J (B + 1) (sN (J (B + 1)) 4 x), K, Q, ?_, CW_bus a2 Fr_bus (Nat.le_refl T) hq' (BR_limit ⟨⟨k', n', md', hbc'⟩, hlg'⟩ x), Fr_trans (FvS_Fr a3) (Fr_B Fr_bus)⟩
  rw [Two_setLimit_E, Two_setLimit_0, cl_range, if_pos hx]
  simp only [kC_ret, Option.toList, List.cons_append, List.nil_append, fix1_int, fix1_ref, fix1_unk, fix1_null, fix1_long]
  rw [Two_setLimit_7 _ _ _ _ _ _ _ t0, p0, rf_some, Two_setLimit_11 _ _ _ _ _ _ _ _ tb.1 t0, a1]
  simp only [kC_ret, Option.toList, List.cons_append, List.nil_append, fix1_int, fix1_ref, fix1_unk, fix1_null, fix1_long]
  rw [Two_setLimit_19 _ _ _ _ _ _ _ t0, p0', rf_some, Two_setLimit_23 _ _ _ _ _ _ _ _ tb.1, updI_wr, hbc.2.2.1]
theorem ce_setLimit {x : Int32} (hx : ¬ RG x 1 9) : call 84 [.ref B, .int x] w I L P = some (.inr 0, thrT w, I, L, P) := by
  rw [Two_setLimit_E, Two_setLimit_0, cl_range, if_neg hx, kC_thr]
theorem cc_begin (h : CW B w I L P N st Ks len tx T) {c : Nat} (hc1 : 1 ≤ c) (hc3 : c ≤ 3) : Cok B w I L P (.int (N 0)) (frN c) (svS st) (svK st Ks N) len tx T (call 80 [.ref B, .int (nI c)] w I L P) := by
  obtain ⟨hw, p0, tb, hst, q, k, n, md, hq, hbc, hlg⟩ := CW_bc h
  have t0 := hw.1
  have hx : RG (nI c) 1 3 := RG_of hc1 hc3 (by omega)
  obtain ⟨J, K, Q, a1, a2, a3⟩ := cl_save h
  have a2' := a2
  obtain ⟨-, ⟨r, hp', -⟩, -, ⟨q', hq', hbr'⟩, -, hfr, -⟩ := a2'
  obtain ⟨J2, K2, b1, b2, b3⟩ := cl_copyB (hw.2.1 2 (by omega)) tb (by omega) (BR_BS hbr') hfr
  have f1 : Fr (B + 1) (B + 41) J J2 K K2 Q Q := b3
  have f2 : Fr (B + 1) (B + 41) J (wr J2 (B + 1) (sN (J2 (B + 1)) 1 (nI c))) K K2 Q Q := Fr_trans f1 Fr_bus
  refine ⟨_, K2, Q, ?_, CW_bus a2 f2 (Nat.le_refl T) (Nat.zero_le T) (BR_begin b2 (by omega) hc3), Fr_trans (FvS_Fr a3) (Fr_B f2)⟩
  rw [Two_begin_E, Two_begin_0, cl_range, if_pos hx]
  simp only [kC_ret, Option.toList, List.cons_append, List.nil_append, fix1_int, fix1_ref, fix1_unk, fix1_null, fix1_long]
  rw [Two_begin_6 _ _ _ _ _ _ _ t0, p0, rf_some, Two_begin_10 _ _ _ _ _ _ _ _ tb.1, hbc.2.2.2.2.2.2.1.2.2.1, rf_some, Two_begin_13 _ _ _ _ _ _ _ _ tb.2.2.2.1 t0, a1, hlg.2.1, ← hlg.1]
  simp only [kC_ret, Option.toList, List.cons_append, List.nil_append, fix1_int, fix1_ref, fix1_unk, fix1_null, fix1_long]
  rw [Two_begin_21 _ _ _ _ _ _ _ t0, hp'.1, rf_some, Two_begin_25 _ _ _ _ _ _ _ _ t0, hp'.2.2.1, rf_some, Two_begin_29_1 _ _ _ _ _ _ _ _ _ tb.1, show B + 81 = B + 1 + 40 * 2 from rfl, b1]
  simp only [kC_ret, Option.toList, List.cons_append, List.nil_append, fix1_int, fix1_ref, fix1_unk, fix1_null, fix1_long]
  rw [Two_begin_32 _ _ _ _ _ _ _ t0, hp'.1, rf_some, Two_begin_36 _ _ _ _ _ _ _ _ tb.1, updI_wr]
theorem ce_begin {x : Int32} (hx : ¬ RG x 1 3) : call 80 [.ref B, .int x] w I L P = some (.inr 0, thrT w, I, L, P) := by
  rw [Two_begin_E, Two_begin_0, cl_range, if_neg hx, kC_thr]
theorem ce_undo (h : CW B w I L P N 0 Ks len tx T) : call 104 [.ref B] w I L P = some (.inr 1, thrT w, I, L, P) := by
  have t0 := h.1.1
  obtain ⟨-, ⟨r, hp, hs4, hsv⟩, -⟩ := h
  rw [Two_undo_E, Two_undo_0 _ _ _ _ _ _ t0, hs4, cl_savedAtN (by decide)]
  simp only [kC_ret, Option.toList, List.cons_append, List.nil_append, fix1_int, fix1_ref, fix1_unk, fix1_null, fix1_long]
  rw [Two_undo_10_0, Two_undo_15]
theorem cc_undo {s : Nat} (h : CW B w I L P N (s + 1) Ks len tx T) : Cok B w I L P (.int (nI s)) (Ks s) s Ks len tx T (call 104 [.ref B] w I L P) := by
  obtain ⟨hw, p0, tb, hst, -⟩ := CW_bc h
  have t0 := hw.1
  have h' := h
  obtain ⟨-, ⟨r, hp, hs4, hsv⟩, -, ⟨q', hq', hbr⟩, h7, h8, h9, h10, h11, h12⟩ := h'
  obtain ⟨q2, hq2, hb2⟩ := hsv s (by omega)
  have hr := hp.2.2.2.2.2.2.2.1 s (by omega)
  obtain ⟨J, K, b1, b2, b3⟩ := cl_copyB (hw.2.2.1 _ hr) tb (by omega) (BR_BS hbr) hb2
  have c1 := CW_bus h b3 (Nat.le_refl T) hq2 b2
  have eB : J B = I B := (b3 B (by omega)).1
  refine ⟨wr J B (sN (J B) 4 (nI s)), K, P, ?_, ?_, ?_⟩
  · rw [Two_undo_E, Two_undo_0 _ _ _ _ _ _ t0, hs4, pk_sub (by omega), Nat.add_sub_cancel, cl_savedAt hw hp (by omega)]
    simp only [kC_ret, Option.toList, List.cons_append, List.nil_append, fix1_int, fix1_ref, fix1_unk, fix1_null, fix1_long]
    rw [Two_undo_10_1, fix1_ref, Two_undo_25 _ _ _ _ _ _ t0, p0, rf_some, Two_undo_29_1 _ _ _ _ _ _ _ tb.1, b1]
    simp only [kC_ret, Option.toList, List.cons_append, List.nil_append, fix1_int, fix1_ref, fix1_unk, fix1_null, fix1_long]
    rw [Two_undo_33 _ _ _ _ _ _ t0, updI_wr, eB, hs4, pk_sub (by omega), Nat.add_sub_cancel, wr_same, sN_eq]
  · obtain ⟨k1, ⟨r', k2, k3, k4⟩, k5, ⟨q3, k6, k7⟩, k8, k9, k10, k11, k12, k13⟩ := c1
    have f : ∀ y, y ≠ B → wr J B (sN (J B) 4 (nI s)) y = J y := fun y g => wr_ne _ _ g
    refine ⟨k1, ⟨r', k2, by rw [wr_same, sN_eq], ?_⟩, by omega, ⟨q3, k6, BR_fr k7 (fun y g1 g2 => ⟨f y (by omega), rfl, rfl⟩)⟩, k8, BR_fr k9 (fun y g1 g2 => ⟨f y (by omega), rfl, rfl⟩), k10, k11, by rw [f _ (by omega)]; exact k12, fun j hj => by rw [f _ (by omega)]; exact k13 j hj⟩
    intro i hi
    obtain ⟨q4, g1, g2⟩ := k4 i (by omega)
    exact ⟨q4, g1, BR_fr g2 (fun y z1 z2 => ⟨f y (by omega), rfl, rfl⟩)⟩
  · exact Fr_trans (Fr_B b3) (fun y hy => ⟨wr_ne _ _ (by omega), rfl, rfl⟩)
/-- how far addListener comes -/
theorem cx_add (h : CW B w I L P N st Ks len tx T) {n a g : Nat} (h2 : N 2 = nI n) (hn : n ≤ 6) (ha : a < 128) (hg : g ≤ 9) : call 81 [.ref B, .int (nI a), .int (nI g)] w I L P = if n = 6 then some (.inr 1, thrT w, I, L, P) else if wFrom N (nI a) 0 n = -1 then go 81 58 [.ref B, .int (nI a), .int (nI g)] [] w I L P else some (.inr 1, thrT w, I, L, P) := by
  obtain ⟨hw, p0, tb, hst, q, k, n', md, hq, hbc, hlg⟩ := CW_bc h
  have t0 := hw.1
  obtain ⟨-, ⟨hn', h2', i3⟩, -, -, -, -, hbq, -, hls, -⟩ := hbc
  have en : n' = n := by
    rw [h2, nI_eq (by omega) (by omega)] at h2'
    exact h2'.symm
  subst en
  rw [Two_addListener_E, Two_addListener_0, cl_range, if_pos (RG_of (by omega) (by omega) (by omega))]
  simp only [kC_ret, Option.toList, List.cons_append, List.nil_append, fix1_int, fix1_ref, fix1_unk, fix1_null, fix1_long]
  rw [Two_addListener_7, cl_range, if_pos (RG_of (by omega) hg (by omega))]
  simp only [kC_ret, Option.toList, List.cons_append, List.nil_append, fix1_int, fix1_ref, fix1_unk, fix1_null, fix1_long]
  rw [Two_addListener_14 _ _ _ _ _ _ _ t0, p0, rf_some, Two_addListener_18 _ _ _ _ _ _ _ _ tb.1, i3]
  by_cases e : n' = 6
  · rw [if_neg (nI_nlt (by omega) (by omega)), if_pos e, Two_addListener_26]
  · rw [if_pos (nI_lt (by omega) (by omega)), if_neg e, Two_addListener_36 _ _ _ _ _ _ _ t0, p0, rf_some, Two_addListener_40 _ _ _ _ _ _ _ _ tb.1, cl_listenerWith tb hbq hn I L i3 hls]
    simp only [kC_ret, Option.toList, List.cons_append, List.nil_append, fix1_int, fix1_ref, fix1_unk, fix1_null, fix1_long]
    rw [Two_addListener_44]
    by_cases z : wFrom N (nI a) 0 n' = -1
    · rw [if_pos z, if_pos z]
    · rw [if_neg z, if_neg z, Two_addListener_48]
theorem cc_addListener (h : CW B w I L P N st Ks len tx T) {n a g : Nat} (h2 : N 2 = nI n) (hn6 : n < 6) (ha : a < 128) (hg : g ≤ 9) (e1 : wFrom N (nI a) 0 n = -1) : Cok B w I L P (.int (nI n)) (addN N n (nI a) (nI g)) (svS st) (svK st Ks N) len tx T (call 81 [.ref B, .int (nI a), .int (nI g)] w I L P) := by
  have c36 := cx_add h h2 (by omega) ha hg
  obtain ⟨hw, p0, tb, hst, -⟩ := CW_bc h
  have t0 := hw.1
  obtain ⟨J, K, Q, a1, a2, a3⟩ := cl_save h
  obtain ⟨-, p0', -, -, q', k', n', md', hq', hbc', hlg'⟩ := CW_bc a2
  have hbc'' := hbc'
  obtain ⟨-, ⟨hn', h2', i3'⟩, -, -, -, -, hbq', -⟩ := hbc''
  have en : n' = n := by
    rw [h2, nI_eq (by omega) (by omega)] at h2'
    exact h2'.symm
  subst en
  have tl := (tb.2.2.2.2.2.2 n' hn6).1
  have hbr := BR_add (a := a) (h := g) hbc' hlg' hn6 hg
  have f2 : Fr (B + 1) (B + 41) J (wr (wr J (B + 1 + 28 + 2 * n') (sN (sN (J (B + 1 + 28 + 2 * n')) 0 (nI a)) 1 (nI g))) (B + 1) (sN (J (B + 1)) 3 (nI n' + nI 1))) K K Q Q := fun z hz => ⟨by rw [wr_ne _ _ (by omega), wr_ne _ _ (by omega)], rfl, rfl⟩
  refine ⟨_, K, Q, ?_, CW_bus a2 f2 (Nat.le_refl T) hq' hbr, Fr_trans (FvS_Fr a3) (Fr_B f2)⟩
  rw [c36, if_neg (by omega), if_pos e1, Two_addListener_58 _ _ _ _ _ _ _ t0, a1]
  simp only [kC_ret, Option.toList, List.cons_append, List.nil_append, fix1_int, fix1_ref, fix1_unk, fix1_null, fix1_long]
  rw [Two_addListener_62 _ _ _ _ _ _ _ t0, p0', rf_some, Two_addListener_66 _ _ _ _ _ _ _ _ tb.1, Bus_placeListener_E, Bus_placeListener_0 _ _ _ _ _ _ _ _ _ tb.1, i3', if_neg (nI_pos (by omega)), Bus_placeListener_9 _ _ _ _ _ _ _ _ _ tb.1, hbq'.2.1, rf_some, Bus_placeListener_14 _ _ _ _ _ _ _ _ _ _ _ (isAr_of tb.2.2.1), alen_of tb.2.2.1, if_neg (nI_ge hn6 (by omega)), Bus_placeListener_18 _ _ _ _ _ _ _ _ _ tb.1, hbq'.2.1, rf_some, Bus_placeListener_22 _ _ _ _ _ _ _ _ _ _ (inA_nI tb.2.2.1 hn6 (by omega)), cl_nI (by omega), (hbq'.2.2.2.2.1 n' hn6).1, rf_some, Bus_placeListener_24, Bus_placeListener_28_1, fix1_int, fix1_int, Bus_placeListener_37 _ _ _ _ _ _ _ _ _ tl tb.1]
  simp only [kC_ret, Option.toList, List.cons_append, List.nil_append, fix1_int, fix1_ref, fix1_unk, fix1_null, fix1_long]
  rw [Two_addListener_71]
  simp only [updI_wr, wr_wr, wr_same, wr_ne _ _ (show B + 1 ≠ B + 1 + 28 + 2 * n' by omega), i3']
theorem ce_addListener0 {x y : Int32} (hx : ¬ (RG x 0 127 ∧ RG y 0 9)) : call 81 [.ref B, .int x, .int y] w I L P = some (.inr 0, thrT w, I, L, P) := by
  by_cases g : RG x 0 127
  · rw [Two_addListener_E, Two_addListener_0, cl_range, if_pos g]
    simp only [kC_ret, Option.toList, List.cons_append, List.nil_append, fix1_int, fix1_ref, fix1_unk, fix1_null, fix1_long]
    rw [Two_addListener_7, cl_range, if_neg (fun y => hx ⟨g, y⟩), kC_thr]
  · rw [Two_addListener_E, Two_addListener_0, cl_range, if_neg g, kC_thr]
theorem ce_addListener1 (h : CW B w I L P N st Ks len tx T) {n a g : Nat} (h2 : N 2 = nI n) (hn : n ≤ 6) (ha : a < 128) (hg : g ≤ 9) (e1 : n = 6 ∨ wFrom N (nI a) 0 n ≠ -1) : call 81 [.ref B, .int (nI a), .int (nI g)] w I L P = some (.inr 1, thrT w, I, L, P) := by
  rw [cx_add h h2 hn ha hg]
  by_cases e : n = 6
  · rw [if_pos e]
  · rw [if_neg e]
    rcases e1 with e1 | e1
    · exact absurd e1 e
    · rw [if_neg e1]
theorem cc_turn (h : CW B w I L P N st Ks len tx T) {n l : Nat} {v : Int32} (h2 : N 2 = nI n) (hn : n ≤ 6) (hln : l < n) (hv : v = nI 0 ∨ v = nI 1) : (N (327 + 22 * l + 4) = v → call 82 [.ref B, .int (nI l), .int v] w I L P = some (.inr 1, thrT w, I, L, P)) ∧ (N (327 + 22 * l + 4) ≠ v → Cok B w I L P (.int (onS (sN N (327 + 22 * l + 4) v) n)) (sN N (327 + 22 * l + 4) v) (svS st) (svK st Ks N) len tx T (call 82 [.ref B, .int (nI l), .int v] w I L P)) := by
  obtain ⟨hw, p0, tb, hst, q, k, n0, md, hq, hbc, hlg⟩ := CW_bc h
  have t0 := hw.1
  have hbc' := hbc
  obtain ⟨-, ⟨hn0, h20, i3⟩, -, -, -, -, hbq, -, hls, -, -, ho, -⟩ := hbc'
  have en0 : n0 = n := by
    rw [h2, nI_eq (by omega) (by omega)] at h20
    exact h20.symm
  subst en0
  obtain ⟨lo1, lo2⟩ := cl_lOT hw p0 hbq hn I L i3
  have hv1 : v &&& 1 = v := by rcases hv with e | e <;> rw [e] <;> decide
  have hl6 : l < 6 := by omega
  obtain ⟨m, hr⟩ := hls l hln
  have tl := (tb.2.2.2.2.2.2 l hl6).1
  have hon : N (327 + 22 * l + 4) &&& 1 = N (327 + 22 * l + 4) := by rcases (ho l hl6).2.1 with e | e <;> rw [e] <;> decide
  refine ⟨fun e => ?_, fun e => ?_⟩
  · rw [Two_turn_E, Two_turn_0 _ _ _ _ _ _ _ _ t0, lo1 l hln]
    simp only [kC_ret, Option.toList, List.cons_append, List.nil_append, fix1_int, fix1_ref, fix1_unk, fix1_null, fix1_long]
    rw [Two_turn_5 _ _ _ _ _ _ _ _ _ tl, hr.2.2.2.1, hon, e, if_neg (by simp), Two_turn_14]
  · obtain ⟨J, K, Q, a1, a2, a3⟩ := cl_save h
    obtain ⟨-, p0', -, -, q', k', n', md', hq', hbc', hlg'⟩ := CW_bc a2
    have hbc'' := hbc'
    obtain ⟨-, ⟨hn', h2', i3'⟩, -, -, -, -, hbq', -, hls', -, -, ho', -⟩ := hbc''
    have en : n' = n0 := by
      rw [h2, nI_eq (by omega) (by omega)] at h2'
      exact h2'.symm
    subst en
    obtain ⟨m', g0, g1, g2, g3, g4, g5, g6, g7, g8⟩ := hls' l hln
    have hbr : BR (B + 1) (sN N (327 + 22 * l + 4) v) (wr J (B + 1 + 28 + 2 * l) (sN (J (B + 1 + 28 + 2 * l)) 2 v)) K Q q' := by
      refine BR_lst hbc' hlg' hln (fun z hz => sN_ne (by omega)) (fun z hz => wr_ne _ _ hz) ⟨m', g0, ?_, ?_, ?_, ?_, ?_, ?_, ?_, ?_⟩ ?_
      · rw [wr_same, sN_ne (by omega), sN_ne (by omega)]; exact g1
      · rw [wr_same, sN_ne (by omega), sN_ne (by omega)]; exact g2
      · rw [wr_same, sN_eq, sN_eq]
      · rw [wr_same, sN_ne (by omega), sN_ne (by omega)]; exact g4
      · rw [wr_same, sN_ne (by omega)]; exact g5
      · rw [sN_ne (by omega)]; exact g6
      · rw [wr_same, sN_ne (by omega), sN_ne (by omega)]; exact g7
      · intro i hi; rw [wr_ne _ _ (by omega), sN_ne (by omega)]; exact g8 i hi
      · obtain ⟨o1, o2, mm, p, o3, o4, o5, o6, -⟩ := ho' l hl6
        rw [sN_ne (show 327 + 22 * l + 1 ≠ 327 + 22 * l + 4 by omega), sN_eq, sN_ne (show 327 + 22 * l + 2 ≠ 327 + 22 * l + 4 by omega), sN_ne (show 327 + 22 * l + 3 ≠ 327 + 22 * l + 4 by omega)]
        exact ⟨o1, hv, mm, p, o3, o4, o5, o6⟩
    have hbr' := hbr
    obtain ⟨⟨k2, n2, md2, hbc2⟩, -⟩ := hbr'
    have en2 : n2 = n' := by
      have := hbc2.2.1.2.1
      rw [sN_ne (by omega), h2, nI_eq (by omega) (by have := hbc2.2.1.1; omega)] at this
      exact this.symm
    subst en2
    have f2 : Fr (B + 1) (B + 41) J (wr J (B + 1 + 28 + 2 * l) (sN (J (B + 1 + 28 + 2 * l)) 2 v)) K K Q Q := fun z hz => ⟨by rw [wr_ne _ _ (by omega)], rfl, rfl⟩
    refine ⟨_, K, Q, ?_, CW_bus a2 f2 (Nat.le_refl T) hq' hbr, Fr_trans (FvS_Fr a3) (Fr_B f2)⟩
    rw [Two_turn_E, Two_turn_0 _ _ _ _ _ _ _ _ t0, lo1 l hln]
    simp only [kC_ret, Option.toList, List.cons_append, List.nil_append, fix1_int, fix1_ref, fix1_unk, fix1_null, fix1_long]
    rw [Two_turn_5 _ _ _ _ _ _ _ _ _ tl, hr.2.2.2.1, hon, if_pos e, Two_turn_24 _ _ _ _ _ _ _ _ t0, a1]
    simp only [kC_ret, Option.toList, List.cons_append, List.nil_append, fix1_int, fix1_ref, fix1_unk, fix1_null, fix1_long]
    rw [Two_turn_28 _ _ _ _ _ _ _ _ tl hv1 t0, p0', rf_some, Two_turn_37 _ _ _ _ _ _ _ _ _ tb.1, updI_wr, cl_on tb hbc2]
    simp only [kC_ret, Option.toList, List.cons_append, List.nil_append, fix1_int, fix1_ref, fix1_unk, fix1_null, fix1_long]
    rw [Two_turn_40]
theorem ce_turn (h : CW B w I L P N st Ks len tx T) {n : Nat} {x v : Int32} (h2 : N 2 = nI n) (hn : n ≤ 6) (hx : x < 0 ∨ nI n ≤ x) : call 82 [.ref B, .int x, .int v] w I L P = some (.inr 2, thrT w, I, L, P) := by
  obtain ⟨hw, p0, tb, hst, q, k, n0, md, hq, hbc, hlg⟩ := CW_bc h
  have t0 := hw.1
  obtain ⟨-, ⟨hn0, h20, i3⟩, -, -, -, -, hbq, -⟩ := hbc
  have en0 : n0 = n := by
    rw [h2, nI_eq (by omega) (by omega)] at h20
    exact h20.symm
  subst en0
  obtain ⟨lo1, lo2⟩ := cl_lOT hw p0 hbq hn I L i3
  rw [Two_turn_E, Two_turn_0 _ _ _ _ _ _ _ _ t0, lo2 x hx, kC_thr]
theorem ce_empty (h : CW B w I L P N st Ks len tx T) {n : Nat} {x : Int32} (h2 : N 2 = nI n) (hn : n ≤ 6) (hx : x < 0 ∨ nI n ≤ x) : call 83 [.ref B, .int x] w I L P = some (.inr 2, thrT w, I, L, P) := by
  obtain ⟨hw, p0, tb, hst, q, k, n0, md, hq, hbc, hlg⟩ := CW_bc h
  have t0 := hw.1
  obtain ⟨-, ⟨hn0, h20, i3⟩, -, -, -, -, hbq, -⟩ := hbc
  have en0 : n0 = n := by
    rw [h2, nI_eq (by omega) (by omega)] at h20
    exact h20.symm
  subst en0
  obtain ⟨lo1, lo2⟩ := cl_lOT hw p0 hbq hn I L i3
  rw [Two_empty_E, Two_empty_0 _ _ _ _ _ _ _ t0, lo2 x hx, kC_thr]
theorem cc_empty (h : CW B w I L P N st Ks len tx T) {n l : Nat} (h2 : N 2 = nI n) (hn : n ≤ 6) (hln : l < n) : Cok B w I L P (.int (N (327 + 22 * l + 2))) (sN (sN N (327 + 22 * l + 2) (nI 0)) (327 + 22 * l + 3) (nI 0)) (svS st) (svK st Ks N) len tx T (call 83 [.ref B, .int (nI l)] w I L P) := by
  obtain ⟨hw, p0, tb, hst, q, k, n0, md, hq, hbc, hlg⟩ := CW_bc h
  have t0 := hw.1
  have hbc' := hbc
  obtain ⟨-, ⟨hn0, h20, i3⟩, -, -, -, -, hbq, -, hls, -, -, ho, -⟩ := hbc'
  have en0 : n0 = n := by
    rw [h2, nI_eq (by omega) (by omega)] at h20
    exact h20.symm
  subst en0
  obtain ⟨lo1, lo2⟩ := cl_lOT hw p0 hbq hn I L i3
  have hl6 : l < 6 := by omega
  have tl := (tb.2.2.2.2.2.2 l hl6).1
  obtain ⟨J, K, Q, a1, a2, a3⟩ := cl_save h
  obtain ⟨-, p0', -, -, q', k', n', md', hq', hbc', hlg'⟩ := CW_bc a2
  have hbc'' := hbc'
  obtain ⟨-, ⟨hn', h2', i3'⟩, -, -, -, -, hbq', -, hls', -, -, ho', -⟩ := hbc''
  have en : n' = n0 := by
    rw [h2, nI_eq (by omega) (by omega)] at h2'
    exact h2'.symm
  subst en
  obtain ⟨m', g0, g1, g2, g3, g4, g5, g6, g7, g8⟩ := hls' l hln
  have hbr : BR (B + 1) (sN (sN N (327 + 22 * l + 2) (nI 0)) (327 + 22 * l + 3) (nI 0)) (wr J (B + 1 + 28 + 2 * l) (sN (sN (J (B + 1 + 28 + 2 * l)) 5 (nI 0)) 6 (nI 0))) K Q q' := by
    refine BR_lst hbc' hlg' hln (fun z hz => by rw [sN_ne (by omega), sN_ne (by omega)]) (fun z hz => wr_ne _ _ hz) ⟨0, by omega, ?_, ?_, ?_, ?_, ?_, ?_, ?_, fun i hi => absurd hi (by omega)⟩ ?_
    · rw [wr_same, sN_ne (by omega), sN_ne (by omega), sN_ne (by omega), sN_ne (by omega)]; exact g1
    · rw [wr_same, sN_ne (by omega), sN_ne (by omega), sN_ne (by omega), sN_ne (by omega)]; exact g2
    · rw [wr_same, sN_ne (by omega), sN_ne (by omega), sN_ne (by omega), sN_ne (by omega)]; exact g3
    · rw [wr_same, sN_ne (by omega), sN_ne (by omega), sN_ne (by omega), sN_ne (by omega)]; exact g4
    · rw [wr_same, sN_ne (by omega), sN_eq]
    · rw [sN_ne (by omega), sN_eq]
    · rw [wr_same, sN_eq, sN_eq]
    · obtain ⟨o1, o2, mm, p, o3, o4, o5, o6, -⟩ := ho' l hl6
      rw [sN_ne (show 327 + 22 * l + 1 ≠ 327 + 22 * l + 3 by omega), sN_ne (show 327 + 22 * l + 1 ≠ 327 + 22 * l + 2 by omega), sN_ne (show 327 + 22 * l + 4 ≠ 327 + 22 * l + 3 by omega), sN_ne (show 327 + 22 * l + 4 ≠ 327 + 22 * l + 2 by omega), sN_eq, sN_ne (show 327 + 22 * l + 2 ≠ 327 + 22 * l + 3 by omega), sN_eq]
      exact ⟨o1, o2, 0, 0, by omega, rfl, rfl, Or.inr rfl⟩
  have f2 : Fr (B + 1) (B + 41) J (wr J (B + 1 + 28 + 2 * l) (sN (sN (J (B + 1 + 28 + 2 * l)) 5 (nI 0)) 6 (nI 0))) K K Q Q := fun z hz => ⟨by rw [wr_ne _ _ (by omega)], rfl, rfl⟩
  refine ⟨_, K, Q, ?_, CW_bus a2 f2 (Nat.le_refl T) hq' hbr, Fr_trans (FvS_Fr a3) (Fr_B f2)⟩
  rw [Two_empty_E, Two_empty_0 _ _ _ _ _ _ _ t0, lo1 l hln]
  simp only [kC_ret, Option.toList, List.cons_append, List.nil_append, fix1_int, fix1_ref, fix1_unk, fix1_null, fix1_long]
  rw [Two_empty_5_1 _ _ _ _ _ _ _ _ t0, a1]
  simp only [kC_ret, Option.toList, List.cons_append, List.nil_append, fix1_int, fix1_ref, fix1_unk, fix1_null, fix1_long]
  rw [Two_empty_10 _ _ _ _ _ _ _ tl, Listener_forget_E, Listener_forget_0 _ _ _ _ _ _ tl, g5, ← g6]
  simp only [kC_ret, Option.toList, List.cons_append, List.nil_append, fix1_int, fix1_ref, fix1_unk, fix1_null, fix1_long]
  rw [Two_empty_14]
  simp only [updI_wr, wr_wr, wr_same]
end
