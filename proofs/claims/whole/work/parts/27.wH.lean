/-! calls: addListener, turn, empty -/
section
variable {B : Nat} {w : Wd} {I : MI} {L : ML} {P : MP} {N : Nat → Int32} {st : Nat} {Ks : Nat → Nat → Int32} {len : Nat} {tx : Nat → Nat} {T : Nat}
theorem sc_addListener (h : CW B w I L P N st Ks len tx T) (x y : Int32) : SC B w I L P N st Ks len tx T (fun e => if e < 2 then e + 1 else 0) (call 81 [.ref B, .int x, .int y] w I L P) (fun w1 J K Q => call 164 [.ref (B + 284), .int x, .int y] w1 J K Q) := by
  obtain ⟨hw, p0, tb, hst, q, k, n, md, hq, hbc, hlg⟩ := CW_bc h
  have t0 := hw.1
  have hbc' := hbc
  obtain ⟨-, ⟨hn, h2, i3⟩, -, -, -, -, hbq, -, hls, -⟩ := hbc'
  -- the model's fail
  have mfail : ∀ c, ∀ w1 J K Q, MW B w1 J Q N st Ks len tx → ∀ l0 l1 l2, go 164 (if c = 1 then 24 else 50) [.ref (B + 284), l0, l1, l2] [] w1 J K Q = call 122 [.ref (B + 284), .int (nI (if c = 1 then 1 else 2))] w1 J K Q := by
    intro c w1 J K Q hm l0 l1 l2
    obtain ⟨J3, K3, d1, d2, d3, d4⟩ := mw_fails (L := K) hm (if c = 1 then 1 else 2)
    by_cases e : c = 1
    · simp only [e, if_true] at d1 ⊢
      rw [Model_addListener_24 _ _ _ _ _ _ _ _ hm.1.1, d1]
      simp only [kC_ret, Option.toList, List.cons_append, List.nil_append, fix1_int, fix1_ref, fix1_unk, fix1_null, fix1_long]
      rw [Model_addListener_29]
    · simp only [e, if_false] at d1 ⊢
      rw [Model_addListener_50 _ _ _ _ _ _ _ _ hm.1.1, d1]
      simp only [kC_ret, Option.toList, List.cons_append, List.nil_append, fix1_int, fix1_ref, fix1_unk, fix1_null, fix1_long]
      rw [Model_addListener_55]
  by_cases hx : RG x 0 127
  · by_cases hy : RG y 0 9
    · obtain ⟨a, -, ha, rfl⟩ := RG_ex (by omega) (by omega) hx
      obtain ⟨g, -, hg, rfl⟩ := RG_ex (by omega) (by omega) hy
      -- how far both come
      have c36 : call 81 [.ref B, .int (nI a), .int (nI g)] w I L P = if n = 6 then some (.inr 1, thrT w, I, L, P) else if wFrom N (nI a) 0 n = -1 then go 81 58 [.ref B, .int (nI a), .int (nI g)] [] w I L P else some (.inr 1, thrT w, I, L, P) := by
        rw [Two_addListener_E, Two_addListener_0, cl_range, if_pos hx]
        simp only [kC_ret, Option.toList, List.cons_append, List.nil_append, fix1_int, fix1_ref, fix1_unk, fix1_null, fix1_long]
        rw [Two_addListener_7, cl_range, if_pos hy]
        simp only [kC_ret, Option.toList, List.cons_append, List.nil_append, fix1_int, fix1_ref, fix1_unk, fix1_null, fix1_long]
        rw [Two_addListener_14 _ _ _ _ _ _ _ t0, p0, rf_some, Two_addListener_18 _ _ _ _ _ _ _ _ tb.1, i3]
        by_cases e : n = 6
        · rw [if_neg (nI_nlt (by omega) (by omega)), if_pos e, Two_addListener_26]
        · rw [if_pos (nI_lt (by omega) (by omega)), if_neg e, Two_addListener_36 _ _ _ _ _ _ _ t0, p0, rf_some, Two_addListener_40 _ _ _ _ _ _ _ _ tb.1, cl_listenerWith tb hbq hn I L i3 hls]
          simp only [kC_ret, Option.toList, List.cons_append, List.nil_append, fix1_int, fix1_ref, fix1_unk, fix1_null, fix1_long]
          rw [Two_addListener_44]
          by_cases z : wFrom N (nI a) 0 n = -1
          · rw [if_pos z, if_pos z]
          · rw [if_neg z, if_neg z, Two_addListener_48]
      have m30 : ∀ w1 J K Q, MW B w1 J Q N st Ks len tx → call 164 [.ref (B + 284), .int (nI a), .int (nI g)] w1 J K Q = if n = 6 then go 164 50 [.ref (B + 284), .int (nI a), .int (nI g), unk] [] w1 J K Q else if wFrom N (nI a) 0 n = -1 then go 164 56 [.ref (B + 284), .int (nI a), .int (nI g), unk] [] w1 J K Q else go 164 50 [.ref (B + 284), .int (nI a), .int (nI g), unk] [] w1 J K Q := by
        intro w1 J K Q hm
        obtain ⟨⟨w71, wd1, -⟩, ⟨p01, -⟩, m3, -⟩ := hm
        rw [Model_addListener_E, Model_addListener_0, mo_rg (nI a) 0 127 0 127 l0_i l127_i, if_pos hx]
        simp only [kC_ret, Option.toList, List.cons_append, List.nil_append, fix1_int, fix1_ref, fix1_unk, fix1_null, fix1_long]
        rw [Model_addListener_9, if_neg n10, Model_addListener_12, mo_rg (nI g) 0 9 0 9 l0_i l9_i, if_pos hy]
        simp only [kC_ret, Option.toList, List.cons_append, List.nil_append, fix1_int, fix1_ref, fix1_unk, fix1_null, fix1_long]
        rw [Model_addListener_21, if_pos n10, Model_addListener_30 _ _ _ _ _ _ _ _ w71, p01, rf_some, Model_addListener_34 _ _ _ _ _ _ _ _ _ (inA_nI wd1 (by omega) (by omega)), cl_nI (by omega), m3, h2]
        by_cases e : n = 6
        · rw [if_pos (by rw [e]), if_pos e]
        · rw [if_neg (fun q => by rw [nI_eq (by omega) (by omega)] at q; exact e q), if_neg e, Model_addListener_41 _ _ _ _ _ _ _ _ w71, mo_withAddress w71 wd1 p01 _ J K hn (by rw [m3]; exact h2), m3]
          simp only [kC_ret, Option.toList, List.cons_append, List.nil_append, fix1_int, fix1_ref, fix1_unk, fix1_null, fix1_long]
          rw [Model_addListener_46]
      by_cases e6 : n = 6
      · right
        refine ⟨1, nI 0, by rw [c36, if_pos e6], by decide, by decide, ?_⟩
        intro w1 J K Q hm
        have := mfail 2 w1 J K Q hm (.int (nI a)) (.int (nI g)) unk
        simp only [show ¬ (2 = 1) by decide, if_false] at this
        refine ⟨N, fun _ _ => rfl, ?_⟩
        dsimp only
        rw [m30 w1 J K Q hm, if_pos e6, this]
        exact mw_fails hm 2
      · by_cases e1 : wFrom N (nI a) 0 n = -1
        · left
          have hn6 : n < 6 := by omega
          refine ⟨nI n, addN N n (nI a) (nI g), svS st, svK st Ks N, len, tx, ?_, ?_⟩
          · obtain ⟨J, K, Q, a1, a2, a3⟩ := cl_save h
            obtain ⟨-, p0', -, -, q', k', n', md', hq', hbc', hlg'⟩ := CW_bc a2
            have hbc'' := hbc'
            obtain ⟨-, ⟨hn', h2', i3'⟩, -, -, -, -, hbq', -⟩ := hbc''
            have en : n' = n := by
              rw [h2, nI_eq (by omega) (by omega)] at h2'
              exact h2'.symm
            subst en
            have tl := (tb.2.2.2.2.2.2 n' hn6).1
            have hbr := BR_add (a := a) (h := g) hbc' hlg' hn6 hg
            have f2 : Fr (B + 1) (B + 41) J (wr (wr J (B + 1 + 28 + 2 * n') (sN (sN (J (B + 1 + 28 + 2 * n')) 0 (nI a)) 1 (nI g))) (B + 1) (sN (J (B + 1)) 3 (nI n' + nI 1))) K K Q Q := fun z hz => ⟨by rw [wr_ne _ _ (by omega), wr_ne _ _ (by omega)], rfl, rfl⟩
            refine ⟨_, K, Q, ?_, CW_bus a2 f2 (Nat.le_refl T) hq' hbr, Fr_trans (FvS_Fr a3) (Fr_B f2)⟩
            rw [c36, if_neg e6, if_pos e1, Two_addListener_58 _ _ _ _ _ _ _ t0, a1]
            simp only [kC_ret, Option.toList, List.cons_append, List.nil_append, fix1_int, fix1_ref, fix1_unk, fix1_null, fix1_long]
            rw [Two_addListener_62 _ _ _ _ _ _ _ t0, p0', rf_some, Two_addListener_66 _ _ _ _ _ _ _ _ tb.1, Bus_placeListener_E, Bus_placeListener_0 _ _ _ _ _ _ _ _ _ tb.1, i3', if_neg (nI_pos (by omega)), Bus_placeListener_9 _ _ _ _ _ _ _ _ _ tb.1, hbq'.2.1, rf_some, Bus_placeListener_14 _ _ _ _ _ _ _ _ _ _ _ (isAr_of tb.2.2.1), alen_of tb.2.2.1, if_neg (nI_ge hn6 (by omega)), Bus_placeListener_18 _ _ _ _ _ _ _ _ _ tb.1, hbq'.2.1, rf_some, Bus_placeListener_22 _ _ _ _ _ _ _ _ _ _ (inA_nI tb.2.2.1 hn6 (by omega)), cl_nI (by omega), (hbq'.2.2.2.2.1 n' hn6).1, rf_some, Bus_placeListener_24, Bus_placeListener_28_1, fix1_int, fix1_int, Bus_placeListener_37 _ _ _ _ _ _ _ _ _ tl tb.1]
            simp only [kC_ret, Option.toList, List.cons_append, List.nil_append, fix1_int, fix1_ref, fix1_unk, fix1_null, fix1_long]
            rw [Two_addListener_71]
            simp only [updI_wr, wr_wr, wr_same, wr_ne _ _ (show B + 1 ≠ B + 1 + 28 + 2 * n' by omega), i3']
          · intro w1 J K Q hm
            obtain ⟨J1, J2, c1, c2, c3, c4⟩ := mw_as (L := K) hm hst
            have m30' := m30 w1 J K Q hm
            obtain ⟨⟨w71, wd1, -⟩, ⟨p01, -⟩, m3, -⟩ := hm
            have e85 : J2 (B + 285) = N := c3.2.2.1
            have c5 := MW_now c3 (addN N n (nI a) (nI g))
            obtain ⟨J3, K3, d1, d2, d3, d4⟩ := mw_well (L := K) c5 (nI n)
            refine ⟨addN N n (nI a) (nI g), fun _ _ => rfl, J3, K3, ?_, d2, d3, Fr_trans (Fr_trans c4 Fr_now) d4⟩
            dsimp only
            rw [m30', if_neg e6, if_pos e1, Model_addListener_56 _ _ _ _ _ _ _ _ w71, c1]
            simp only [kC_ret, Option.toList, List.cons_append, List.nil_append, fix1_int, fix1_ref, fix1_unk, fix1_null, fix1_long]
            rw [Model_addListener_60 _ _ _ _ _ _ _ _ w71, c2]
            simp only [kC_ret, Option.toList, List.cons_append, List.nil_append, fix1_int, fix1_ref, fix1_unk, fix1_null, fix1_long]
            rw [Model_addListener_64 _ _ _ _ _ _ _ _ w71, p01, rf_some, Model_addListener_68 _ _ _ _ _ _ _ _ _ (inA_nI wd1 (by omega) (by omega)) w71, cl_nI (by omega), e85, h2, mo_sets w71 wd1 p01 (c := n) (k := 0) (by omega)]
            simp only [kC_ret, Option.toList, List.cons_append, List.nil_append, fix1_int, fix1_ref, fix1_unk, fix1_null, fix1_long]
            rw [Model_addListener_78 _ _ _ _ _ _ _ _ w71, mo_sets w71 wd1 p01 (c := n) (k := 1) (by omega)]
            simp only [kC_ret, Option.toList, List.cons_append, List.nil_append, fix1_int, fix1_ref, fix1_unk, fix1_null, fix1_long]
            rw [Model_addListener_85 _ _ _ _ _ _ _ _ w71, mo_sets w71 wd1 p01 (c := n) (k := 4) (by omega)]
            simp only [kC_ret, Option.toList, List.cons_append, List.nil_append, fix1_int, fix1_ref, fix1_unk, fix1_null, fix1_long]
            rw [Model_addListener_92 _ _ _ _ _ _ _ _ w71, p01, rf_some, Model_addListener_96 _ _ _ _ _ _ _ _ _ (inA_nI wd1 (by omega) (by omega)) w71, cl_nI (by omega)]
            simp only [updI_wr, wr_wr, wr_same, e85]
            rw [show sN (sN (sN N (327 + 22 * n + 0) (nI a)) (327 + 22 * n + 1) (nI g)) (327 + 22 * n + 4) (nI 1) 2 = nI n from by rw [sN_ne (by omega), sN_ne (by omega), sN_ne (by omega)]; exact h2]
            change kC (call 123 _ w1 (wr J2 (B + 285) (addN N n (nI a) (nI g))) K Q) _ = _
            rw [d1]
            simp only [kC_ret, Option.toList, List.cons_append, List.nil_append, fix1_int, fix1_ref, fix1_unk, fix1_null, fix1_long]
            rw [Model_addListener_107]
        · right
          refine ⟨1, nI 0, by rw [c36, if_neg e6, if_neg e1], by decide, by decide, ?_⟩
          intro w1 J K Q hm
          have := mfail 2 w1 J K Q hm (.int (nI a)) (.int (nI g)) unk
          simp only [show ¬ (2 = 1) by decide, if_false] at this
          refine ⟨N, fun _ _ => rfl, ?_⟩
          dsimp only
          rw [m30 w1 J K Q hm, if_neg e6, if_neg e1, this]
          exact mw_fails hm 2
    · right
      refine ⟨0, nI 0, ?_, by decide, by decide, ?_⟩
      · rw [Two_addListener_E, Two_addListener_0, cl_range, if_pos hx]
        simp only [kC_ret, Option.toList, List.cons_append, List.nil_append, fix1_int, fix1_ref, fix1_unk, fix1_null, fix1_long]
        rw [Two_addListener_7, cl_range, if_neg hy, kC_thr]
      · intro w1 J K Q hm
        have := mfail 1 w1 J K Q hm (.int x) (.int y) unk
        simp only [if_true] at this
        refine ⟨N, fun _ _ => rfl, ?_⟩
        change Mok B w1 J K Q (.int (nI 0)) 1 N st Ks len tx (call 164 [.ref (B + 284), .int x, .int y] w1 J K Q)
        rw [Model_addListener_E, Model_addListener_0, mo_rg x 0 127 0 127 l0_i l127_i, if_pos hx]
        simp only [kC_ret, Option.toList, List.cons_append, List.nil_append, fix1_int, fix1_ref, fix1_unk, fix1_null, fix1_long]
        rw [Model_addListener_9, if_neg n10, Model_addListener_12, mo_rg y 0 9 0 9 l0_i l9_i, if_neg hy]
        simp only [kC_ret, Option.toList, List.cons_append, List.nil_append, fix1_int, fix1_ref, fix1_unk, fix1_null, fix1_long]
        rw [Model_addListener_21, if_neg (by simp [n00]), this]
        exact mw_fails hm 1
  · right
    refine ⟨0, nI 0, ?_, by decide, by decide, ?_⟩
    · rw [Two_addListener_E, Two_addListener_0, cl_range, if_neg hx, kC_thr]
    · intro w1 J K Q hm
      have := mfail 1 w1 J K Q hm (.int x) (.int y) unk
      simp only [if_true] at this
      refine ⟨N, fun _ _ => rfl, ?_⟩
      dsimp only
      rw [Model_addListener_E, Model_addListener_0, mo_rg x 0 127 0 127 l0_i l127_i, if_neg hx]
      simp only [kC_ret, Option.toList, List.cons_append, List.nil_append, fix1_int, fix1_ref, fix1_unk, fix1_null, fix1_long]
      rw [Model_addListener_9, if_pos n00, this]
      exact mw_fails hm 1
theorem sc_turn (h : CW B w I L P N st Ks len tx T) (x v : Int32) (hv : v = nI 0 ∨ v = nI 1) : SC B w I L P N st Ks len tx T (fun e => if e = 1 then 2 else if e = 2 then 1 else 0) (call 82 [.ref B, .int x, .int v] w I L P) (fun w1 J K Q => call 166 [.ref (B + 284), .int x, .int v] w1 J K Q) := by
  obtain ⟨hw, p0, tb, hst, q, k, n, md, hq, hbc, hlg⟩ := CW_bc h
  have t0 := hw.1
  have hbc' := hbc
  obtain ⟨-, ⟨hn, h2, i3⟩, -, -, -, -, hbq, -, hls, -, -, ho, -⟩ := hbc'
  obtain ⟨lo1, lo2⟩ := cl_lOT hw p0 hbq hn I L i3
  have hv1 : v &&& 1 = v := by rcases hv with e | e <;> rw [e] <;> decide
  rcases cl_ix x (n := n) (by omega) with ⟨l, hln, rfl⟩ | ⟨hx, hx2⟩
  · have hl6 : l < 6 := by omega
    obtain ⟨m, hr⟩ := hls l hln
    have tl := (tb.2.2.2.2.2.2 l hl6).1
    have hon : N (327 + 22 * l + 4) &&& 1 = N (327 + 22 * l + 4) := by rcases (ho l hl6).2.1 with e | e <;> rw [e] <;> decide
    have m23 : ∀ w1 J K Q, MW B w1 J Q N st Ks len tx → call 166 [.ref (B + 284), .int (nI l), .int v] w1 J K Q = if N (327 + 22 * l + 4) ≠ v then go 166 40 [.ref (B + 284), .int (nI l), .int v, .int v] [] w1 J K Q else go 166 34 [.ref (B + 284), .int (nI l), .int v, .int v] [] w1 J K Q := by
      intro w1 J K Q hm
      obtain ⟨⟨w71, wd1, -⟩, ⟨p01, -⟩, m3, -⟩ := hm
      rw [Model_turn_E, Model_turn_0 _ _ _ _ _ _ _ _ w71, mo_isListener w71 wd1 p01, m3, h2, if_pos ((mo_ix (by omega)).mpr ⟨l, hln, rfl⟩)]
      simp only [kC_ret, Option.toList, List.cons_append, List.nil_append, fix1_int, fix1_ref, fix1_unk, fix1_null, fix1_long]
      rw [Model_turn_5, if_pos n10, Model_turn_14]
      have e1 : (if v = 0 then go 166 22 [.ref (B + 284), .int (nI l), .int v, unk] [] w1 J K Q else go 166 18 [.ref (B + 284), .int (nI l), .int v, unk] [] w1 J K Q) = go 166 23 [.ref (B + 284), .int (nI l), .int v, unk] [.int v] w1 J K Q := by
        rcases hv with e | e <;> rw [e]
        · rw [if_pos n00, Model_turn_22]
        · rw [if_neg n10, Model_turn_18]
      rw [e1, Model_turn_23 _ _ _ _ _ _ _ _ _ w71, mo_part w71 wd1 p01 (c := l) (k := 4) (by omega), m3, fix1_int]
      simp only [kC_ret, Option.toList, List.cons_append, List.nil_append, fix1_int, fix1_ref, fix1_unk, fix1_null, fix1_long]
      rw [Model_turn_30]
    by_cases e : N (327 + 22 * l + 4) = v
    · right
      refine ⟨1, nI 0, ?_, by decide, by decide, ?_⟩
      · rw [Two_turn_E, Two_turn_0 _ _ _ _ _ _ _ _ t0, lo1 l hln]
        simp only [kC_ret, Option.toList, List.cons_append, List.nil_append, fix1_int, fix1_ref, fix1_unk, fix1_null, fix1_long]
        rw [Two_turn_5 _ _ _ _ _ _ _ _ _ tl, hr.2.2.2.1, hon, e, if_neg (by simp), Two_turn_14]
      · intro w1 J K Q hm
        obtain ⟨J3, K3, d1, d2, d3, d4⟩ := mw_fails (L := K) hm 2
        refine ⟨N, fun _ _ => rfl, J3, K3, ?_, d2, d3, d4⟩
        dsimp only
        rw [m23 w1 J K Q hm, if_neg (by simp [e]), Model_turn_34 _ _ _ _ _ _ _ _ hm.1.1, d1]
        simp only [kC_ret, Option.toList, List.cons_append, List.nil_append, fix1_int, fix1_ref, fix1_unk, fix1_null, fix1_long]
        rw [Model_turn_39]
    · left
      refine ⟨onS (sN N (327 + 22 * l + 4) v) n, sN N (327 + 22 * l + 4) v, svS st, svK st Ks N, len, tx, ?_, ?_⟩
      · obtain ⟨J, K, Q, a1, a2, a3⟩ := cl_save h
        obtain ⟨-, p0', -, -, q', k', n', md', hq', hbc', hlg'⟩ := CW_bc a2
        have hbc'' := hbc'
        obtain ⟨-, ⟨hn', h2', i3'⟩, -, -, -, -, hbq', -, hls', -, -, ho', -⟩ := hbc''
        have en : n' = n := by
          rw [h2, nI_eq (by omega) (by omega)] at h2'
          exact h2'.symm
        subst en
        obtain ⟨m', g0, g1, g2, g3, g4, g5, g6, g7, g8⟩ := hls' l hln
        have hbr : BR (B + 1) (sN N (327 + 22 * l + 4) v) (wr J (B + 1 + 28 + 2 * l) (sN (J (B + 1 + 28 + 2 * l)) 2 v)) K Q q' := by
          refine BR_lst hbc' hlg' hln (fun z hz => sN_ne (by omega)) (fun z hz => wr_ne _ _ hz) ⟨m', g0, ?_, ?_, ?_, ?_, ?_, ?_, ?_, ?_⟩ ?_
          · rw [wr_same, sN_ne (by omega), sN_ne (by omega)]; exact g1
          · rw [wr_same, sN_ne (by omega), sN_ne (by omega)]; exact g2
          · rw [wr_same, sN_eq, sN_eq]
          · rw [wr_same, sN_ne (by omega), sN_ne (by omega)]; exact g4
          · rw [wr_same, sN_ne (by omega)]; exact g5
          · rw [sN_ne (by omega)]; exact g6
          · rw [wr_same, sN_ne (by omega), sN_ne (by omega)]; exact g7
          · intro i hi; rw [wr_ne _ _ (by omega), sN_ne (by omega)]; exact g8 i hi
          · obtain ⟨o1, o2, mm, p, o3, o4, o5, o6, -⟩ := ho' l hl6
            rw [sN_ne (show 327 + 22 * l + 1 ≠ 327 + 22 * l + 4 by omega), sN_eq, sN_ne (show 327 + 22 * l + 2 ≠ 327 + 22 * l + 4 by omega), sN_ne (show 327 + 22 * l + 3 ≠ 327 + 22 * l + 4 by omega)]
            exact ⟨o1, hv, mm, p, o3, o4, o5, o6⟩
        have hbr' := hbr
        obtain ⟨⟨k2, n2, md2, hbc2⟩, -⟩ := hbr'
        have en2 : n2 = n' := by
          have := hbc2.2.1.2.1
          rw [sN_ne (by omega), h2, nI_eq (by omega) (by have := hbc2.2.1.1; omega)] at this
          exact this.symm
        subst en2
        have f2 : Fr (B + 1) (B + 41) J (wr J (B + 1 + 28 + 2 * l) (sN (J (B + 1 + 28 + 2 * l)) 2 v)) K K Q Q := fun z hz => ⟨by rw [wr_ne _ _ (by omega)], rfl, rfl⟩
        refine ⟨_, K, Q, ?_, CW_bus a2 f2 (Nat.le_refl T) hq' hbr, Fr_trans (FvS_Fr a3) (Fr_B f2)⟩
        rw [Two_turn_E, Two_turn_0 _ _ _ _ _ _ _ _ t0, lo1 l hln]
        simp only [kC_ret, Option.toList, List.cons_append, List.nil_append, fix1_int, fix1_ref, fix1_unk, fix1_null, fix1_long]
        rw [Two_turn_5 _ _ _ _ _ _ _ _ _ tl, hr.2.2.2.1, hon, if_pos e, Two_turn_24 _ _ _ _ _ _ _ _ t0, a1]
        simp only [kC_ret, Option.toList, List.cons_append, List.nil_append, fix1_int, fix1_ref, fix1_unk, fix1_null, fix1_long]
        rw [Two_turn_28 _ _ _ _ _ _ _ _ tl hv1 t0, p0', rf_some, Two_turn_37 _ _ _ _ _ _ _ _ _ tb.1, updI_wr, cl_on tb hbc2]
        simp only [kC_ret, Option.toList, List.cons_append, List.nil_append, fix1_int, fix1_ref, fix1_unk, fix1_null, fix1_long]
        rw [Two_turn_40]
      · intro w1 J K Q hm
        obtain ⟨J1, J2, c1, c2, c3, c4⟩ := mw_as (L := K) hm hst
        have m23' := m23 w1 J K Q hm
        obtain ⟨⟨w71, wd1, -⟩, ⟨p01, -⟩, m3, -⟩ := hm
        have e85 : J2 (B + 285) = N := c3.2.2.1
        have c5 := MW_now c3 (sN N (327 + 22 * l + 4) v)
        obtain ⟨J3, K3, d1, d2, d3, d4⟩ := mw_well (L := K) c5 (onS (sN N (327 + 22 * l + 4) v) n)
        refine ⟨sN N (327 + 22 * l + 4) v, fun _ _ => rfl, J3, K3, ?_, d2, d3, Fr_trans (Fr_trans c4 Fr_now) d4⟩
        dsimp only
        rw [m23', if_pos e, Model_turn_40 _ _ _ _ _ _ _ _ w71, c1]
        simp only [kC_ret, Option.toList, List.cons_append, List.nil_append, fix1_int, fix1_ref, fix1_unk, fix1_null, fix1_long]
        rw [Model_turn_44 _ _ _ _ _ _ _ _ w71, c2]
        simp only [kC_ret, Option.toList, List.cons_append, List.nil_append, fix1_int, fix1_ref, fix1_unk, fix1_null, fix1_long]
        rw [Model_turn_48 _ _ _ _ _ _ _ _ w71, mo_sets w71 wd1 p01 (c := l) (k := 4) (by omega), e85]
        simp only [kC_ret, Option.toList, List.cons_append, List.nil_append, fix1_int, fix1_ref, fix1_unk, fix1_null, fix1_long]
        rw [Model_turn_55 _ _ _ _ _ _ _ _ w71, mo_on w71 wd1 p01 (n := n) _ _ hn (by rw [wr_same, sN_ne (by omega)]; exact h2), wr_same]
        simp only [kC_ret, Option.toList, List.cons_append, List.nil_append, fix1_int, fix1_ref, fix1_unk, fix1_null, fix1_long]
        rw [Model_turn_60 _ _ _ _ _ _ _ _ _ _ w71, d1]
        simp only [kC_ret, Option.toList, List.cons_append, List.nil_append, fix1_int, fix1_ref, fix1_unk, fix1_null, fix1_long]
        rw [Model_turn_63]
  · right
    refine ⟨2, nI 0, ?_, by decide, by decide, ?_⟩
    · rw [Two_turn_E, Two_turn_0 _ _ _ _ _ _ _ _ t0, lo2 x hx2, kC_thr]
    · intro w1 J K Q hm
      obtain ⟨J3, K3, d1, d2, d3, d4⟩ := mw_fails (L := K) hm 1
      obtain ⟨⟨w71, wd1, -⟩, ⟨p01, -⟩, m3, -⟩ := hm
      refine ⟨N, fun _ _ => rfl, J3, K3, ?_, d2, d3, d4⟩
      dsimp only
      rw [Model_turn_E, Model_turn_0 _ _ _ _ _ _ _ _ w71, mo_isListener w71 wd1 p01, m3, h2, if_neg (fun z => hx ((mo_ix (by omega)).mp z))]
      simp only [kC_ret, Option.toList, List.cons_append, List.nil_append, fix1_int, fix1_ref, fix1_unk, fix1_null, fix1_long]
      rw [Model_turn_5, if_neg (by simp [n00]), Model_turn_8 _ _ _ _ _ _ _ _ w71, d1]
      simp only [kC_ret, Option.toList, List.cons_append, List.nil_append, fix1_int, fix1_ref, fix1_unk, fix1_null, fix1_long]
      rw [Model_turn_13]
theorem sc_empty (h : CW B w I L P N st Ks len tx T) (x : Int32) : SC B w I L P N st Ks len tx T (fun e => if e = 2 then 1 else 0) (call 83 [.ref B, .int x] w I L P) (fun w1 J K Q => call 167 [.ref (B + 284), .int x] w1 J K Q) := by
  obtain ⟨hw, p0, tb, hst, q, k, n, md, hq, hbc, hlg⟩ := CW_bc h
  have t0 := hw.1
  have hbc' := hbc
  obtain ⟨-, ⟨hn, h2, i3⟩, -, -, -, -, hbq, -, hls, -, -, ho, -⟩ := hbc'
  obtain ⟨lo1, lo2⟩ := cl_lOT hw p0 hbq hn I L i3
  rcases cl_ix x (n := n) (by omega) with ⟨l, hln, rfl⟩ | ⟨hx, hx2⟩
  · have hl6 : l < 6 := by omega
    have tl := (tb.2.2.2.2.2.2 l hl6).1
    left
    refine ⟨N (327 + 22 * l + 2), sN (sN N (327 + 22 * l + 2) (nI 0)) (327 + 22 * l + 3) (nI 0), svS st, svK st Ks N, len, tx, ?_, ?_⟩
    · obtain ⟨J, K, Q, a1, a2, a3⟩ := cl_save h
      obtain ⟨-, p0', -, -, q', k', n', md', hq', hbc', hlg'⟩ := CW_bc a2
      have hbc'' := hbc'
      obtain ⟨-, ⟨hn', h2', i3'⟩, -, -, -, -, hbq', -, hls', -, -, ho', -⟩ := hbc''
      have en : n' = n := by
        rw [h2, nI_eq (by omega) (by omega)] at h2'
        exact h2'.symm
      subst en
      obtain ⟨m', g0, g1, g2, g3, g4, g5, g6, g7, g8⟩ := hls' l hln
      have hbr : BR (B + 1) (sN (sN N (327 + 22 * l + 2) (nI 0)) (327 + 22 * l + 3) (nI 0)) (wr J (B + 1 + 28 + 2 * l) (sN (sN (J (B + 1 + 28 + 2 * l)) 5 (nI 0)) 6 (nI 0))) K Q q' := by
        refine BR_lst hbc' hlg' hln (fun z hz => by rw [sN_ne (by omega), sN_ne (by omega)]) (fun z hz => wr_ne _ _ hz) ⟨0, by omega, ?_, ?_, ?_, ?_, ?_, ?_, ?_, fun i hi => absurd hi (by omega)⟩ ?_
        · rw [wr_same, sN_ne (by omega), sN_ne (by omega), sN_ne (by omega), sN_ne (by omega)]; exact g1
        · rw [wr_same, sN_ne (by omega), sN_ne (by omega), sN_ne (by omega), sN_ne (by omega)]; exact g2
        · rw [wr_same, sN_ne (by omega), sN_ne (by omega), sN_ne (by omega), sN_ne (by omega)]; exact g3
        · rw [wr_same, sN_ne (by omega), sN_ne (by omega), sN_ne (by omega), sN_ne (by omega)]; exact g4
        · rw [wr_same, sN_ne (by omega), sN_eq]
        · rw [sN_ne (by omega), sN_eq]
        · rw [wr_same, sN_eq, sN_eq]
        · obtain ⟨o1, o2, mm, p, o3, o4, o5, o6, -⟩ := ho' l hl6
          rw [sN_ne (show 327 + 22 * l + 1 ≠ 327 + 22 * l + 3 by omega), sN_ne (show 327 + 22 * l + 1 ≠ 327 + 22 * l + 2 by omega), sN_ne (show 327 + 22 * l + 4 ≠ 327 + 22 * l + 3 by omega), sN_ne (show 327 + 22 * l + 4 ≠ 327 + 22 * l + 2 by omega), sN_eq, sN_ne (show 327 + 22 * l + 2 ≠ 327 + 22 * l + 3 by omega), sN_eq]
          exact ⟨o1, o2, 0, 0, by omega, rfl, rfl, Or.inr rfl⟩
      have f2 : Fr (B + 1) (B + 41) J (wr J (B + 1 + 28 + 2 * l) (sN (sN (J (B + 1 + 28 + 2 * l)) 5 (nI 0)) 6 (nI 0))) K K Q Q := fun z hz => ⟨by rw [wr_ne _ _ (by omega)], rfl, rfl⟩
      refine ⟨_, K, Q, ?_, CW_bus a2 f2 (Nat.le_refl T) hq' hbr, Fr_trans (FvS_Fr a3) (Fr_B f2)⟩
      rw [Two_empty_E, Two_empty_0 _ _ _ _ _ _ _ t0, lo1 l hln]
      simp only [kC_ret, Option.toList, List.cons_append, List.nil_append, fix1_int, fix1_ref, fix1_unk, fix1_null, fix1_long]
      rw [Two_empty_5_1 _ _ _ _ _ _ _ _ t0, a1]
      simp only [kC_ret, Option.toList, List.cons_append, List.nil_append, fix1_int, fix1_ref, fix1_unk, fix1_null, fix1_long]
      rw [Two_empty_10 _ _ _ _ _ _ _ tl, Listener_forget_E, Listener_forget_0 _ _ _ _ _ _ tl, g5, ← g6]
      simp only [kC_ret, Option.toList, List.cons_append, List.nil_append, fix1_int, fix1_ref, fix1_unk, fix1_null, fix1_long]
      rw [Two_empty_14]
      simp only [updI_wr, wr_wr, wr_same]
    · intro w1 J K Q hm
      obtain ⟨J1, J2, c1, c2, c3, c4⟩ := mw_as (L := K) hm hst
      obtain ⟨⟨w71, wd1, -⟩, ⟨p01, -⟩, m3, -⟩ := hm
      have e85 : J2 (B + 285) = N := c3.2.2.1
      have c5 := MW_now c3 (sN (sN N (327 + 22 * l + 2) (nI 0)) (327 + 22 * l + 3) (nI 0))
      obtain ⟨J3, K3, d1, d2, d3, d4⟩ := mw_well (L := K) c5 (N (327 + 22 * l + 2))
      refine ⟨_, fun _ _ => rfl, J3, K3, ?_, d2, d3, Fr_trans (Fr_trans c4 Fr_now) d4⟩
      dsimp only
      rw [Model_empty_E, Model_empty_0 _ _ _ _ _ _ _ w71, mo_isListener w71 wd1 p01, m3, h2, if_pos ((mo_ix (by omega)).mpr ⟨l, hln, rfl⟩)]
      simp only [kC_ret, Option.toList, List.cons_append, List.nil_append, fix1_int, fix1_ref, fix1_unk, fix1_null, fix1_long]
      rw [Model_empty_5, if_pos n10, Model_empty_14 _ _ _ _ _ _ _ w71, c1]
      simp only [kC_ret, Option.toList, List.cons_append, List.nil_append, fix1_int, fix1_ref, fix1_unk, fix1_null, fix1_long]
      rw [Model_empty_18 _ _ _ _ _ _ _ w71, c2]
      simp only [kC_ret, Option.toList, List.cons_append, List.nil_append, fix1_int, fix1_ref, fix1_unk, fix1_null, fix1_long]
      rw [Model_empty_22 _ _ _ _ _ _ _ w71, mo_part w71 wd1 p01 (c := l) (k := 2) (by omega), e85]
      simp only [kC_ret, Option.toList, List.cons_append, List.nil_append, fix1_int, fix1_ref, fix1_unk, fix1_null, fix1_long]
      rw [Model_empty_28 _ _ _ _ _ _ _ _ w71, mo_sets w71 wd1 p01 (c := l) (k := 2) (by omega), e85]
      simp only [kC_ret, Option.toList, List.cons_append, List.nil_append, fix1_int, fix1_ref, fix1_unk, fix1_null, fix1_long]
      rw [Model_empty_36 _ _ _ _ _ _ _ w71, mo_sets w71 wd1 p01 (c := l) (k := 3) (by omega)]
      simp only [kC_ret, Option.toList, List.cons_append, List.nil_append, fix1_int, fix1_ref, fix1_unk, fix1_null, fix1_long]
      rw [Model_empty_43 _ _ _ _ _ _ _ w71]
      simp only [wr_wr, wr_same]
      rw [d1]
      simp only [kC_ret, Option.toList, List.cons_append, List.nil_append, fix1_int, fix1_ref, fix1_unk, fix1_null, fix1_long]
      rw [Model_empty_48]
  · right
    refine ⟨2, nI 0, ?_, by decide, by decide, ?_⟩
    · rw [Two_empty_E, Two_empty_0 _ _ _ _ _ _ _ t0, lo2 x hx2, kC_thr]
    · intro w1 J K Q hm
      obtain ⟨J3, K3, d1, d2, d3, d4⟩ := mw_fails (L := K) hm 1
      obtain ⟨⟨w71, wd1, -⟩, ⟨p01, -⟩, m3, -⟩ := hm
      refine ⟨N, fun _ _ => rfl, J3, K3, ?_, d2, d3, d4⟩
      dsimp only
      rw [Model_empty_E, Model_empty_0 _ _ _ _ _ _ _ w71, mo_isListener w71 wd1 p01, m3, h2, if_neg (fun z => hx ((mo_ix (by omega)).mp z))]
      simp only [kC_ret, Option.toList, List.cons_append, List.nil_append, fix1_int, fix1_ref, fix1_unk, fix1_null, fix1_long]
      rw [Model_empty_5, if_neg (by simp [n00]), Model_empty_8 _ _ _ _ _ _ _ w71, d1]
      simp only [kC_ret, Option.toList, List.cons_append, List.nil_append, fix1_int, fix1_ref, fix1_unk, fix1_null, fix1_long]
      rw [Model_empty_13]
end
