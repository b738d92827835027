/-! calls: listener, memory, log -/
section
variable {B : Nat} {w : Wd} {I : MI} {L : ML} {P : MP} {N : Nat → Int32} {st : Nat} {Ks : Nat → Nat → Int32} {len : Nat} {tx : Nat → Nat} {T : Nat}
theorem sc_listener (h : CW B w I L P N st Ks len tx T) (x y : Int32) : SC B w I L P N st Ks len tx T (fun e => if e = 2 then 1 else if e = 0 then 2 else 0) (call 92 [.ref B, .int x, .int y] w I L P) (fun w1 J K Q => call 177 [.ref (B + 284), .int x, .int y] w1 J K Q) := by
  obtain ⟨hw, p0, tb, hst, q, k, n, md, hq, hbc, hlg⟩ := CW_bc h
  have t0 := hw.1
  have hbc' := hbc
  obtain ⟨-, ⟨hn, h2, i3⟩, -, -, -, -, hbq, -, hls, -, -, ho, -⟩ := hbc'
  obtain ⟨lo1, lo2⟩ := cl_lOT hw p0 hbq hn I L i3
  rcases cl_ix x (n := n) (by omega) with ⟨l, hln, rfl⟩ | ⟨hx, hx2⟩
  · have m14 : ∀ w1 J K Q, MW B w1 J Q N st Ks len tx → call 177 [.ref (B + 284), .int (nI l), .int y] w1 J K Q = if RG y 0 5 then go 177 26 [.ref (B + 284), .int (nI l), .int y] [] w1 J K Q else go 177 39 [.ref (B + 284), .int (nI l), .int y] [] w1 J K Q := by
      intro w1 J K Q hm
      obtain ⟨⟨w71, wd1, -⟩, ⟨p01, -⟩, m3, -⟩ := hm
      rw [Model_listener_E, Model_listener_0 _ _ _ _ _ _ _ w71, mo_isListener w71 wd1 p01, m3, h2, if_pos ((mo_ix (by omega)).mpr ⟨l, hln, rfl⟩)]
      simp only [kC_ret, Option.toList, List.cons_append, List.nil_append, fix1_int, fix1_ref, fix1_unk, fix1_null, fix1_long]
      rw [Model_listener_5, if_pos n10, Model_listener_14, mo_rg y 0 5 0 5 l0_i l5_i]
      simp only [kC_ret, Option.toList, List.cons_append, List.nil_append, fix1_int, fix1_ref, fix1_unk, fix1_null, fix1_long]
      rw [Model_listener_23]
      by_cases g : RG y 0 5
      · rw [if_pos g, if_pos g, if_neg n10]
      · rw [if_neg g, if_neg g, if_pos n00]
    by_cases hy : RG y 0 5
    · obtain ⟨v, -, hv, rfl⟩ := RG_ex (by omega) (by omega) hy
      refine SC_tell (v := N (327 + 22 * l + v)) h ?_ ?_
      · rw [Two_listener_E, Two_listener_0 _ _ _ _ _ _ _ _ t0, lo1 l hln]
        simp only [kC_ret, Option.toList, List.cons_append, List.nil_append, fix1_int, fix1_ref, fix1_unk, fix1_null, fix1_long]
        rw [Two_listener_5_1, cl_range, if_pos hy]
        simp only [kC_ret, Option.toList, List.cons_append, List.nil_append, fix1_int, fix1_ref, fix1_unk, fix1_null, fix1_long]
        rw [Two_listener_12 _ _ _ _ _ _ _ _ (tb.2.2.2.2.2.2 l (by omega)).1, cl_ltell tb hbc hln (by omega)]
        simp only [kC_ret, Option.toList, List.cons_append, List.nil_append, fix1_int, fix1_ref, fix1_unk, fix1_null, fix1_long]
        rw [Two_listener_17]
      · intro w1 J K Q hm
        obtain ⟨J3, K3, d1⟩ := mw_wellE (L := K) hm (N (327 + 22 * l + v))
        have m14' := m14 w1 J K Q hm
        obtain ⟨⟨w71, wd1, -⟩, ⟨p01, -⟩, m3, -⟩ := hm
        rw [m14', if_pos hy, Model_listener_26 _ _ _ _ _ _ _ w71, mo_part w71 wd1 p01 (c := l) (k := v) (by omega), m3]
        simp only [kC_ret, Option.toList, List.cons_append, List.nil_append, fix1_int, fix1_ref, fix1_unk, fix1_null, fix1_long]
        rw [Model_listener_33 _ _ _ _ _ _ _ _ _ w71, d1]
        simp only [kC_ret, Option.toList, List.cons_append, List.nil_append, fix1_int, fix1_ref, fix1_unk, fix1_null, fix1_long]
        rw [Model_listener_36, Model_listener_44]
    · refine SC_fail (e := 0) (c := 2) ?_ rfl (by omega) (by omega) ?_
      · rw [Two_listener_E, Two_listener_0 _ _ _ _ _ _ _ _ t0, lo1 l hln]
        simp only [kC_ret, Option.toList, List.cons_append, List.nil_append, fix1_int, fix1_ref, fix1_unk, fix1_null, fix1_long]
        rw [Two_listener_5_1, cl_range, if_neg hy, kC_thr]
      · intro w1 J K Q hm
        obtain ⟨J3, K3, d1⟩ := mw_failsE (L := K) hm 2
        rw [m14 w1 J K Q hm, if_neg hy, Model_listener_39 _ _ _ _ _ _ _ hm.1.1, d1]
        simp only [kC_ret, Option.toList, List.cons_append, List.nil_append, fix1_int, fix1_ref, fix1_unk, fix1_null, fix1_long]
        rw [Model_listener_44]
  · refine SC_fail (e := 2) (c := 1) ?_ rfl (by omega) (by omega) ?_
    · rw [Two_listener_E, Two_listener_0 _ _ _ _ _ _ _ _ t0, lo2 x hx2, kC_thr]
    · intro w1 J K Q hm
      obtain ⟨J3, K3, d1⟩ := mw_failsE (L := K) hm 1
      obtain ⟨⟨w71, wd1, -⟩, ⟨p01, -⟩, m3, -⟩ := hm
      rw [Model_listener_E, Model_listener_0 _ _ _ _ _ _ _ w71, mo_isListener w71 wd1 p01, m3, h2, if_neg (fun z => hx ((mo_ix (by omega)).mp z))]
      simp only [kC_ret, Option.toList, List.cons_append, List.nil_append, fix1_int, fix1_ref, fix1_unk, fix1_null, fix1_long]
      rw [Model_listener_5, if_neg (by simp [n00]), Model_listener_8 _ _ _ _ _ _ _ w71, d1]
      simp only [kC_ret, Option.toList, List.cons_append, List.nil_append, fix1_int, fix1_ref, fix1_unk, fix1_null, fix1_long]
      rw [Model_listener_13]
theorem sc_memory (h : CW B w I L P N st Ks len tx T) (x y : Int32) : SC B w I L P N st Ks len tx T (fun e => if e = 2 then 1 else 0) (call 93 [.ref B, .int x, .int y] w I L P) (fun w1 J K Q => call 178 [.ref (B + 284), .int x, .int y] w1 J K Q) := by
  obtain ⟨hw, p0, tb, hst, q, k, n, md, hq, hbc, hlg⟩ := CW_bc h
  have t0 := hw.1
  have hbc' := hbc
  obtain ⟨-, ⟨hn, h2, i3⟩, -, -, -, -, hbq, -, hls, -, -, ho, -⟩ := hbc'
  obtain ⟨lo1, lo2⟩ := cl_lOT hw p0 hbq hn I L i3
  rcases cl_ix x (n := n) (by omega) with ⟨l, hln, rfl⟩ | ⟨hx, hx2⟩
  · have tl := (tb.2.2.2.2.2.2 l (by omega)).1
    obtain ⟨m, hr⟩ := hls l hln
    have hr' := hr
    obtain ⟨hm16, -, -, -, -, l5, l6, -⟩ := hr'
    have m17 : ∀ w1 J K Q, MW B w1 J Q N st Ks len tx → call 178 [.ref (B + 284), .int (nI l), .int y] w1 J K Q = if nI 0 ≤ y ∧ y ≤ nI m - nI 1 then go 178 32 [.ref (B + 284), .int (nI l), .int y] [] w1 J K Q else go 178 26 [.ref (B + 284), .int (nI l), .int y] [] w1 J K Q := by
      intro w1 J K Q hm
      obtain ⟨⟨w71, wd1, -⟩, ⟨p01, -⟩, m3, -⟩ := hm
      rw [Model_memory_E, Model_memory_0 _ _ _ _ _ _ _ w71, mo_isListener w71 wd1 p01, m3, h2, if_pos ((mo_ix (by omega)).mpr ⟨l, hln, rfl⟩)]
      simp only [kC_ret, Option.toList, List.cons_append, List.nil_append, fix1_int, fix1_ref, fix1_unk, fix1_null, fix1_long]
      rw [Model_memory_5, if_neg n10, Model_memory_8 _ _ _ _ _ _ _ w71, mo_part w71 wd1 p01 (c := l) (k := 2) (by omega), m3, l6]
      simp only [kC_ret, Option.toList, List.cons_append, List.nil_append, fix1_int, fix1_ref, fix1_unk, fix1_null, fix1_long]
      rw [Model_memory_17, mo_inL]
      simp only [kC_ret, Option.toList, List.cons_append, List.nil_append, fix1_int, fix1_ref, fix1_unk, fix1_null, fix1_long]
      rw [Model_memory_23]
      by_cases g : nI 0 ≤ y ∧ y ≤ nI m - nI 1
      · rw [if_pos g, if_pos g, if_pos n10]
      · rw [if_neg g, if_neg g, if_neg (by simp [n00])]
    rcases cl_ix y (n := m) (by omega) with ⟨p, hpm, rfl⟩ | ⟨hy, hy2⟩
    · refine SC_tell (v := N (327 + 22 * l + (6 + p))) h ?_ ?_
      · rw [Two_memory_E, Two_memory_0 _ _ _ _ _ _ _ _ t0, lo1 l hln]
        simp only [kC_ret, Option.toList, List.cons_append, List.nil_append, fix1_int, fix1_ref, fix1_unk, fix1_null, fix1_long]
        rw [Two_memory_5_1, if_neg (nI_pos (by omega)), Two_memory_10 _ _ _ _ _ _ _ _ tl, l5, if_pos (nI_lt hpm (by omega)), Two_memory_28 _ _ _ _ _ _ _ _ tl, cl_lbyte tb hbq (by omega) I L hr (by omega), if_neg (by omega)]
        simp only [kC_ret, Option.toList, List.cons_append, List.nil_append, fix1_int, fix1_ref, fix1_unk, fix1_null, fix1_long]
        rw [Two_memory_33]
      · intro w1 J K Q hm
        obtain ⟨J3, K3, d1⟩ := mw_wellE (L := K) hm (N (327 + 22 * l + (6 + p)))
        have m17' := m17 w1 J K Q hm
        obtain ⟨⟨w71, wd1, -⟩, ⟨p01, -⟩, m3, -⟩ := hm
        rw [m17', if_pos ((mo_ix (by omega)).mpr ⟨p, hpm, rfl⟩), Model_memory_32 _ _ _ _ _ _ _ w71, nI_add, mo_part w71 wd1 p01 (c := l) (k := 6 + p) (by omega), m3]
        simp only [kC_ret, Option.toList, List.cons_append, List.nil_append, fix1_int, fix1_ref, fix1_unk, fix1_null, fix1_long]
        rw [Model_memory_42 _ _ _ _ _ _ _ _ _ w71, d1]
        simp only [kC_ret, Option.toList, List.cons_append, List.nil_append, fix1_int, fix1_ref, fix1_unk, fix1_null, fix1_long]
        rw [Model_memory_45]
    · refine SC_fail (e := 2) (c := 1) ?_ rfl (by omega) (by omega) ?_
      · rw [Two_memory_E, Two_memory_0 _ _ _ _ _ _ _ _ t0, lo1 l hln]
        simp only [kC_ret, Option.toList, List.cons_append, List.nil_append, fix1_int, fix1_ref, fix1_unk, fix1_null, fix1_long]
        rw [Two_memory_5_1]
        by_cases g : y < 0
        · rw [if_pos g, Two_memory_18]
        · rcases hy2 with g2 | g2
          · exact absurd g2 g
          · rw [if_neg g, Two_memory_10 _ _ _ _ _ _ _ _ tl, l5, if_neg (Int32.not_lt.mpr g2), Two_memory_18]
      · intro w1 J K Q hm
        obtain ⟨J3, K3, d1⟩ := mw_failsE (L := K) hm 1
        rw [m17 w1 J K Q hm, if_neg (fun g => hy ((mo_ix (by omega)).mp g)), Model_memory_26 _ _ _ _ _ _ _ hm.1.1, d1]
        simp only [kC_ret, Option.toList, List.cons_append, List.nil_append, fix1_int, fix1_ref, fix1_unk, fix1_null, fix1_long]
        rw [Model_memory_31]
  · refine SC_fail (e := 2) (c := 1) ?_ rfl (by omega) (by omega) ?_
    · rw [Two_memory_E, Two_memory_0 _ _ _ _ _ _ _ _ t0, lo2 x hx2, kC_thr]
    · intro w1 J K Q hm
      obtain ⟨J3, K3, d1⟩ := mw_failsE (L := K) hm 1
      obtain ⟨⟨w71, wd1, -⟩, ⟨p01, -⟩, m3, -⟩ := hm
      rw [Model_memory_E, Model_memory_0 _ _ _ _ _ _ _ w71, mo_isListener w71 wd1 p01, m3, h2, if_neg (fun z => hx ((mo_ix (by omega)).mp z))]
      simp only [kC_ret, Option.toList, List.cons_append, List.nil_append, fix1_int, fix1_ref, fix1_unk, fix1_null, fix1_long]
      rw [Model_memory_5, if_pos n00, Model_memory_26 _ _ _ _ _ _ _ w71, d1]
      simp only [kC_ret, Option.toList, List.cons_append, List.nil_append, fix1_int, fix1_ref, fix1_unk, fix1_null, fix1_long]
      rw [Model_memory_31]
theorem sc_log (h : CW B w I L P N st Ks len tx T) (hT : T < 2147000000) (x y : Int32) : SC B w I L P N st Ks len tx T (fun e => if e = 2 then 1 else if e = 0 then 2 else 0) (call 95 [.ref B, .int x, .int y] w I L P) (fun w1 J K Q => call 183 [.ref (B + 284), .int x, .int y] w1 J K Q) := by
  obtain ⟨hw, p0, tb, hst, q, k, n, md, hq, hbc, hlg⟩ := CW_bc h
  have t0 := hw.1
  have hbq := hbc.2.2.2.2.2.2.1
  have t3 := tb.2.2.2.1
  have hq2 : q < 2147483648 := by omega
  have hkp := kept_le q
  have h0 := hlg.1
  have m13 : ∀ w1 J K Q, MW B w1 J Q N st Ks len tx → call 183 [.ref (B + 284), .int x, .int y] w1 J K Q = if nI 0 ≤ x ∧ x ≤ nI (kept q) - nI 1 then go 183 22 [.ref (B + 284), .int x, .int y] [] w1 J K Q else go 183 16 [.ref (B + 284), .int x, .int y] [] w1 J K Q := by
    intro w1 J K Q hm
    obtain ⟨⟨w71, wd1, -⟩, ⟨p01, -⟩, m3, -⟩ := hm
    rw [Model_log_E, Model_log_0 _ _ _ _ _ _ _ w71, mo_logs w71 wd1 p01 (q := q) J K (by rw [m3]; exact h0) hq2]
    simp only [kC_ret, Option.toList, List.cons_append, List.nil_append, fix1_int, fix1_ref, fix1_unk, fix1_null, fix1_long]
    rw [Model_log_7, mo_inL]
    simp only [kC_ret, Option.toList, List.cons_append, List.nil_append, fix1_int, fix1_ref, fix1_unk, fix1_null, fix1_long]
    rw [Model_log_13]
    by_cases g : nI 0 ≤ x ∧ x ≤ nI (kept q) - nI 1
    · rw [if_pos g, if_pos g, if_pos n10]
    · rw [if_neg g, if_neg g, if_neg (by simp [n00])]
  have c15 : ¬ x < 0 → call 95 [.ref B, .int x, .int y] w I L P = if x < nI (kept q) then go 95 28 [.ref B, .int x, .int y] [] w I L P else go 95 18 [.ref B, .int x, .int y] [] w I L P := by
    intro g
    rw [Two_log_E, Two_log_0, if_neg g, Two_log_4 _ _ _ _ _ _ _ t0, p0, rf_some, Two_log_9 _ _ _ _ _ _ _ _ _ tb.1, hbq.2.2.1, rf_some, Two_log_12 _ _ _ _ _ _ _ _ _ t3, cl_kept tb hlg hq2]
    simp only [kC_ret, Option.toList, List.cons_append, List.nil_append, fix1_int, fix1_ref, fix1_unk, fix1_null, fix1_long]
    rw [Two_log_15]
  rcases cl_ix x (n := kept q) (by omega) with ⟨bk, hbk, rfl⟩ | ⟨hx, hx2⟩
  · by_cases hy : RG y 0 2
    · obtain ⟨v, -, hv, rfl⟩ := RG_ex (by omega) (by omega) hy
      refine SC_tell (v := N (15 + 3 * ((q - 1 - bk) % 64) + v)) h ?_ ?_
      · rw [c15 (nI_pos (by omega)), if_pos (nI_lt hbk (by omega)), Two_log_28, cl_range, if_pos hy]
        simp only [kC_ret, Option.toList, List.cons_append, List.nil_append, fix1_int, fix1_ref, fix1_unk, fix1_null, fix1_long]
        rw [Two_log_34 _ _ _ _ _ _ _ t0, p0, rf_some, Two_log_38 _ _ _ _ _ _ _ _ tb.1, hbq.2.2.1, rf_some, Two_log_41 _ _ _ _ _ _ _ _ t3, cl_gtell tb hbq hlg hq2 (by omega) (by omega)]
        simp only [kC_ret, Option.toList, List.cons_append, List.nil_append, fix1_int, fix1_ref, fix1_unk, fix1_null, fix1_long]
        rw [Two_log_46]
      · intro w1 J K Q hm
        obtain ⟨J3, K3, d1⟩ := mw_wellE (L := K) hm (N (15 + 3 * ((q - 1 - bk) % 64) + v))
        have m13' := m13 w1 J K Q hm
        obtain ⟨⟨w71, wd1, -⟩, ⟨p01, -⟩, m3, -⟩ := hm
        rw [m13', if_pos ((mo_ix (by omega)).mpr ⟨bk, hbk, rfl⟩), Model_log_22, mo_rg (nI v) 0 2 0 2 l0_i l2_i, if_pos hy]
        simp only [kC_ret, Option.toList, List.cons_append, List.nil_append, fix1_int, fix1_ref, fix1_unk, fix1_null, fix1_long]
        rw [Model_log_31, if_neg n10, Model_log_34 _ _ _ _ _ _ _ w71, mo_logged w71 wd1 p01 (q := q) J K (by rw [m3]; exact h0) hq2 (by omega) (by omega), m3]
        simp only [kC_ret, Option.toList, List.cons_append, List.nil_append, fix1_int, fix1_ref, fix1_unk, fix1_null, fix1_long]
        rw [Model_log_41 _ _ _ _ _ _ _ _ _ w71, d1]
        simp only [kC_ret, Option.toList, List.cons_append, List.nil_append, fix1_int, fix1_ref, fix1_unk, fix1_null, fix1_long]
        rw [Model_log_44, Model_log_52]
    · refine SC_fail (e := 0) (c := 2) ?_ rfl (by omega) (by omega) ?_
      · rw [c15 (nI_pos (by omega)), if_pos (nI_lt hbk (by omega)), Two_log_28, cl_range, if_neg hy, kC_thr]
      · intro w1 J K Q hm
        obtain ⟨J3, K3, d1⟩ := mw_failsE (L := K) hm 2
        rw [m13 w1 J K Q hm, if_pos ((mo_ix (by omega)).mpr ⟨bk, hbk, rfl⟩), Model_log_22, mo_rg y 0 2 0 2 l0_i l2_i, if_neg hy]
        simp only [kC_ret, Option.toList, List.cons_append, List.nil_append, fix1_int, fix1_ref, fix1_unk, fix1_null, fix1_long]
        rw [Model_log_31, if_pos n00, Model_log_47 _ _ _ _ _ _ _ hm.1.1, d1]
        simp only [kC_ret, Option.toList, List.cons_append, List.nil_append, fix1_int, fix1_ref, fix1_unk, fix1_null, fix1_long]
        rw [Model_log_52]
  · refine SC_fail (e := 2) (c := 1) ?_ rfl (by omega) (by omega) ?_
    · by_cases g : x < 0
      · rw [Two_log_E, Two_log_0, if_pos g, Two_log_18]
      · rcases hx2 with g2 | g2
        · exact absurd g2 g
        · rw [c15 g, if_neg (Int32.not_lt.mpr g2), Two_log_18]
    · intro w1 J K Q hm
      obtain ⟨J3, K3, d1⟩ := mw_failsE (L := K) hm 1
      rw [m13 w1 J K Q hm, if_neg (fun g => hx ((mo_ix (by omega)).mp g)), Model_log_16 _ _ _ _ _ _ _ hm.1.1, d1]
      simp only [kC_ret, Option.toList, List.cons_append, List.nil_append, fix1_int, fix1_ref, fix1_unk, fix1_null, fix1_long]
      rw [Model_log_21]
end
