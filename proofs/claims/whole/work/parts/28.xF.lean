/-! calls: values -/
theorem mo_inL (x y : Int32) (w : Wd) (I : MI) (L : ML) (P : MP) : call 124 [.long (Int32.toInt64 x), .long 0, .long (Int32.toInt64 y)] w I L P = some (.inl (some (.int (if nI 0 ≤ x ∧ x ≤ y then nI 1 else nI 0))), w, I, L, P) := by
  rw [mo_in, l0_i]
  simp only [l2i_le]
theorem mo_num {w : Wd} {P : MP} {mo d : Nat} (h7 : w.1 mo = some (7, 0)) (hd : w.1 d = some (8, 459)) (p0 : P mo 0 = some d) (I : MI) (L : ML) {v : Nat} (hv : v < 10) : call 179 [.ref mo, .int (nI v)] w I L P = some (.inl (some (.int (numV (I d) v))), w, I, L, P) := by
  have lo : ∀ v, v < 4 → go 179 52 [.ref mo, .int (nI v)] [] w I L P = some (.inl (some (.int (I d v))), w, I, L, P) := by
    intro v hv
    rw [Model_number_52 _ _ _ _ _ _ h7, p0, rf_some, Model_number_56 _ _ _ _ _ _ _ (inA_nI hd (by omega) (by omega)), cl_nI (by omega)]
  rw [Model_number_E, Model_number_0]
  rcases (show v = 0 ∨ v = 1 ∨ v = 2 ∨ v = 3 ∨ v = 4 ∨ v = 5 ∨ v = 6 ∨ v = 7 ∨ v = 8 ∨ v = 9 by omega) with rfl | rfl | rfl | rfl | rfl | rfl | rfl | rfl | rfl | rfl
  · rw [Model_number_1_k0, lo 0 (by omega)]; rfl
  · rw [Model_number_1_k1, lo 1 (by omega)]; rfl
  · rw [Model_number_1_k2, lo 2 (by omega)]; rfl
  · rw [Model_number_1_k3, lo 3 (by omega)]; rfl
  · rw [Model_number_1_k4, Model_number_59 _ _ _ _ _ _ h7, p0, rf_some, Model_number_63 _ _ _ _ _ _ _ (inA_nI hd (by omega) (by omega)), cl_nI (by omega), show numV (I d) 4 = if I d 4 = 0 then nI 1 else nI 0 from rfl]
    by_cases z : I d 4 = 0
    · rw [if_neg (fun g => g z), if_pos z, Model_number_68, Model_number_73]
    · rw [if_pos z, if_neg z, Model_number_72, Model_number_73]
  · rw [Model_number_1_k5, Model_number_74 _ _ _ _ _ _ h7, p0, rf_some, Model_number_78 _ _ _ _ _ _ _ (inA_nI hd (by omega) (by omega)), cl_nI (by omega)]; rfl
  · rw [Model_number_1_k6, Model_number_81 _ _ _ _ _ _ h7, p0, rf_some, Model_number_85 _ _ _ _ _ _ _ (inA_nI hd (by omega) (by omega)), cl_nI (by omega)]; rfl
  · rw [Model_number_1_k7, Model_number_89 _ _ _ _ _ _ h7, p0, rf_some, Model_number_93 _ _ _ _ _ _ _ (inA_nI hd (by omega) (by omega)), cl_nI (by omega)]; rfl
  · rw [Model_number_1_k8, Model_number_97 _ _ _ _ _ _ h7, p0, rf_some, Model_number_101 _ _ _ _ _ _ _ (inA_nI hd (by omega) (by omega)), cl_nI (by omega)]; rfl
  · rw [Model_number_1_kd _ _ _ _ _ _ _ (Or.inr (by decide)), Model_number_105 _ _ _ _ _ _ h7, p0, rf_some, Model_number_109 _ _ _ _ _ _ _ (inA_nI hd (by omega) (by omega)), cl_nI (by omega)]; rfl
theorem mo_logs {w : Wd} {P : MP} {mo d : Nat} (h7 : w.1 mo = some (7, 0)) (hd : w.1 d = some (8, 459)) (p0 : P mo 0 = some d) (I : MI) (L : ML) {q : Nat} (h0 : I d 0 = nI q) (hq : q < 2147483648) : call 182 [.ref mo] w I L P = some (.inl (some (.int (nI (kept q)))), w, I, L, P) := by
  rw [Model_logs_E, Model_logs_0 _ _ _ _ _ h7, p0, rf_some, Model_logs_4 _ _ _ _ _ _ (inA_nI hd (by omega) (by omega)), cl_nI (by omega), h0]
  unfold kept
  by_cases g : 64 ≤ q
  · rw [if_pos (nI_le g hq), Model_logs_20, Model_logs_22]
    by_cases g2 : 64 < q
    · rw [if_pos g2]
    · rw [if_neg g2, show q = 64 from by omega]
  · rw [if_neg (nI_ge (by omega) (by omega)), Model_logs_11 _ _ _ _ _ h7, p0, rf_some, Model_logs_15 _ _ _ _ _ _ (inA_nI hd (by omega) (by omega)), cl_nI (by omega), h0, Model_logs_22, if_neg (by omega)]
theorem mo_logged {w : Wd} {P : MP} {mo d : Nat} (h7 : w.1 mo = some (7, 0)) (hd : w.1 d = some (8, 459)) (p0 : P mo 0 = some d) (I : MI) (L : ML) {q bk v : Nat} (h0 : I d 0 = nI q) (hq : q < 2147483648) (hb : bk < q) (hv : v < 3) : call 181 [.ref mo, .int (nI bk), .int (nI v)] w I L P = some (.inl (some (.int (I d (15 + 3 * ((q - 1 - bk) % 64) + v)))), w, I, L, P) := by
  have hr : (q - 1 - bk) % 64 < 64 := Nat.mod_lt _ (by omega)
  have e : nI 15 + nI 3 * (((nI q - nI 1) - nI bk) - ((nI q - nI 1) - nI bk) / nI 64 * nI 64) + nI v = nI (15 + 3 * ((q - 1 - bk) % 64) + v) := by
    rw [pk_sub (by omega), pk_sub (by omega), pk_rem (by omega) (by omega) (by omega), pk_mul, nI_add, nI_add]
  rw [Model_logged_E, Model_logged_0 _ _ _ _ _ _ _ h7, p0, rf_some, Model_logged_4 _ _ _ _ _ _ _ _ h7, p0, rf_some, Model_logged_11 _ _ _ _ _ _ _ _ _ _ _ (inA_nI hd (by omega) (by omega)) n64 (by rw [cl_nI (by omega), h0, e]; exact inA_nI hd (by omega) (by omega)), cl_nI (by omega), h0, e, cl_nI (by omega)]
/-- a caller's numbers -/
def calV (N : Nat → Int32) (c v : Nat) : Int32 := if v < 8 then N (207 + 40 * c + v) else if conB N (nI c) then nI 1 else nI 0
theorem mo_calN {w : Wd} {P : MP} {mo d : Nat} (h7 : w.1 mo = some (7, 0)) (hd : w.1 d = some (8, 459)) (p0 : P mo 0 = some d) (I : MI) (L : ML) {c v : Nat} (hc : c < 3) (hv : v < 9) : call 174 [.ref mo, .int (nI c), .int (nI v)] w I L P = some (.inl (some (.int (calV (I d) c v))), w, I, L, P) := by
  rw [Model_callerNumber_E, Model_callerNumber_0]
  unfold calV
  by_cases g : v < 8
  · rw [if_neg (nI_ge g (by omega)), Model_callerNumber_6 _ _ _ _ _ _ _ h7, mo_of h7 hd p0 (c := c) (k := v) (by omega), if_pos g]
    simp only [kC_ret, Option.toList, List.cons_append, List.nil_append, fix1_int, fix1_ref, fix1_unk, fix1_null, fix1_long]
    rw [Model_callerNumber_12, Model_callerNumber_28]
  · rw [if_pos (nI_le (by omega) (by omega)), Model_callerNumber_15 _ _ _ _ _ _ _ h7, if_neg g]
    by_cases z : conB (I d) (nI c)
    · rw [mo_isContender1 h7 hd p0 _ _ _ z, if_pos z]
      simp only [kC_ret, Option.toList, List.cons_append, List.nil_append, fix1_int, fix1_ref, fix1_unk, fix1_null, fix1_long]
      rw [Model_callerNumber_20, if_neg n10, Model_callerNumber_23, Model_callerNumber_28]
    · rw [mo_isContender0 h7 hd p0 _ _ _ z, if_neg z]
      simp only [kC_ret, Option.toList, List.cons_append, List.nil_append, fix1_int, fix1_ref, fix1_unk, fix1_null, fix1_long]
      rw [Model_callerNumber_20, if_pos n00, Model_callerNumber_27, Model_callerNumber_28]
section
variable {B : Nat} {w : Wd} {I : MI} {L : ML} {P : MP} {N : Nat → Int32} {st : Nat} {Ks : Nat → Nat → Int32} {len : Nat} {tx : Nat → Nat} {T : Nat}
/-- a call that only tells -/
theorem SC_tell {f : Nat → Nat} {cc : Option Rs} {mc : Wd → MI → ML → MP → Option Rs} {v : Int32} (h : CW B w I L P N st Ks len tx T) (hc : cc = some (.inl (some (.int v)), w, I, L, P)) (hm : ∀ w1 J K Q, MW B w1 J Q N st Ks len tx → mc w1 J K Q = call 123 [.ref (B + 284), .int v] w1 J K Q) : SC B w I L P N st Ks len tx T f cc mc := by
  left
  refine ⟨v, N, st, Ks, len, tx, ⟨I, L, P, hc, h, Fr_refl⟩, ?_⟩
  intro w1 J K Q hw
  refine ⟨N, fun _ _ => rfl, ?_⟩
  rw [hm w1 J K Q hw]
  exact mw_well hw v
theorem SC_fail {f : Nat → Nat} {cc : Option Rs} {mc : Wd → MI → ML → MP → Option Rs} {e c : Nat} (hc : cc = some (.inr e, thrT w, I, L, P)) (he : f e = c) (h0 : 0 < c) (h1 : c < 100) (hm : ∀ w1 J K Q, MW B w1 J Q N st Ks len tx → mc w1 J K Q = call 122 [.ref (B + 284), .int (nI c)] w1 J K Q) : SC B w I L P N st Ks len tx T f cc mc := by
  right
  refine ⟨e, nI 0, hc, by omega, by omega, ?_⟩
  intro w1 J K Q hw
  refine ⟨N, fun _ _ => rfl, ?_⟩
  rw [hm w1 J K Q hw, he]
  exact mw_fails hw c
/-- the model's answers end in well or fails -/
theorem mw_wellE (h : MW B w I P N st Ks len tx) (v : Int32) : ∃ J K, call 123 [.ref (B + 284), .int v] w I L P = some (.inl (some (.int v)), w, J, K, P) := by
  obtain ⟨J, K, e, _⟩ := mw_well (L := L) h v
  exact ⟨J, K, e⟩
theorem mw_failsE (h : MW B w I P N st Ks len tx) (c : Nat) : ∃ J K, call 122 [.ref (B + 284), .int (nI c)] w I L P = some (.inl (some (.int (nI 0))), w, J, K, P) := by
  obtain ⟨J, K, e, _⟩ := mw_fails (L := L) h c
  exact ⟨J, K, e⟩
theorem sc_value (h : CW B w I L P N st Ks len tx T) (hT : T < 2147000000) (x : Int32) : SC B w I L P N st Ks len tx T (fun e => if e = 0 then 1 else 0) (call 94 [.ref B, .int x] w I L P) (fun w1 J K Q => call 180 [.ref (B + 284), .int x] w1 J K Q) := by
  obtain ⟨hw, p0, tb, hst, q, k, n, md, hq, hbc, hlg⟩ := CW_bc h
  have t0 := hw.1
  by_cases hx : RG x 0 9
  · obtain ⟨v, -, hv, rfl⟩ := RG_ex (by omega) (by omega) hx
    refine SC_tell (v := numV N v) h ?_ ?_
    · rw [Two_value_E, Two_value_0, cl_range, if_pos hx]
      simp only [kC_ret, Option.toList, List.cons_append, List.nil_append, fix1_int, fix1_ref, fix1_unk, fix1_null, fix1_long]
      rw [Two_value_7 _ _ _ _ _ _ t0, p0, rf_some, Two_value_11 _ _ _ _ _ _ _ tb.1, cl_btell tb hbc hlg (by omega) (by omega)]
      simp only [kC_ret, Option.toList, List.cons_append, List.nil_append, fix1_int, fix1_ref, fix1_unk, fix1_null, fix1_long]
      rw [Two_value_15]
    · intro w1 J K Q hm
      obtain ⟨J3, K3, d1⟩ := mw_wellE (L := K) hm (numV N v)
      obtain ⟨⟨w71, wd1, -⟩, ⟨p01, -⟩, m3, -⟩ := hm
      rw [Model_value_E, Model_value_0, mo_rg (nI v) 0 9 0 9 l0_i l9_i, if_pos hx]
      simp only [kC_ret, Option.toList, List.cons_append, List.nil_append, fix1_int, fix1_ref, fix1_unk, fix1_null, fix1_long]
      rw [Model_value_9, if_neg n10, Model_value_12 _ _ _ _ _ _ w71, mo_num w71 wd1 p01 J K (by omega), m3]
      simp only [kC_ret, Option.toList, List.cons_append, List.nil_append, fix1_int, fix1_ref, fix1_unk, fix1_null, fix1_long]
      rw [Model_value_18 _ _ _ _ _ _ _ _ w71, d1]
      simp only [kC_ret, Option.toList, List.cons_append, List.nil_append, fix1_int, fix1_ref, fix1_unk, fix1_null, fix1_long]
      rw [Model_value_21, Model_value_29]
  · refine SC_fail (e := 0) (c := 1) ?_ rfl (by omega) (by omega) ?_
    · rw [Two_value_E, Two_value_0, cl_range, if_neg hx, kC_thr]
    · intro w1 J K Q hm
      obtain ⟨J3, K3, d1⟩ := mw_failsE (L := K) hm 1
      rw [Model_value_E, Model_value_0, mo_rg x 0 9 0 9 l0_i l9_i, if_neg hx]
      simp only [kC_ret, Option.toList, List.cons_append, List.nil_append, fix1_int, fix1_ref, fix1_unk, fix1_null, fix1_long]
      rw [Model_value_9, if_pos n00, Model_value_24 _ _ _ _ _ _ hm.1.1, d1]
      simp only [kC_ret, Option.toList, List.cons_append, List.nil_append, fix1_int, fix1_ref, fix1_unk, fix1_null, fix1_long]
      rw [Model_value_29]
theorem sc_caller (h : CW B w I L P N st Ks len tx T) (x y : Int32) : SC B w I L P N st Ks len tx T (fun e => if e = 2 then 1 else if e = 0 then 2 else 0) (call 90 [.ref B, .int x, .int y] w I L P) (fun w1 J K Q => call 175 [.ref (B + 284), .int x, .int y] w1 J K Q) := by
  obtain ⟨hw, p0, tb, hst, q, k, n, md, hq, hbc, hlg⟩ := CW_bc h
  have t0 := hw.1
  have hbc' := hbc
  obtain ⟨⟨hk0, hk, h1, i1⟩, -, -, -, i7, -, hbq, -⟩ := hbc'
  obtain ⟨co1, co2⟩ := cl_cOT hw p0 hbq hk I L i1
  rcases cl_ix x (n := k) (by omega) with ⟨c, hck, rfl⟩ | ⟨hx, hx2⟩
  · have tc := (tb.2.2.2.2.2.1 c (by omega)).1
    by_cases hy : RG y 0 8
    · obtain ⟨v, -, hv, rfl⟩ := RG_ex (by omega) (by omega) hy
      refine SC_tell (v := calV N c v) h ?_ ?_
      · rw [Two_caller_E, Two_caller_0 _ _ _ _ _ _ _ _ t0, co1 c hck]
        simp only [kC_ret, Option.toList, List.cons_append, List.nil_append, fix1_int, fix1_ref, fix1_unk, fix1_null, fix1_long]
        rw [Two_caller_5_1, cl_range, if_pos hy]
        simp only [kC_ret, Option.toList, List.cons_append, List.nil_append, fix1_int, fix1_ref, fix1_unk, fix1_null, fix1_long]
        rw [Two_caller_13]
        unfold calV
        by_cases g : v < 8
        · rw [if_pos (fun z => by rw [nI_eq (by omega) (by omega)] at z; omega), Two_caller_36 _ _ _ _ _ _ _ _ tc, cl_ctell tb hbc (by omega) g, if_pos g]
          simp only [kC_ret, Option.toList, List.cons_append, List.nil_append, fix1_int, fix1_ref, fix1_unk, fix1_null, fix1_long]
          rw [Two_caller_41]
        · have : v = 8 := by omega
          subst this
          rw [if_neg (by simp), Two_caller_19 _ _ _ _ _ _ _ _ t0, p0, rf_some, Two_caller_23 _ _ _ _ _ _ _ _ _ tb.1, cl_contends tb, i7, if_neg g]
          simp only [kC_ret, Option.toList, List.cons_append, List.nil_append, fix1_int, fix1_ref, fix1_unk, fix1_null, fix1_long]
          rw [Two_caller_27]
          by_cases z : conB N (nI c)
          · rw [if_pos (show conB' (N 5) (nI c) from z), if_neg n10, Two_caller_30, Two_caller_35]
          · rw [if_neg (show ¬ conB' (N 5) (nI c) from z), if_pos n00, Two_caller_34, Two_caller_35]
      · intro w1 J K Q hm
        obtain ⟨J3, K3, d1⟩ := mw_wellE (L := K) hm (calV N c v)
        obtain ⟨⟨w71, wd1, -⟩, ⟨p01, -⟩, m3, -⟩ := hm
        rw [Model_caller_E, Model_caller_0 _ _ _ _ _ _ _ w71, mo_isCaller w71 wd1 p01, m3, h1, if_pos ((mo_ix (by omega)).mpr ⟨c, hck, rfl⟩)]
        simp only [kC_ret, Option.toList, List.cons_append, List.nil_append, fix1_int, fix1_ref, fix1_unk, fix1_null, fix1_long]
        rw [Model_caller_5, if_pos n10, Model_caller_14, mo_rg (nI v) 0 8 0 8 l0_i l8_i, if_pos hy]
        simp only [kC_ret, Option.toList, List.cons_append, List.nil_append, fix1_int, fix1_ref, fix1_unk, fix1_null, fix1_long]
        rw [Model_caller_23, if_neg n10, Model_caller_26 _ _ _ _ _ _ _ w71, mo_calN w71 wd1 p01 J K (by omega) (by omega), m3]
        simp only [kC_ret, Option.toList, List.cons_append, List.nil_append, fix1_int, fix1_ref, fix1_unk, fix1_null, fix1_long]
        rw [Model_caller_33 _ _ _ _ _ _ _ _ _ w71, d1]
        simp only [kC_ret, Option.toList, List.cons_append, List.nil_append, fix1_int, fix1_ref, fix1_unk, fix1_null, fix1_long]
        rw [Model_caller_36, Model_caller_44]
    · refine SC_fail (e := 0) (c := 2) ?_ rfl (by omega) (by omega) ?_
      · rw [Two_caller_E, Two_caller_0 _ _ _ _ _ _ _ _ t0, co1 c hck]
        simp only [kC_ret, Option.toList, List.cons_append, List.nil_append, fix1_int, fix1_ref, fix1_unk, fix1_null, fix1_long]
        rw [Two_caller_5_1, cl_range, if_neg hy, kC_thr]
      · intro w1 J K Q hm
        obtain ⟨J3, K3, d1⟩ := mw_failsE (L := K) hm 2
        obtain ⟨⟨w71, wd1, -⟩, ⟨p01, -⟩, m3, -⟩ := hm
        rw [Model_caller_E, Model_caller_0 _ _ _ _ _ _ _ w71, mo_isCaller w71 wd1 p01, m3, h1, if_pos ((mo_ix (by omega)).mpr ⟨c, hck, rfl⟩)]
        simp only [kC_ret, Option.toList, List.cons_append, List.nil_append, fix1_int, fix1_ref, fix1_unk, fix1_null, fix1_long]
        rw [Model_caller_5, if_pos n10, Model_caller_14, mo_rg y 0 8 0 8 l0_i l8_i, if_neg hy]
        simp only [kC_ret, Option.toList, List.cons_append, List.nil_append, fix1_int, fix1_ref, fix1_unk, fix1_null, fix1_long]
        rw [Model_caller_23, if_pos n00, Model_caller_39 _ _ _ _ _ _ _ w71, d1]
        simp only [kC_ret, Option.toList, List.cons_append, List.nil_append, fix1_int, fix1_ref, fix1_unk, fix1_null, fix1_long]
        rw [Model_caller_44]
  · refine SC_fail (e := 2) (c := 1) ?_ rfl (by omega) (by omega) ?_
    · rw [Two_caller_E, Two_caller_0 _ _ _ _ _ _ _ _ t0, co2 x hx2, kC_thr]
    · intro w1 J K Q hm
      obtain ⟨J3, K3, d1⟩ := mw_failsE (L := K) hm 1
      obtain ⟨⟨w71, wd1, -⟩, ⟨p01, -⟩, m3, -⟩ := hm
      rw [Model_caller_E, Model_caller_0 _ _ _ _ _ _ _ w71, mo_isCaller w71 wd1 p01, m3, h1, if_neg (fun z => hx ((mo_ix (by omega)).mp z))]
      simp only [kC_ret, Option.toList, List.cons_append, List.nil_append, fix1_int, fix1_ref, fix1_unk, fix1_null, fix1_long]
      rw [Model_caller_5, if_neg (by simp [n00]), Model_caller_8 _ _ _ _ _ _ _ w71, d1]
      simp only [kC_ret, Option.toList, List.cons_append, List.nil_append, fix1_int, fix1_ref, fix1_unk, fix1_null, fix1_long]
      rw [Model_caller_13]
theorem sc_message (h : CW B w I L P N st Ks len tx T) (x z y : Int32) : SC B w I L P N st Ks len tx T (fun e => if e = 2 then 1 else if e = 0 then 2 else 0) (call 91 [.ref B, .int x, .int z, .int y] w I L P) (fun w1 J K Q => call 176 [.ref (B + 284), .int x, .int z, .int y] w1 J K Q) := by
  obtain ⟨hw, p0, tb, hst, q, k, n, md, hq, hbc, hlg⟩ := CW_bc h
  have t0 := hw.1
  have hbc' := hbc
  obtain ⟨⟨hk0, hk, h1, i1⟩, -, -, -, i7, -, hbq, hcs, -, -, hi, -⟩ := hbc'
  obtain ⟨co1, co2⟩ := cl_cOT hw p0 hbq hk I L i1
  rcases cl_ix x (n := k) (by omega) with ⟨c, hck, rfl⟩ | ⟨hx, hx2⟩
  · have tc := tb.2.2.2.2.2.1 c (by omega)
    obtain ⟨s, hs4, e0, -, hom⟩ := hi.1 c (by omega)
    obtain ⟨qq, s', hp, g1, g2, g3, -, -, -, -, g8⟩ := hcs c (by omega)
    have es : s' = s := by
      rw [e0, nI_eq (by omega) (by omega)] at g2
      exact g2.symm
    subst es
    have m17 : ∀ w1 J K Q, MW B w1 J Q N st Ks len tx → call 176 [.ref (B + 284), .int (nI c), .int z, .int y] w1 J K Q = if nI 0 ≤ z ∧ z ≤ nI s' - nI 1 then go 176 32 [.ref (B + 284), .int (nI c), .int z, .int y] [] w1 J K Q else go 176 26 [.ref (B + 284), .int (nI c), .int z, .int y] [] w1 J K Q := by
      intro w1 J K Q hm
      obtain ⟨⟨w71, wd1, -⟩, ⟨p01, -⟩, m3, -⟩ := hm
      rw [Model_message_E, Model_message_0 _ _ _ _ _ _ _ _ w71, mo_isCaller w71 wd1 p01, m3, h1, if_pos ((mo_ix (by omega)).mpr ⟨c, hck, rfl⟩)]
      simp only [kC_ret, Option.toList, List.cons_append, List.nil_append, fix1_int, fix1_ref, fix1_unk, fix1_null, fix1_long]
      rw [Model_message_5, if_neg n10, Model_message_8 _ _ _ _ _ _ _ _ w71, mo_of w71 wd1 p01 (c := c) (k := 0) (by omega), m3, show N (207 + 40 * c + 0) = nI s' from e0]
      simp only [kC_ret, Option.toList, List.cons_append, List.nil_append, fix1_int, fix1_ref, fix1_unk, fix1_null, fix1_long]
      rw [Model_message_17, mo_inL]
      simp only [kC_ret, Option.toList, List.cons_append, List.nil_append, fix1_int, fix1_ref, fix1_unk, fix1_null, fix1_long]
      rw [Model_message_23]
      by_cases g : nI 0 ≤ z ∧ z ≤ nI s' - nI 1
      · rw [if_pos g, if_pos g, if_pos n10]
      · rw [if_neg g, if_neg g, if_neg (by simp [n00])]
    rcases cl_ix z (n := s') (by omega) with ⟨p, hps, rfl⟩ | ⟨hz, hz2⟩
    · have hqp := hp.2.2.2.1 p (by omega)
      have tm := tc.2.2.2 _ hqp
      have hmr := g8 p hps
      rw [show 207 + 40 * c + 8 + 8 * p = 215 + 40 * c + 8 * p from by omega] at hmr
      by_cases hy : RG y 0 7
      · obtain ⟨v, -, hv, rfl⟩ := RG_ex (by omega) (by omega) hy
        refine SC_tell (v := N (215 + 40 * c + 8 * p + v)) h ?_ ?_
        · rw [Two_message_E, Two_message_0 _ _ _ _ _ _ _ _ _ t0, co1 c hck]
          simp only [kC_ret, Option.toList, List.cons_append, List.nil_append, fix1_int, fix1_ref, fix1_unk, fix1_null, fix1_long]
          rw [Two_message_5 _ _ _ _ _ _ _ _ _ _ tc.1, cl_messageAt tc hp g1 hps I L g3]
          simp only [kC_ret, Option.toList, List.cons_append, List.nil_append, fix1_int, fix1_ref, fix1_unk, fix1_null, fix1_long]
          rw [Two_message_9_1, fix1_int, Two_message_26, cl_range, if_pos hy]
          simp only [kC_ret, Option.toList, List.cons_append, List.nil_append, fix1_int, fix1_ref, fix1_unk, fix1_null, fix1_long]
          rw [Two_message_33 _ _ _ _ _ _ _ _ _ tm, cl_mtell tm hmr (hom p hps).2.1 (by omega)]
          simp only [kC_ret, Option.toList, List.cons_append, List.nil_append, fix1_int, fix1_ref, fix1_unk, fix1_null, fix1_long]
          rw [Two_message_39]
        · intro w1 J K Q hm
          obtain ⟨J3, K3, d1⟩ := mw_wellE (L := K) hm (N (215 + 40 * c + 8 * p + v))
          have m17' := m17 w1 J K Q hm
          obtain ⟨⟨w71, wd1, -⟩, ⟨p01, -⟩, m3, -⟩ := hm
          rw [m17', if_pos ((mo_ix (by omega)).mpr ⟨p, hps, rfl⟩), Model_message_32, mo_rg (nI v) 0 7 0 7 l0_i l7_i, if_pos hy]
          simp only [kC_ret, Option.toList, List.cons_append, List.nil_append, fix1_int, fix1_ref, fix1_unk, fix1_null, fix1_long]
          rw [Model_message_41, if_neg n10, Model_message_44 _ _ _ _ _ _ _ _ w71, mo_told w71 wd1 p01 (c := c) (p := p) (k := v) (by omega), m3, show 207 + 40 * c + 8 + 8 * p + v = 215 + 40 * c + 8 * p + v from by omega]
          simp only [kC_ret, Option.toList, List.cons_append, List.nil_append, fix1_int, fix1_ref, fix1_unk, fix1_null, fix1_long]
          rw [Model_message_52 _ _ _ _ _ _ _ _ _ _ w71, d1]
          simp only [kC_ret, Option.toList, List.cons_append, List.nil_append, fix1_int, fix1_ref, fix1_unk, fix1_null, fix1_long]
          rw [Model_message_55, Model_message_63]
      · refine SC_fail (e := 0) (c := 2) ?_ rfl (by omega) (by omega) ?_
        · rw [Two_message_E, Two_message_0 _ _ _ _ _ _ _ _ _ t0, co1 c hck]
          simp only [kC_ret, Option.toList, List.cons_append, List.nil_append, fix1_int, fix1_ref, fix1_unk, fix1_null, fix1_long]
          rw [Two_message_5 _ _ _ _ _ _ _ _ _ _ tc.1, cl_messageAt tc hp g1 hps I L g3]
          simp only [kC_ret, Option.toList, List.cons_append, List.nil_append, fix1_int, fix1_ref, fix1_unk, fix1_null, fix1_long]
          rw [Two_message_9_1, fix1_int, Two_message_26, cl_range, if_neg hy, kC_thr]
        · intro w1 J K Q hm
          obtain ⟨J3, K3, d1⟩ := mw_failsE (L := K) hm 2
          have m17' := m17 w1 J K Q hm
          rw [m17', if_pos ((mo_ix (by omega)).mpr ⟨p, hps, rfl⟩), Model_message_32, mo_rg y 0 7 0 7 l0_i l7_i, if_neg hy]
          simp only [kC_ret, Option.toList, List.cons_append, List.nil_append, fix1_int, fix1_ref, fix1_unk, fix1_null, fix1_long]
          rw [Model_message_41, if_pos n00, Model_message_58 _ _ _ _ _ _ _ _ hm.1.1, d1]
          simp only [kC_ret, Option.toList, List.cons_append, List.nil_append, fix1_int, fix1_ref, fix1_unk, fix1_null, fix1_long]
          rw [Model_message_63]
    · refine SC_fail (e := 2) (c := 1) ?_ rfl (by omega) (by omega) ?_
      · have en : call 7 [.ref (B + 1 + 7 + 7 * c), .int z] w I L P = some (.inl (some .null), w, I, L, P) := by
          rw [Caller_messageAt_E, Caller_messageAt_0]
          rcases hz2 with g | g
          · rw [if_pos g, Caller_messageAt_30, Caller_messageAt_31_0]
          · by_cases g' : z < 0
            · rw [if_pos g', Caller_messageAt_30, Caller_messageAt_31_0]
            · rw [if_neg g', Caller_messageAt_4 _ _ _ _ _ _ tc.1, g3, if_pos g, Caller_messageAt_30, Caller_messageAt_31_0]
        rw [Two_message_E, Two_message_0 _ _ _ _ _ _ _ _ _ t0, co1 c hck]
        simp only [kC_ret, Option.toList, List.cons_append, List.nil_append, fix1_int, fix1_ref, fix1_unk, fix1_null, fix1_long]
        rw [Two_message_5 _ _ _ _ _ _ _ _ _ _ tc.1, en]
        simp only [kC_ret, Option.toList, List.cons_append, List.nil_append, fix1_int, fix1_ref, fix1_unk, fix1_null, fix1_long]
        rw [Two_message_9_0, Two_message_16]
      · intro w1 J K Q hm
        obtain ⟨J3, K3, d1⟩ := mw_failsE (L := K) hm 1
        have m17' := m17 w1 J K Q hm
        rw [m17', if_neg (fun g => hz ((mo_ix (by omega)).mp g)), Model_message_26 _ _ _ _ _ _ _ _ hm.1.1, d1]
        simp only [kC_ret, Option.toList, List.cons_append, List.nil_append, fix1_int, fix1_ref, fix1_unk, fix1_null, fix1_long]
        rw [Model_message_31]
  · refine SC_fail (e := 2) (c := 1) ?_ rfl (by omega) (by omega) ?_
    · rw [Two_message_E, Two_message_0 _ _ _ _ _ _ _ _ _ t0, co2 x hx2, kC_thr]
    · intro w1 J K Q hm
      obtain ⟨J3, K3, d1⟩ := mw_failsE (L := K) hm 1
      obtain ⟨⟨w71, wd1, -⟩, ⟨p01, -⟩, m3, -⟩ := hm
      rw [Model_message_E, Model_message_0 _ _ _ _ _ _ _ _ w71, mo_isCaller w71 wd1 p01, m3, h1, if_neg (fun z => hx ((mo_ix (by omega)).mp z))]
      simp only [kC_ret, Option.toList, List.cons_append, List.nil_append, fix1_int, fix1_ref, fix1_unk, fix1_null, fix1_long]
      rw [Model_message_5, if_pos n00, Model_message_26 _ _ _ _ _ _ _ _ w71, d1]
      simp only [kC_ret, Option.toList, List.cons_append, List.nil_append, fix1_int, fix1_ref, fix1_unk, fix1_null, fix1_long]
      rw [Model_message_31]
end
