/-! busy: no quotient of counts is a NaN -/
theorem fp_t : FP.Core.b64.tails = 4503599627370496 := by decide
theorem fp_e : FP.Core.b64.exps = 2048 := by decide
theorem fp_q : FP.Core.b64.qmin = -1074 := by decide
theorem fp_m : FP.Core.b64.qmax = 971 := by decide
theorem fp_p : 2 ^ FP.Core.b64.p = 9007199254740992 := by decide
theorem fp_enc (s : Bool) (c : Nat) (q : Int) (hc : c < 9007199254740992) (hq : q ≤ 971) : ∃ e t, FP.Core.encode FP.Core.b64 (.fin s c q) = (s.toNat * 2048 + e) * 4503599627370496 + t ∧ e < 2047 ∧ t < 4503599627370496 ∧ (e = 0 → t = c) := by
  unfold FP.Core.encode FP.Core.assemble
  dsimp only
  rw [fp_t, fp_e, fp_q]
  by_cases h : c < 4503599627370496
  · rw [if_pos h]
    exact ⟨0, c, rfl, by omega, h, fun _ => rfl⟩
  · rw [if_neg h]
    exact ⟨(q - -1074).toNat + 1, c - 4503599627370496, rfl, by omega, by omega, fun g => by omega⟩
theorem fp_bnd (s : Bool) (c : Nat) (q : Int) (hc : c < 9007199254740992) : FP.Core.encode FP.Core.b64 (FP.Core.bound FP.Core.b64 s c q) % 9223372036854775808 ≤ 9218868437227405312 := by
  unfold FP.Core.bound
  rw [fp_m]
  by_cases h : q ≤ 971
  · rw [if_pos h]
    obtain ⟨e, t, g1, g2, g3, -⟩ := fp_enc s c q hc h
    rw [g1]
    cases s
    · rw [show false.toNat = 0 from rfl]; omega
    · rw [show true.toNat = 1 from rfl]; omega
  · rw [if_neg h]
    cases s
    · decide
    · decide
theorem fp_rr (s : Bool) (num den : Nat) (e : Int) : FP.Core.encode FP.Core.b64 (FP.Core.roundRatio FP.Core.b64 s num den e) % 9223372036854775808 ≤ 9218868437227405312 := by
  unfold FP.Core.roundRatio
  by_cases h : num = 0
  · rw [if_pos h]
    cases s
    · decide
    · decide
  · rw [if_neg h]
    unfold FP.Core.roundAt FP.Core.settle
    rw [fp_p]
    split
    · exact fp_bnd _ _ _ (by assumption)
    · exact fp_bnd _ _ _ (by rw [fp_t]; omega)
theorem fp_a (n e : Nat) (h : e < 2047) : (n * 2048 + e) % 2048 = e := by omega
theorem fp_b (n e : Nat) (h : e < 2047) : (n * 2048 + e) / 2048 = n := by omega
theorem fp_c (n t : Nat) (h : t < 4503599627370496) : (n * 4503599627370496 + t) / 4503599627370496 = n := by omega
theorem fp_d (n t : Nat) (h : t < 4503599627370496) : (n * 4503599627370496 + t) % 4503599627370496 = t := by omega
theorem fp_dec (s : Bool) (e t : Nat) (he : e < 2047) (ht : t < 4503599627370496) : ∃ c q, FP.Core.decode FP.Core.b64 ((s.toNat * 2048 + e) * 4503599627370496 + t) = .fin s c q ∧ (c = 0 → e = 0 ∧ t = 0) := by
  unfold FP.Core.decode FP.Core.fieldE FP.Core.fieldT FP.Core.fieldS
  rw [fp_t, fp_e, fp_q]
  rw [fp_c _ t ht, fp_d _ t ht, fp_a _ e he, fp_b _ e he, if_neg (by omega)]
  have h3 : (s.toNat % 2 == 1) = s := by cases s <;> rfl
  rw [h3]
  by_cases g : e = 0
  · rw [if_pos g]; exact ⟨_, _, rfl, fun z => ⟨g, z⟩⟩
  · rw [if_neg g]; exact ⟨_, _, rfl, fun z => by omega⟩
theorem fp_i2d (x : Int32) : ∃ s c q, FP.Core.decode FP.Core.b64 (FP.i2d x).toNat = .fin s c q ∧ (c = 0 → x = 0) := by
  have hi : x.toInt.natAbs ≤ 2147483648 := by
    have h1 := Int32.le_toInt x
    have h2 := Int32.toInt_lt x
    omega
  have key : ∃ e t, FP.Core.fromInt FP.Core.b64 x.toInt = ((decide (x.toInt < 0)).toNat * 2048 + e) * 4503599627370496 + t ∧ e < 2047 ∧ t < 4503599627370496 ∧ (e = 0 ∧ t = 0 → x.toInt.natAbs = 0) := by
    unfold FP.Core.fromInt FP.Core.ofInt FP.Core.round FP.Core.roundRatio
    dsimp only
    by_cases h : x.toInt.natAbs = 0
    · rw [if_pos h]
      obtain ⟨e, t, g1, g2, g3, g4⟩ := fp_enc (decide (x.toInt < 0)) 0 (FP.Core.b64.qmin) (by omega) (by rw [fp_q]; omega)
      exact ⟨e, t, g1, g2, g3, fun _ => h⟩
    · rw [if_neg h]
      have hq : FP.Core.quantum FP.Core.b64 x.toInt.natAbs 1 0 ≤ 0 := by
        unfold FP.Core.quantum FP.Core.leading
        have hl : x.toInt.natAbs.log2 < 32 := (Nat.log2_lt h).mpr (by omega)
        rw [fp_q, show ((FP.Core.b64.p : Nat) : Int) = 53 from rfl]
        dsimp only
        split <;> omega
      generalize FP.Core.quantum FP.Core.b64 x.toInt.natAbs 1 0 = q at hq
      unfold FP.Core.roundAt
      have hn : FP.Core.nearest (FP.Core.unitsNum x.toInt.natAbs 0 q) (FP.Core.unitsDen 1 0 q) = FP.Core.unitsNum x.toInt.natAbs 0 q := by
        unfold FP.Core.unitsDen FP.Core.nearest
        rw [show (q - 0).toNat = 0 from by omega, Nat.pow_zero, Nat.mul_one, Nat.mod_one, if_pos (by omega), Nat.div_one]
      rw [hn]
      have h0 : FP.Core.unitsNum x.toInt.natAbs 0 q ≠ 0 := by
        unfold FP.Core.unitsNum
        exact Nat.mul_ne_zero h (Nat.pos_iff_ne_zero.mp (Nat.two_pow_pos _))
      generalize FP.Core.unitsNum x.toInt.natAbs 0 q = n at h0
      unfold FP.Core.settle FP.Core.bound
      rw [fp_p, fp_m, fp_t]
      by_cases g : n < 9007199254740992
      · rw [if_pos g, if_pos (by omega)]
        obtain ⟨e, t, g1, g2, g3, g4⟩ := fp_enc (decide (x.toInt < 0)) n q g (by omega)
        exact ⟨e, t, g1, g2, g3, fun z => absurd ((g4 z.1).symm.trans z.2) h0⟩
      · rw [if_neg g, if_pos (by omega)]
        obtain ⟨e, t, g1, g2, g3, g4⟩ := fp_enc (decide (x.toInt < 0)) 4503599627370496 (q + 1) (by omega) (by omega)
        exact ⟨e, t, g1, g2, g3, fun z => by have := g4 z.1; omega⟩
  obtain ⟨e, t, g1, g2, g3, g4⟩ := key
  obtain ⟨c, q, d1, d2⟩ := fp_dec (decide (x.toInt < 0)) e t g2 g3
  refine ⟨decide (x.toInt < 0), c, q, ?_, ?_⟩
  · rw [← d1, ← g1]
    congr 1
    show (UInt64.ofNat (FP.Core.fromInt FP.Core.b64 x.toInt)).toNat = _
    rw [UInt64.toNat_ofNat', Nat.mod_eq_of_lt]
    rw [g1]
    have : (decide (x.toInt < 0)).toNat ≤ 1 := Bool.toNat_le _
    omega
  · intro z
    have := g4 (d2 z)
    exact Int32.toInt_inj.mp (by rw [show (0 : Int32).toInt = 0 from rfl]; omega)
theorem fp_nn (x y : Int32) (h : y ≠ 0) : FP.ddiv (FP.i2d x) (FP.i2d y) &&& 0x7fffffffffffffff ≤ 0x7ff0000000000000 := by
  obtain ⟨s, c, q, h1, -⟩ := fp_i2d x
  obtain ⟨s2, c2, q2, h2, h3⟩ := fp_i2d y
  have e : FP.ddiv (FP.i2d x) (FP.i2d y) = UInt64.ofNat (FP.Core.encode FP.Core.b64 (FP.Core.roundRatio FP.Core.b64 (s != s2) c c2 (q - q2))) := by
    show UInt64.ofNat (FP.Core.div FP.Core.b64 (FP.i2d x).toNat (FP.i2d y).toNat) = _
    unfold FP.Core.div
    rw [h1, h2]
    unfold FP.Core.quotient
    dsimp only
    rw [if_neg (fun z => h (h3 z))]
  have b := fp_rr (s != s2) c c2 (q - q2)
  rw [e, UInt64.le_iff_toNat_le, UInt64.toNat_and, UInt64.toNat_ofNat', show (9223372036854775807 : UInt64).toNat = 2 ^ 63 - 1 from by decide, Nat.and_two_pow_sub_one_eq_mod]
  rw [show (9218868437227405312 : UInt64).toNat = 9218868437227405312 from by decide]
  omega
section
variable {B : Nat} {w : Wd} {I : MI} {L : ML} {P : MP} {N : Nat → Int32} {st : Nat} {Ks : Nat → Nat → Int32} {len : Nat} {tx : Nat → Nat} {T : Nat}
theorem sc_busy (h : CW B w I L P N st Ks len tx T) (hT : T < 2147000000) : ∃ v, call 100 [.ref B] w I L P = some (.inl (some (.double v)), w, I, L, P) ∧ ∀ w1 J K Q, MW B w1 J Q N st Ks len tx → ∃ J', call 190 [.ref (B + 284)] w1 J K Q = some (.inl (some (.double v)), w1, J', K, Q) ∧ MW B w1 J' Q N st Ks len tx ∧ Fr (B + 284) (B + 289) J J' K K Q Q := by
  obtain ⟨hw, p0, tb, hst, q, k, n, md, hq, hbc, hlg⟩ := CW_bc h
  have t0 := hw.1
  have t3 := tb.2.2.2.1
  have p5 : P (B + 1) 5 = some (B + 1 + 3) := hbc.2.2.2.2.2.2.1.2.2.1
  obtain ⟨g0, g1, g2, -⟩ := hlg
  by_cases z : q = 0
  · subst z
    refine ⟨FP.dconst0, ?_, ?_⟩
    · rw [Two_busy_E, Two_busy_0 _ _ _ _ _ _ t0, p0, rf_some, Two_busy_4 _ _ _ _ _ _ _ tb.1, p5, rf_some, Two_busy_7 _ _ _ _ _ _ _ t3, g1, if_neg (by decide), Two_busy_15]
    · intro w1 J K Q hm
      refine ⟨_, ?_, MW_set hm (k := 6) (by omega) (nI 0), Fr_mo⟩
      obtain ⟨⟨w71, wd1, -⟩, ⟨p01, -⟩, m3, -⟩ := hm
      rw [Model_busy_E, Model_busy_0 _ _ _ _ _ w71, p01, rf_some, updI_wr, Model_busy_9 _ _ _ _ _ _ (inA_nI wd1 (by omega) (by omega)), cl_nI (by omega), wr_ne _ _ (by omega), m3, g0, if_neg (by decide), Model_busy_14, Model_busy_34]
  · have hz : nI q ≠ 0 := nI_ne0 (by omega) (by omega)
    refine ⟨FP.ddiv (FP.i2d (N 10)) (FP.i2d (nI q)), ?_, ?_⟩
    · rw [Two_busy_E, Two_busy_0 _ _ _ _ _ _ t0, p0, rf_some, Two_busy_4 _ _ _ _ _ _ _ tb.1, p5, rf_some, Two_busy_7 _ _ _ _ _ _ _ t3, g1, if_pos hz, fix1_ref, Two_busy_17 _ _ _ _ _ _ t0, p0, rf_some, Two_busy_21 _ _ _ _ _ _ _ tb.1, p5, rf_some, Two_busy_24 _ _ _ _ _ _ _ t3 (fp_nn _ _ hz), g2]
    · intro w1 J K Q hm
      refine ⟨_, ?_, MW_set hm (k := 6) (by omega) (nI 0), Fr_mo⟩
      obtain ⟨⟨w71, wd1, -⟩, ⟨p01, -⟩, m3, -⟩ := hm
      rw [Model_busy_E, Model_busy_0 _ _ _ _ _ w71, p01, rf_some, updI_wr, Model_busy_9 _ _ _ _ _ _ (inA_nI wd1 (by omega) (by omega)), cl_nI (by omega), wr_ne _ _ (by omega), m3, g0, if_pos hz, Model_busy_18 _ _ _ _ _ w71, p01, rf_some, Model_busy_22 _ _ _ _ _ _ (inA_nI wd1 (by omega) (by omega)) w71, p01, rf_some, cl_nI (by omega), wr_ne _ _ (by omega), m3, Model_busy_30 _ _ _ _ _ _ _ (inA_nI wd1 (by omega) (by omega)), cl_nI (by omega), wr_ne _ _ (by omega), m3, g0, Model_busy_34]
      rw [cl_nI (by omega), wr_ne _ _ (by omega), m3, g0]
      exact fp_nn _ _ hz
/-- the text's own fields have changed -/
theorem CW_set (h : CW B w I L P N st Ks len tx T) {J : MI} {K : ML} {len' : Nat} {tx' : Nat → Nat} (e : ∀ x, x ≠ B + 122 → x ≠ B + 123 → J x = I x ∧ K x = L x) (hl : len' ≤ 100) (h1 : J (B + 122) 1 = nI len') (h2 : ∀ j, j < len' → tx' j < 128 ∧ J (B + 123) j = nI (tx' j)) : CW B w J K P N st Ks len' tx' T := by
  have f1 : Fr (B + 122) (B + 124) I J L K P P := fun x hx => ⟨(e x (by omega) (by omega)).1, (e x (by omega) (by omega)).2, rfl⟩
  obtain ⟨g1, ⟨r, hp, g2, g3⟩, g4, ⟨q, hq, g5⟩, g6, g7, g8, -⟩ := h
  have hp' := hp
  obtain ⟨-, -, -, -, -, -, -, p8, -⟩ := hp'
  refine ⟨g1, ⟨r, hp, ?_, ?_⟩, g4, ⟨q, hq, BR_fr g5 (fun x z1 z2 => f1 x (by omega))⟩, g6, BR_fr g7 (fun x z1 z2 => f1 x (by omega)), g8, hl, h1, h2⟩
  · rw [(f1 B (by omega)).1]; exact g2
  · intro i hi
    obtain ⟨q, z1, z2⟩ := g3 i hi
    exact ⟨q, z1, BR_fr z2 (fun x z1 z2 => f1 x (by omega))⟩
theorem CW_tb (h : CW B w I L P N st Ks len tx T) : w.1 (B + 122) = some (4, 0) ∧ w.1 (B + 123) = some (8, 100) ∧ P B 5 = some (B + 122) ∧ P (B + 122) 0 = some (B + 123) ∧ len ≤ 100 ∧ I (B + 122) 1 = nI len ∧ ∀ j, j < len → tx j < 128 ∧ I (B + 123) j = nI (tx j) := by
  obtain ⟨⟨-, -, -, -, a1, a2⟩, ⟨r, ⟨-, -, -, -, a3, a4, -⟩, -⟩, -, -, -, -, -, a5, a6, a7⟩ := h
  exact ⟨a1, a2, a3, a4, a5, a6, a7⟩
/-- a byte behind the text -/
def txA (tx : Nat → Nat) (len v : Nat) : Nat → Nat := fun j => if j = len then v else tx j
theorem sc_append (h : CW B w I L P N st Ks len tx T) (x : Int32) : SC B w I L P N st Ks len tx T (fun e => if e < 2 then e + 1 else 0) (call 101 [.ref B, .int x] w I L P) (fun w1 J K Q => call 191 [.ref (B + 284), .int x] w1 J K Q) := by
  obtain ⟨u1, u2, u3, u4, u5, u6, u7⟩ := CW_tb h
  have t0 := h.1.1
  by_cases hx : RG x 0 127
  · obtain ⟨v, -, hv, rfl⟩ := RG_ex (by omega) (by omega) hx
    have beg : ∀ w1 J K Q, MW B w1 J Q N st Ks len tx → call 191 [.ref (B + 284), .int (nI v)] w1 J K Q = if nI len ≠ nI 100 then go 191 33 [.ref (B + 284), .int (nI v)] [] w1 J K Q else go 191 27 [.ref (B + 284), .int (nI v)] [] w1 J K Q := by
      intro w1 J K Q hm
      obtain ⟨⟨w71, wd1, -⟩, -, -, -, -, m5, -⟩ := hm
      rw [Model_append_E, Model_append_0, mo_rg (nI v) 0 127 0 127 l0_i l127_i, if_pos hx]
      simp only [kC_ret, Option.toList, List.cons_append, List.nil_append, fix1_int, fix1_ref, fix1_unk, fix1_null, fix1_long]
      rw [Model_append_9, if_pos n10, Model_append_18 _ _ _ _ _ _ w71, m5]
    by_cases hl : len = 100
    · subst hl
      refine SC_fail (e := 1) (c := 2) ?_ rfl (by omega) (by omega) ?_
      · rw [Two_append_E, Two_append_0, cl_range, if_pos hx]
        simp only [kC_ret, Option.toList, List.cons_append, List.nil_append, fix1_int, fix1_ref, fix1_unk, fix1_null, fix1_long]
        rw [Two_append_7 _ _ _ _ _ _ t0, u3, rf_some, Two_append_11 _ _ _ _ _ _ _ u1, u6, if_neg (by decide), Two_append_19]
      · intro w1 J K Q hm
        obtain ⟨J3, K3, d1⟩ := mw_failsE (L := K) hm 2
        rw [beg w1 J K Q hm, if_neg (fun g => g rfl), Model_append_27 _ _ _ _ _ _ hm.1.1, d1]
        simp only [kC_ret, Option.toList, List.cons_append, List.nil_append, fix1_int, fix1_ref, fix1_unk, fix1_null, fix1_long]
        rw [Model_append_32]
    · have hl2 : len < 100 := by omega
      left
      refine ⟨nI (len + 1), N, st, Ks, len + 1, txA tx len v, ?_, ?_⟩
      · refine ⟨wr (wr I (B + 123) (sN (I (B + 123)) len (nI v))) (B + 122) (sN (I (B + 122)) 1 (nI (len + 1))), L, P, ?_, ?_, ?_⟩
        · rw [Two_append_E, Two_append_0, cl_range, if_pos hx]
          simp only [kC_ret, Option.toList, List.cons_append, List.nil_append, fix1_int, fix1_ref, fix1_unk, fix1_null, fix1_long]
          rw [Two_append_7 _ _ _ _ _ _ t0, u3, rf_some, Two_append_11 _ _ _ _ _ _ _ u1, u6, if_pos (nI_lt hl2 (by omega)), Two_append_29 _ _ _ _ _ _ t0, u3, rf_some, Two_append_33 _ _ _ _ _ _ _ u1, Text_add_E, Text_add_0 _ _ _ _ _ _ u1, u6, if_neg (nI_pos (by omega)), Text_add_7 _ _ _ _ _ _ u1, u4, rf_some, u6, Text_add_15 _ _ _ _ _ _ _ _ (isAr_of u2), alen_of u2, if_neg (nI_ge hl2 (by omega)), Text_add_19 _ _ _ _ _ _ u1, u4, rf_some, Text_add_23 _ _ _ _ _ _ _ u1 (by rw [u6]; exact inA_nI u2 (by omega) (by omega)), u6, cl_nI (by omega), updI_wr, updI_wr, wr_ne _ _ (by omega), u6, nI_add, Text_add_39 _ _ _ _ _ _ u1, wr_same, sN_eq]
          simp only [kC_ret, Option.toList, List.cons_append, List.nil_append, fix1_int, fix1_ref, fix1_unk, fix1_null, fix1_long]
          rw [Two_append_37]
        · refine CW_set h (fun x g1 g2 => ⟨by rw [wr_ne _ _ g1, wr_ne _ _ g2], rfl⟩) (by omega) (by rw [wr_same, sN_eq]) ?_
          intro j hj
          rw [wr_ne _ _ (by omega), wr_same]
          unfold txA
          by_cases g : j = len
          · subst g; rw [if_pos rfl, sN_eq]; exact ⟨by omega, rfl⟩
          · rw [if_neg g, sN_ne g]; exact u7 j (by omega)
        · intro x hx2
          exact ⟨by rw [wr_ne _ _ (by omega), wr_ne _ _ (by omega)], rfl, rfl⟩
      · intro w1 J K Q hm
        refine ⟨N, fun _ _ => rfl, ?_⟩
        have hm' := hm
        obtain ⟨⟨w71, wd1, ws1, wa1, wt1⟩, ⟨p0, p1, p3, p4⟩, m3, m4, m5, m6, m7⟩ := hm'
        have h2 : MW B w1 (wr (wr J (B + 288) (sN (J (B + 288)) len (nI v))) (B + 284) (sN (J (B + 284)) 5 (nI (len + 1)))) Q N st Ks (len + 1) (txA tx len v) := by
          refine ⟨⟨w71, wd1, ws1, wa1, wt1⟩, ⟨p0, p1, p3, p4⟩, ?_, ?_, ?_, ?_, ?_⟩
          · rw [wr_ne _ _ (by omega), wr_ne _ _ (by omega)]; exact m3
          · rw [wr_same, sN_ne (by omega)]; exact m4
          · intro i hi j hj; rw [wr_ne _ _ (by omega), wr_ne _ _ (by omega)]; exact m5 i hi j hj
          · rw [wr_same, sN_eq]
          · intro j hj
            rw [wr_ne _ _ (by omega), wr_same]
            unfold txA
            by_cases g : j = len
            · subst g; rw [if_pos rfl, sN_eq]
            · rw [if_neg g, sN_ne g]; exact m7 j (by omega)
        obtain ⟨J3, K3, d1, d2, d3, d4⟩ := mw_well (L := K) h2 (nI (len + 1))
        refine ⟨J3, K3, ?_, d2, d3, ?_⟩
        · dsimp only
          rw [beg w1 J K Q hm, if_pos (fun g => hl (by rw [nI_eq (by omega) (by omega)] at g; exact g)), Model_append_33 _ _ _ _ _ _ w71, p4, rf_some, Model_append_37 _ _ _ _ _ _ _ w71 (by rw [m6]; exact inA_nI wt1 (by omega) (by omega)), m6, cl_nI (by omega), updI_wr, updI_wr, wr_ne _ _ (show B + 284 ≠ B + 288 by omega), m6, nI_add, wr_same, sN_eq, d1]
          simp only [kC_ret, Option.toList, List.cons_append, List.nil_append, fix1_int, fix1_ref, fix1_unk, fix1_null, fix1_long]
          rw [Model_append_61]
        · exact Fr_trans (fun x hx2 => ⟨by rw [wr_ne _ _ (by omega), wr_ne _ _ (by omega)], rfl, rfl⟩) d4
  · refine SC_fail (e := 0) (c := 1) ?_ rfl (by omega) (by omega) ?_
    · rw [Two_append_E, Two_append_0, cl_range, if_neg hx, kC_thr]
    · intro w1 J K Q hm
      obtain ⟨J3, K3, d1⟩ := mw_failsE (L := K) hm 1
      rw [Model_append_E, Model_append_0, mo_rg x 0 127 0 127 l0_i l127_i, if_neg hx]
      simp only [kC_ret, Option.toList, List.cons_append, List.nil_append, fix1_int, fix1_ref, fix1_unk, fix1_null, fix1_long]
      rw [Model_append_9, if_neg (by simp [n00]), Model_append_12 _ _ _ _ _ _ hm.1.1, d1]
      simp only [kC_ret, Option.toList, List.cons_append, List.nil_append, fix1_int, fix1_ref, fix1_unk, fix1_null, fix1_long]
      rw [Model_append_17]
theorem sc_clearText (h : CW B w I L P N st Ks len tx T) : SC B w I L P N st Ks len tx T (fun _ => 0) (call 102 [.ref B] w I L P) (fun w1 J K Q => call 192 [.ref (B + 284)] w1 J K Q) := by
  obtain ⟨u1, u2, u3, u4, u5, u6, u7⟩ := CW_tb h
  have t0 := h.1.1
  left
  refine ⟨nI len, N, st, Ks, 0, tx, ?_, ?_⟩
  · refine ⟨wr I (B + 122) (sN (I (B + 122)) 1 (nI 0)), L, P, ?_, ?_, ?_⟩
    · rw [Two_clearText_E, Two_clearText_0 _ _ _ _ _ _ t0, u3, rf_some, Two_clearText_4 _ _ _ _ _ _ _ u1 t0, u3, rf_some, u6, Two_clearText_12 _ _ _ _ _ _ _ u1, updI_wr]
    · exact CW_set h (fun x g1 g2 => ⟨by rw [wr_ne _ _ g1], rfl⟩) (by omega) (by rw [wr_same, sN_eq]) (fun j hj => by omega)
    · intro x hx2
      exact ⟨by rw [wr_ne _ _ (by omega)], rfl, rfl⟩
  · intro w1 J K Q hm
    refine ⟨N, fun _ _ => rfl, ?_⟩
    have hm' := hm
    obtain ⟨⟨w71, wd1, ws1, wa1, wt1⟩, ⟨p0, p1, p3, p4⟩, m3, m4, m5, m6, m7⟩ := hm'
    have h2 : MW B w1 (wr J (B + 284) (sN (J (B + 284)) 5 (nI 0))) Q N st Ks 0 tx := by
      refine ⟨⟨w71, wd1, ws1, wa1, wt1⟩, ⟨p0, p1, p3, p4⟩, ?_, ?_, ?_, ?_, fun j hj => by omega⟩
      · rw [wr_ne _ _ (by omega)]; exact m3
      · rw [wr_same, sN_ne (by omega)]; exact m4
      · intro i hi j hj; rw [wr_ne _ _ (by omega)]; exact m5 i hi j hj
      · rw [wr_same, sN_eq]
    obtain ⟨J3, K3, d1, d2, d3, d4⟩ := mw_well (L := K) h2 (nI len)
    refine ⟨J3, K3, ?_, d2, d3, Fr_trans Fr_mo d4⟩
    dsimp only
    rw [Model_clearText_E, Model_clearText_0 _ _ _ _ _ _ w71, m6, updI_wr, d1]
    simp only [kC_ret, Option.toList, List.cons_append, List.nil_append, fix1_int, fix1_ref, fix1_unk, fix1_null, fix1_long]
    rw [Model_clearText_15]
end
