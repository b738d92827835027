/-! acts answers 1 -/
section
variable {B : Nat} {w : Wd} {I : MI} {L : ML} {P : MP} {N : Nat → Int32} {st : Nat} {Ks : Nat → Nat → Int32} {len : Nat} {tx : Nat → Nat} {T : Nat}
theorem ac_add {v c a : Nat} (h : WI B w I L P N st Ks len tx T) (hT : T < 2145000000) (hv : v < 2147483648) (ha : a < 128) (x1 : Value) : AR B 2 (T + 150000) w I L P (go 145 92 [.ref B, x1, .int (nI v), .int (nI c), .int (nI a)] [] w I L P) (nI 1) := by
  obtain ⟨y, ⟨w', J, K, Q, N', st', Ks', len', tx', e, wi, rs⟩, hy⟩ := ar_add (g := v / 16 % 4) h (by omega) ha (by omega)
  have d1 := pk_div (a := v) (d := 16) (by omega) (by omega) (by omega)
  have d2 := pk_rem (a := v / 16) (d := 4) (by omega) (by omega) (by omega)
  refine ⟨w', J, K, Q, N', st', Ks', len', tx', ?_, WI_T wi (by omega), RS_le rs (by omega)⟩
  rw [Law_acts_92_1 _ _ _ _ _ _ _ _ _ (by decide) (by decide), d1, d2, e]
  simp only [kC_ret, Option.toList, List.cons_append, List.nil_append, fix1_int, fix1_ref, fix1_unk, fix1_null, fix1_long]
  rw [Law_acts_104, if_neg hy, Law_acts_109, Law_acts_114 _ _ _ _ _ _ _ _ _ _ b11]
theorem ac_write {v c a : Nat} (h : WI B w I L P N st Ks len tx T) (hT : T < 2145000000) (hv : v < 2147483648) (hc : c < 3) (ha : a < 128) (x1 : Value) : AR B 2 (T + 150000) w I L P (go 145 115 [.ref B, x1, .int (nI v), .int (nI c), .int (nI a)] [] w I L P) (nI 1) := by
  have d1 := pk_div (a := v) (d := 16) (by omega) (by omega) (by omega)
  have d2 := pk_rem (a := v / 16) (d := 2) (by omega) (by omega) (by omega)
  have d3 := pk_div (a := v) (d := 64) (by omega) (by omega) (by omega)
  obtain ⟨b, hb, eb⟩ := pk_andE (nI (v / 64)) (m := nI 255) 8 (by decide)
  have hb' : b < 256 := hb
  have l : 0 ≤ Int64.ofNat b ∧ Int64.ofNat b ≤ mostV (nI (1 + v / 16 % 2)) := by
    refine by_most (by omega) (by omega) ?_
    rcases (show v / 16 % 2 = 0 ∨ v / 16 % 2 = 1 by omega) with z | z <;> rw [z]
    · exact hb'
    · show b < 65536
      omega
  obtain ⟨y, ⟨w', J, K, Q, N', st', Ks', len', tx', e, wi, rs⟩, hy⟩ := ar_write (cnt := 1 + v / 16 % 2) (b := Int64.ofNat b) h (by omega) hc ha (by omega) (by omega) l
  refine ⟨w', J, K, Q, N', st', Ks', len', tx', ?_, WI_T wi (by omega), RS_le rs (by omega)⟩
  rw [Law_acts_115_1 _ _ _ _ _ _ _ _ _ (by decide) (by decide) (by decide), d1, d2, d3, eb, i2l_nI (by omega), nI_add, e]
  simp only [kC_ret, Option.toList, List.cons_append, List.nil_append, fix1_int, fix1_ref, fix1_unk, fix1_null, fix1_long]
  rw [Law_acts_139, if_neg hy, Law_acts_144, Law_acts_149 _ _ _ _ _ _ _ _ _ _ b11]
theorem ac_read {v c a : Nat} (h : WI B w I L P N st Ks len tx T) (hT : T < 2145000000) (hv : v < 2147483648) (hc : c < 3) (ha : a < 128) (x1 : Value) : AR B 2 (T + 150000) w I L P (go 145 150 [.ref B, x1, .int (nI v), .int (nI c), .int (nI a)] [] w I L P) (nI 1) := by
  have d1 := pk_div (a := v) (d := 16) (by omega) (by omega) (by omega)
  have d2 := pk_rem (a := v / 16) (d := 3) (by omega) (by omega) (by omega)
  obtain ⟨y, ⟨w', J, K, Q, N', st', Ks', len', tx', e, wi, rs⟩, hy⟩ := ar_read (cnt := 1 + v / 16 % 3) h (by omega) hc ha (by omega) (by omega)
  refine ⟨w', J, K, Q, N', st', Ks', len', tx', ?_, WI_T wi (by omega), RS_le rs (by omega)⟩
  rw [Law_acts_150_1 _ _ _ _ _ _ _ _ _ (by decide) (by decide), d1, d2, nI_add, e]
  simp only [kC_ret, Option.toList, List.cons_append, List.nil_append, fix1_int, fix1_ref, fix1_unk, fix1_null, fix1_long]
  rw [Law_acts_165, if_neg hy, Law_acts_170, Law_acts_175 _ _ _ _ _ _ _ _ _ _ b11]
theorem ac_pass {v : Nat} (h : WI B w I L P N st Ks len tx T) (hT : T < 2145000000) (hv : v < 2147483648) (x1 x3 x4 : Value) : AR B 2 (T + 150000) w I L P (go 145 176 [.ref B, x1, .int (nI v), x3, x4] [] w I L P) (nI 1) := by
  have d1 := pk_rem (a := v) (d := 40) (by omega) (by omega) (by omega)
  obtain ⟨q, k, n, hk⟩ := CW_KN h.1 (by omega)
  obtain ⟨hq, h0, -, -, -, -, -, -, -, -, -, -, hg⟩ := hk
  obtain ⟨J, K, Q, e, wi, f⟩ := wi_pass (f := 1 + v % 40) h (by omega) (by omega) (by omega)
  have u := (GN_ok (GN_slots hg (1 + v % 40) (by omega))).2
  refine ⟨w, J, K, Q, _, _, _, _, _, ?_, WI_T wi (by omega), RS_le (RS_fr f) (by omega)⟩
  rw [Law_acts_176_1 _ _ _ _ _ _ _ _ _ (by decide), d1, nI_add, e]
  simp only [kC_ret, Option.toList, List.cons_append, List.nil_append, fix1_int, fix1_ref, fix1_unk, fix1_null, fix1_long]
  rw [Law_acts_186, if_neg (by rw [u]; exact nI_nlt (by omega) (by omega)), Law_acts_190, Law_acts_195 _ _ _ _ _ _ _ _ _ _ b11]
theorem ac_fin {v c : Nat} (h : WI B w I L P N st Ks len tx T) (hT : T < 2145000000) (hv : v < 2147483648) (hc : c < 3) (x1 x4 : Value) : AR B 2 (T + 150000) w I L P (go 145 196 [.ref B, x1, .int (nI v), .int (nI c), x4] [] w I L P) (nI 1) := by
  have t0 := WI_t0 h
  obtain ⟨q, k, n, hk⟩ := CW_KN h.1 (by omega)
  obtain ⟨hq, h0, hk0, hk3, h1, -⟩ := hk
  have val := lr_value t0 (cv_value h.1 (v := 1) (by omega) (by omega))
  have u1 : numV N 1 = nI k := h1
  have nk : ¬ nI k = 0 := nI_ne0 (by omega) (by omega)
  have d0 := pk_rem (a := c) (d := k) (by omega) (by omega) (by omega)
  have d1 := pk_div (a := v) (d := 16) (by omega) (by omega) (by omega)
  have d2 := pk_rem (a := v / 16) (d := 30) (by omega) (by omega) (by omega)
  obtain ⟨J, K, Q, st', Ks', e, wi, f⟩ := lf_ok (c := c % k) (s := 1 + v / 16 % 30) h hT h1 hk3 (Nat.mod_lt _ hk0) (by omega) (by omega)
  refine ⟨w, J, K, Q, _, _, _, _, _, ?_, WI_T wi (by omega), RS_le (RS_fr f) (by omega)⟩
  rw [Law_acts_196_1, val, u1]
  simp only [kC_ret, Option.toList, List.cons_append, List.nil_append, fix1_int, fix1_ref, fix1_unk, fix1_null, fix1_long]
  rw [Law_acts_203_1 _ _ _ _ _ _ _ _ _ _ _ _ nk (by decide) (by decide), d0, d1, d2, nI_add, e]
  simp only [kC_ret, Option.toList, List.cons_append, List.nil_append, fix1_int, fix1_ref, fix1_unk, fix1_null, fix1_long]
  rw [Law_acts_216 _ _ _ _ _ _ _ _ _ _ b11]
theorem ac_wins {c : Nat} (h : WI B w I L P N st Ks len tx T) (hT : T < 2145000000) (hc : c < 3) (x1 x2 x4 : Value) : AR B 2 (T + 150000) w I L P (go 145 217 [.ref B, x1, x2, .int (nI c), x4] [] w I L P) (nI 1) := by
  have t0 := WI_t0 h
  obtain ⟨q, k, n, hk⟩ := CW_KN h.1 (by omega)
  obtain ⟨hq, h0, hk0, hk3, h1, -⟩ := hk
  have val := lr_value t0 (cv_value h.1 (v := 1) (by omega) (by omega))
  have u1 : numV N 1 = nI k := h1
  have nk : ¬ nI k = 0 := nI_ne0 (by omega) (by omega)
  have d0 := pk_rem (a := c) (d := k) (by omega) (by omega) (by omega)
  obtain ⟨J, K, Q, st', Ks', e, wi, f⟩ := ln_ok (c := c % k) h hT h1 hk3 (Nat.mod_lt _ hk0)
  refine ⟨w, J, K, Q, _, _, _, _, _, ?_, WI_T wi (by omega), RS_le (RS_fr f) (by omega)⟩
  rw [Law_acts_217_1, val, u1]
  simp only [kC_ret, Option.toList, List.cons_append, List.nil_append, fix1_int, fix1_ref, fix1_unk, fix1_null, fix1_long]
  rw [Law_acts_224_1 _ _ _ _ _ _ _ _ _ _ _ _ nk, d0, e]
  simp only [kC_ret, Option.toList, List.cons_append, List.nil_append, fix1_int, fix1_ref, fix1_unk, fix1_null, fix1_long]
  rw [Law_acts_228 _ _ _ _ _ _ _ _ _ _ b11]
theorem ac_carry {v c : Nat} (h : WI B w I L P N st Ks len tx T) (hT : T < 2145000000) (hv : v < 2147483648) (hc : c < 3) (x1 x4 : Value) : AR B 2 (T + 150000) w I L P (go 145 229 [.ref B, x1, .int (nI v), .int (nI c), x4] [] w I L P) (nI 1) := by
  obtain ⟨q, k, n, hk⟩ := CW_KN h.1 (by omega)
  obtain ⟨hq, h0, hk0, hk3, h1, -⟩ := hk
  have d1 := pk_div (a := v) (d := 4) (by omega) (by omega) (by omega)
  have d2 := pk_rem (a := v / 4) (d := 128) (by omega) (by omega) (by omega)
  have d3 := pk_div (a := v) (d := 512) (by omega) (by omega) (by omega)
  obtain ⟨b, hb, eb⟩ := pk_andE (nI (v / 512)) (m := nI 255) 8 (by decide)
  have hb' : b < 256 := hb
  obtain ⟨w', J, K, Q, N', st', Ks', len', tx', e, wi, rs⟩ := lc_ok (c := c) (a := v / 4 % 128) (v := b) h hT h1 hk3 hc (by omega) hb'
  refine ⟨w', J, K, Q, N', st', Ks', len', tx', ?_, WI_T wi (by omega), RS_le rs (by omega)⟩
  rw [Law_acts_229_1 _ _ _ _ _ _ _ _ _ (by decide) (by decide) (by decide), d1, d2, d3, eb, e]
  simp only [kC_ret, Option.toList, List.cons_append, List.nil_append, fix1_int, fix1_ref, fix1_unk, fix1_null, fix1_long]
  rw [Law_acts_250 _ _ _ _ _ _ _ _ _ _ b11]
theorem ac_can {v c : Nat} (h : WI B w I L P N st Ks len tx T) (hT : T < 2145000000) (hv : v < 2147483648) (hc : c < 3) (x1 x4 : Value) : AR B 2 (T + 150000) w I L P (go 145 251 [.ref B, x1, .int (nI v), .int (nI c), x4] [] w I L P) (nI 1) := by
  by_cases z : ((nI v) &&& (nI 7)) ≠ 0
  · obtain ⟨y, ⟨w', J, K, Q, N', st', Ks', len', tx', e, wi, rs⟩, hy⟩ := ar_cancel h (by omega) hc
    refine ⟨w', J, K, Q, N', st', Ks', len', tx', ?_, WI_T wi (by omega), RS_le rs (by omega)⟩
    rw [Law_acts_251, if_pos z, Law_acts_281_1, e]
    simp only [kC_ret, Option.toList, List.cons_append, List.nil_append, fix1_int, fix1_ref, fix1_unk, fix1_null, fix1_long]
    rw [Law_acts_286, if_neg hy, Law_acts_291, Law_acts_296 _ _ _ _ _ _ _ _ _ _ b11]
  · have d1 := pk_div (a := v) (d := 8) (by omega) (by omega) (by omega)
    have d2 := pk_rem (a := v / 8) (d := 3) (by omega) (by omega) (by omega)
    obtain ⟨y, ⟨w', J, K, Q, N', st', Ks', len', tx', e, wi, rs⟩, hy⟩ := ar_begin (x := 1 + v / 8 % 3) h (by omega) (by omega) (by omega)
    refine ⟨w', J, K, Q, N', st', Ks', len', tx', ?_, WI_T wi (by omega), RS_le rs (by omega)⟩
    rw [Law_acts_251, if_neg z, Law_acts_258_1 _ _ _ _ _ _ _ _ _ (by decide) (by decide), d1, d2, nI_add, e]
    simp only [kC_ret, Option.toList, List.cons_append, List.nil_append, fix1_int, fix1_ref, fix1_unk, fix1_null, fix1_long]
    rw [Law_acts_270, if_neg hy, Law_acts_273, Law_acts_296 _ _ _ _ _ _ _ _ _ _ b11]
theorem ac_turn2 (h : WI B w I L P N st Ks len tx T) (hT : T < 2147000000) {n l : Nat} {v : Int32} (h2 : N 2 = nI n) (hn : n ≤ 6) (hln : l < n) (hv : v = nI 0 ∨ v = nI 1) : ∃ x w' J K Q N' st' Ks', call 122 [.ref B, .int (nI l), .int v] w I L P = some (.inl (some (.int x)), w', J, K, Q) ∧ WI B w' J K Q N' st' Ks' len tx T ∧ RS B 1 w w' I J L K P Q ∧ N' 2 = nI n ∧ ¬ x < (-12) := by
  have t0 := WI_t0 h
  obtain ⟨q, k, n', hq, h0, hk0, hk3, h1, hn', h2', hi, hol, -⟩ := CW_KN h.1 hT
  obtain ⟨c1, c2⟩ := cc_turn h.1 h2 hn hln hv
  by_cases z : N (327 + 22 * l + 4) = v
  · exact ⟨-12, thrT w, I, L, P, N, st, Ks, lt_turn1 t0 (c1 z), WI_th h TH_thr, RS_th TH_thr, h2, by decide⟩
  · obtain ⟨j, hj, e⟩ := onS_nat (N := sN N (327 + 22 * l + 4) v) (n := n) (fun l' hl' => by
      by_cases e : l' = l
      · subst e; rw [sN_eq]; exact hv
      · rw [sN_ne (by omega)]
        have en : n' = n := by
          rw [h2', nI_eq (by omega) (by omega)] at h2
          exact h2
        exact (hol l' (by omega)).2.1)
    obtain ⟨J, K, Q, e1, wi, f⟩ := Wok_sv h (c2 z) (SQ_lst (l := l) h.2.1 (fun x hx => sN_ne (by omega)))
    rw [e] at e1
    exact ⟨nI j, w, J, K, Q, _, _, _, lr_turn t0 e1, wi, RS_le (RS_fr f) (by omega), by rw [sN_ne (by omega)]; exact h2, (gm13 (by omega)).2⟩
theorem ac_turn {v : Nat} (h : WI B w I L P N st Ks len tx T) (hT : T < 2145000000) (hv : v < 2147483648) (x1 x3 x4 : Value) : AR B 2 (T + 150000) w I L P (go 145 297 [.ref B, x1, .int (nI v), x3, x4] [] w I L P) (nI 1) := by
  have t0 := WI_t0 h
  obtain ⟨q, k, n, hk⟩ := CW_KN h.1 (by omega)
  obtain ⟨hq, h0, hk0, hk3, h1, hn, h2, -⟩ := hk
  have val := lr_value t0 (cv_value h.1 (v := 2) (by omega) (by omega))
  have u2 : numV N 2 = nI n := h2
  by_cases z : n = 0
  · refine ⟨w, I, L, P, _, _, _, _, _, ?_, WI_T h (by omega), RS_le (RS_fr Fr_refl) (by omega)⟩
    rw [Law_acts_297_1, val, u2]
    simp only [kC_ret, Option.toList, List.cons_append, List.nil_append, fix1_int, fix1_ref, fix1_unk, fix1_null, fix1_long]
    rw [Law_acts_302, if_pos (by rw [z]; decide), Law_acts_359, Law_acts_364 _ _ _ _ _ _ _ _ _ _ b11]
  · have nn : ¬ nI n = 0 := nI_ne0 (by omega) (by omega)
    have d0 := pk_rem (a := v) (d := n) (by omega) (by omega) (by omega)
    have hm : v % n < n := Nat.mod_lt _ (by omega)
    obtain ⟨t, ht, et⟩ : ∃ t, (t = nI 0 ∨ t = nI 1) ∧ go 145 312 [.ref B, x1, .int (nI v), x3, x4] [.int (nI n), .int (nI v), .ref B] w I L P = go 145 328 [.ref B, x1, .int (nI v), x3, x4] [.int t, .int (nI (v % n)), .ref B] w I L P := by
      by_cases y : ((nI v / nI 16) &&& (nI 1)) ≠ (nI 1)
      · refine ⟨nI 0, Or.inl rfl, ?_⟩
        rw [Law_acts_312 _ _ _ _ _ _ _ _ _ _ _ _ nn (by decide), if_pos y, Law_acts_327]
        rw [d0]
      · refine ⟨nI 1, Or.inr rfl, ?_⟩
        rw [Law_acts_312 _ _ _ _ _ _ _ _ _ _ _ _ nn (by decide), if_neg y, Law_acts_323]
        rw [d0]
    obtain ⟨x, w1, J1, K1, Q1, N1, st1, Ks1, e1, wi1, rs1, n2, hx⟩ := ac_turn2 h (by omega) h2 hn hm ht
    have a1 : go 145 297 [.ref B, x1, .int (nI v), x3, x4] [] w I L P = go 145 336 [.ref B, x1, .int (nI v), x3, x4] [] w1 J1 K1 Q1 := by
      rw [Law_acts_297_1, val, u2]
      simp only [kC_ret, Option.toList, List.cons_append, List.nil_append, fix1_int, fix1_ref, fix1_unk, fix1_null, fix1_long]
      rw [Law_acts_302, if_neg nn, Law_acts_305_1, val, u2]
      simp only [kC_ret, Option.toList, List.cons_append, List.nil_append, fix1_int, fix1_ref, fix1_unk, fix1_null, fix1_long]
      rw [et]
      rw [Law_acts_328_1, e1]
      simp only [kC_ret, Option.toList, List.cons_append, List.nil_append, fix1_int, fix1_ref, fix1_unk, fix1_null, fix1_long]
      rw [Law_acts_331, if_neg hx]
    rw [a1]
    by_cases y : (0 : Int32) < ((nI v / nI 32) &&& (nI 3))
    · refine ⟨w1, J1, K1, Q1, _, _, _, _, _, ?_, WI_T wi1 (by omega), RS_le rs1 (by omega)⟩
      rw [Law_acts_336 _ _ _ _ _ _ _ _ _ (by decide), if_pos y, Law_acts_359, Law_acts_364 _ _ _ _ _ _ _ _ _ _ b11]
    · have val1 := lr_value (WI_t0 wi1) (cv_value wi1.1 (v := 2) (by omega) (by omega))
      have u21 : numV N1 2 = nI n := n2
      obtain ⟨y2, ⟨w2, J2, K2, Q2, N2, st2, Ks2, len2, tx2, e2, wi2, rs2⟩, hy2⟩ := ar_empty wi1 (by omega) n2 hn hm
      refine ⟨w2, J2, K2, Q2, _, _, _, _, _, ?_, WI_T wi2 (by omega), RS_trans rs1 rs2⟩
      rw [Law_acts_336 _ _ _ _ _ _ _ _ _ (by decide), if_neg y, Law_acts_345_1, val1, u21]
      simp only [kC_ret, Option.toList, List.cons_append, List.nil_append, fix1_int, fix1_ref, fix1_unk, fix1_null, fix1_long]
      rw [Law_acts_352_1 _ _ _ _ _ _ _ _ _ _ _ _ nn, d0, e2]
      simp only [kC_ret, Option.toList, List.cons_append, List.nil_append, fix1_int, fix1_ref, fix1_unk, fix1_null, fix1_long]
      rw [Law_acts_356, if_neg hy2, Law_acts_359, Law_acts_364 _ _ _ _ _ _ _ _ _ _ b11]
theorem ac_lim {v : Nat} (h : WI B w I L P N st Ks len tx T) (hT : T < 2145000000) (hv : v < 2147483648) (x1 x3 x4 : Value) : AR B 2 (T + 150000) w I L P (go 145 365 [.ref B, x1, .int (nI v), x3, x4] [] w I L P) (nI 1) := by
  have d1 := pk_rem (a := v) (d := 9) (by omega) (by omega) (by omega)
  obtain ⟨y, ⟨w', J, K, Q, N', st', Ks', len', tx', e, wi, rs⟩, hy⟩ := ar_limit (x := 1 + v % 9) h (by omega) (by omega) (by omega)
  refine ⟨w', J, K, Q, N', st', Ks', len', tx', ?_, WI_T wi (by omega), RS_le rs (by omega)⟩
  rw [Law_acts_365_1 _ _ _ _ _ _ _ _ _ (by decide), d1, nI_add, e]
  simp only [kC_ret, Option.toList, List.cons_append, List.nil_append, fix1_int, fix1_ref, fix1_unk, fix1_null, fix1_long]
  rw [Law_acts_375, if_neg hy, Law_acts_379, Law_acts_384 _ _ _ _ _ _ _ _ _ _ b11]
theorem ac_ok {zz : Nat} (h : WI B w I L P N st Ks len tx T) (hT : T < 2145000000) (hz : zz < 2147483648) : AR B 2 (T + 150000) w I L P (call 145 [.ref B, .int (nI zz)] w I L P) (nI 1) := by
  have es : nI zz >>> ((nI 4) &&& 31) = nI (zz / 16) := pk_shrN (by omega) _ 4 (by decide)
  have d1 := pk_rem (a := zz / 16) (d := 3) (by omega) (by omega) (by omega)
  have d2 := pk_div (a := zz / 16) (d := 4) (by omega) (by omega) (by omega)
  obtain ⟨a, ha, ea⟩ := pk_andE (nI (zz / 16 / 4)) (m := nI 3) 2 (by decide)
  obtain ⟨j, hj, ej⟩ := pk_andE (nI zz) (m := nI 15) 4 (by decide)
  have ha' : a < 4 := ha
  have hj' : j < 16 := hj
  have hc : zz / 16 % 3 < 3 := by omega
  have hv : zz / 16 < 2147483648 := by omega
  have beg : call 145 [.ref B, .int (nI zz)] w I L P = go 145 19 [.ref B, .int (nI zz), .int (nI (zz / 16)), .int (nI (zz / 16 % 3)), .int (nI a)] [.int (nI j)] w I L P := by
    rw [Law_acts_E, Law_acts_0 _ _ _ _ _ _ _ _ _ (by decide) (by decide), es, d1, d2, ea, ej]
  rw [beg]
  rcases (show j = 0 ∨ j = 1 ∨ j = 2 ∨ j = 3 ∨ j = 4 ∨ j = 5 ∨ j = 6 ∨ j = 7 ∨ j = 8 ∨ j = 9 ∨ j = 10 ∨ j = 11 ∨ j = 12 ∨ j = 13 ∨ j = 14 ∨ j = 15 by omega) with rfl | rfl | rfl | rfl | rfl | rfl | rfl | rfl | rfl | rfl | rfl | rfl | rfl | rfl | rfl | rfl
  · rw [Law_acts_19_k0]; exact ac_add h hT hv (by omega) _
  · rw [Law_acts_19_k1]; exact ac_add h hT hv (by omega) _
  · rw [Law_acts_19_k2]; exact ac_write h hT hv hc (by omega) _
  · rw [Law_acts_19_k3]; exact ac_write h hT hv hc (by omega) _
  · rw [Law_acts_19_k4]; exact ac_write h hT hv hc (by omega) _
  · rw [Law_acts_19_k5]; exact ac_read h hT hv hc (by omega) _
  · rw [Law_acts_19_k6]; exact ac_read h hT hv hc (by omega) _
  · rw [Law_acts_19_k7]; exact ac_pass h hT hv _ _ _
  · rw [Law_acts_19_k8]; exact ac_pass h hT hv _ _ _
  · rw [Law_acts_19_k9]; exact ac_fin h hT hv hc _ _
  · rw [Law_acts_19_k10]; exact ac_fin h hT hv hc _ _
  · rw [Law_acts_19_k11]; exact ac_wins h hT hc _ _ _
  · rw [Law_acts_19_k12]; exact ac_carry h hT hv hc _ _
  · rw [Law_acts_19_k13]; exact ac_can h hT hv hc _ _
  · rw [Law_acts_19_k14]; exact ac_turn h hT hv _ _ _
  · rw [Law_acts_19_kd _ _ _ _ _ _ _ _ _ _ (Or.inr (by decide))]; exact ac_lim h hT hv _ _ _
end
