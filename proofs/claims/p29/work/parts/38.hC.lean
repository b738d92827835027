/-! carries answers 1: the orders are carried out; faults -/
section
variable {B : Nat} {w : Wd} {I : MI} {L : ML} {P : MP} {N : Nat → Int32} {st : Nat} {Ks : Nat → Nat → Int32} {T : Nat}
theorem qz_que {N : Nat → Int32} {c s : Nat} {a rd cnt : Int32} {b : Int64} (hs : s < 4) (hc : c < 3) (e : zc N c = s) : qz (queN N c s a rd cnt b) = qz N + 1 := by
  have e0 := zc_que (N := N) (a := a) (rd := rd) (cnt := cnt) (b := b) hs hc (show 0 < 3 by omega)
  have e1 := zc_que (N := N) (a := a) (rd := rd) (cnt := cnt) (b := b) hs hc (show 1 < 3 by omega)
  have e2 := zc_que (N := N) (a := a) (rd := rd) (cnt := cnt) (b := b) hs hc (show 2 < 3 by omega)
  unfold qz
  rcases (show c = 0 ∨ c = 1 ∨ c = 2 by omega) with rfl | rfl | rfl
  · rw [if_pos rfl] at e0; rw [if_neg (by omega)] at e1 e2; omega
  · rw [if_pos rfl] at e1; rw [if_neg (by omega)] at e0 e2; omega
  · rw [if_pos rfl] at e2; rw [if_neg (by omega)] at e0 e1; omega
theorem lc_2 {k c a v : Nat} (h : WL B w I L P N st Ks (l18 c a v) T) (hT : T < 2146000000) (hk1 : N 1 = nI k) (hk3 : k ≤ 3) (hc : c < 3) (ha : a < 128) (hv : v < 256) (x4 : Value) : ∃ J K Q M s Ks' y6 y7 y9, go 143 196 [.ref B, .int (nI c), .int (nI a), .int (nI v), .int (nI 1), x4, unk, unk, unk, unk] [.int (nI 18)] w I L P = go 143 420 [.ref B, .int (nI c), .int (nI a), .int (nI v), .int (nI 1), .int (nI 18), y6, y7, .int (nI (qz N)), y9] [] w J K Q ∧ WL B w J K Q M (s + 1) Ks' (l18 c a v) (T + 4000) ∧ Ks' s = N ∧ Fr B (B + 284) I J L K P Q := by
  have t0 := WI_t0 h
  have hk1' := hk1
  obtain ⟨q, k', n, hk⟩ := CW_KN h.1 (by omega)
  have hk' := hk
  obtain ⟨hq, h0, hk0, hk3', h1, hn, h2, hi, hol, h4, hmb, h12, hg⟩ := hk'
  have ek : k' = k := by
    rw [h1, nI_eq (by omega) (by omega)] at hk1
    exact hk1
  subst ek
  obtain ⟨s, hs4, e0, -⟩ := hi.1 c hc
  have ezs : zc N c = s := cl_of e0 (by omega)
  have t18 : T18 (fun j => (l18 c a v).getD j 0) c a v := T18_l c a v []
  have hcar := car_18 (k := k') t18 hc ha hv hs4 e0
  have her := er_18 t18 hc ha hv
  have n0 : ¬ nI 1 = 0 := by decide
  have val := fun (v : Nat) (hv : v < 10) => lr_value t0 (cv_value h.1 (by omega) hv)
  have u1 : numV N 1 = nI k' := h1
  have e5 := lq_queued h.1 (by omega) hk
  have zq : qz N < 100 := by
    obtain ⟨-, z0, z1, z2, -⟩ := OC_sum hi.1
    unfold qz; omega
  -- how many there is room for
  obtain ⟨D, M, hD, hM, hqm, hsq, hM1, hc2⟩ : ∃ D M, D = (if (if c < k' then 4 - s else 0) ≤ 2 then (if c < k' then 4 - s else 0) else 2) ∧ carN 18 (fun j => (l18 c a v).getD j 0) k' 100 0 N 0 = (D, M) ∧ qz M = qz N + D ∧ SQ M ∧ M 1 = nI k' ∧ (D = 2 → c < k' ∧ s ≤ 2 ∧ M = q2N N c a v s) := by
    by_cases y : ¬ c < k' ∨ s = 4
    · refine ⟨0, N, ?_, by rw [hcar, if_pos y], rfl, h.2.1, h1, fun z => absurd z (by omega)⟩
      rcases y with y | y
      · rw [if_neg y, if_pos (by omega)]
      · rw [y]
        split <;> split <;> omega
    · have hck : c < k' := Classical.byContradiction (fun z => y (Or.inl z))
      have hs4' : s ≠ 4 := fun z => y (Or.inr z)
      have sq1 : SQ (q1N N c a v s) := SQ_que h.2.1 hc (by omega) e0
      by_cases y3 : s = 3
      · refine ⟨1, q1N N c a v s, ?_, by rw [hcar, if_neg y, if_pos y3], qz_que (by omega) hc ezs, sq1, ?_, fun z => absurd z (by omega)⟩
        · rw [if_pos hck, y3, if_pos (by omega)]
        · unfold q1N
          rw [queN_out (by omega) (by omega)]; exact h1
      · have e1 : q1N N c a v s (207 + 40 * c) = nI (s + 1) := queN_at.1
        refine ⟨2, q2N N c a v s, ?_, by rw [hcar, if_neg y, if_neg y3], ?_, SQ_que sq1 hc (by omega) e1, ?_, fun _ => ⟨hck, by omega, rfl⟩⟩
        · rw [if_pos hck]
          split <;> omega
        · have a1 : qz (q1N N c a v s) = qz N + 1 := qz_que (by omega) hc ezs
          have a2 : qz (q2N N c a v s) = qz (q1N N c a v s) + 1 := qz_que (by omega) hc (cl_of e1 (by omega))
          omega
        · unfold q2N
          rw [queN_out (by omega) (by omega)]
          unfold q1N
          rw [queN_out (by omega) (by omega)]; exact h1
  have hD2 : D ≤ 2 := by
    rw [hD]
    generalize (if c < k' then 4 - s else 0) = R
    split <;> omega
  obtain ⟨J1, K1, Q1, e1, w1, f1⟩ := (wi_carry h (by omega) h1 hk3).1 D M her hM hsq
  obtain ⟨q2, k2, n2, kn2⟩ := CW_KN w1.1 (by omega)
  have e6 := lq_queued w1.1 (by omega) kn2
  rw [hqm] at e6
  have a1 : go 143 196 [.ref B, .int (nI c), .int (nI a), .int (nI v), .int (nI 1), x4, unk, unk, unk, unk] [.int (nI 18)] w I L P = go 143 219 [.ref B, .int (nI c), .int (nI a), .int (nI v), .int (nI 1), .int (nI 18), unk, unk, unk, unk] [.int (nI (if c < k' then 4 - s else 0))] w I L P := by
    by_cases y : c < k'
    · have cal := lr_caller t0 (cv_caller h.1 h1 hk3 y (show 0 < 9 by omega))
      have ec : calV N c 0 = nI s := by
        unfold calV
        rw [if_pos (by omega), Nat.add_zero]
        exact e0
      rw [if_pos y]
      rw [Law_carries_196_1, (val 1 (by omega)), u1]
      simp only [kC_ret, Option.toList, List.cons_append, List.nil_append, fix1_int, fix1_ref, fix1_unk, fix1_null, fix1_long]
      rw [Law_carries_204, if_neg (nI_ge y (by omega)), Law_carries_207_1, cal, ec]
      simp only [kC_ret, Option.toList, List.cons_append, List.nil_append, fix1_int, fix1_ref, fix1_unk, fix1_null, fix1_long]
      rw [Law_carries_214]
      rw [pk_sub hs4]
    · rw [if_neg y]
      rw [Law_carries_196_1, (val 1 (by omega)), u1]
      simp only [kC_ret, Option.toList, List.cons_append, List.nil_append, fix1_int, fix1_ref, fix1_unk, fix1_null, fix1_long]
      rw [Law_carries_204, if_pos (nI_le (by omega) (by omega)), Law_carries_218]
  have a2 : go 143 219 [.ref B, .int (nI c), .int (nI a), .int (nI v), .int (nI 1), .int (nI 18), unk, unk, unk, unk] [.int (nI (if c < k' then 4 - s else 0))] w I L P = go 143 233 [.ref B, .int (nI c), .int (nI a), .int (nI v), .int (nI 1), .int (nI 18), .int (nI (if c < k' then 4 - s else 0)), unk, unk, unk] [.int (nI D)] w I L P := by
    rw [hD]
    have r4 : (if c < k' then 4 - s else 0) ≤ 4 := by split <;> omega
    by_cases y : (if c < k' then 4 - s else 0) ≤ 2
    · rw [if_pos y]
      rw [Law_carries_219, if_pos (nI_le y (by omega))]
      simp only [fix1_int, fix1_ref, fix1_unk, fix1_null, fix1_long]
      rw [Law_carries_231]
    · rw [if_neg y]
      rw [Law_carries_219, if_neg (nI_ge (by omega) (by omega))]
      simp only [fix1_int, fix1_ref, fix1_unk, fix1_null, fix1_long]
      rw [Law_carries_227]
  rw [a1, a2]
  have a3 : go 143 233 [.ref B, .int (nI c), .int (nI a), .int (nI v), .int (nI 1), .int (nI 18), .int (nI (if c < k' then 4 - s else 0)), unk, unk, unk] [.int (nI D)] w I L P = go 143 279 [.ref B, .int (nI c), .int (nI a), .int (nI v), .int (nI 1), .int (nI 18), .int (nI (if c < k' then 4 - s else 0)), .int (nI D), .int (nI (qz N)), unk] [.int (nI 1)] w J1 K1 Q1 := by
    rw [Law_carries_233_1, e5]
    simp only [kC_ret, Option.toList, List.cons_append, List.nil_append, fix1_int, fix1_ref, fix1_unk, fix1_null, fix1_long]
    rw [Law_carries_239, if_neg n0]
    simp only [fix1_int, fix1_ref, fix1_unk, fix1_null, fix1_long]
    rw [Law_carries_246, if_neg (by simp), Law_carries_253 _ _ _ _ _ _ _ _ _ _ _ _ _ _ t0, e1]
    simp only [kC_ret, Option.toList, List.cons_append, List.nil_append, fix1_int, fix1_ref, fix1_unk, fix1_null, fix1_long]
    rw [Law_carries_257, if_neg (by simp), Law_carries_262_1, e6]
    simp only [kC_ret, Option.toList, List.cons_append, List.nil_append, fix1_int, fix1_ref, fix1_unk, fix1_null, fix1_long]
    rw [Law_carries_266, if_neg (by rw [nI_add]; simp), Law_carries_274]
  rw [a3]
  by_cases y : D = 2
  · subst y
    obtain ⟨hck, hs2, eM⟩ := hc2 rfl
    obtain ⟨m0, m1, m2, m3, m4, m5, m6, m7⟩ := q2_at (N := N) (c := c) (a := a) (s := s) hv
    rw [← eM] at m0 m1 m2 m3 m4 m5 m6 m7
    have cal := lr_caller t0 (cv_caller w1.1 hM1 hk3 hck (show 0 < 9 by omega))
    have ec : calV M c 0 = nI (s + 2) := by
      unfold calV
      rw [if_pos (by omega), Nat.add_zero]
      exact m0
    have msg := fun (p x : Nat) (hp : p < s + 2) (hx : x < 8) => lr_message t0 (cv_message w1.1 hM1 hk3 hck m0 (by omega) hp hx)
    have g := (cc_cancel w1.1 hM1 hk3 hck m0 (by omega)).2 (s + 1) rfl (by omega)
    rw [show M (215 + 40 * c + 8 * (s + 1)) = nI (a % 10) from m5] at g
    obtain ⟨J2, K2, Q2, e7, w2, f2⟩ := Wok_sv w1 g (SQ_can hsq hc (by omega) m0)
    have e7' := lr_cancel t0 e7
    obtain ⟨s3, es, ks1, ks2⟩ := svK_2 st (WI_st h) Ks N M
    obtain ⟨J3, K3, Q3, e8, w3, f3⟩ := wi_undo w2 es ks1
    have d4 := pk_rem (a := a) (d := 10) (by omega) (by omega) (by omega)
    have b3 := WI_st w2
    refine ⟨J3, K3, Q3, M, s3, _, .int (nI (if c < k' then 4 - s else 0)), .int (nI 2), .int (nI s), ?_, w3, ks2, Fr_trans (Fr_trans f1 f2) f3⟩
    rw [Law_carries_279, if_neg (by simp)]
    simp only [fix1_int, fix1_ref, fix1_unk, fix1_null, fix1_long]
    rw [Law_carries_287_1, cal, ec]
    simp only [kC_ret, Option.toList, List.cons_append, List.nil_append, fix1_int, fix1_ref, fix1_unk, fix1_null, fix1_long]
    rw [Law_carries_293, if_neg n0]
    simp only [fix1_int, fix1_ref, fix1_unk, fix1_null, fix1_long]
    rw [Law_carries_302_1, pk_sub (show 2 ≤ s + 2 by omega), Nat.add_sub_cancel, (msg s 0 (by omega) (by omega)), m1]
    simp only [kC_ret, Option.toList, List.cons_append, List.nil_append, fix1_int, fix1_ref, fix1_unk, fix1_null, fix1_long]
    rw [Law_carries_310, if_neg (by simp), Law_carries_314_1, (msg s 1 (by omega) (by omega)), m2]
    simp only [kC_ret, Option.toList, List.cons_append, List.nil_append, fix1_int, fix1_ref, fix1_unk, fix1_null, fix1_long]
    rw [Law_carries_322, if_neg (by decide), Law_carries_325_1, (msg s 4 (by omega) (by omega)), m3]
    simp only [kC_ret, Option.toList, List.cons_append, List.nil_append, fix1_int, fix1_ref, fix1_unk, fix1_null, fix1_long]
    rw [Law_carries_333, if_neg (by simp), Law_carries_337_1, (msg s 5 (by omega) (by omega)), m4]
    simp only [kC_ret, Option.toList, List.cons_append, List.nil_append, fix1_int, fix1_ref, fix1_unk, fix1_null, fix1_long]
    rw [Law_carries_345, if_neg (by simp), Law_carries_349_1, nI_add, (msg (s + 1) 0 (by omega) (by omega)), m5]
    simp only [kC_ret, Option.toList, List.cons_append, List.nil_append, fix1_int, fix1_ref, fix1_unk, fix1_null, fix1_long]
    rw [Law_carries_359 _ _ _ _ _ _ _ _ _ _ _ _ _ _ _ (by decide), if_neg (by rw [d4]; simp), Law_carries_366_1, nI_add, (msg (s + 1) 1 (by omega) (by omega)), m6]
    simp only [kC_ret, Option.toList, List.cons_append, List.nil_append, fix1_int, fix1_ref, fix1_unk, fix1_null, fix1_long]
    rw [Law_carries_376, if_neg (by simp), Law_carries_380_1, nI_add, (msg (s + 1) 2 (by omega) (by omega)), m7]
    simp only [kC_ret, Option.toList, List.cons_append, List.nil_append, fix1_int, fix1_ref, fix1_unk, fix1_null, fix1_long]
    rw [Law_carries_390, if_neg (by simp), Law_carries_394_1, e7']
    simp only [kC_ret, Option.toList, List.cons_append, List.nil_append, fix1_int, fix1_ref, fix1_unk, fix1_null, fix1_long]
    rw [Law_carries_399 _ _ _ _ _ _ _ _ _ _ _ _ _ _ _ (by decide), if_neg (by rw [d4]; simp), Law_carries_406_1, e8]
    simp only [kC_ret, Option.toList, List.cons_append, List.nil_append, fix1_int, fix1_ref, fix1_unk, fix1_null, fix1_long]
    rw [Law_carries_410, if_neg (nI_pos (by omega)), Law_carries_413, Law_carries_418]
    simp only [fix1_int, fix1_ref, fix1_unk, fix1_null, fix1_long]
  · obtain ⟨s1, es1⟩ := svS_1 st
    rw [es1] at w1
    refine ⟨J1, K1, Q1, M, s1, _, .int (nI (if c < k' then 4 - s else 0)), .int (nI D), unk, ?_, w1, svK_1 es1, f1⟩
    rw [Law_carries_279, if_pos (by rw [Ne, nI_eq (by omega) (by omega)]; exact y)]
    simp only [fix1_int, fix1_ref, fix1_unk, fix1_null, fix1_long]
theorem lc_3 {k c a v s : Nat} {M : Nat → Int32} (h : WL B w I L P M (s + 1) Ks (l18 c a v) T) (hN : Ks s = N) (hT : T < 2146000000) (hk1 : N 1 = nI k) (hk3 : k ≤ 3) (hc : c < 3) (ha : a < 128) (hv : v < 256) (x5 x6 x7 x9 : Value) : ∃ J K Q, go 143 420 [.ref B, .int (nI c), .int (nI a), .int (nI v), .int (nI 1), x5, x6, x7, .int (nI (qz N)), x9] [] w I L P = go 143 495 [.ref B, .int (nI c), .int (nI a), .int (nI v), .int (nI 1), x5, x6, x7, .int (nI (qz N)), x9] [.int (nI 1)] w J K Q ∧ WL B w J K Q N s Ks [] T ∧ Fr B (B + 284) I J L K P Q := by
  have t0 := WI_t0 h
  have n0 : ¬ nI 1 = 0 := by decide
  have hs := WI_st h
  obtain ⟨J1, K1, Q1, e1, w1, f1⟩ := wi_undo h rfl hN
  obtain ⟨q, k', n, hk⟩ := CW_KN w1.1 (by omega)
  have e2 := lq_queued w1.1 (by omega) hk
  have w1' : WL B w J1 K1 Q1 N s Ks (l18 c a v) T := w1
  obtain ⟨J2, K2, Q2, e3, w2, f2⟩ := wl_app (v := 115) w1' (by simp [l18]) (by omega)
  have e3' : call 137 [.ref B, .int (nI 115)] w J1 K1 Q1 = some (.inl (some (.int (nI 19))), w, J2, K2, Q2) := e3
  have er1 : erN (l18 c a v ++ [115]).length (fun j => (l18 c a v ++ [115]).getD j 0) 100 0 = some 19 := er_19 (len := 19) (T18_l c a v [115]) (by omega) hc ha hv rfl er_s0
  obtain ⟨J3, K3, Q3, e4, w3, f3⟩ := (wi_carry w2 (by omega) hk1 hk3).2 19 er1
  have w3' : WL B w J3 K3 Q3 N s Ks (l18 c a v ++ [115]) T := w3
  obtain ⟨J4, K4, Q4, e5, w4, f4⟩ := wl_app (v := 48) w3' (by simp [l18]) (by omega)
  have e5' : call 137 [.ref B, .int (nI 48)] w J3 K3 Q3 = some (.inl (some (.int (nI 20))), w, J4, K4, Q4) := e5
  have er2 : erN (l18 c a v ++ [115] ++ [48]).length (fun j => (l18 c a v ++ [115] ++ [48]).getD j 0) 100 0 = some 19 := er_19 (len := 20) (T18_l c a v ([115] ++ [48])) (by omega) hc ha hv rfl (er_s1 rfl)
  obtain ⟨J5, K5, Q5, e6, w5, f5⟩ := (wi_carry w4 (by omega) hk1 hk3).2 19 er2
  obtain ⟨J6, K6, Q6, e7, w6, f6⟩ := wl_clear w5
  have e7' : call 102 [.ref B] w J5 K5 Q5 = some (.inl (some (.int (nI 20))), w, J6, K6, Q6) := e7
  refine ⟨J6, K6, Q6, ?_, w6, Fr_trans (Fr_trans (Fr_trans (Fr_trans (Fr_trans f1 f2) f3) f4) f5) f6⟩
  rw [Law_carries_420, if_neg n0, Law_carries_425_1, e1]
  simp only [kC_ret, Option.toList, List.cons_append, List.nil_append, fix1_int, fix1_ref, fix1_unk, fix1_null, fix1_long]
  rw [Law_carries_429, if_neg (nI_pos (by omega)), Law_carries_432_1, e2]
  simp only [kC_ret, Option.toList, List.cons_append, List.nil_append, fix1_int, fix1_ref, fix1_unk, fix1_null, fix1_long]
  rw [Law_carries_436, if_neg (by simp), Law_carries_441_1, e3']
  simp only [kC_ret, Option.toList, List.cons_append, List.nil_append, fix1_int, fix1_ref, fix1_unk, fix1_null, fix1_long]
  rw [Law_carries_447, if_neg (by simp), Law_carries_452 _ _ _ _ _ _ _ _ _ _ _ _ _ _ t0, e4]
  simp only [kC_ret, Option.toList, List.cons_append, List.nil_append, fix1_int, fix1_ref, fix1_unk, fix1_null, fix1_long]
  rw [Law_carries_456, if_neg (by decide), Law_carries_461_1, e5']
  simp only [kC_ret, Option.toList, List.cons_append, List.nil_append, fix1_int, fix1_ref, fix1_unk, fix1_null, fix1_long]
  rw [Law_carries_467, if_neg (by simp), Law_carries_472 _ _ _ _ _ _ _ _ _ _ _ _ _ _ t0, e6]
  simp only [kC_ret, Option.toList, List.cons_append, List.nil_append, fix1_int, fix1_ref, fix1_unk, fix1_null, fix1_long]
  rw [Law_carries_476, if_neg (by decide), Law_carries_481 _ _ _ _ _ _ _ _ _ _ _ _ _ _ t0, e7']
  simp only [kC_ret, Option.toList, List.cons_append, List.nil_append, fix1_int, fix1_ref, fix1_unk, fix1_null, fix1_long]
  rw [Law_carries_485, if_neg (by simp), Law_carries_490]
theorem lc_4 {k : Nat} (h : WL B w I L P N st Ks [] T) (hT : T < 2146000000) (hk1 : N 1 = nI k) (hk3 : k ≤ 3) (x1 x2 x3 x5 x6 x7 x8 x9 : Value) : ∃ J K Q, go 143 495 [.ref B, x1, x2, x3, .int (nI 1), x5, x6, x7, x8, x9] [.int (nI 1)] w I L P = some (.inl (some (.int (nI 1))), w, J, K, Q) ∧ WL B w J K Q N st Ks [] T ∧ Fr B (B + 284) I J L K P Q := by
  have t0 := WI_t0 h
  have n0 : ¬ nI 1 = 0 := by decide
  obtain ⟨J1, K1, Q1, e1, w1, f1⟩ := wl_app (v := 119) h (by decide) (by omega)
  obtain ⟨J2, K2, Q2, e2, w2, f2⟩ := wl_app (v := 51) w1 (by decide) (by omega)
  obtain ⟨J3, K3, Q3, e3, w3, f3⟩ := (wi_carry w2 (by omega) hk1 hk3).2 1 (er_w rfl rfl)
  obtain ⟨J4, K4, Q4, e4, w4, f4⟩ := wl_clear w3
  have e4' : call 102 [.ref B] w J3 K3 Q3 = some (.inl (some (.int (nI 2))), w, J4, K4, Q4) := e4
  obtain ⟨J5, K5, Q5, e5, w5, f5⟩ := wl_app (v := 114) w4 (by decide) (by omega)
  obtain ⟨J6, K6, Q6, e6, w6, f6⟩ := wl_app (v := 48) w5 (by decide) (by omega)
  obtain ⟨J7, K7, Q7, e7, w7, f7⟩ := wl_app (v := 58) w6 (by decide) (by omega)
  obtain ⟨J8, K8, Q8, e8, w8, f8⟩ := wl_app (v := 49) w7 (by decide) (by omega)
  obtain ⟨J9, K9, Q9, e9, w9, f9⟩ := wl_app (v := 50) w8 (by decide) (by omega)
  obtain ⟨Ja, Ka, Qa, ea, wa, fa⟩ := wl_app (v := 56) w9 (by decide) (by omega)
  obtain ⟨Jb, Kb, Qb, eb, wb, fb⟩ := (wi_carry wa (by omega) hk1 hk3).2 3 (er_r (len := 6) (by omega) rfl rfl rfl (er_r6 rfl rfl rfl))
  have wb' : WL B w Jb Kb Qb N st Ks ([] ++ [114] ++ [48] ++ [58] ++ [49] ++ [50] ++ [56]) T := wb
  obtain ⟨Jc, Kc, Qc, ec, wc, fc⟩ := wl_app (v := 48) wb' (by decide) (by omega)
  have ec' : call 137 [.ref B, .int (nI 48)] w Jb Kb Qb = some (.inl (some (.int (nI 7))), w, Jc, Kc, Qc) := ec
  obtain ⟨Jd, Kd, Qd, ed, wd, fd⟩ := (wi_carry wc (by omega) hk1 hk3).2 6 (er_r (len := 7) (by omega) rfl rfl rfl (er_r7 rfl rfl rfl rfl))
  obtain ⟨Je, Ke, Qe, ee, we, fe⟩ := wl_clear wd
  have ee' : call 102 [.ref B] w Jd Kd Qd = some (.inl (some (.int (nI 7))), w, Je, Ke, Qe) := ee
  refine ⟨Je, Ke, Qe, ?_, we, Fr_trans (Fr_trans (Fr_trans (Fr_trans (Fr_trans (Fr_trans (Fr_trans (Fr_trans (Fr_trans (Fr_trans (Fr_trans (Fr_trans (Fr_trans f1 f2) f3) f4) f5) f6) f7) f8) f9) fa) fb) fc) fd) fe⟩
  rw [Law_carries_495_1, e1]
  simp only [kC_ret, Option.toList, List.cons_append, List.nil_append, fix1_int, fix1_ref, fix1_unk, fix1_null, fix1_long]
  rw [Law_carries_503_1, e2]
  simp only [kC_ret, Option.toList, List.cons_append, List.nil_append, fix1_int, fix1_ref, fix1_unk, fix1_null, fix1_long]
  rw [Law_carries_510, if_neg n0, Law_carries_516 _ _ _ _ _ _ _ _ _ _ _ _ _ _ t0, e3]
  simp only [kC_ret, Option.toList, List.cons_append, List.nil_append, fix1_int, fix1_ref, fix1_unk, fix1_null, fix1_long]
  rw [Law_carries_520, if_neg (by decide), Law_carries_525 _ _ _ _ _ _ _ _ _ _ _ _ _ _ t0, e4']
  simp only [kC_ret, Option.toList, List.cons_append, List.nil_append, fix1_int, fix1_ref, fix1_unk, fix1_null, fix1_long]
  rw [Law_carries_529, if_neg (by simp), Law_carries_533, Law_carries_538_1, e5]
  simp only [kC_ret, Option.toList, List.cons_append, List.nil_append, fix1_int, fix1_ref, fix1_unk, fix1_null, fix1_long]
  rw [Law_carries_546_1, e6]
  simp only [kC_ret, Option.toList, List.cons_append, List.nil_append, fix1_int, fix1_ref, fix1_unk, fix1_null, fix1_long]
  rw [Law_carries_553_1, e7]
  simp only [kC_ret, Option.toList, List.cons_append, List.nil_append, fix1_int, fix1_ref, fix1_unk, fix1_null, fix1_long]
  rw [Law_carries_560_1, e8]
  simp only [kC_ret, Option.toList, List.cons_append, List.nil_append, fix1_int, fix1_ref, fix1_unk, fix1_null, fix1_long]
  rw [Law_carries_567_1, e9]
  simp only [kC_ret, Option.toList, List.cons_append, List.nil_append, fix1_int, fix1_ref, fix1_unk, fix1_null, fix1_long]
  rw [Law_carries_574_1, ea]
  simp only [kC_ret, Option.toList, List.cons_append, List.nil_append, fix1_int, fix1_ref, fix1_unk, fix1_null, fix1_long]
  rw [Law_carries_581, if_neg n0, Law_carries_587 _ _ _ _ _ _ _ _ _ _ _ _ _ _ t0, eb]
  simp only [kC_ret, Option.toList, List.cons_append, List.nil_append, fix1_int, fix1_ref, fix1_unk, fix1_null, fix1_long]
  rw [Law_carries_591, if_neg (by decide), Law_carries_596_1, ec']
  simp only [kC_ret, Option.toList, List.cons_append, List.nil_append, fix1_int, fix1_ref, fix1_unk, fix1_null, fix1_long]
  rw [Law_carries_602, if_neg (by simp), Law_carries_607 _ _ _ _ _ _ _ _ _ _ _ _ _ _ t0, ed]
  simp only [kC_ret, Option.toList, List.cons_append, List.nil_append, fix1_int, fix1_ref, fix1_unk, fix1_null, fix1_long]
  rw [Law_carries_611, if_neg (by decide), Law_carries_616 _ _ _ _ _ _ _ _ _ _ _ _ _ _ t0, ee']
  simp only [kC_ret, Option.toList, List.cons_append, List.nil_append, fix1_int, fix1_ref, fix1_unk, fix1_null, fix1_long]
  rw [Law_carries_620, if_neg (by simp), Law_carries_625, Law_carries_630 _ _ _ _ _ _ _ _ _ _ _ _ _ _ _ b11]
theorem lc_ok {k c a v len : Nat} {tx : Nat → Nat} (h : WI B w I L P N st Ks len tx T) (hT : T < 2145000000) (hk1 : N 1 = nI k) (hk3 : k ≤ 3) (hc : c < 3) (ha : a < 128) (hv : v < 256) : AR B 0 (T + 8000) w I L P (call 143 [.ref B, .int (nI c), .int (nI a), .int (nI v)] w I L P) (nI 1) := by
  obtain ⟨J1, K1, Q1, st1, Ks1, x4, e1, w1, f1⟩ := lc_1 h (by omega) hk1 hk3 hc ha hv
  obtain ⟨J2, K2, Q2, M, s, Ks2, y6, y7, y9, e2, w2, hN, f2⟩ := lc_2 w1 (by omega) hk1 hk3 hc ha hv x4
  obtain ⟨J3, K3, Q3, e3, w3, f3⟩ := lc_3 w2 hN (by omega) hk1 hk3 hc ha hv (.int (nI 18)) y6 y7 y9
  obtain ⟨J4, K4, Q4, e4, w4, f4⟩ := lc_4 w3 (by omega) hk1 hk3 (.int (nI c)) (.int (nI a)) (.int (nI v)) (.int (nI 18)) y6 y7 (.int (nI (qz N))) y9
  refine ⟨w, J4, K4, Q4, N, s, Ks2, _, _, ?_, w4, RS_fr (Fr_trans (Fr_trans (Fr_trans f1 f2) f3) f4)⟩
  rw [e1, e2, e3, e4]
end
