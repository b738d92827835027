/-! finishes answers 1 -/
section
variable {B : Nat} {w : Wd} {I : MI} {L : ML} {P : MP} {N : Nat → Int32} {st : Nat} {Ks : Nat → Nat → Int32} {len : Nat} {tx : Nat → Nat} {T : Nat}
theorem i_abs (a b : Int32) : a + (b - a) = b := by rw [Int32.add_comm]; exact Int32.sub_add_cancel b a
theorem slots_1 (N : Nat → Int32) : slotsN N 1 = slotN N := rfl
theorem lf_loop {q s : Nat} (x1 x3 x4 x5 x7 x9 x10 x11 : Int32) (hs : s ≤ 200) (hq : q + s < 2147000000) (hg : GN N q) (hT : T < 2146000000) : ∀ g j, j + g = s → ∀ (I : MI) (L : ML) (P : MP) (st : Nat) (Ks : Nat → Nat → Int32), WI B w I L P (slotsN N j) st Ks len tx (T + 4000 * j) → ∃ J K Q st' Ks', go 141 223 [.ref B, .int x1, .int (nI s), .int x3, .int x4, .int x5, .int (nI q), .int x7, .int (nI 1), .int x9, .int x10, .int x11, .int (nI j)] [] w I L P = go 141 262 [.ref B, .int x1, .int (nI s), .int x3, .int x4, .int x5, .int (nI q), .int x7, .int (nI 1), .int x9, .int x10, .int x11, .int (nI s)] [] w J K Q ∧ WI B w J K Q (slotsN N s) st' Ks' len tx (T + 4000 * s) ∧ Fr B (B + 284) I J L K P Q := by
  intro g
  induction g with
  | zero =>
    intro j hj I L P st Ks h
    have : j = s := by omega
    subst this
    refine ⟨I, L, P, st, Ks, ?_, h, Fr_refl⟩
    rw [Law_finishes_223, if_pos (nI_le (Nat.le_refl _) (by omega))]
  | succ g ih =>
    intro j hj I L P st Ks h
    have n0 : ¬ nI 1 = 0 := by decide
    obtain ⟨J, K, Q, e, h1, f1⟩ := wi_pass h (by omega) (f := 1) (by omega) (by omega)
    have e0 : slotsN (slotsN N j) 1 0 = nI (q + j + 1) := (GN_ok (GN_slots hg (j + 1) (by omega))).2
    rw [e0] at e
    obtain ⟨J2, K2, Q2, st2, Ks2, e2, h2, f2⟩ := ih (j + 1) (by omega) J K Q _ _ (WI_T h1 (by omega))
    refine ⟨J2, K2, Q2, st2, Ks2, ?_, h2, Fr_trans f1 f2⟩
    rw [Law_finishes_223, if_neg (nI_ge (by omega) (by omega)), Law_finishes_229, if_neg n0, Law_finishes_234_1, e]
    simp only [kC_ret, Option.toList, List.cons_append, List.nil_append, fix1_int, fix1_ref, fix1_unk, fix1_null, fix1_long]
    rw [Law_finishes_239, if_neg (by rw [nI_add, nI_add]; simp), Law_finishes_249, Law_finishes_254]
    simp only [fix1_int, fix1_ref, fix1_unk, fix1_null, fix1_long]
    rw [nI_add]
    exact e2
theorem lf_ok {c k s : Nat} (h : WI B w I L P N st Ks len tx T) (hT : T < 2145000000) (hk1 : N 1 = nI k) (hk3 : k ≤ 3) (hck : c < k) (hs1 : 1 ≤ s) (hs2 : s ≤ 30) : ∃ J K Q st' Ks', call 141 [.ref B, .int (nI c), .int (nI s)] w I L P = some (.inl (some (.int (nI 1))), w, J, K, Q) ∧ WI B w J K Q (slotsN N s) st' Ks' len tx (T + 140000) ∧ Fr B (B + 284) I J L K P Q := by
  have hc3 : c < 3 := by omega
  obtain ⟨q, k', n, hk⟩ := CW_KN h.1 (by omega)
  have hk' := hk
  obtain ⟨hq, h0, hk0, hk3', h1, hn, h2, hi, hol, h4, hmb, h12, hg⟩ := hk'
  have ek : k' = k := by
    rw [h1, nI_eq (by omega) (by omega)] at hk1
    exact hk1
  subst ek
  obtain ⟨f, hf⟩ := FN_ex hg (by omega)
  have hf1 := hf.1
  have t0 := WI_t0 h
  -- the calls, one behind the other
  obtain ⟨J1, K1, Q1, e1, w1, f1⟩ := wi_stf h (by omega) hf
  obtain ⟨J2, K2, Q2, e2, w2, f2⟩ := wi_delivers w1 (by omega) hk1 hk3 hck hf
  have e3 := lr_caller t0 (cv_caller w2.1 hk1 hk3 hck (show 1 < 9 by omega))
  have v2 := fun (v : Nat) (hv : v < 10) => lr_value t0 (cv_value w2.1 (by omega) hv)
  have e5 := lq_queued w2.1 (by omega) hk
  obtain ⟨J3, K3, Q3, e6, w3, f3⟩ := wi_finish w2 (by omega) hf
  obtain ⟨q3, k3, n3, kn3⟩ := CW_KN w3.1 (by omega)
  have g3 := GN_slots hg f (by omega)
  have N1 : slotsN N f 1 = nI k' := by rw [GN_1s hg f (by omega)]; exact h1
  have v3 := fun (v : Nat) (hv : v < 10) => lr_value t0 (cv_value w3.1 (by omega) hv)
  have e8 := lq_queued w3.1 (by omega) kn3
  have e9 := lr_caller t0 (cv_caller w3.1 N1 hk3 hck (show 1 < 9 by omega))
  obtain ⟨J4, K4, Q4, e10, w4, f4⟩ := wi_stf w3 (by omega) (FN_0 hf.2.1)
  obtain ⟨s1, es1⟩ := svS_1 st
  obtain ⟨J5, K5, Q5, e11, w5, f5⟩ := wi_undo w4 es1 (svK_1 es1)
  have v5 := fun (v : Nat) (hv : v < 10) => lr_value t0 (cv_value w5.1 (by omega) hv)
  have hk5 : KN N (T + 4000) q k' n := ⟨by omega, hk.2⟩
  have e13 := lq_queued w5.1 (by omega) hk5
  obtain ⟨J6, K6, Q6, e14, w6, f6⟩ := wi_pass w5 (by omega) hs1 (show s ≤ 200 by omega)
  have v6 := fun (v : Nat) (hv : v < 10) => lr_value t0 (cv_value w6.1 (by omega) hv)
  have g6 := GN_slots hg s (by omega)
  obtain ⟨s2, es2⟩ := svS_1 s1
  obtain ⟨J7, K7, Q7, e15, w7, f7⟩ := wi_undo w6 es2 (svK_1 es2)
  obtain ⟨J8, K8, Q8, st8, Ks8, e16, w8, f8⟩ := lf_loop (nI c) (nI f) (slotsN N f (207 + 40 * c + 1) - N (207 + 40 * c + 1)) (calV N c 1) (nI (qz N)) (numV (slotsN N s) 9) (numV (slotsN N s) 5) (numV (slotsN N s) 6) (show s ≤ 200 by omega) (by omega) hg (show T + 4000 + 4000 < 2146000000 by omega) s 0 (by omega) J7 K7 Q7 _ _ (show WI B w J7 K7 Q7 (slotsN N 0) _ _ len tx (T + 4000 + 4000 + 4000 * 0) from w7)
  obtain ⟨J9, K9, Q9, e18, w9, f9⟩ := wi_stf w8 (by omega) (FN_after hg (by omega) hf)
  have v8 := fun (v : Nat) (hv : v < 10) => lr_value t0 (cv_value w8.1 (by omega) hv)
  refine ⟨J9, K9, Q9, st8, Ks8, ?_, WI_T w9 (by omega), Fr_trans (Fr_trans (Fr_trans (Fr_trans (Fr_trans (Fr_trans (Fr_trans (Fr_trans f1 f2) f3) f4) f5) f6) f7) f8) f9⟩
  have hb1 := WI_st w4
  have hb2 := WI_st w6
  have n0 : ¬ nI 1 = 0 := by decide
  have u0 : numV N 0 = nI q := h0
  have u3 : numV (slotsN N f) 0 = nI (q + f) := (GN_ok g3).2
  have u34 : numV (slotsN N f) 4 = nI 1 := by
    show (if slotsN N f 4 = 0 then nI 1 else nI 0) = _
    rw [if_pos hf.2.1.1]
  have z3 : qz (slotsN N f) = 0 := by
    obtain ⟨-, -, -, -, -, -, -, hi3, -⟩ := kn3
    exact ((qz_done hi3.1).mp hf.2.1).2
  rw [z3] at e8
  have u6 : slotsN N s 0 = nI (q + s) := (GN_ok g6).2
  have c1 : calV (slotsN N f) c 1 = calV N c 1 + (slotsN N f (207 + 40 * c + 1) - N (207 + 40 * c + 1)) := by
    unfold calV
    rw [if_pos (by omega), if_pos (by omega), i_abs]
  have dn := qz_done (N := N) hi.1
  have zq : qz N < 100 := by
    obtain ⟨-, z0, z1, z2, -⟩ := OC_sum hi.1
    unfold qz; omega
  obtain ⟨bt, ebt⟩ : ∃ bt, bt = if f = 0 then nI 1 else nI 0 := ⟨_, rfl⟩
  have a1 : call 141 [.ref B, .int (nI c), .int (nI s)] w I L P = go 141 42 [.ref B, .int (nI c), .int (nI s), .int (nI f), .int (slotsN N f (207 + 40 * c + 1) - N (207 + 40 * c + 1)), .int (calV N c 1), .int (nI q), .int (nI (qz N)), unk, unk, unk, unk, unk] [.int bt] w J2 K2 Q2 := by
    rw [ebt]
    by_cases z : f = 0
    · rw [if_pos z]
      rw [Law_finishes_E, Law_finishes_0 _ _ _ _ _ _ _ _ _ _ _ _ _ _ _ _ _ t0, e1]
      simp only [kC_ret, Option.toList, List.cons_append, List.nil_append, fix1_int, fix1_ref, fix1_unk, fix1_null, fix1_long]
      rw [Law_finishes_4_1, e2]
      simp only [kC_ret, Option.toList, List.cons_append, List.nil_append, fix1_int, fix1_ref, fix1_unk, fix1_null, fix1_long]
      rw [Law_finishes_10_1, e3]
      simp only [kC_ret, Option.toList, List.cons_append, List.nil_append, fix1_int, fix1_ref, fix1_unk, fix1_null, fix1_long]
      rw [Law_finishes_18_1, (v2 0 (by omega)), u0]
      simp only [kC_ret, Option.toList, List.cons_append, List.nil_append, fix1_int, fix1_ref, fix1_unk, fix1_null, fix1_long]
      rw [Law_finishes_25_1, e5]
      simp only [kC_ret, Option.toList, List.cons_append, List.nil_append, fix1_int, fix1_ref, fix1_unk, fix1_null, fix1_long]
      rw [Law_finishes_31, if_neg (by rw [z]; decide)]
      simp only [fix1_int, fix1_ref, fix1_unk, fix1_null, fix1_long]
      rw [Law_finishes_37]
    · rw [if_neg z]
      rw [Law_finishes_E, Law_finishes_0 _ _ _ _ _ _ _ _ _ _ _ _ _ _ _ _ _ t0, e1]
      simp only [kC_ret, Option.toList, List.cons_append, List.nil_append, fix1_int, fix1_ref, fix1_unk, fix1_null, fix1_long]
      rw [Law_finishes_4_1, e2]
      simp only [kC_ret, Option.toList, List.cons_append, List.nil_append, fix1_int, fix1_ref, fix1_unk, fix1_null, fix1_long]
      rw [Law_finishes_10_1, e3]
      simp only [kC_ret, Option.toList, List.cons_append, List.nil_append, fix1_int, fix1_ref, fix1_unk, fix1_null, fix1_long]
      rw [Law_finishes_18_1, (v2 0 (by omega)), u0]
      simp only [kC_ret, Option.toList, List.cons_append, List.nil_append, fix1_int, fix1_ref, fix1_unk, fix1_null, fix1_long]
      rw [Law_finishes_25_1, e5]
      simp only [kC_ret, Option.toList, List.cons_append, List.nil_append, fix1_int, fix1_ref, fix1_unk, fix1_null, fix1_long]
      rw [Law_finishes_31, if_pos (nI_ne0 (by omega) (by omega))]
      simp only [fix1_int, fix1_ref, fix1_unk, fix1_null, fix1_long]
      rw [Law_finishes_41]
  have a2 : go 141 42 [.ref B, .int (nI c), .int (nI s), .int (nI f), .int (slotsN N f (207 + 40 * c + 1) - N (207 + 40 * c + 1)), .int (calV N c 1), .int (nI q), .int (nI (qz N)), unk, unk, unk, unk, unk] [.int bt] w J2 K2 Q2 = go 141 64 [.ref B, .int (nI c), .int (nI s), .int (nI f), .int (slotsN N f (207 + 40 * c + 1) - N (207 + 40 * c + 1)), .int (calV N c 1), .int (nI q), .int (nI (qz N)), unk, unk, unk, unk, unk] [] w J2 K2 Q2 := by
    rw [ebt]
    by_cases z : f = 0
    · subst z
      obtain ⟨d4, dz⟩ := dn.mp hf.2.1
      have u4 : numV N 4 = nI 1 := by
        show (if N 4 = 0 then nI 1 else nI 0) = _
        rw [if_pos d4]
      rw [dz, if_pos rfl]
      rw [Law_finishes_42_1, (v2 4 (by omega)), u4]
      simp only [kC_ret, Option.toList, List.cons_append, List.nil_append, fix1_int, fix1_ref, fix1_unk, fix1_null, fix1_long]
      rw [Law_finishes_47, if_neg (by simp), Law_finishes_51, if_neg (by decide), Law_finishes_56, Law_finishes_61, if_neg (by simp)]
    · rw [if_neg z]
      have nd : ¬ doneN N := hf.2.2 0 (by omega)
      by_cases y : N 4 = 0
      · have u4 : numV N 4 = nI 1 := by
          show (if N 4 = 0 then nI 1 else nI 0) = _
          rw [if_pos y]
        have yz : qz N ≠ 0 := fun g => nd (dn.mpr ⟨y, g⟩)
        rw [Law_finishes_42_1, (v2 4 (by omega)), u4]
        simp only [kC_ret, Option.toList, List.cons_append, List.nil_append, fix1_int, fix1_ref, fix1_unk, fix1_null, fix1_long]
        rw [Law_finishes_47, if_neg (by simp), Law_finishes_51, if_pos (nI_ne0 (by omega) (by omega)), Law_finishes_60, Law_finishes_61, if_neg (by simp)]
      · have u4 : numV N 4 = nI 0 := by
          show (if N 4 = 0 then nI 1 else nI 0) = _
          rw [if_neg y]
        rw [Law_finishes_42_1, (v2 4 (by omega)), u4]
        simp only [kC_ret, Option.toList, List.cons_append, List.nil_append, fix1_int, fix1_ref, fix1_unk, fix1_null, fix1_long]
        rw [Law_finishes_47, if_pos (by decide), Law_finishes_60, Law_finishes_61, if_neg (by simp)]
  rw [a1, a2]
  have a3 : go 141 64 [.ref B, .int (nI c), .int (nI s), .int (nI f), .int (slotsN N f (207 + 40 * c + 1) - N (207 + 40 * c + 1)), .int (calV N c 1), .int (nI q), .int (nI (qz N)), unk, unk, unk, unk, unk] [] w J2 K2 Q2 = go 141 223 [.ref B, .int (nI c), .int (nI s), .int (nI f), .int (slotsN N f (207 + 40 * c + 1) - N (207 + 40 * c + 1)), .int (calV N c 1), .int (nI q), .int (nI (qz N)), .int (nI 1), .int (numV (slotsN N s) 9), .int (numV (slotsN N s) 5), .int (numV (slotsN N s) 6), .int (nI 0)] [] w J7 K7 Q7 := by
    rw [Law_finishes_64 _ _ _ _ _ _ _ _ _ _ _ _ _ _ _ _ _ t0, e6]
    simp only [kC_ret, Option.toList, List.cons_append, List.nil_append, fix1_int, fix1_ref, fix1_unk, fix1_null, fix1_long]
    rw [Law_finishes_68, if_neg (by simp), Law_finishes_72_1, (v3 0 (by omega)), u3]
    simp only [kC_ret, Option.toList, List.cons_append, List.nil_append, fix1_int, fix1_ref, fix1_unk, fix1_null, fix1_long]
    rw [Law_finishes_77, if_neg (by rw [nI_add]; simp), Law_finishes_84_1, (v3 4 (by omega)), u34]
    simp only [kC_ret, Option.toList, List.cons_append, List.nil_append, fix1_int, fix1_ref, fix1_unk, fix1_null, fix1_long]
    rw [Law_finishes_89, if_neg (by simp), Law_finishes_93_1, e8]
    simp only [kC_ret, Option.toList, List.cons_append, List.nil_append, fix1_int, fix1_ref, fix1_unk, fix1_null, fix1_long]
    rw [Law_finishes_97, if_neg (by decide), Law_finishes_100_1, e9]
    simp only [kC_ret, Option.toList, List.cons_append, List.nil_append, fix1_int, fix1_ref, fix1_unk, fix1_null, fix1_long]
    rw [Law_finishes_106, if_neg (by rw [c1]; simp), Law_finishes_114 _ _ _ _ _ _ _ _ _ _ _ _ _ _ _ _ _ t0, e10]
    simp only [kC_ret, Option.toList, List.cons_append, List.nil_append, fix1_int, fix1_ref, fix1_unk, fix1_null, fix1_long]
    rw [Law_finishes_118, if_neg (by decide), Law_finishes_121_1, e11]
    simp only [kC_ret, Option.toList, List.cons_append, List.nil_append, fix1_int, fix1_ref, fix1_unk, fix1_null, fix1_long]
    rw [Law_finishes_125, if_neg (nI_pos (by omega)), Law_finishes_128_1, (v5 0 (by omega)), u0]
    simp only [kC_ret, Option.toList, List.cons_append, List.nil_append, fix1_int, fix1_ref, fix1_unk, fix1_null, fix1_long]
    rw [Law_finishes_133, if_neg (by simp), Law_finishes_138_1, e13]
    simp only [kC_ret, Option.toList, List.cons_append, List.nil_append, fix1_int, fix1_ref, fix1_unk, fix1_null, fix1_long]
    rw [Law_finishes_142, if_neg (by simp), Law_finishes_147, Law_finishes_152, if_neg n0]
    simp only [fix1_int, fix1_ref, fix1_unk, fix1_null, fix1_long]
    rw [Law_finishes_159_1, e14]
    simp only [kC_ret, Option.toList, List.cons_append, List.nil_append, fix1_int, fix1_ref, fix1_unk, fix1_null, fix1_long]
    rw [Law_finishes_164, if_neg (by rw [u6, nI_add]; simp), Law_finishes_171, Law_finishes_176_1, (v6 9 (by omega))]
    simp only [kC_ret, Option.toList, List.cons_append, List.nil_append, fix1_int, fix1_ref, fix1_unk, fix1_null, fix1_long]
    rw [Law_finishes_184_1, (v6 5 (by omega))]
    simp only [kC_ret, Option.toList, List.cons_append, List.nil_append, fix1_int, fix1_ref, fix1_unk, fix1_null, fix1_long]
    rw [Law_finishes_191_1, (v6 6 (by omega))]
    simp only [kC_ret, Option.toList, List.cons_append, List.nil_append, fix1_int, fix1_ref, fix1_unk, fix1_null, fix1_long]
    rw [Law_finishes_199, if_neg n0]
    simp only [fix1_int, fix1_ref, fix1_unk, fix1_null, fix1_long]
    rw [Law_finishes_206_1, e15]
    simp only [kC_ret, Option.toList, List.cons_append, List.nil_append, fix1_int, fix1_ref, fix1_unk, fix1_null, fix1_long]
    rw [Law_finishes_210, if_neg (nI_pos (by omega)), Law_finishes_213, Law_finishes_218]
    simp only [fix1_int, fix1_ref, fix1_unk, fix1_null, fix1_long]
  rw [a3, e16]
  have a4 : go 141 262 [.ref B, .int (nI c), .int (nI s), .int (nI f), .int (slotsN N f (207 + 40 * c + 1) - N (207 + 40 * c + 1)), .int (calV N c 1), .int (nI q), .int (nI (qz N)), .int (nI 1), .int (numV (slotsN N s) 9), .int (numV (slotsN N s) 5), .int (numV (slotsN N s) 6), .int (nI s)] [] w J8 K8 Q8 = go 141 303 [.ref B, .int (nI c), .int (nI s), .int (nI f), .int (slotsN N f (207 + 40 * c + 1) - N (207 + 40 * c + 1)), .int (calV N c 1), .int (nI q), .int (nI (qz N)), .int (nI 1), .int (numV (slotsN N s) 9), .int (numV (slotsN N s) 5), .int (numV (slotsN N s) 6), .int (nI s)] [.int (nI (if s < f then f - s else 0))] w J9 K9 Q9 := by
    rw [Law_finishes_262, if_neg n0, Law_finishes_267_1, (v8 9 (by omega))]
    simp only [kC_ret, Option.toList, List.cons_append, List.nil_append, fix1_int, fix1_ref, fix1_unk, fix1_null, fix1_long]
    rw [Law_finishes_273, if_neg (by simp), Law_finishes_278_1, (v8 5 (by omega))]
    simp only [kC_ret, Option.toList, List.cons_append, List.nil_append, fix1_int, fix1_ref, fix1_unk, fix1_null, fix1_long]
    rw [Law_finishes_283, if_neg (by simp), Law_finishes_288_1, (v8 6 (by omega))]
    simp only [kC_ret, Option.toList, List.cons_append, List.nil_append, fix1_int, fix1_ref, fix1_unk, fix1_null, fix1_long]
    rw [Law_finishes_294, if_neg (by simp), Law_finishes_299 _ _ _ _ _ _ _ _ _ _ _ _ _ _ _ _ _ t0, e18]
    simp only [kC_ret, Option.toList, List.cons_append, List.nil_append, fix1_int, fix1_ref, fix1_unk, fix1_null, fix1_long]
  rw [a4]
  by_cases z : s < f
  · rw [if_pos z]
    rw [Law_finishes_303, if_neg (nI_ge z (by omega)), Law_finishes_308, Law_finishes_315, if_neg (by rw [pk_sub (by omega)]; simp), Law_finishes_318, Law_finishes_323 _ _ _ _ _ _ _ _ _ _ _ _ _ _ _ _ _ _ b11]
  · rw [if_neg z]
    rw [Law_finishes_303, if_pos (nI_le (by omega) (by omega)), Law_finishes_314, Law_finishes_315, if_neg (by simp), Law_finishes_318, Law_finishes_323 _ _ _ _ _ _ _ _ _ _ _ _ _ _ _ _ _ _ b11]
end
