/-! a new object -/
theorem BT_T {T T' : Nat → Option (Nat × Nat)} {b : Nat} (h : BT (T, some 0, 0, 0) b) (e : ∀ x, b ≤ x → x < b + 40 → T' x = T x) : BT (T', some 0, 0, 0) b := by
  obtain ⟨h0, h1, h2, h3, ⟨h4, h5, h6⟩, hc, hl⟩ := h
  refine ⟨(e b (by omega) (by omega)).trans h0, (e (b + 1) (by omega) (by omega)).trans h1, (e (b + 2) (by omega) (by omega)).trans h2, (e (b + 3) (by omega) (by omega)).trans h3, ⟨(e (b + 4) (by omega) (by omega)).trans h4, (e (b + 5) (by omega) (by omega)).trans h5, (e (b + 6) (by omega) (by omega)).trans h6⟩, ?_, ?_⟩
  · intro c hc3
    obtain ⟨c0, c1, c2, cm⟩ := hc c hc3
    exact ⟨(e _ (by omega) (by omega)).trans c0, (e _ (by omega) (by omega)).trans c1, (e _ (by omega) (by omega)).trans c2, fun i hi => (e _ (by omega) (by omega)).trans (cm i hi)⟩
  · intro l hl6
    obtain ⟨c0, c1⟩ := hl l hl6
    exact ⟨(e _ (by omega) (by omega)).trans c0, (e _ (by omega) (by omega)).trans c1⟩
/-- a bus, laid and filled -/
theorem nb_new {q : Nat} (T : Nat → Option (Nat × Nat)) (kc ks : Nat) (I : MI) (L : ML) (P : MP) : ∃ T' I' L' P', call 27 [.ref q] (tagU T q 0 0, some (q + 1), kc + 1, ks + 14) (rowI I q) (rowL L q) (rowP P q) = some (.inl none, (T', some (q + 40), kc + 40, ks + 464), I', L', P') ∧ (∀ x, (x < q ∨ q + 40 ≤ x) → T' x = T x ∧ I' x = I x ∧ L' x = L x ∧ P' x = P x) ∧ BT (T', some 0, 0, 0) q ∧ BR q (frN 2) I' L' P' 0 := by
  obtain ⟨T', I', L', P', g1, g2, g3, g4⟩ := bus_new (b := q) (tagU T q 0 0) (kc + 1) (ks + 14) (rowI I q) (rowL L q) (rowP P q) tg_e
  refine ⟨T', I', L', P', g1, ?_, g3, g4⟩
  intro x hx
  obtain ⟨z1, z2, z3, z4⟩ := g2 x hx
  exact ⟨by rw [z1, tg_n (by omega)], by rw [z2, rI_o (by omega)], by rw [z3, rL_o (by omega)], by rw [z4, rP_o (by omega)]⟩
theorem bs_loop {B : Nat} : ∀ f i, i + f = 4 → ∀ (T : Nat → Option (Nat × Nat)) (kc ks : Nat) (I : MI) (L : ML) (P : MP), T B = some (6, 0) → T (B + 121) = some (10, 4) → P B 3 = some (B + 121) → ∃ T' I' L' P', go 79 63 [.ref B, .int (nI i)] [] (T, some (B + 124 + 40 * i), kc, ks) I L P = some (.inl none, (T', some (B + 284), kc + 40 * f, ks + 464 * f), I', L', P') ∧ (∀ x, (x < B + 124 + 40 * i ∨ B + 284 ≤ x) → T' x = T x ∧ I' x = I x ∧ L' x = L x ∧ (x ≠ B + 121 → P' x = P x)) ∧ (∀ j, i ≤ j → j < 4 → BT (T', some 0, 0, 0) (B + 124 + 40 * j) ∧ BS (B + 124 + 40 * j) P' ∧ P' (B + 121) j = some (B + 124 + 40 * j)) ∧ ∀ j, j < i → P' (B + 121) j = P (B + 121) j := by
  intro f
  induction f with
  | zero =>
    intro i hi T kc ks I L P tb t1 p0
    have : i = 4 := by omega
    subst this
    refine ⟨T, I, L, P, ?_, fun x _ => ⟨rfl, rfl, rfl, fun _ => rfl⟩, fun j h1 h2 => by omega, fun _ _ => rfl⟩
    rw [Two_init_63 _ _ _ _ _ _ tb, p0, rf_some, Two_init_68 _ _ _ _ _ _ _ _ (isAr_of t1), alen_of t1, if_pos (nI_le (by omega) (by omega)), Two_init_91]
    rfl
  | succ f ih =>
    intro i hi T kc ks I L P tb t1 p0
    obtain ⟨T1, I1, L1, P1, a1, a2, a3, a4⟩ := nb_new (q := B + 124 + 40 * i) T kc ks I L P
    have t1' : T1 (B + 121) = some (10, 4) := by rw [(a2 (B + 121) (by omega)).1]; exact t1
    have e : go 79 63 [.ref B, .int (nI i)] [] (T, some (B + 124 + 40 * i), kc, ks) I L P = go 79 63 [.ref B, .int (nI (i + 1))] [] (T1, some (B + 124 + 40 * (i + 1)), kc + 40, ks + 464) I1 L1 (updP P1 (B + 121) i (some (B + 124 + 40 * i))) := by
      rw [Two_init_63 _ _ _ _ _ _ tb, p0, rf_some, Two_init_68 _ _ _ _ _ _ _ _ (isAr_of t1), alen_of t1, if_neg (nI_ge (by omega) (by omega)), Two_init_72 _ _ _ _ _ _ tb, p0, rf_some, Two_init_76, a1]
      simp only [kC_ret, Option.toList, List.cons_append, List.nil_append, fix1_int, fix1_ref, fix1_unk, fix1_null, fix1_long]
      rw [Two_init_84 _ _ _ _ _ _ _ _ _ (inA_nI (k := i) (show T1 (B + 121) = some (10, 4) from t1') (by omega) (by omega)) (show T1 (B + 124 + 40 * i) = some (0, 0) from a3.1), fix1_ref, nI_add, cl_nI (by omega), show B + 124 + 40 * i + 40 = B + 124 + 40 * (i + 1) from by omega]
    obtain ⟨T', I', L', P', g1, g2, g3, g4⟩ := ih (i + 1) (by omega) T1 (kc + 40) (ks + 464) I1 L1 (updP P1 (B + 121) i (some (B + 124 + 40 * i))) (by rw [(a2 B (by omega)).1]; exact tb) t1' (by rw [uP_o (by omega), (a2 B (by omega)).2.2.2]; exact p0)
    refine ⟨T', I', L', P', ?_, ?_, ?_, ?_⟩
    · rw [e]
      refine g1.trans ?_
      rw [show kc + 40 + 40 * f = kc + 40 * (f + 1) from by omega, show ks + 464 + 464 * f = ks + 464 * (f + 1) from by omega]
    · intro x hx
      obtain ⟨z1, z2, z3, z4⟩ := g2 x (by omega)
      obtain ⟨y1, y2, y3, y4⟩ := a2 x (by omega)
      exact ⟨z1.trans y1, z2.trans y2, z3.trans y3, fun h => by rw [z4 h, uP_o h, y4]⟩
    · intro j h1 h2
      by_cases z : j = i
      · subst z
        refine ⟨BT_T a3 (fun x x1 x2 => (g2 x (by omega)).1), BS_fr (BR_BS a4) (fun x x1 x2 => ?_), ?_⟩
        · rw [(g2 x (by omega)).2.2.2 (by omega), uP_o (by omega)]
        · rw [g4 j (by omega), uP_e]
      · exact g3 j (by omega) h2
    · intro j hj
      rw [g4 j (by omega), uP_n (by omega), (a2 (B + 121) (by omega)).2.2.2]
theorem two_new {B : Nat} (T : Nat → Option (Nat × Nat)) (kc ks : Nat) (I : MI) (L : ML) (P : MP) (tb : T B = some (6, 0)) : ∃ T' I' L' P', call 79 [.ref B] (T, some (B + 1), kc, ks) I L P = some (.inl none, (T', some (B + 284), kc + 283, ks + 3362), I', L', P') ∧ (∀ x, (x < B ∨ B + 284 ≤ x) → T' x = T x ∧ I' x = I x ∧ L' x = L x ∧ P' x = P x) ∧ ∀ (w : Wd) (Ks : Nat → Nat → Int32) (tx : Nat → Nat), w.1 = T' → CW B w I' L' P' (frN 2) 0 Ks 0 tx 0 := by
  obtain ⟨T1, I1, L1, P1, a1, a2, a3, a4⟩ := nb_new (q := B + 1) T kc ks I L P
  have tb1 : T1 B = some (6, 0) := by rw [(a2 B (by omega)).1]; exact tb
  obtain ⟨T2, I2, L2, P2, b1, b2, b3, b4⟩ := nb_new (q := B + 41) T1 (kc + 40) (ks + 464) I1 L1 (updP P1 B 0 (some (B + 1)))
  have tb2 : T2 B = some (6, 0) := by rw [(b2 B (by omega)).1]; exact tb1
  obtain ⟨T3, I3, L3, P3, c1, c2, c3, c4⟩ := nb_new (q := B + 81) T2 (kc + 80) (ks + 928) I2 L2 (updP P2 B 1 (some (B + 41)))
  have tb3 : T3 B = some (6, 0) := by rw [(c2 B (by omega)).1]; exact tb2
  have t121 : tagU T3 (B + 121) 10 (Int32.toNatClampNeg (nI 4)) B = some (6, 0) := by rw [tg_n (by omega)]; exact tb3
  have t122 : tagU (tagU (tagU T3 (B + 121) 10 (Int32.toNatClampNeg (nI 4))) (B + 122) 4 0) (B + 123) 8 (Int32.toNatClampNeg (nI 100)) (B + 122) = some (4, 0) := by rw [tg_n (by omega), tg_e]
  -- the memory behind the text
  have h4 : ∃ T4 I4 L4 P4, T4 = tagU (tagU (tagU T3 (B + 121) 10 4) (B + 122) 4 0) (B + 123) 8 100 ∧ I4 = updI (updI (updI (updI (updI (updI (updI (updI (rowI (rowI (updI I3 B 4 (nI 0)) (B + 122)) (B + 123)) (B + 122) 1 (nI 0)) (B + 122) 2 (nI 0)) (B + 122) 3 (-1)) (B + 122) 4 (nI 0)) (B + 122) 5 (nI 0)) (B + 122) 6 (nI 0)) (B + 122) 7 (nI 0)) (B + 122) 8 (nI 0) ∧ L4 = updL (rowL L3 (B + 122)) (B + 122) 9 0 ∧ P4 = updP (updP (rowP (updP (rowP (updP P3 B 2 (some (B + 81))) (B + 121)) B 3 (some (B + 121))) (B + 122)) (B + 122) 0 (some (B + 123))) B 5 (some (B + 122)) := ⟨_, _, _, _, rfl, rfl, rfl, rfl⟩
  obtain ⟨T4, I4, L4, P4, eT, eI, eL, eP⟩ := h4
  have tb4 : T4 B = some (6, 0) := by rw [eT, tg_n (by omega), tg_n (by omega), tg_n (by omega)]; exact tb3
  obtain ⟨T5, I5, L5, P5, d1, d2, d3, -⟩ := bs_loop (B := B) 4 0 (by omega) T4 (kc + 123) (ks + 1506) I4 L4 P4 tb4 (by rw [eT, tg_n (by omega), tg_n (by omega), tg_e]) (by rw [eP, uP_n (by omega), uP_o (by omega), rP_o (by omega), uP_e])
  have f4 : ∀ x, x < B + 121 ∨ B + 124 ≤ x → T4 x = T3 x ∧ (x ≠ B → I4 x = I3 x ∧ P4 x = P3 x) ∧ L4 x = L3 x := by
    intro x hx
    refine ⟨by rw [eT, tg_n (by omega), tg_n (by omega), tg_n (by omega)], fun h => ⟨?_, ?_⟩, by rw [eL, updL_o (by omega), rL_o (by omega)]⟩
    · rw [eI, uI_o (by omega), uI_o (by omega), uI_o (by omega), uI_o (by omega), uI_o (by omega), uI_o (by omega), uI_o (by omega), uI_o (by omega), rI_o (by omega), rI_o (by omega), uI_o h]
    · rw [eP, uP_o h, uP_o (by omega), rP_o (by omega), uP_o h, rP_o (by omega), uP_o h]
  refine ⟨T5, I5, L5, P5, ?_, ?_, ?_⟩
  · have e58 : call 79 [.ref B] (T, some (B + 1), kc, ks) I L P = go 79 63 [.ref B, .int (nI 0)] [] (T4, some (B + 124), kc + 123, ks + 1506) I4 L4 P4 := by
      rw [Two_init_E, Two_init_0, a1]
      simp only [kC_ret, Option.toList, List.cons_append, List.nil_append, fix1_int, fix1_ref, fix1_unk, fix1_null, fix1_long]
      rw [show B + 1 + 40 = B + 41 from rfl, Two_init_12_1 _ _ _ _ _ _ _ _ _ _ _ tb1, b1]
      simp only [kC_ret, Option.toList, List.cons_append, List.nil_append, fix1_int, fix1_ref, fix1_unk, fix1_null, fix1_long]
      rw [show B + 41 + 40 = B + 81 from rfl, show kc + 40 + 40 = kc + 80 from rfl, show ks + 464 + 464 = ks + 928 from rfl, Two_init_23_1 _ _ _ _ _ _ _ _ _ _ _ tb2, c1]
      simp only [kC_ret, Option.toList, List.cons_append, List.nil_append, fix1_int, fix1_ref, fix1_unk, fix1_null, fix1_long]
      rw [show B + 81 + 40 = B + 121 from rfl, Two_init_34 _ _ _ _ _ _ _ _ _ _ _ tb3 (ar_ok (by omega)) t121, Text_init_E, show B + 121 + 1 = B + 122 from rfl, show B + 122 + 1 = B + 123 from rfl, Text_init_0 _ _ _ _ _ _ _ _ (ar_ok (by omega)) t122]
      simp only [kC_ret, Option.toList, List.cons_append, List.nil_append, fix1_int, fix1_ref, fix1_unk, fix1_null, fix1_long]
      rw [Two_init_58 _ _ _ _ _ _ _ _ (by rw [cl_nI (by omega), cl_nI (by omega)]; rw [eT] at tb4; exact tb4), fix1_ref, cl_nI (by omega), cl_nI (by omega), eT, eI, eL, eP]
    rw [e58, show B + 124 = B + 124 + 40 * 0 from rfl, d1]
  · intro x hx
    obtain ⟨z1, z2, z3, z4⟩ := d2 x (by omega)
    obtain ⟨y1, y2, y3⟩ := f4 x (by omega)
    obtain ⟨x1, x2, x3, x4⟩ := c2 x (by omega)
    obtain ⟨w1, w2, w3, w4⟩ := b2 x (by omega)
    obtain ⟨v1, v2, v3, v4⟩ := a2 x (by omega)
    obtain ⟨y4, y5⟩ := y2 (by omega)
    exact ⟨by rw [z1, y1, x1, w1, v1], by rw [z2, y4, x2, w2, v2], by rw [z3, y3, x3, w3, v3], by rw [z4 (by omega), y5, x4, uP_o (by omega), w4, uP_o (by omega), v4]⟩
  · intro w Ks tx hw
    have bt : ∀ b, BT (T5, some 0, 0, 0) b → BT w b := fun b h => BT_w h hw
    -- below the saved buses
    have g3 : ∀ x, B + 1 ≤ x → x < B + 121 → T5 x = T3 x ∧ I5 x = I3 x ∧ L5 x = L3 x ∧ P5 x = P3 x := by
      intro x x1 x2
      obtain ⟨z1, z2, z3, z4⟩ := d2 x (by omega)
      obtain ⟨y1, y2, y3⟩ := f4 x (by omega)
      obtain ⟨y4, y5⟩ := y2 (by omega)
      exact ⟨z1.trans y1, z2.trans y4, z3.trans y3, (z4 (by omega)).trans y5⟩
    have g2 : ∀ x, B + 1 ≤ x → x < B + 81 → T5 x = T2 x ∧ I5 x = I2 x ∧ L5 x = L2 x ∧ P5 x = P2 x := by
      intro x x1 x2
      obtain ⟨z1, z2, z3, z4⟩ := g3 x (by omega) (by omega)
      obtain ⟨y1, y2, y3, y4⟩ := c2 x (by omega)
      exact ⟨z1.trans y1, z2.trans y2, z3.trans y3, by rw [z4, y4, uP_o (by omega)]⟩
    have g1 : ∀ x, B + 1 ≤ x → x < B + 41 → T5 x = T1 x ∧ I5 x = I1 x ∧ L5 x = L1 x ∧ P5 x = P1 x := by
      intro x x1 x2
      obtain ⟨z1, z2, z3, z4⟩ := g2 x (by omega) (by omega)
      obtain ⟨y1, y2, y3, y4⟩ := b2 x (by omega)
      exact ⟨z1.trans y1, z2.trans y2, z3.trans y3, by rw [z4, y4, uP_o (by omega)]⟩
    have r1 : BR (B + 1) (frN 2) I5 L5 P5 0 := BR_fr a4 (fun x x1 x2 => (g1 x x1 (by omega)).2)
    have r2 : BR (B + 41) (frN 2) I5 L5 P5 0 := BR_fr b4 (fun x x1 x2 => (g2 x (by omega) (by omega)).2)
    have r3 : BR (B + 81) (frN 2) I5 L5 P5 0 := BR_fr c4 (fun x x1 x2 => (g3 x (by omega) (by omega)).2)
    have s1 : BT (T5, some 0, 0, 0) (B + 1) := BT_T a3 (fun x x1 x2 => (g1 x x1 (by omega)).1)
    have s2 : BT (T5, some 0, 0, 0) (B + 41) := BT_T b3 (fun x x1 x2 => (g2 x (by omega) (by omega)).1)
    have s3 : BT (T5, some 0, 0, 0) (B + 81) := BT_T c3 (fun x x1 x2 => (g3 x (by omega) (by omega)).1)
    have pB : P5 B = P4 B := (d2 B (by omega)).2.2.2 (by omega)
    have pT : P5 (B + 122) = P4 (B + 122) := (d2 (B + 122) (by omega)).2.2.2 (by omega)
    refine ⟨⟨?_, ?_, ?_, ?_, ?_, ?_⟩, ⟨fun i => i, ⟨?_, ?_, ?_, ?_, ?_, ?_, ?_, ?_, ?_⟩, ?_, fun i hi => by omega⟩, by omega, ⟨0, by omega, r1⟩, BR_BS r2, r3, fun i hi => (d3 i (by omega) hi).2.1, by omega, ?_, fun j hj => by omega⟩
    · rw [hw, (d2 B (by omega)).1]; exact tb4
    · intro i hi
      rcases (show i = 0 ∨ i = 1 ∨ i = 2 by omega) with rfl | rfl | rfl
      · exact bt _ s1
      · exact bt _ s2
      · exact bt _ s3
    · intro i hi
      exact bt _ (d3 i (by omega) hi).1
    · rw [hw, (d2 (B + 121) (by omega)).1, eT, tg_n (by omega), tg_n (by omega), tg_e]
    · rw [hw, (d2 (B + 122) (by omega)).1, eT, tg_n (by omega), tg_e]
    · rw [hw, (d2 (B + 123) (by omega)).1, eT, tg_e]
    · rw [pB, eP, uP_n (by omega), uP_o (by omega), rP_o (by omega), uP_n (by omega), rP_o (by omega), uP_n (by omega), (c2 B (by omega)).2.2.2, uP_n (by omega), (b2 B (by omega)).2.2.2, uP_e]
    · rw [pB, eP, uP_n (by omega), uP_o (by omega), rP_o (by omega), uP_n (by omega), rP_o (by omega), uP_n (by omega), (c2 B (by omega)).2.2.2, uP_e]
    · rw [pB, eP, uP_n (by omega), uP_o (by omega), rP_o (by omega), uP_n (by omega), rP_o (by omega), uP_e]
    · rw [pB, eP, uP_n (by omega), uP_o (by omega), rP_o (by omega), uP_e]
    · rw [pB, eP, uP_e]
    · rw [pT, eP, uP_o (by omega), uP_e]
    · intro i hi; exact (d3 i (by omega) hi).2.2
    · intro i hi; exact hi
    · intro i j _ _ e; exact e
    · rw [(d2 B (by omega)).2.1, eI, uI_o (by omega), uI_o (by omega), uI_o (by omega), uI_o (by omega), uI_o (by omega), uI_o (by omega), uI_o (by omega), uI_o (by omega), rI_o (by omega), rI_o (by omega), uI_e]
    · rw [(d2 (B + 122) (by omega)).2.1, eI, uI_n (by omega), uI_n (by omega), uI_n (by omega), uI_n (by omega), uI_n (by omega), uI_n (by omega), uI_n (by omega), uI_e]
