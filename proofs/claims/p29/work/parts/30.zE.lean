/-! a new bus -/
def NC (T : Nat → Option (Nat × Nat)) (I : MI) (P : MP) (a : Nat) : Prop := CT (T, some 0, 0, 0) a ∧ CP P a (fun i => i) ∧ I a 1 = nI 0 ∧ I a 3 = nI 0 ∧ I a 4 = nI 0 ∧ I a 5 = -1 ∧ ∀ k, I (a + 2) k = nI 0
def NL (T : Nat → Option (Nat × Nat)) (I : MI) (P : MP) (a : Nat) : Prop := T a = some (2, 0) ∧ T (a + 1) = some (8, 16) ∧ P a 4 = some (a + 1) ∧ I a 2 = nI 1 ∧ I a 3 = nI 0 ∧ I a 5 = nI 0 ∧ I a 6 = nI 0
theorem NC_fr {T T' : Nat → Option (Nat × Nat)} {I I' : MI} {P P' : MP} {a : Nat} (h : NC T I P a) (e : ∀ x, a ≤ x → x < a + 7 → T' x = T x ∧ I' x = I x ∧ P' x = P x) : NC T' I' P' a := by
  obtain ⟨⟨c1, c2, c3, c4⟩, ⟨p1, p2, p3, p4, p5⟩, i1, i3, i4, i5, i6⟩ := h
  refine ⟨⟨?_, ?_, ?_, ?_⟩, ⟨?_, ?_, ?_, p4, p5⟩, ?_, ?_, ?_, ?_, ?_⟩
  · exact (e a (by omega) (by omega)).1.trans c1
  · exact (e (a + 1) (by omega) (by omega)).1.trans c2
  · exact (e (a + 2) (by omega) (by omega)).1.trans c3
  · intro i hi; exact (e (a + 3 + i) (by omega) (by omega)).1.trans (c4 i hi)
  · rw [(e a (by omega) (by omega)).2.2]; exact p1
  · rw [(e a (by omega) (by omega)).2.2]; exact p2
  · intro i hi; rw [(e (a + 1) (by omega) (by omega)).2.2]; exact p3 i hi
  · rw [(e a (by omega) (by omega)).2.1]; exact i1
  · rw [(e a (by omega) (by omega)).2.1]; exact i3
  · rw [(e a (by omega) (by omega)).2.1]; exact i4
  · rw [(e a (by omega) (by omega)).2.1]; exact i5
  · intro k; rw [(e (a + 2) (by omega) (by omega)).2.1]; exact i6 k
theorem NL_fr {T T' : Nat → Option (Nat × Nat)} {I I' : MI} {P P' : MP} {a : Nat} (h : NL T I P a) (e : ∀ x, a ≤ x → x < a + 2 → T' x = T x ∧ I' x = I x ∧ P' x = P x) : NL T' I' P' a := by
  obtain ⟨c1, c2, p, i1, i3, i4, i5⟩ := h
  obtain ⟨e1, e2, e3⟩ := e a (by omega) (by omega)
  exact ⟨e1.trans c1, (e (a + 1) (by omega) (by omega)).1.trans c2, by rw [e3]; exact p, by rw [e2]; exact i1, by rw [e2]; exact i3, by rw [e2]; exact i4, by rw [e2]; exact i5⟩
theorem bc_loop {b : Nat} : ∀ f c, c + f = 3 → ∀ (T : Nat → Option (Nat × Nat)) (kc ks : Nat) (I : MI) (L : ML) (P : MP), T b = some (0, 0) → T (b + 1) = some (11, 3) → P b 0 = some (b + 1) → ∃ T' I' L' P', go 27 89 [.ref b, .int (nI c)] [] (T, some (b + 7 + 7 * c), kc, ks) I L P = go 27 117 [.ref b, .int (nI 3)] [] (T', some (b + 28), kc + 7 * f, ks + 35 * f) I' L' P' ∧ (∀ x, (x < b + 7 + 7 * c ∨ b + 28 ≤ x) → T' x = T x ∧ I' x = I x ∧ L' x = L x ∧ (x ≠ b + 1 → P' x = P x)) ∧ (∀ j, c ≤ j → j < 3 → NC T' I' P' (b + 7 + 7 * j) ∧ P' (b + 1) j = some (b + 7 + 7 * j)) ∧ ∀ j, j < c → P' (b + 1) j = P (b + 1) j := by
  intro f
  induction f with
  | zero =>
    intro c hc T kc ks I L P tb t1 p0
    have : c = 3 := by omega
    subst this
    refine ⟨T, I, L, P, ?_, fun x _ => ⟨rfl, rfl, rfl, fun _ => rfl⟩, fun j h1 h2 => by omega, fun _ _ => rfl⟩
    rw [Bus_init_89 _ _ _ _ _ _ tb, p0, rf_some, Bus_init_94 _ _ _ _ _ _ _ _ (isAr_of t1), alen_of t1, if_pos (nI_le (by omega) (by omega))]
    rfl
  | succ f ih =>
    intro c hc T kc ks I L P tb t1 p0
    obtain ⟨T1, I1, L1, P1, a1, a2, a3⟩ := ci_new (a := b + 7 + 7 * c) (tagU T (b + 7 + 7 * c) 1 0) (kc + 1) (ks + 6) (rowI I (b + 7 + 7 * c)) (rowL L (b + 7 + 7 * c)) (rowP P (b + 7 + 7 * c)) tg_e
    have t1' : T1 (b + 1) = some (11, 3) := by rw [(a2 (b + 1) (by omega)).1, tg_n (by omega)]; exact t1
    have e : go 27 89 [.ref b, .int (nI c)] [] (T, some (b + 7 + 7 * c), kc, ks) I L P = go 27 89 [.ref b, .int (nI (c + 1))] [] (T1, some (b + 7 + 7 * (c + 1)), kc + 7, ks + 35) I1 L1 (updP P1 (b + 1) c (some (b + 7 + 7 * c))) := by
      rw [Bus_init_89 _ _ _ _ _ _ tb, p0, rf_some, Bus_init_94 _ _ _ _ _ _ _ _ (isAr_of t1), alen_of t1, if_neg (nI_ge (by omega) (by omega)), Bus_init_98 _ _ _ _ _ _ tb, p0, rf_some, Bus_init_102, a1]
      simp only [kC_ret, Option.toList, List.cons_append, List.nil_append, fix1_int, fix1_ref, fix1_unk, fix1_null, fix1_long]
      rw [Bus_init_110 _ _ _ _ _ _ _ _ _ (inA_nI (show T1 (b + 1) = some (11, 3) from t1') (by omega) (by omega)) (show T1 (b + 7 + 7 * c) = some (1, 0) from a3.1.1), fix1_ref, nI_add, cl_nI (by omega), show b + 7 + 7 * c + 7 = b + 7 + 7 * (c + 1) from by omega]
    obtain ⟨T', I', L', P', g1, g2, g3, g4⟩ := ih (c + 1) (by omega) T1 (kc + 7) (ks + 35) I1 L1 (updP P1 (b + 1) c (some (b + 7 + 7 * c))) (by rw [(a2 b (by omega)).1, tg_n (by omega)]; exact tb) t1' (by rw [uP_o (by omega), (a2 b (by omega)).2.2.2, rP_o (by omega)]; exact p0)
    refine ⟨T', I', L', P', ?_, ?_, ?_, ?_⟩
    · rw [e]
      refine g1.trans ?_
      rw [show kc + 7 + 7 * f = kc + 7 * (f + 1) from by omega, show ks + 35 + 35 * f = ks + 35 * (f + 1) from by omega]
    · intro x hx
      obtain ⟨z1, z2, z3, z4⟩ := g2 x (by omega)
      obtain ⟨y1, y2, y3, y4⟩ := a2 x (by omega)
      exact ⟨by rw [z1, y1, tg_n (by omega)], by rw [z2, y2, rI_o (by omega)], by rw [z3, y3, rL_o (by omega)], fun h => by rw [z4 h, uP_o h, y4, rP_o (by omega)]⟩
    · intro j h1 h2
      by_cases z : j = c
      · subst z
        refine ⟨NC_fr (a := b + 7 + 7 * j) (T := T1) (I := I1) (P := P1) a3 ?_, ?_⟩
        · intro x x1 x2
          obtain ⟨z1, z2, z3, z4⟩ := g2 x (by omega)
          exact ⟨z1, z2, by rw [z4 (by omega), uP_o (by omega)]⟩
        · rw [g4 j (by omega), uP_e]
      · exact g3 j (by omega) h2
    · intro j hj
      rw [g4 j (by omega), uP_n (by omega), (a2 (b + 1) (by omega)).2.2.2, rP_o (by omega)]
theorem bl_loop {b : Nat} : ∀ f l, l + f = 6 → ∀ (T : Nat → Option (Nat × Nat)) (kc ks : Nat) (I : MI) (L : ML) (P : MP), T b = some (0, 0) → T (b + 2) = some (12, 6) → P b 2 = some (b + 2) → ∃ T' I' L' P', go 27 119 [.ref b, .int (nI l)] [] (T, some (b + 28 + 2 * l), kc, ks) I L P = some (.inl none, (T', some (b + 40), kc + 2 * f, ks + 23 * f), I', L', P') ∧ (∀ x, (x < b + 28 + 2 * l ∨ b + 40 ≤ x) → T' x = T x ∧ I' x = I x ∧ L' x = L x ∧ (x ≠ b + 2 → P' x = P x)) ∧ (∀ j, l ≤ j → j < 6 → NL T' I' P' (b + 28 + 2 * j) ∧ P' (b + 2) j = some (b + 28 + 2 * j)) ∧ ∀ j, j < l → P' (b + 2) j = P (b + 2) j := by
  intro f
  induction f with
  | zero =>
    intro l hl T kc ks I L P tb t1 p0
    have : l = 6 := by omega
    subst this
    refine ⟨T, I, L, P, ?_, fun x _ => ⟨rfl, rfl, rfl, fun _ => rfl⟩, fun j h1 h2 => by omega, fun _ _ => rfl⟩
    rw [Bus_init_119 _ _ _ _ _ _ tb, p0, rf_some, Bus_init_124 _ _ _ _ _ _ _ _ (isAr_of t1), alen_of t1, if_pos (nI_le (by omega) (by omega)), Bus_init_147]
    rfl
  | succ f ih =>
    intro l hl T kc ks I L P tb t1 p0
    obtain ⟨T1, I1, L1, P1, a1, a2, a3⟩ := li_new (a := b + 28 + 2 * l) (tagU T (b + 28 + 2 * l) 2 0) (kc + 1) (ks + 7) (rowI I (b + 28 + 2 * l)) (rowL L (b + 28 + 2 * l)) (rowP P (b + 28 + 2 * l)) tg_e
    have t1' : T1 (b + 2) = some (12, 6) := by rw [(a2 (b + 2) (by omega)).1, tg_n (by omega)]; exact t1
    have e : go 27 119 [.ref b, .int (nI l)] [] (T, some (b + 28 + 2 * l), kc, ks) I L P = go 27 119 [.ref b, .int (nI (l + 1))] [] (T1, some (b + 28 + 2 * (l + 1)), kc + 2, ks + 23) I1 L1 (updP P1 (b + 2) l (some (b + 28 + 2 * l))) := by
      rw [Bus_init_119 _ _ _ _ _ _ tb, p0, rf_some, Bus_init_124 _ _ _ _ _ _ _ _ (isAr_of t1), alen_of t1, if_neg (nI_ge (by omega) (by omega)), Bus_init_128 _ _ _ _ _ _ tb, p0, rf_some, Bus_init_132, a1]
      simp only [kC_ret, Option.toList, List.cons_append, List.nil_append, fix1_int, fix1_ref, fix1_unk, fix1_null, fix1_long]
      rw [Bus_init_140 _ _ _ _ _ _ _ _ _ (inA_nI (show T1 (b + 2) = some (12, 6) from t1') (by omega) (by omega)) a3.1, fix1_ref, nI_add, cl_nI (by omega), show b + 28 + 2 * l + 2 = b + 28 + 2 * (l + 1) from by omega]
    obtain ⟨T', I', L', P', g1, g2, g3, g4⟩ := ih (l + 1) (by omega) T1 (kc + 2) (ks + 23) I1 L1 (updP P1 (b + 2) l (some (b + 28 + 2 * l))) (by rw [(a2 b (by omega)).1, tg_n (by omega)]; exact tb) t1' (by rw [uP_o (by omega), (a2 b (by omega)).2.2.2, rP_o (by omega)]; exact p0)
    refine ⟨T', I', L', P', ?_, ?_, ?_, ?_⟩
    · rw [e]
      refine g1.trans ?_
      rw [show kc + 2 + 2 * f = kc + 2 * (f + 1) from by omega, show ks + 23 + 23 * f = ks + 23 * (f + 1) from by omega]
    · intro x hx
      obtain ⟨z1, z2, z3, z4⟩ := g2 x (by omega)
      obtain ⟨y1, y2, y3, y4⟩ := a2 x (by omega)
      exact ⟨by rw [z1, y1, tg_n (by omega)], by rw [z2, y2, rI_o (by omega)], by rw [z3, y3, rL_o (by omega)], fun h => by rw [z4 h, uP_o h, y4, rP_o (by omega)]⟩
    · intro j h1 h2
      by_cases z : j = l
      · subst z
        refine ⟨NL_fr (a := b + 28 + 2 * j) (T := T1) (I := I1) (P := P1) a3 ?_, ?_⟩
        · intro x x1 x2
          obtain ⟨z1, z2, z3, z4⟩ := g2 x (by omega)
          exact ⟨z1, z2, by rw [z4 (by omega), uP_o (by omega)]⟩
        · rw [g4 j (by omega), uP_e]
      · exact g3 j (by omega) h2
    · intro j hj
      rw [g4 j (by omega), uP_n (by omega), (a2 (b + 2) (by omega)).2.2.2, rP_o (by omega)]
/-- a new bus -/
theorem bus_new {b : Nat} (T : Nat → Option (Nat × Nat)) (kc ks : Nat) (I : MI) (L : ML) (P : MP) (tb : T b = some (0, 0)) : ∃ T' I' L' P', call 27 [.ref b] (T, some (b + 1), kc, ks) I L P = some (.inl none, (T', some (b + 40), kc + 39, ks + 450), I', L', P') ∧ (∀ x, (x < b ∨ b + 40 ≤ x) → T' x = T x ∧ I' x = I x ∧ L' x = L x ∧ P' x = P x) ∧ BT (T', some 0, 0, 0) b ∧ BR b (frN 2) I' L' P' 0 := by
  have t1 : tagU T (b + 1) 11 (Int32.toNatClampNeg (nI 3)) b = some (0, 0) := by rw [tg_n (by omega)]; exact tb
  have t2 : tagU (tagU T (b + 1) 11 (Int32.toNatClampNeg (nI 3))) (b + 1 + 1) 12 (Int32.toNatClampNeg (nI 6)) b = some (0, 0) := by rw [tg_n (by omega)]; exact t1
  obtain ⟨T1, I1, L1, P1, a1, a2, a3, a4, a5, a6, a7, a8, a9, i0, i1, i2, ij⟩ := lg_new (a := b + 3) (tagU (tagU (tagU T (b + 1) 11 (Int32.toNatClampNeg (nI 3))) (b + 1 + 1) 12 (Int32.toNatClampNeg (nI 6))) (b + 3) 5 0) (kc + 3) (ks + 15) (rowI (updI (updI (updI I b 1 (nI 2)) b 3 (nI 0)) b 4 (nI 4)) (b + 3)) (rowL L (b + 3)) (rowP (updP (rowP (updP (rowP P (b + 1)) b 0 (some (b + 1))) (b + 1 + 1)) b 2 (some (b + 1 + 1))) (b + 3)) tg_e
  have tb1 : T1 b = some (0, 0) := by rw [(a2 b (by omega)).1, tg_n (by omega)]; exact t2
  -- the bus's own row then
  obtain ⟨T2, I2, L2, P2, c1, c2, c3, -⟩ := bc_loop (b := b) 3 0 (by omega) T1 (kc + 6) (ks + 207) (updI (updI (updI (updI (updI (updI (updI (updI I1 b 6 (nI 0)) b 7 (nI 0)) b 8 (-1)) b 9 (nI 0)) b 10 (nI 0)) b 11 (nI 0)) b 12 (nI 0)) b 13 (nI 0)) L1 (updP P1 b 5 (some (b + 3))) tb1 (by rw [(a2 (b + 1) (by omega)).1, tg_n (by omega), tg_n (by omega), tg_e, cl_nI (by omega)]) (by rw [uP_n (by omega), (a2 b (by omega)).2.2.2, rP_o (by omega), uP_n (by omega), rP_o (by omega), uP_e])
  have tb2 : T2 b = some (0, 0) := by rw [(c2 b (by omega)).1]; exact tb1
  obtain ⟨T3, I3, L3, P3, d1, d2, d3, -⟩ := bl_loop (b := b) 6 0 (by omega) T2 (kc + 27) (ks + 312) I2 L2 P2 tb2 (by rw [(c2 (b + 2) (by omega)).1, (a2 (b + 2) (by omega)).1, tg_n (by omega), show b + 2 = b + 1 + 1 from by omega, tg_e, cl_nI (by omega)]) (by rw [(c2 b (by omega)).2.2.2 (by omega), uP_n (by omega), (a2 b (by omega)).2.2.2, rP_o (by omega), uP_e])
  -- what lies below the callers
  have lo : ∀ x, x < b + 7 → T3 x = T1 x ∧ I3 x = (updI (updI (updI (updI (updI (updI (updI (updI I1 b 6 (nI 0)) b 7 (nI 0)) b 8 (-1)) b 9 (nI 0)) b 10 (nI 0)) b 11 (nI 0)) b 12 (nI 0)) b 13 (nI 0)) x ∧ (x ≠ b + 1 → x ≠ b + 2 → P3 x = (updP P1 b 5 (some (b + 3))) x) := by
    intro x hx
    obtain ⟨z1, z2, z3, z4⟩ := d2 x (by omega)
    obtain ⟨y1, y2, y3, y4⟩ := c2 x (by omega)
    exact ⟨z1.trans y1, z2.trans y2, fun h1 h2 => (z4 h2).trans (y4 h1)⟩
  have hN : ∀ c, c < 3 → NC T3 I3 P3 (b + 7 + 7 * c) := fun c hc => NC_fr (c3 c (by omega) hc).1 (fun x x1 x2 => by
    obtain ⟨z1, z2, z3, z4⟩ := d2 x (by omega)
    exact ⟨z1, z2, z4 (by omega)⟩)
  have hL : ∀ l, l < 6 → NL T3 I3 P3 (b + 28 + 2 * l) := fun l hl => (d3 l (by omega) hl).1
  have eb : ∀ k, I3 b k = (updI (updI (updI (updI (updI (updI (updI (updI I1 b 6 (nI 0)) b 7 (nI 0)) b 8 (-1)) b 9 (nI 0)) b 10 (nI 0)) b 11 (nI 0)) b 12 (nI 0)) b 13 (nI 0)) b k := fun k => by rw [(lo b (by omega)).2.1]
  have eb1 : ∀ k, k < 6 → I3 b k = (updI (updI (updI I b 1 (nI 2)) b 3 (nI 0)) b 4 (nI 4)) b k := by
    intro k hk
    rw [eb, uI_n (by omega), uI_n (by omega), uI_n (by omega), uI_n (by omega), uI_n (by omega), uI_n (by omega), uI_n (by omega), uI_n (by omega), (a2 b (by omega)).2.1, rI_o (by omega)]
  have eg : ∀ x, b + 3 ≤ x → x < b + 7 → I3 x = I1 x := fun x x1 x2 => by
    rw [(lo x (by omega)).2.1, uI_o (by omega), uI_o (by omega), uI_o (by omega), uI_o (by omega), uI_o (by omega), uI_o (by omega), uI_o (by omega), uI_o (by omega)]
  refine ⟨T3, I3, L3, P3, ?_, ?_, ?_, ?_⟩
  · rw [Bus_init_E, Bus_init_0 _ _ _ _ _ _ _ _ _ (ar_ok (by omega)) t1 (ar_ok (by omega)) t2]
    have e1 : ks + Int32.toNatClampNeg (nI 3) + Int32.toNatClampNeg (nI 6) + 6 = ks + 15 := by rw [cl_nI (by omega), cl_nI (by omega)]
    rw [e1, show b + 1 + 1 + 1 = b + 3 from rfl, show kc + 1 + 1 + 1 = kc + 3 from rfl, show b + 3 + 1 = b + 3 + 1 from rfl, a1]
    simp only [kC_ret, Option.toList, List.cons_append, List.nil_append, fix1_int, fix1_ref, fix1_unk, fix1_null, fix1_long]
    rw [Bus_init_44 _ _ _ _ _ _ _ _ tb1 tb1 b01, show b + 3 + 4 = b + 7 + 7 * 0 from by omega, show kc + 3 + 3 = kc + 6 from rfl, show ks + 15 + 192 = ks + 207 from rfl, c1, Bus_init_117, fix1_ref, show b + 28 = b + 28 + 2 * 0 from rfl, show kc + 6 + 7 * 3 = kc + 27 from rfl, show ks + 207 + 35 * 3 = ks + 312 from rfl, d1]
  · intro x hx
    obtain ⟨z1, z2, z3, z4⟩ := d2 x (by omega)
    obtain ⟨y1, y2, y3, y4⟩ := c2 x (by omega)
    obtain ⟨x1, x2, x3, x4⟩ := a2 x (by omega)
    refine ⟨?_, ?_, ?_, ?_⟩
    · rw [z1, y1, x1, tg_n (by omega), tg_n (by omega), tg_n (by omega)]
    · rw [z2, y2, uI_o (by omega), uI_o (by omega), uI_o (by omega), uI_o (by omega), uI_o (by omega), uI_o (by omega), uI_o (by omega), uI_o (by omega), x2, rI_o (by omega), uI_o (by omega), uI_o (by omega), uI_o (by omega)]
    · rw [z3, y3, x3, rL_o (by omega)]
    · rw [z4 (by omega), y4 (by omega), uP_o (by omega), x4, rP_o (by omega), uP_o (by omega), rP_o (by omega), uP_o (by omega), rP_o (by omega)]
  · refine ⟨(lo b (by omega)).1.trans tb1, ?_, ?_, ?_, ⟨?_, ?_, ?_⟩, fun c hc => (hN c hc).1, fun l hl => ⟨(hL l hl).1, ?_⟩⟩
    · exact (lo (b + 1) (by omega)).1.trans (by rw [(a2 (b + 1) (by omega)).1, tg_n (by omega), tg_n (by omega), tg_e, cl_nI (by omega)])
    · exact (lo (b + 2) (by omega)).1.trans (by rw [(a2 (b + 2) (by omega)).1, tg_n (by omega), show b + 2 = b + 1 + 1 from by omega, tg_e, cl_nI (by omega)])
    · exact (lo (b + 3) (by omega)).1.trans a3
    · exact (lo (b + 4) (by omega)).1.trans a4
    · exact (lo (b + 5) (by omega)).1.trans a5
    · exact (lo (b + 6) (by omega)).1.trans a6
    · have := (hL l hl).2.1
      rw [show b + 28 + 2 * l + 1 = b + 29 + 2 * l from by omega] at this
      exact this
  · have f0 : ∀ x, 4 ≤ x → x ≠ 8 → x ≠ 12 → x ≠ 214 → x ≠ 254 → x ≠ 294 → frN 2 x = nI 0 := by
      intro x h1 h2 h3 h4 h5 h6
      unfold frN
      rw [if_neg (by omega), if_neg (by omega), if_neg (by omega), if_neg (by omega)]
    have hQ : BQ P3 b := by
      have p0 : P3 b = (updP P1 b 5 (some (b + 3))) b := (lo b (by omega)).2.2 (by omega) (by omega)
      have p3 : P3 (b + 3) = P1 (b + 3) := by rw [(lo (b + 3) (by omega)).2.2 (by omega) (by omega), uP_o (by omega)]
      refine ⟨?_, ?_, ?_, ?_, ?_, ?_, ?_, ?_⟩
      · rw [p0, uP_n (by omega), (a2 b (by omega)).2.2.2, rP_o (by omega), uP_n (by omega), rP_o (by omega), uP_e]
      · rw [p0, uP_n (by omega), (a2 b (by omega)).2.2.2, rP_o (by omega), uP_e]
      · rw [p0, uP_e]
      · intro c hc
        rw [(d2 (b + 1) (by omega)).2.2.2 (by omega)]
        exact (c3 c (by omega) hc).2
      · intro l hl
        have := (hL l hl).2.2.1
        rw [show b + 28 + 2 * l + 1 = b + 29 + 2 * l from by omega] at this
        exact ⟨(d3 l (by omega) hl).2, this⟩
      · rw [p3]; exact a7
      · rw [p3]; exact a8
      · rw [p3]; exact a9
    refine ⟨⟨2, 0, 0, ⟨by omega, by omega, rfl, ?_⟩, ⟨by omega, rfl, ?_⟩, ?_, rfl, ?_, ?_, hQ, ?_, fun l hl => by omega, ?_, ?_, ?_, ?_⟩, rfl, ?_, ?_, ?_, ?_, ?_⟩
    · rw [eb1 1 (by omega), uI_n (by omega), uI_n (by omega), uI_e]
    · rw [eb1 3 (by omega), uI_n (by omega), uI_e]
    · rw [eb1 4 (by omega), uI_e]; rfl
    · rw [eb, uI_n (by omega), uI_n (by omega), uI_n (by omega), uI_n (by omega), uI_n (by omega), uI_n (by omega), uI_e]; rfl
    · rw [eb, uI_n (by omega), uI_n (by omega), uI_n (by omega), uI_n (by omega), uI_n (by omega), uI_e]; rfl
    · intro c hc
      obtain ⟨-, n2, n3, n4, n5, n6, n7⟩ := hN c hc
      refine ⟨fun i => i, 0, n2, by omega, ?_, n3, ?_, ?_, ?_, ?_, fun i hi => by omega⟩
      · exact f0 _ (by omega) (by omega) (by omega) (by omega) (by omega) (by omega)
      · intro k k1 k2; rw [n7, f0 _ (by omega) (by omega) (by omega) (by omega) (by omega) (by omega)]
      · rw [n4, f0 _ (by omega) (by omega) (by omega) (by omega) (by omega) (by omega)]
      · rw [n5, f0 _ (by omega) (by omega) (by omega) (by omega) (by omega) (by omega)]
      · rw [n6]
        rcases (show c = 0 ∨ c = 1 ∨ c = 2 by omega) with rfl | rfl | rfl <;> rfl
    · intro l _ hl
      obtain ⟨-, -, -, n2, n3, n5, n6⟩ := hL l hl
      exact ⟨n2, n3, n5, n6⟩
    · refine IV_0 (N := frN 2) (fun c hc => ⟨0, by omega, f0 _ (by omega) (by omega) (by omega) (by omega) (by omega) (by omega), fun _ => rfl, fun i hi => absurd hi (by omega)⟩) rfl (fun _ _ _ => rfl)
    · intro l hl
      refine ⟨⟨0, by omega, f0 _ (by omega) (by omega) (by omega) (by omega) (by omega) (by omega)⟩, Or.inl (f0 _ (by omega) (by omega) (by omega) (by omega) (by omega) (by omega)), 0, 0, by omega, f0 _ (by omega) (by omega) (by omega) (by omega) (by omega) (by omega), f0 _ (by omega) (by omega) (by omega) (by omega) (by omega) (by omega), Or.inr rfl, fun _ => ⟨rfl, rfl, f0 _ (by omega) (by omega) (by omega) (by omega) (by omega) (by omega)⟩⟩
    · refine ⟨?_, rfl, rfl⟩
      rw [eb, uI_n (by omega), uI_n (by omega), uI_n (by omega), uI_n (by omega), uI_n (by omega), uI_n (by omega), uI_n (by omega), uI_e]
    · rw [eg _ (by omega) (by omega)]; exact i0
    · rw [eg _ (by omega) (by omega)]; exact i1
    · rw [eg _ (by omega) (by omega)]; exact i2
    · intro i hi
      obtain ⟨j1, j2, j3⟩ := ij i
      refine ⟨?_, ?_, ?_⟩
      · rw [eg _ (by omega) (by omega), f0 _ (by omega) (by omega) (by omega) (by omega) (by omega) (by omega)]; exact j1
      · rw [eg _ (by omega) (by omega), f0 _ (by omega) (by omega) (by omega) (by omega) (by omega) (by omega)]; exact j2
      · rw [eg _ (by omega) (by omega), f0 _ (by omega) (by omega) (by omega) (by omega) (by omega) (by omega)]; exact j3
    · rw [if_pos rfl]; rfl
