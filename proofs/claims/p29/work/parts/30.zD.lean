/-! what is new: callers, listeners, the log -/
theorem tg_n {T : Nat → Option (Nat × Nat)} {q k n x : Nat} (h : x ≠ q) : tagU T q k n x = T x := by unfold tagU; rw [if_neg h]
theorem tg_e {T : Nat → Option (Nat × Nat)} {q k n : Nat} : tagU T q k n q = some (k, n) := by unfold tagU; rw [if_pos rfl]
theorem uI_o {I : MI} {a k x : Nat} {v : Int32} (h : x ≠ a) : updI I a k v x = I x := by funext j; unfold updI; rw [if_neg (fun z => h z.1)]
theorem uI_n {I : MI} {a k j : Nat} {v : Int32} (h : j ≠ k) : updI I a k v a j = I a j := by unfold updI; rw [if_neg (fun z => h z.2)]
theorem uI_e {I : MI} {a k : Nat} {v : Int32} : updI I a k v a k = v := by unfold updI; rw [if_pos ⟨rfl, rfl⟩]
theorem uP_o {P : MP} {a k x : Nat} {v : Option Nat} (h : x ≠ a) : updP P a k v x = P x := by funext j; unfold updP; rw [if_neg (fun z => h z.1)]
theorem uP_n {P : MP} {a k j : Nat} {v : Option Nat} (h : j ≠ k) : updP P a k v a j = P a j := by unfold updP; rw [if_neg (fun z => h z.2)]
theorem uP_e {P : MP} {a k : Nat} {v : Option Nat} : updP P a k v a k = v := by unfold updP; rw [if_pos ⟨rfl, rfl⟩]
theorem rI_o {I : MI} {a x : Nat} (h : x ≠ a) : rowI I a x = I x := by funext j; unfold rowI; rw [if_neg h]
theorem rI_e {I : MI} {a j : Nat} : rowI I a a j = 0 := by unfold rowI; rw [if_pos rfl]
theorem rL_o {I : ML} {a x : Nat} (h : x ≠ a) : rowL I a x = I x := by funext j; unfold rowL; rw [if_neg h]
theorem rP_o {P : MP} {a x : Nat} (h : x ≠ a) : rowP P a x = P x := by funext j; unfold rowP; rw [if_neg h]
theorem ar_ok {n : Nat} (h : n ≤ 65536) : ¬ (nI n) < 0 ∧ Int32.toNatClampNeg (nI n) ≤ 65536 := ⟨nI_pos (by omega), by rw [cl_nI (by omega)]; exact h⟩
theorem ci_loop {a : Nat} : ∀ f i, i + f = 4 → ∀ (T : Nat → Option (Nat × Nat)) (kc ks : Nat) (I : MI) (L : ML) (P : MP), T a = some (1, 0) → T (a + 1) = some (13, 4) → P a 0 = some (a + 1) → ∃ T' I' L' P', go 5 41 [.ref a, .int (nI i)] [] (T, some (a + 3 + i), kc, ks) I L P = some (.inl none, (T', some (a + 7), kc + f, ks + 5 * f), I', L', P') ∧ (∀ x, (x < a + 3 + i ∨ a + 7 ≤ x) → T' x = T x ∧ I' x = I x ∧ L' x = L x ∧ (x ≠ a + 1 → P' x = P x)) ∧ (∀ j, i ≤ j → j < 4 → T' (a + 3 + j) = some (3, 0) ∧ P' (a + 1) j = some (a + 3 + j)) ∧ ∀ j, j < i → P' (a + 1) j = P (a + 1) j := by
  intro f
  induction f with
  | zero =>
    intro i hi T kc ks I L P ta t1 p0
    have : i = 4 := by omega
    subst this
    refine ⟨T, I, L, P, ?_, fun x _ => ⟨rfl, rfl, rfl, fun _ => rfl⟩, fun j h1 h2 => by omega, fun _ _ => rfl⟩
    rw [Caller_init_41 _ _ _ _ _ _ ta, p0, rf_some, Caller_init_46 _ _ _ _ _ _ _ _ (isAr_of t1), alen_of t1, if_pos (nI_le (by omega) (by omega)), Caller_init_69]
    rfl
  | succ f ih =>
    intro i hi T kc ks I L P ta t1 p0
    have e : go 5 41 [.ref a, .int (nI i)] [] (T, some (a + 3 + i), kc, ks) I L P = go 5 41 [.ref a, .int (nI (i + 1))] [] (tagU T (a + 3 + i) 3 0, some (a + 3 + (i + 1)), kc + 1, ks + 5) (updI (updI (updI (updI (rowI I (a + 3 + i)) (a + 3 + i) 0 (nI 0)) (a + 3 + i) 1 (nI 0)) (a + 3 + i) 2 (nI 1)) (a + 3 + i) 3 (nI 0)) (updL (rowL L (a + 3 + i)) (a + 3 + i) 4 0) (updP (rowP P (a + 3 + i)) (a + 1) i (some (a + 3 + i))) := by
      rw [Caller_init_41 _ _ _ _ _ _ ta, p0, rf_some, Caller_init_46 _ _ _ _ _ _ _ _ (isAr_of t1), alen_of t1, if_neg (nI_ge (by omega) (by omega)), Caller_init_50 _ _ _ _ _ _ ta, p0, rf_some, Caller_init_54, Message_init_E, Message_init_0 _ _ _ _ _ tg_e b01]
      simp only [kC_ret, Option.toList, List.cons_append, List.nil_append, fix1_int, fix1_ref, fix1_unk, fix1_null, fix1_long]
      rw [Caller_init_62 _ _ _ _ _ _ _ _ _ (inA_nI (show (tagU T (a + 3 + i) 3 0) (a + 1) = some (13, 4) from by rw [tg_n (by omega)]; exact t1) (by omega) (by omega)) tg_e, fix1_ref, nI_add, cl_nI (by omega)]
      rfl
    obtain ⟨T', I', L', P', g1, g2, g3, g4⟩ := ih (i + 1) (by omega) (tagU T (a + 3 + i) 3 0) (kc + 1) (ks + 5) (updI (updI (updI (updI (rowI I (a + 3 + i)) (a + 3 + i) 0 (nI 0)) (a + 3 + i) 1 (nI 0)) (a + 3 + i) 2 (nI 1)) (a + 3 + i) 3 (nI 0)) (updL (rowL L (a + 3 + i)) (a + 3 + i) 4 0) (updP (rowP P (a + 3 + i)) (a + 1) i (some (a + 3 + i))) (by rw [tg_n (by omega)]; exact ta) (by rw [tg_n (by omega)]; exact t1) (by rw [uP_o (show a ≠ a + 1 by omega), rP_o (by omega)]; exact p0)
    refine ⟨T', I', L', P', ?_, ?_, ?_, ?_⟩
    · rw [e]
      refine g1.trans ?_
      rw [show kc + 1 + f = kc + (f + 1) from by omega, show ks + 5 + 5 * f = ks + 5 * (f + 1) from by omega]
    · intro x hx
      obtain ⟨z1, z2, z3, z4⟩ := g2 x (by omega)
      refine ⟨by rw [z1, tg_n (by omega)], by rw [z2, uI_o (by omega), uI_o (by omega), uI_o (by omega), uI_o (by omega), rI_o (by omega)], by rw [z3, updL_o (by omega), rL_o (by omega)], fun h => by rw [z4 h, uP_o h, rP_o (by omega)]⟩
    · intro j h1 h2
      by_cases z : j = i
      · subst z
        refine ⟨?_, ?_⟩
        · rw [(g2 (a + 3 + j) (by omega)).1, tg_e]
        · rw [g4 j (by omega), uP_e]
      · exact g3 j (by omega) h2
    · intro j hj
      rw [g4 j (by omega), uP_n (by omega), rP_o (by omega)]
/-- a new caller -/
theorem ci_new {a : Nat} (T : Nat → Option (Nat × Nat)) (kc ks : Nat) (I : MI) (L : ML) (P : MP) (ta : T a = some (1, 0)) : ∃ T' I' L' P', call 5 [.ref a] (T, some (a + 1), kc, ks) I L P = some (.inl none, (T', some (a + 7), kc + 6, ks + 29), I', L', P') ∧ (∀ x, (x < a ∨ a + 7 ≤ x) → T' x = T x ∧ I' x = I x ∧ L' x = L x ∧ P' x = P x) ∧ CT (T', some 0, 0, 0) a ∧ CP P' a (fun i => i) ∧ I' a 1 = nI 0 ∧ I' a 3 = nI 0 ∧ I' a 4 = nI 0 ∧ I' a 5 = -1 ∧ ∀ k, I' (a + 2) k = nI 0 := by
  have t1 : tagU T (a + 1) 13 (Int32.toNatClampNeg (nI 4)) a = some (1, 0) := by rw [tg_n (by omega)]; exact ta
  have t2 : tagU (tagU T (a + 1) 13 (Int32.toNatClampNeg (nI 4))) (a + 1 + 1) 8 (Int32.toNatClampNeg (nI 5)) a = some (1, 0) := by rw [tg_n (by omega)]; exact t1
  obtain ⟨T', I', L', P', g1, g2, g3, g4⟩ := ci_loop (a := a) 4 0 (by omega) (tagU (tagU T (a + 1) 13 (Int32.toNatClampNeg (nI 4))) (a + 1 + 1) 8 (Int32.toNatClampNeg (nI 5))) (kc + 1 + 1) (ks + Int32.toNatClampNeg (nI 4) + Int32.toNatClampNeg (nI 5)) (updI (updI (updI (rowI (updI I a 1 (nI 0)) (a + 1 + 1)) a 3 (nI 0)) a 4 (nI 0)) a 5 (-1)) L (updP (updP (rowP P (a + 1)) a 0 (some (a + 1))) a 2 (some (a + 1 + 1))) t2 (by rw [tg_n (by omega), tg_e, cl_nI (by omega)]) (by rw [uP_n (by omega), uP_e])
  refine ⟨T', I', L', P', ?_, ?_, ⟨?_, ?_, ?_, ?_⟩, ⟨?_, ?_, ?_, ?_, ?_⟩, ?_, ?_, ?_, ?_, ?_⟩
  · rw [Caller_init_E, Caller_init_0 _ _ _ _ _ _ _ _ _ (ar_ok (by omega)) t1 (ar_ok (by omega)) t2]
    refine g1.trans ?_
    rw [cl_nI (by omega), cl_nI (by omega)]
  · intro x hx
    obtain ⟨z1, z2, z3, z4⟩ := g2 x (by omega)
    refine ⟨by rw [z1, tg_n (by omega), tg_n (by omega)], by rw [z2, uI_o (by omega), uI_o (by omega), uI_o (by omega), rI_o (by omega), uI_o (by omega)], z3, by rw [z4 (by omega), uP_o (by omega), uP_o (by omega), rP_o (by omega)]⟩
  · show T' a = _
    rw [(g2 a (by omega)).1]; exact t2
  · show T' (a + 1) = _
    rw [(g2 (a + 1) (by omega)).1, tg_n (by omega), tg_e, cl_nI (by omega)]
  · show T' (a + 2) = _
    rw [(g2 (a + 2) (by omega)).1, show a + 2 = a + 1 + 1 from by omega, tg_e, cl_nI (by omega)]
  · intro i hi
    exact (g3 i (by omega) hi).1
  · rw [(g2 a (by omega)).2.2.2 (by omega), uP_n (by omega), uP_e]
  · rw [(g2 a (by omega)).2.2.2 (by omega), uP_e]
  · intro i hi
    exact (g3 i (by omega) hi).2
  · intro i hi; exact hi
  · intro i j _ _ e; exact e
  · rw [(g2 a (by omega)).2.1, uI_n (by omega), uI_n (by omega), uI_n (by omega), rI_o (by omega), uI_e]
  · rw [(g2 a (by omega)).2.1, uI_n (by omega), uI_n (by omega), uI_e]
  · rw [(g2 a (by omega)).2.1, uI_n (by omega), uI_e]
  · rw [(g2 a (by omega)).2.1, uI_e]
  · intro k
    rw [(g2 (a + 2) (by omega)).2.1, uI_o (by omega), uI_o (by omega), uI_o (by omega), show a + 2 = a + 1 + 1 from by omega, rI_e, nI_0]
/-- a new listener -/
theorem li_new {a : Nat} (T : Nat → Option (Nat × Nat)) (kc ks : Nat) (I : MI) (L : ML) (P : MP) (ta : T a = some (2, 0)) : ∃ T' I' L' P', call 14 [.ref a] (T, some (a + 1), kc, ks) I L P = some (.inl none, (T', some (a + 2), kc + 1, ks + 16), I', L', P') ∧ (∀ x, (x < a ∨ a + 2 ≤ x) → T' x = T x ∧ I' x = I x ∧ L' x = L x ∧ P' x = P x) ∧ T' a = some (2, 0) ∧ T' (a + 1) = some (8, 16) ∧ P' a 4 = some (a + 1) ∧ I' a 2 = nI 1 ∧ I' a 3 = nI 0 ∧ I' a 5 = nI 0 ∧ I' a 6 = nI 0 := by
  have t1 : tagU T (a + 1) 8 (Int32.toNatClampNeg (nI 16)) a = some (2, 0) := by rw [tg_n (by omega)]; exact ta
  refine ⟨tagU T (a + 1) 8 (Int32.toNatClampNeg (nI 16)), updI (updI (rowI (updI (updI (updI (updI I a 0 (nI 0)) a 1 (nI 0)) a 2 (nI 1)) a 3 (nI 0)) (a + 1)) a 5 (nI 0)) a 6 (nI 0), L, updP P a 4 (some (a + 1)), ?_, ?_, t1, ?_, uP_e, ?_, ?_, ?_, uI_e⟩
  · rw [Listener_init_E, Listener_init_0 _ _ _ _ _ _ _ _ ta b11 (ar_ok (by omega)) t1, cl_nI (by omega)]
  · intro x hx
    exact ⟨tg_n (by omega), by rw [uI_o (by omega), uI_o (by omega), rI_o (by omega), uI_o (by omega), uI_o (by omega), uI_o (by omega), uI_o (by omega)], rfl, uP_o (by omega)⟩
  · rw [tg_e, cl_nI (by omega)]
  · rw [uI_n (by omega), uI_n (by omega), rI_o (by omega), uI_n (by omega), uI_e]
  · rw [uI_n (by omega), uI_n (by omega), rI_o (by omega), uI_e]
  · rw [uI_n (by omega), uI_e]
/-- a new log -/
theorem lg_new {a : Nat} (T : Nat → Option (Nat × Nat)) (kc ks : Nat) (I : MI) (L : ML) (P : MP) (ta : T a = some (5, 0)) : ∃ T' I' L' P', call 21 [.ref a] (T, some (a + 1), kc, ks) I L P = some (.inl none, (T', some (a + 4), kc + 3, ks + 192), I', L', P') ∧ (∀ x, (x < a ∨ a + 4 ≤ x) → T' x = T x ∧ I' x = I x ∧ L' x = L x ∧ P' x = P x) ∧ T' a = some (5, 0) ∧ T' (a + 1) = some (8, 64) ∧ T' (a + 2) = some (8, 64) ∧ T' (a + 3) = some (8, 64) ∧ P' a 3 = some (a + 1) ∧ P' a 4 = some (a + 2) ∧ P' a 5 = some (a + 3) ∧ I' a 0 = nI 0 ∧ I' a 1 = nI 0 ∧ I' a 2 = nI 0 ∧ ∀ j, I' (a + 1) j = nI 0 ∧ I' (a + 2) j = nI 0 ∧ I' (a + 3) j = nI 0 := by
  have t1 : tagU T (a + 1) 8 (Int32.toNatClampNeg (nI 64)) a = some (5, 0) := by rw [tg_n (by omega)]; exact ta
  have t2 : tagU (tagU T (a + 1) 8 (Int32.toNatClampNeg (nI 64))) (a + 1 + 1) 8 (Int32.toNatClampNeg (nI 64)) a = some (5, 0) := by rw [tg_n (by omega)]; exact t1
  have t3 : tagU (tagU (tagU T (a + 1) 8 (Int32.toNatClampNeg (nI 64))) (a + 1 + 1) 8 (Int32.toNatClampNeg (nI 64))) (a + 1 + 1 + 1) 8 (Int32.toNatClampNeg (nI 64)) a = some (5, 0) := by rw [tg_n (by omega)]; exact t2
  refine ⟨tagU (tagU (tagU T (a + 1) 8 (Int32.toNatClampNeg (nI 64))) (a + 1 + 1) 8 (Int32.toNatClampNeg (nI 64))) (a + 1 + 1 + 1) 8 (Int32.toNatClampNeg (nI 64)), rowI (rowI (rowI (updI (updI (updI I a 0 (nI 0)) a 1 (nI 0)) a 2 (nI 0)) (a + 1)) (a + 1 + 1)) (a + 1 + 1 + 1), L, updP (updP (updP P a 3 (some (a + 1))) a 4 (some (a + 1 + 1))) a 5 (some (a + 1 + 1 + 1)), ?_, ?_, t3, ?_, ?_, ?_, ?_, ?_, ?_, ?_, ?_, ?_, ?_⟩
  · rw [Log_init_E, Log_init_0 _ _ _ _ _ _ _ _ ta (ar_ok (by omega)) t1 t2 t3, cl_nI (by omega)]
  · intro x hx
    exact ⟨by rw [tg_n (by omega), tg_n (by omega), tg_n (by omega)], by rw [rI_o (by omega), rI_o (by omega), rI_o (by omega), uI_o (by omega), uI_o (by omega), uI_o (by omega)], rfl, by rw [uP_o (by omega), uP_o (by omega), uP_o (by omega)]⟩
  · rw [tg_n (by omega), tg_n (by omega), tg_e, cl_nI (by omega)]
  · rw [tg_n (by omega), show a + 2 = a + 1 + 1 from by omega, tg_e, cl_nI (by omega)]
  · rw [show a + 3 = a + 1 + 1 + 1 from by omega, tg_e, cl_nI (by omega)]
  · rw [uP_n (by omega), uP_n (by omega), uP_e]
  · rw [uP_n (by omega), uP_e]
  · rw [uP_e]
  · rw [rI_o (by omega), rI_o (by omega), rI_o (by omega), uI_n (by omega), uI_n (by omega), uI_e]
  · rw [rI_o (by omega), rI_o (by omega), rI_o (by omega), uI_n (by omega), uI_e]
  · rw [rI_o (by omega), rI_o (by omega), rI_o (by omega), uI_e]
  · intro j
    refine ⟨?_, ?_, ?_⟩
    · rw [rI_o (by omega), rI_o (by omega), rI_e, nI_0]
    · rw [rI_o (by omega), show a + 2 = a + 1 + 1 from by omega, rI_e, nI_0]
    · rw [show a + 3 = a + 1 + 1 + 1 from by omega, rI_e, nI_0]
