/-! the law answers 1 -/
section
variable {B : Nat} {w : Wd} {I : MI} {L : ML} {P : MP} {N : Nat → Int32} {st : Nat} {Ks : Nat → Nat → Int32} {len : Nat} {tx : Nat → Nat} {T : Nat}
def WX (B : Nat) (w : Wd) (I : MI) (L : ML) (P : MP) (T : Nat) : Prop := ∃ N st Ks len tx, WI B w I L P N st Ks len tx T
theorem lw_cell {b Lw i : Nat} (t : w.1 b = some (14, Lw)) (hL : Lw ≤ 260) (hi : i < 2147483648) : ∃ j, j < 2147483648 ∧ call 100 [.ref b, .int (nI i)] w I L P = some (.inl (some (.int (nI j))), w, I, L, P) := by
  by_cases z : Lw ≤ i
  · obtain ⟨j, hj, ej⟩ := pk_andE ((15485803 : Int32) * nI i + nI 223) (m := 2147483647) 31 (by decide)
    refine ⟨j, hj, ?_⟩
    rw [Law_cell_E, Law_cell_0 _ _ _ _ _ _ (isAr_of t), alen_of t, if_pos (nI_le z hi), Law_cell_12, Law_cell_20, ej]
  · obtain ⟨j, hj, ej⟩ := pk_andE (I b i) (m := 2147483647) 31 (by decide)
    refine ⟨j, hj, ?_⟩
    rw [Law_cell_E, Law_cell_0 _ _ _ _ _ _ (isAr_of t), alen_of t, if_neg (nI_ge (by omega) (by omega)), Law_cell_6 _ _ _ _ _ _ (inA_nI t (by omega) (by omega)), cl_nI hi, Law_cell_20, ej]
theorem lw_begin {b Lw : Nat} (h : WI B w I L P (frN 2) 0 Ks len tx T) (hT : T < 2146000000) (t : w.1 b = some (14, Lw)) (hL : Lw ≤ 260) : ∃ w' J K Q, go 146 7 [.ref b, unk, unk, unk] [.ref B] w I L P = go 146 74 [.ref b, .ref B, .int (nI 1), .int (nI 1)] [] w' J K Q ∧ WX B w' J K Q (T + 4000) ∧ TH 11 w w' := by
  have a1 := lt_undo1 (WI_t0 h) (ce_undo h.1)
  have h1 := WI_th h TH_thr
  have t1 := WI_t0 h1
  have v1 := lr_value t1 (cv_value h1.1 (v := 1) (by omega) (by omega))
  have v9 := lr_value t1 (cv_value h1.1 (v := 9) (by omega) (by omega))
  have u1 : numV (frN 2) 1 = nI 2 := by decide
  have u9 : numV (frN 2) 9 = nI 1 := by decide
  have d0 : doneN (frN 2) := ⟨by decide, by decide⟩
  obtain ⟨J1, K1, Q1, e1, w1, f1⟩ := wi_finish h1 (by omega) (FN_0 d0)
  have w1' : WI B (thrT w) J1 K1 Q1 (frN 2) (svS 0) (svK 0 Ks (frN 2)) len tx (T + 4000) := w1
  obtain ⟨w2, e2, th2⟩ := so_ok (by omega) w1'.1 w1'.2.1
  have h2 := WI_th w1' th2
  have t2 : w2.1 b = some (14, Lw) := by rw [th2.1]; exact t
  obtain ⟨j, hj, ej⟩ := lw_cell (I := J1) (L := K1) (P := Q1) t2 hL (i := 0) (by omega)
  have dj := pk_rem (a := j) (d := 3) (by omega) (by omega) (by omega)
  obtain ⟨J3, K3, Q3, e3, w3, f3⟩ := Wok_sv h2 (cc_begin h2.1 (c := 1 + j % 3) (by omega) (by omega)) SQ_fr
  rw [show frN 2 0 = nI 0 from by decide] at e3
  have e3' := lr_begin (WI_t0 h2) e3
  refine ⟨w2, J3, K3, Q3, ?_, ⟨_, _, _, _, _, w3⟩, TH_trans TH_thr th2⟩
  rw [Law_law_7_1, a1]
  simp only [kC_ret, Option.toList, List.cons_append, List.nil_append, fix1_int, fix1_ref, fix1_unk, fix1_null, fix1_long]
  rw [Law_law_12, if_neg (by decide), Law_law_17_1, v1, u1]
  simp only [kC_ret, Option.toList, List.cons_append, List.nil_append, fix1_int, fix1_ref, fix1_unk, fix1_null, fix1_long]
  rw [Law_law_22, if_neg (by decide), Law_law_26_1, v9, u9]
  simp only [kC_ret, Option.toList, List.cons_append, List.nil_append, fix1_int, fix1_ref, fix1_unk, fix1_null, fix1_long]
  rw [Law_law_32, if_neg (by decide), Law_law_36 _ _ _ _ _ _ _ _ t1, e1]
  simp only [kC_ret, Option.toList, List.cons_append, List.nil_append, fix1_int, fix1_ref, fix1_unk, fix1_null, fix1_long]
  rw [Law_law_40, if_neg (by decide), Law_law_43_1, e2]
  simp only [kC_ret, Option.toList, List.cons_append, List.nil_append, fix1_int, fix1_ref, fix1_unk, fix1_null, fix1_long]
  rw [Law_law_47, if_neg (by decide), Law_law_50_3, ej]
  simp only [kC_ret, Option.toList, List.cons_append, List.nil_append, fix1_int, fix1_ref, fix1_unk, fix1_null, fix1_long]
  rw [Law_law_57_1 _ _ _ _ _ _ _ _ _ _ _ (by decide), dj, nI_add, e3']
  simp only [kC_ret, Option.toList, List.cons_append, List.nil_append, fix1_int, fix1_ref, fix1_unk, fix1_null, fix1_long]
  rw [Law_law_63, if_neg (by decide), Law_law_66, Law_law_71]
  simp only [fix1_int, fix1_ref, fix1_unk, fix1_null, fix1_long]
theorem lw_loop {b Lw : Nat} (hL : Lw ≤ 260) : ∀ f i, i + f = 24 → ∀ (w : Wd) (I : MI) (L : ML) (P : MP), w.1 b = some (14, Lw) → WX B w I L P (150000 * i) → ∃ w' J K Q, go 146 74 [.ref b, .ref B, .int (nI 1), .int (nI i)] [] w I L P = go 146 122 [.ref b, .ref B, .int (nI 1), .int (nI 24)] [] w' J K Q ∧ WX B w' J K Q (150000 * 24) ∧ TH (12 * f) w w' := by
  have n0 : ¬ nI 1 = 0 := by decide
  intro f
  induction f with
  | zero =>
    intro i hi w I L P t h
    have : i = 24 := by omega
    subst this
    refine ⟨w, I, L, P, ?_, h, TH_refl⟩
    rw [Law_law_74, if_pos (nI_le (by omega) (by omega))]
  | succ f ih =>
    intro i hi w I L P t h
    obtain ⟨N, st, Ks, len, tx, h⟩ := h
    obtain ⟨j, hj, ej⟩ := lw_cell (I := I) (L := L) (P := P) t hL (i := i) (by omega)
    obtain ⟨w1, J1, K1, Q1, N1, st1, Ks1, len1, tx1, e1, h1, rs1⟩ := ac_ok h (by omega) hj
    obtain ⟨w2, e2, h2, th2⟩ : ∃ w2, go 146 96 [.ref b, .ref B, .int (nI 1), .int (nI i)] [] w1 J1 K1 Q1 = go 146 110 [.ref b, .ref B, .int (nI 1), .int (nI i)] [] w2 J1 K1 Q1 ∧ WI B w2 J1 K1 Q1 N1 st1 Ks1 len1 tx1 (150000 * i + 150000) ∧ TH 10 w1 w2 := by
      by_cases z : (nI i - nI i / nI 3 * nI 3) ≠ nI 2
      · refine ⟨w1, ?_, h1, TH_le TH_refl (by omega)⟩
        rw [Law_law_96 _ _ _ _ _ _ _ _ (by decide), if_pos z]
      · obtain ⟨w2, e2, th2⟩ := so_ok (by omega) h1.1 h1.2.1
        refine ⟨w2, ?_, WI_th h1 th2, th2⟩
        rw [Law_law_96 _ _ _ _ _ _ _ _ (by decide), if_neg z, Law_law_103_1, e2]
        simp only [kC_ret, Option.toList, List.cons_append, List.nil_append, fix1_int, fix1_ref, fix1_unk, fix1_null, fix1_long]
        rw [Law_law_107, if_neg n0]
    have t2 : w2.1 b = some (14, Lw) := by rw [th2.1, rs1.1.1]; exact t
    obtain ⟨w3, J3, K3, Q3, e3, h3, th3⟩ := ih (i + 1) (by omega) w2 J1 K1 Q1 t2 ⟨N1, st1, Ks1, len1, tx1, h2⟩
    refine ⟨w3, J3, K3, Q3, ?_, h3, TH_le (TH_trans (TH_trans rs1.1 th2) th3) (by omega)⟩
    rw [Law_law_74, if_neg (nI_ge (by omega) (by omega)), Law_law_80, if_neg n0, Law_law_84_3, ej]
    simp only [kC_ret, Option.toList, List.cons_append, List.nil_append, fix1_int, fix1_ref, fix1_unk, fix1_null, fix1_long]
    rw [Law_law_90_1, e1]
    simp only [kC_ret, Option.toList, List.cons_append, List.nil_append, fix1_int, fix1_ref, fix1_unk, fix1_null, fix1_long]
    rw [Law_law_93, if_neg n0]
    rw [e2]
    rw [Law_law_110, Law_law_115]
    simp only [fix1_int, fix1_ref, fix1_unk, fix1_null, fix1_long]
    rw [nI_add, e3]
theorem lw_end {x0 x3 : Value} (h : WX B w I L P T) (hT : T < 2147000000) : ∃ w' J K Q, go 146 122 [x0, .ref B, .int (nI 1), x3] [] w I L P = some (.inl (some (.int (nI 1))), w', J, K, Q) ∧ TH 60 w w' := by
  have n0 : ¬ nI 1 = 0 := by decide
  obtain ⟨N, st, Ks, len, tx, h⟩ := h
  obtain ⟨w2, e2, th2⟩ := so_ok hT h.1 h.2.1
  obtain ⟨w3, J, K, Q, e3, rs3⟩ := rf_ok (WI_th h th2) hT
  refine ⟨w3, J, K, Q, ?_, TH_trans th2 rs3.1⟩
  rw [Law_law_122, if_neg n0, Law_law_126_1, e2]
  simp only [kC_ret, Option.toList, List.cons_append, List.nil_append, fix1_int, fix1_ref, fix1_unk, fix1_null, fix1_long]
  rw [Law_law_130, if_neg n0, Law_law_133_1, e3]
  simp only [kC_ret, Option.toList, List.cons_append, List.nil_append, fix1_int, fix1_ref, fix1_unk, fix1_null, fix1_long]
  rw [Law_law_137, if_neg n0, Law_law_140, Law_law_145 _ _ _ _ _ _ _ _ _ b11]
/-- the law answers 1, and makes so much and no more -/
theorem lw_all {b B Lw : Nat} {xs : Nat → Int32} (hb : b < B) (hL : Lw ≤ 260) : ∃ w2 I2 L2 P2, call 146 [.ref b] (w00 b Lw B) (I00 b xs) L00 P00 = some (.inl (some (.int (nI 1))), w2, I2, L2, P2) ∧ w2.2.2.1 ≤ 1000 ∧ w2.2.2.2 ≤ 10000 := by
  obtain ⟨T0, eT0⟩ : ∃ T0 : Nat → Option (Nat × Nat), T0 = fun a => if a = b then some (14, Lw) else none := ⟨_, rfl⟩
  have tb : T0 b = some (14, Lw) := by rw [eT0]; exact if_pos rfl
  obtain ⟨T1, I1, L1, P1, a1, a2, a3⟩ := two_new (B := B) (tagU T0 B 6 0) (0 + 1) (0 + 6) (rowI (I00 b xs) B) (rowL L00 B) (rowP P00 B) tg_e
  obtain ⟨w, ew⟩ : ∃ w : Wd, w = (T1, some (B + 284), 0 + 1 + 283, 0 + 6 + 3362) := ⟨_, rfl⟩
  have hc := a3 w (fun _ _ => nI 0) (fun _ => 0) (by rw [ew])
  have h0 : WI B w I1 L1 P1 (frN 2) 0 (fun _ _ => nI 0) 0 (fun _ => 0) 0 := ⟨hc, SQ_fr, fun i hi => absurd hi (by omega)⟩
  have t0 : w.1 b = some (14, Lw) := by
    rw [ew]
    show T1 b = _
    rw [(a2 b (by omega)).1, tg_n (by omega)]
    exact tb
  obtain ⟨w1, J1, K1, Q1, e1, h1, th1⟩ := lw_begin h0 (by omega) t0 hL
  obtain ⟨N, st, Ks, len, tx, h1⟩ := h1
  have t1 : w1.1 b = some (14, Lw) := by rw [th1.1]; exact t0
  obtain ⟨w2, J2, K2, Q2, e2, h2, th2⟩ := lw_loop hL 23 1 (by omega) w1 J1 K1 Q1 t1 ⟨N, st, Ks, len, tx, WI_T h1 (by omega)⟩
  obtain ⟨w3, J3, K3, Q3, e3, th3⟩ := lw_end (x0 := .ref b) (x3 := .int (nI 24)) h2 (by omega)
  have th := TH_trans (TH_trans th1 th2) th3
  refine ⟨w3, J3, K3, Q3, ?_, ?_, ?_⟩
  · have s0 : call 146 [.ref b] (w00 b Lw B) (I00 b xs) L00 P00 = go 146 0 [.ref b, unk, unk, unk] [] (T0, some B, 0, 0) (I00 b xs) L00 P00 := by rw [eT0]; rfl
    rw [s0, Law_law_0, a1]
    simp only [kC_ret, Option.toList, List.cons_append, List.nil_append, fix1_int, fix1_ref, fix1_unk, fix1_null, fix1_long]
    rw [← ew, e1, e2, e3]
  · have := th.2.1
    rw [ew] at this
    have e : (T1, some (B + 284), 0 + 1 + 283, 0 + 6 + 3362).2.2.1 = 284 := rfl
    rw [e] at this
    omega
  · have := th.2.2
    rw [ew] at this
    have e : (T1, some (B + 284), 0 + 1 + 283, 0 + 6 + 3362).2.2.2 = 3368 := rfl
    rw [e] at this
    omega
end
/-- out of the plain machine's walk -/
theorem lw_exec {b B Lw : Nat} {xs : Nat → Int32} (hb : b < B) (hL : Lw ≤ 260) : ∃ n w2 I2 L2 P2, exec n 146 0 (ent [.ref b] 4) [] (w00 b Lw B) (I00 b xs) L00 P00 = some (.inl (some (.int 1)), w2, I2, L2, P2) ∧ w2.2.2.1 ≤ 611061 ∧ w2.2.2.2 ≤ 7268514 := by
  obtain ⟨w2, I2, L2, P2, g1, g2, g3⟩ := lw_all (xs := xs) hb hL
  obtain ⟨n, hn⟩ := go_to (show go 146 0 (ent [.ref b] 4) [] (w00 b Lw B) (I00 b xs) L00 P00 = some (.inl (some (.int (nI 1))), w2, I2, L2, P2) from g1)
  exact ⟨n, w2, I2, L2, P2, hn, by omega, by omega⟩
theorem whole_start {p : Program} {e : Env} {s : State} {m : MethodId} {below : List Frame} {meth : Method} {c : Code} (l : Launch) (hflags : l.flags = flags0) {b L : Nat} {xs : Nat → Int32} (hL : L ≤ 260) (C0 : lw_At p s m meth c b L xs) : W p l e room_1 s m #[Value.ref b] below meth c s.heap [] 0 0 (lw_Z below #[Value.ref b] s) (entryFrame m ([Value.ref b] : List Value).toArray 4) := by
  have hbl : b < s.heap.size := C0.2.2.2.2.2.2.2.1
  obtain ⟨n, w2, I2, L2, P2, h, h1, h2⟩ := lw_exec (xs := xs) hbl hL
  exact law_of l hflags hL C0 h h1 h2
