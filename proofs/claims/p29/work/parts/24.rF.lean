theorem Law_cell_0 (a_l0 : Nat) (x_l1 : Int32) (w : Wd) (I : MI) (L : ML) (P : MP) (h0 : isAr w a_l0 14) : go 100 0 [.ref a_l0, .int x_l1] [] w I L P = if (alen w a_l0) ≤ x_l1 then go 100 12 [.ref a_l0, .int x_l1] [] w I L P else go 100 6 [.ref a_l0, .int x_l1] [] w I L P := by
  refine (go_iload_n (m := 100) (pc := 0) (k := 1) (by decide +kernel) rfl).trans ?_
  refine (go_aload_n (m := 100) (pc := 1) (k := 0) (by decide +kernel) rfl).trans ?_
  refine (go_alen14 (m := 100) (pc := 2) (by decide +kernel) h0).trans ?_
  exact go_icmpge (m := 100) (pc := 3) (off := 9) (t := 12) (by decide +kernel) (by decide)
theorem Law_cell_6 (a_l0 : Nat) (x_l1 : Int32) (w : Wd) (I : MI) (L : ML) (P : MP) (h0 : inA w a_l0 14 x_l1) : go 100 6 [.ref a_l0, .int x_l1] [] w I L P = go 100 20 [.ref a_l0, .int x_l1] [.int (I a_l0 (Int32.toNatClampNeg x_l1))] w I L P := by
  refine (go_aload_n (m := 100) (pc := 6) (k := 0) (by decide +kernel) rfl).trans ?_
  refine (go_iload_n (m := 100) (pc := 7) (k := 1) (by decide +kernel) rfl).trans ?_
  refine (go_iald14 (m := 100) (pc := 8) (by decide +kernel) h0).trans ?_
  refine (go_goto (m := 100) (pc := 9) (off := 11) (t := 20) (by decide +kernel) (by decide)).trans ?_
  rfl
theorem Law_cell_12 (l0 : Value) (x_l1 : Int32) (w : Wd) (I : MI) (L : ML) (P : MP)  : go 100 12 [l0, .int x_l1] [] w I L P = go 100 20 [l0, .int x_l1] [.int ((15485803 * x_l1) + (nI 223))] w I L P := by
  refine (go_ldc (m := 100) (pc := 12) (o := 8) (x := 7) (v := 15485803) (by decide +kernel) rfl (by decide +kernel)).trans ?_
  refine (go_iload_n (m := 100) (pc := 14) (k := 1) (by decide +kernel) rfl).trans ?_
  refine (go_imul (m := 100) (pc := 15) (by decide +kernel)).trans ?_
  refine (go_si (m := 100) (pc := 16) (n := 223) (by decide +kernel) si_223).trans ?_
  refine (go_iadd (m := 100) (pc := 19) (by decide +kernel)).trans ?_
  rfl
theorem Law_cell_20 (l0 : Value) (l1 : Value) (y0 : Int32) (w : Wd) (I : MI) (L : ML) (P : MP)  : go 100 20 [l0, l1] [.int y0] w I L P = some (.inl (some (.int (y0 &&& 2147483647))), w, I, L, P) := by
  refine (go_ldc (m := 100) (pc := 20) (o := 8) (x := 8) (v := 2147483647) (by decide +kernel) rfl (by decide +kernel)).trans ?_
  refine (go_iand (m := 100) (pc := 22) (by decide +kernel)).trans ?_
  exact go_retI (m := 100) (pc := 23) (by decide +kernel) rfl
theorem Law_cell_E (p0 : Nat) (p1 : Int32) (w : Wd) (I : MI) (L : ML) (P : MP) : call 100 [.ref p0, .int p1] w I L P = go 100 0 [.ref p0, .int p1] [] w I L P := rfl
theorem Law_cell_E1 (p1 : Int32) (w : Wd) (I : MI) (L : ML) (P : MP) : call 100 [.null, .int p1] w I L P = go 100 0 [.null, .int p1] [] w I L P := rfl
theorem Law_begin_0_ret (a_l0 : Nat) (x_l1 : Int32) (l2 : Value) (w : Wd) (I : MI) (L : ML) (P : MP) (v : Option Value) (w1 : Wd) (I1 : MI) (L1 : ML) (P1 : MP) (h0 : w.1 a_l0 = some (6, 0)) (hc : call 80 [.ref a_l0, .int x_l1] w I L P = some (.inl v, w1, I1, L1, P1)) : go 120 0 [.ref a_l0, .int x_l1, l2] [] w I L P = go 120 5 [.ref a_l0, .int x_l1, l2] (v.toList ++ []) w1 I1 L1 P1 := by
  refine (go_aload_n (m := 120) (pc := 0) (k := 0) (by decide +kernel) rfl).trans ?_
  refine (go_iload_n (m := 120) (pc := 1) (k := 1) (by decide +kernel) rfl).trans ?_
  exact go_virH (m := 120) (pc := 2) (o := 8) (x := 9) (y := 80) (kd := 0) (b := a_l0) (bs := [.int x_l1]) (rs := []) (by decide +kernel) rfl c_8_9 (Or.inl rfl) rfl rfl rfl (by decide +kernel) (by simp only [List.length_cons, List.length_nil]; decide) (Nat.le_of_ble_eq_true rfl) h0 hc
theorem Law_begin_0_thr0 (a_l0 : Nat) (x_l1 : Int32) (l2 : Value) (w : Wd) (I : MI) (L : ML) (P : MP) (w1 : Wd) (I1 : MI) (L1 : ML) (P1 : MP) (h0 : w.1 a_l0 = some (6, 0)) (hc : call 80 [.ref a_l0, .int x_l1] w I L P = some (.inr 0, w1, I1, L1, P1)) : go 120 0 [.ref a_l0, .int x_l1, l2] [] w I L P = go 120 7 [.ref a_l0, .int x_l1, unk] [] w1 I1 L1 P1 := by
  refine (go_aload_n (m := 120) (pc := 0) (k := 0) (by decide +kernel) rfl).trans ?_
  refine (go_iload_n (m := 120) (pc := 1) (k := 1) (by decide +kernel) rfl).trans ?_
  exact go_virT (m := 120) (pc := 2) (e := 0) (pc' := 7) (k := 2) (o := 8) (x := 9) (y := 80) (kd := 0) (b := a_l0) (bs := [.int x_l1]) (rs := []) (by decide +kernel) rfl c_8_9 (Or.inl rfl) rfl rfl rfl (by decide +kernel) (by simp only [List.length_cons, List.length_nil]; decide) (Nat.le_of_ble_eq_true rfl) h0 (by decide +kernel) (by decide +kernel) (by simp only [List.length_cons, List.length_nil]; decide) hc
theorem Law_begin_5 (l0 : Value) (l1 : Value) (l2 : Value) (y0 : Int32) (w : Wd) (I : MI) (L : ML) (P : MP)  : go 120 5 [l0, l1, l2] [.int y0] w I L P = some (.inl (some (.int y0)), w, I, L, P) := by
  exact go_retI (m := 120) (pc := 5) (by decide +kernel) rfl
theorem Law_begin_7 (l0 : Value) (l1 : Value) (l2 : Value) (w : Wd) (I : MI) (L : ML) (P : MP)  : go 120 7 [l0, l1, l2] [] w I L P = some (.inl (some (.int (-11))), w, I, L, P) := by
  refine (go_bi (m := 120) (pc := 7) (n := -11) (by decide +kernel) bi_m11).trans ?_
  exact go_retI (m := 120) (pc := 9) (by decide +kernel) rfl
theorem Law_begin_E (p0 : Nat) (p1 : Int32) (w : Wd) (I : MI) (L : ML) (P : MP) : call 120 [.ref p0, .int p1] w I L P = go 120 0 [.ref p0, .int p1, unk] [] w I L P := rfl
theorem Law_begin_E1 (p1 : Int32) (w : Wd) (I : MI) (L : ML) (P : MP) : call 120 [.null, .int p1] w I L P = go 120 0 [.null, .int p1, unk] [] w I L P := rfl
theorem Law_addListener_0_ret (a_l0 : Nat) (x_l1 : Int32) (x_l2 : Int32) (l3 : Value) (w : Wd) (I : MI) (L : ML) (P : MP) (v : Option Value) (w1 : Wd) (I1 : MI) (L1 : ML) (P1 : MP) (h0 : w.1 a_l0 = some (6, 0)) (hc : call 81 [.ref a_l0, .int x_l1, .int x_l2] w I L P = some (.inl v, w1, I1, L1, P1)) : go 121 0 [.ref a_l0, .int x_l1, .int x_l2, l3] [] w I L P = go 121 6 [.ref a_l0, .int x_l1, .int x_l2, l3] (v.toList ++ []) w1 I1 L1 P1 := by
  refine (go_aload_n (m := 121) (pc := 0) (k := 0) (by decide +kernel) rfl).trans ?_
  refine (go_iload_n (m := 121) (pc := 1) (k := 1) (by decide +kernel) rfl).trans ?_
  refine (go_iload_n (m := 121) (pc := 2) (k := 2) (by decide +kernel) rfl).trans ?_
  exact go_virH (m := 121) (pc := 3) (o := 8) (x := 17) (y := 81) (kd := 0) (b := a_l0) (bs := [.int x_l1, .int x_l2]) (rs := []) (by decide +kernel) rfl c_8_17 (Or.inl rfl) rfl rfl rfl (by decide +kernel) (by simp only [List.length_cons, List.length_nil]; decide) (Nat.le_of_ble_eq_true rfl) h0 hc
theorem Law_addListener_0_thr0 (a_l0 : Nat) (x_l1 : Int32) (x_l2 : Int32) (l3 : Value) (w : Wd) (I : MI) (L : ML) (P : MP) (w1 : Wd) (I1 : MI) (L1 : ML) (P1 : MP) (h0 : w.1 a_l0 = some (6, 0)) (hc : call 81 [.ref a_l0, .int x_l1, .int x_l2] w I L P = some (.inr 0, w1, I1, L1, P1)) : go 121 0 [.ref a_l0, .int x_l1, .int x_l2, l3] [] w I L P = go 121 8 [.ref a_l0, .int x_l1, .int x_l2, unk] [] w1 I1 L1 P1 := by
  refine (go_aload_n (m := 121) (pc := 0) (k := 0) (by decide +kernel) rfl).trans ?_
  refine (go_iload_n (m := 121) (pc := 1) (k := 1) (by decide +kernel) rfl).trans ?_
  refine (go_iload_n (m := 121) (pc := 2) (k := 2) (by decide +kernel) rfl).trans ?_
  exact go_virT (m := 121) (pc := 3) (e := 0) (pc' := 8) (k := 3) (o := 8) (x := 17) (y := 81) (kd := 0) (b := a_l0) (bs := [.int x_l1, .int x_l2]) (rs := []) (by decide +kernel) rfl c_8_17 (Or.inl rfl) rfl rfl rfl (by decide +kernel) (by simp only [List.length_cons, List.length_nil]; decide) (Nat.le_of_ble_eq_true rfl) h0 (by decide +kernel) (by decide +kernel) (by simp only [List.length_cons, List.length_nil]; decide) hc
theorem Law_addListener_0_thr1 (a_l0 : Nat) (x_l1 : Int32) (x_l2 : Int32) (l3 : Value) (w : Wd) (I : MI) (L : ML) (P : MP) (w1 : Wd) (I1 : MI) (L1 : ML) (P1 : MP) (h0 : w.1 a_l0 = some (6, 0)) (hc : call 81 [.ref a_l0, .int x_l1, .int x_l2] w I L P = some (.inr 1, w1, I1, L1, P1)) : go 121 0 [.ref a_l0, .int x_l1, .int x_l2, l3] [] w I L P = go 121 12 [.ref a_l0, .int x_l1, .int x_l2, unk] [] w1 I1 L1 P1 := by
  refine (go_aload_n (m := 121) (pc := 0) (k := 0) (by decide +kernel) rfl).trans ?_
  refine (go_iload_n (m := 121) (pc := 1) (k := 1) (by decide +kernel) rfl).trans ?_
  refine (go_iload_n (m := 121) (pc := 2) (k := 2) (by decide +kernel) rfl).trans ?_
  exact go_virT (m := 121) (pc := 3) (e := 1) (pc' := 12) (k := 3) (o := 8) (x := 17) (y := 81) (kd := 0) (b := a_l0) (bs := [.int x_l1, .int x_l2]) (rs := []) (by decide +kernel) rfl c_8_17 (Or.inl rfl) rfl rfl rfl (by decide +kernel) (by simp only [List.length_cons, List.length_nil]; decide) (Nat.le_of_ble_eq_true rfl) h0 (by decide +kernel) (by decide +kernel) (by simp only [List.length_cons, List.length_nil]; decide) hc
theorem Law_addListener_6 (l0 : Value) (l1 : Value) (l2 : Value) (l3 : Value) (y0 : Int32) (w : Wd) (I : MI) (L : ML) (P : MP)  : go 121 6 [l0, l1, l2, l3] [.int y0] w I L P = some (.inl (some (.int y0)), w, I, L, P) := by
  exact go_retI (m := 121) (pc := 6) (by decide +kernel) rfl
theorem Law_addListener_8 (l0 : Value) (l1 : Value) (l2 : Value) (l3 : Value) (w : Wd) (I : MI) (L : ML) (P : MP)  : go 121 8 [l0, l1, l2, l3] [] w I L P = some (.inl (some (.int (-11))), w, I, L, P) := by
  refine (go_bi (m := 121) (pc := 8) (n := -11) (by decide +kernel) bi_m11).trans ?_
  exact go_retI (m := 121) (pc := 10) (by decide +kernel) rfl
theorem Law_addListener_12 (l0 : Value) (l1 : Value) (l2 : Value) (l3 : Value) (w : Wd) (I : MI) (L : ML) (P : MP)  : go 121 12 [l0, l1, l2, l3] [] w I L P = some (.inl (some (.int (-12))), w, I, L, P) := by
  refine (go_bi (m := 121) (pc := 12) (n := -12) (by decide +kernel) bi_m12).trans ?_
  exact go_retI (m := 121) (pc := 14) (by decide +kernel) rfl
theorem Law_addListener_E (p0 : Nat) (p1 : Int32) (p2 : Int32) (w : Wd) (I : MI) (L : ML) (P : MP) : call 121 [.ref p0, .int p1, .int p2] w I L P = go 121 0 [.ref p0, .int p1, .int p2, unk] [] w I L P := rfl
theorem Law_addListener_E1 (p1 : Int32) (p2 : Int32) (w : Wd) (I : MI) (L : ML) (P : MP) : call 121 [.null, .int p1, .int p2] w I L P = go 121 0 [.null, .int p1, .int p2, unk] [] w I L P := rfl
theorem Law_turn_0_ret (a_l0 : Nat) (x_l1 : Int32) (x_l2 : Int32) (l3 : Value) (w : Wd) (I : MI) (L : ML) (P : MP) (v : Option Value) (w1 : Wd) (I1 : MI) (L1 : ML) (P1 : MP) (h0 : w.1 a_l0 = some (6, 0)) (hc : call 82 [.ref a_l0, .int x_l1, .int x_l2] w I L P = some (.inl v, w1, I1, L1, P1)) : go 122 0 [.ref a_l0, .int x_l1, .int x_l2, l3] [] w I L P = go 122 6 [.ref a_l0, .int x_l1, .int x_l2, l3] (v.toList ++ []) w1 I1 L1 P1 := by
  refine (go_aload_n (m := 122) (pc := 0) (k := 0) (by decide +kernel) rfl).trans ?_
  refine (go_iload_n (m := 122) (pc := 1) (k := 1) (by decide +kernel) rfl).trans ?_
  refine (go_iload_n (m := 122) (pc := 2) (k := 2) (by decide +kernel) rfl).trans ?_
  exact go_virH (m := 122) (pc := 3) (o := 8) (x := 23) (y := 82) (kd := 0) (b := a_l0) (bs := [.int x_l1, .int x_l2]) (rs := []) (by decide +kernel) rfl c_8_23 (Or.inl rfl) rfl rfl rfl (by decide +kernel) (by simp only [List.length_cons, List.length_nil]; decide) (Nat.le_of_ble_eq_true rfl) h0 hc
theorem Law_turn_0_thr1 (a_l0 : Nat) (x_l1 : Int32) (x_l2 : Int32) (l3 : Value) (w : Wd) (I : MI) (L : ML) (P : MP) (w1 : Wd) (I1 : MI) (L1 : ML) (P1 : MP) (h0 : w.1 a_l0 = some (6, 0)) (hc : call 82 [.ref a_l0, .int x_l1, .int x_l2] w I L P = some (.inr 1, w1, I1, L1, P1)) : go 122 0 [.ref a_l0, .int x_l1, .int x_l2, l3] [] w I L P = go 122 12 [.ref a_l0, .int x_l1, .int x_l2, unk] [] w1 I1 L1 P1 := by
  refine (go_aload_n (m := 122) (pc := 0) (k := 0) (by decide +kernel) rfl).trans ?_
  refine (go_iload_n (m := 122) (pc := 1) (k := 1) (by decide +kernel) rfl).trans ?_
  refine (go_iload_n (m := 122) (pc := 2) (k := 2) (by decide +kernel) rfl).trans ?_
  exact go_virT (m := 122) (pc := 3) (e := 1) (pc' := 12) (k := 3) (o := 8) (x := 23) (y := 82) (kd := 0) (b := a_l0) (bs := [.int x_l1, .int x_l2]) (rs := []) (by decide +kernel) rfl c_8_23 (Or.inl rfl) rfl rfl rfl (by decide +kernel) (by simp only [List.length_cons, List.length_nil]; decide) (Nat.le_of_ble_eq_true rfl) h0 (by decide +kernel) (by decide +kernel) (by simp only [List.length_cons, List.length_nil]; decide) hc
theorem Law_turn_0_thr2 (a_l0 : Nat) (x_l1 : Int32) (x_l2 : Int32) (l3 : Value) (w : Wd) (I : MI) (L : ML) (P : MP) (w1 : Wd) (I1 : MI) (L1 : ML) (P1 : MP) (h0 : w.1 a_l0 = some (6, 0)) (hc : call 82 [.ref a_l0, .int x_l1, .int x_l2] w I L P = some (.inr 2, w1, I1, L1, P1)) : go 122 0 [.ref a_l0, .int x_l1, .int x_l2, l3] [] w I L P = go 122 8 [.ref a_l0, .int x_l1, .int x_l2, unk] [] w1 I1 L1 P1 := by
  refine (go_aload_n (m := 122) (pc := 0) (k := 0) (by decide +kernel) rfl).trans ?_
  refine (go_iload_n (m := 122) (pc := 1) (k := 1) (by decide +kernel) rfl).trans ?_
  refine (go_iload_n (m := 122) (pc := 2) (k := 2) (by decide +kernel) rfl).trans ?_
  exact go_virT (m := 122) (pc := 3) (e := 2) (pc' := 8) (k := 3) (o := 8) (x := 23) (y := 82) (kd := 0) (b := a_l0) (bs := [.int x_l1, .int x_l2]) (rs := []) (by decide +kernel) rfl c_8_23 (Or.inl rfl) rfl rfl rfl (by decide +kernel) (by simp only [List.length_cons, List.length_nil]; decide) (Nat.le_of_ble_eq_true rfl) h0 (by decide +kernel) (by decide +kernel) (by simp only [List.length_cons, List.length_nil]; decide) hc
theorem Law_turn_6 (l0 : Value) (l1 : Value) (l2 : Value) (l3 : Value) (y0 : Int32) (w : Wd) (I : MI) (L : ML) (P : MP)  : go 122 6 [l0, l1, l2, l3] [.int y0] w I L P = some (.inl (some (.int y0)), w, I, L, P) := by
  exact go_retI (m := 122) (pc := 6) (by decide +kernel) rfl
theorem Law_turn_8 (l0 : Value) (l1 : Value) (l2 : Value) (l3 : Value) (w : Wd) (I : MI) (L : ML) (P : MP)  : go 122 8 [l0, l1, l2, l3] [] w I L P = some (.inl (some (.int (-11))), w, I, L, P) := by
  refine (go_bi (m := 122) (pc := 8) (n := -11) (by decide +kernel) bi_m11).trans ?_
  exact go_retI (m := 122) (pc := 10) (by decide +kernel) rfl
theorem Law_turn_12 (l0 : Value) (l1 : Value) (l2 : Value) (l3 : Value) (w : Wd) (I : MI) (L : ML) (P : MP)  : go 122 12 [l0, l1, l2, l3] [] w I L P = some (.inl (some (.int (-12))), w, I, L, P) := by
  refine (go_bi (m := 122) (pc := 12) (n := -12) (by decide +kernel) bi_m12).trans ?_
  exact go_retI (m := 122) (pc := 14) (by decide +kernel) rfl
theorem Law_turn_E (p0 : Nat) (p1 : Int32) (p2 : Int32) (w : Wd) (I : MI) (L : ML) (P : MP) : call 122 [.ref p0, .int p1, .int p2] w I L P = go 122 0 [.ref p0, .int p1, .int p2, unk] [] w I L P := rfl
theorem Law_turn_E1 (p1 : Int32) (p2 : Int32) (w : Wd) (I : MI) (L : ML) (P : MP) : call 122 [.null, .int p1, .int p2] w I L P = go 122 0 [.null, .int p1, .int p2, unk] [] w I L P := rfl
theorem Law_empty_0_ret (a_l0 : Nat) (x_l1 : Int32) (l2 : Value) (w : Wd) (I : MI) (L : ML) (P : MP) (v : Option Value) (w1 : Wd) (I1 : MI) (L1 : ML) (P1 : MP) (h0 : w.1 a_l0 = some (6, 0)) (hc : call 83 [.ref a_l0, .int x_l1] w I L P = some (.inl v, w1, I1, L1, P1)) : go 123 0 [.ref a_l0, .int x_l1, l2] [] w I L P = go 123 5 [.ref a_l0, .int x_l1, l2] (v.toList ++ []) w1 I1 L1 P1 := by
  refine (go_aload_n (m := 123) (pc := 0) (k := 0) (by decide +kernel) rfl).trans ?_
  refine (go_iload_n (m := 123) (pc := 1) (k := 1) (by decide +kernel) rfl).trans ?_
  exact go_virH (m := 123) (pc := 2) (o := 8) (x := 29) (y := 83) (kd := 0) (b := a_l0) (bs := [.int x_l1]) (rs := []) (by decide +kernel) rfl c_8_29 (Or.inl rfl) rfl rfl rfl (by decide +kernel) (by simp only [List.length_cons, List.length_nil]; decide) (Nat.le_of_ble_eq_true rfl) h0 hc
theorem Law_empty_0_thr2 (a_l0 : Nat) (x_l1 : Int32) (l2 : Value) (w : Wd) (I : MI) (L : ML) (P : MP) (w1 : Wd) (I1 : MI) (L1 : ML) (P1 : MP) (h0 : w.1 a_l0 = some (6, 0)) (hc : call 83 [.ref a_l0, .int x_l1] w I L P = some (.inr 2, w1, I1, L1, P1)) : go 123 0 [.ref a_l0, .int x_l1, l2] [] w I L P = go 123 7 [.ref a_l0, .int x_l1, unk] [] w1 I1 L1 P1 := by
  refine (go_aload_n (m := 123) (pc := 0) (k := 0) (by decide +kernel) rfl).trans ?_
  refine (go_iload_n (m := 123) (pc := 1) (k := 1) (by decide +kernel) rfl).trans ?_
  exact go_virT (m := 123) (pc := 2) (e := 2) (pc' := 7) (k := 2) (o := 8) (x := 29) (y := 83) (kd := 0) (b := a_l0) (bs := [.int x_l1]) (rs := []) (by decide +kernel) rfl c_8_29 (Or.inl rfl) rfl rfl rfl (by decide +kernel) (by simp only [List.length_cons, List.length_nil]; decide) (Nat.le_of_ble_eq_true rfl) h0 (by decide +kernel) (by decide +kernel) (by simp only [List.length_cons, List.length_nil]; decide) hc
theorem Law_empty_5 (l0 : Value) (l1 : Value) (l2 : Value) (y0 : Int32) (w : Wd) (I : MI) (L : ML) (P : MP)  : go 123 5 [l0, l1, l2] [.int y0] w I L P = some (.inl (some (.int y0)), w, I, L, P) := by
  exact go_retI (m := 123) (pc := 5) (by decide +kernel) rfl
theorem Law_empty_7 (l0 : Value) (l1 : Value) (l2 : Value) (w : Wd) (I : MI) (L : ML) (P : MP)  : go 123 7 [l0, l1, l2] [] w I L P = some (.inl (some (.int (-11))), w, I, L, P) := by
  refine (go_bi (m := 123) (pc := 7) (n := -11) (by decide +kernel) bi_m11).trans ?_
  exact go_retI (m := 123) (pc := 9) (by decide +kernel) rfl
theorem Law_empty_E (p0 : Nat) (p1 : Int32) (w : Wd) (I : MI) (L : ML) (P : MP) : call 123 [.ref p0, .int p1] w I L P = go 123 0 [.ref p0, .int p1, unk] [] w I L P := rfl
theorem Law_empty_E1 (p1 : Int32) (w : Wd) (I : MI) (L : ML) (P : MP) : call 123 [.null, .int p1] w I L P = go 123 0 [.null, .int p1, unk] [] w I L P := rfl
theorem Law_setLimit_0_ret (a_l0 : Nat) (x_l1 : Int32) (l2 : Value) (w : Wd) (I : MI) (L : ML) (P : MP) (v : Option Value) (w1 : Wd) (I1 : MI) (L1 : ML) (P1 : MP) (h0 : w.1 a_l0 = some (6, 0)) (hc : call 84 [.ref a_l0, .int x_l1] w I L P = some (.inl v, w1, I1, L1, P1)) : go 124 0 [.ref a_l0, .int x_l1, l2] [] w I L P = go 124 5 [.ref a_l0, .int x_l1, l2] (v.toList ++ []) w1 I1 L1 P1 := by
  refine (go_aload_n (m := 124) (pc := 0) (k := 0) (by decide +kernel) rfl).trans ?_
  refine (go_iload_n (m := 124) (pc := 1) (k := 1) (by decide +kernel) rfl).trans ?_
  exact go_virH (m := 124) (pc := 2) (o := 8) (x := 32) (y := 84) (kd := 0) (b := a_l0) (bs := [.int x_l1]) (rs := []) (by decide +kernel) rfl c_8_32 (Or.inl rfl) rfl rfl rfl (by decide +kernel) (by simp only [List.length_cons, List.length_nil]; decide) (Nat.le_of_ble_eq_true rfl) h0 hc
theorem Law_setLimit_0_thr0 (a_l0 : Nat) (x_l1 : Int32) (l2 : Value) (w : Wd) (I : MI) (L : ML) (P : MP) (w1 : Wd) (I1 : MI) (L1 : ML) (P1 : MP) (h0 : w.1 a_l0 = some (6, 0)) (hc : call 84 [.ref a_l0, .int x_l1] w I L P = some (.inr 0, w1, I1, L1, P1)) : go 124 0 [.ref a_l0, .int x_l1, l2] [] w I L P = go 124 7 [.ref a_l0, .int x_l1, unk] [] w1 I1 L1 P1 := by
  refine (go_aload_n (m := 124) (pc := 0) (k := 0) (by decide +kernel) rfl).trans ?_
  refine (go_iload_n (m := 124) (pc := 1) (k := 1) (by decide +kernel) rfl).trans ?_
  exact go_virT (m := 124) (pc := 2) (e := 0) (pc' := 7) (k := 2) (o := 8) (x := 32) (y := 84) (kd := 0) (b := a_l0) (bs := [.int x_l1]) (rs := []) (by decide +kernel) rfl c_8_32 (Or.inl rfl) rfl rfl rfl (by decide +kernel) (by simp only [List.length_cons, List.length_nil]; decide) (Nat.le_of_ble_eq_true rfl) h0 (by decide +kernel) (by decide +kernel) (by simp only [List.length_cons, List.length_nil]; decide) hc
theorem Law_setLimit_5 (l0 : Value) (l1 : Value) (l2 : Value) (y0 : Int32) (w : Wd) (I : MI) (L : ML) (P : MP)  : go 124 5 [l0, l1, l2] [.int y0] w I L P = some (.inl (some (.int y0)), w, I, L, P) := by
  exact go_retI (m := 124) (pc := 5) (by decide +kernel) rfl
theorem Law_setLimit_7 (l0 : Value) (l1 : Value) (l2 : Value) (w : Wd) (I : MI) (L : ML) (P : MP)  : go 124 7 [l0, l1, l2] [] w I L P = some (.inl (some (.int (-11))), w, I, L, P) := by
  refine (go_bi (m := 124) (pc := 7) (n := -11) (by decide +kernel) bi_m11).trans ?_
  exact go_retI (m := 124) (pc := 9) (by decide +kernel) rfl
theorem Law_setLimit_E (p0 : Nat) (p1 : Int32) (w : Wd) (I : MI) (L : ML) (P : MP) : call 124 [.ref p0, .int p1] w I L P = go 124 0 [.ref p0, .int p1, unk] [] w I L P := rfl
theorem Law_setLimit_E1 (p1 : Int32) (w : Wd) (I : MI) (L : ML) (P : MP) : call 124 [.null, .int p1] w I L P = go 124 0 [.null, .int p1, unk] [] w I L P := rfl
theorem Law_write_0_ret (a_l0 : Nat) (x_l1 : Int32) (x_l2 : Int32) (x_l3 : Int32) (x_l4 : Int64) (l5 : Value) (l6 : Value) (w : Wd) (I : MI) (L : ML) (P : MP) (v : Option Value) (w1 : Wd) (I1 : MI) (L1 : ML) (P1 : MP) (h0 : w.1 a_l0 = some (6, 0)) (hc : call 85 [.ref a_l0, .int x_l1, .int x_l2, .int x_l3, .long x_l4] w I L P = some (.inl v, w1, I1, L1, P1)) : go 125 0 [.ref a_l0, .int x_l1, .int x_l2, .int x_l3, .long x_l4, l5, l6] [] w I L P = go 125 9 [.ref a_l0, .int x_l1, .int x_l2, .int x_l3, .long x_l4, l5, l6] (v.toList ++ []) w1 I1 L1 P1 := by
  refine (go_aload_n (m := 125) (pc := 0) (k := 0) (by decide +kernel) rfl).trans ?_
  refine (go_iload_n (m := 125) (pc := 1) (k := 1) (by decide +kernel) rfl).trans ?_
  refine (go_iload_n (m := 125) (pc := 2) (k := 2) (by decide +kernel) rfl).trans ?_
  refine (go_iload_n (m := 125) (pc := 3) (k := 3) (by decide +kernel) rfl).trans ?_
  refine (go_lload (m := 125) (pc := 4) (k := 4) (by decide +kernel) rfl).trans ?_
  exact go_virH (m := 125) (pc := 6) (o := 8) (x := 35) (y := 85) (kd := 0) (b := a_l0) (bs := [.int x_l1, .int x_l2, .int x_l3, .long x_l4]) (rs := []) (by decide +kernel) rfl c_8_35 (Or.inl rfl) rfl rfl rfl (by decide +kernel) (by simp only [List.length_cons, List.length_nil]; decide) (Nat.le_of_ble_eq_true rfl) h0 hc
theorem Law_write_0_thr0 (a_l0 : Nat) (x_l1 : Int32) (x_l2 : Int32) (x_l3 : Int32) (x_l4 : Int64) (l5 : Value) (l6 : Value) (w : Wd) (I : MI) (L : ML) (P : MP) (w1 : Wd) (I1 : MI) (L1 : ML) (P1 : MP) (h0 : w.1 a_l0 = some (6, 0)) (hc : call 85 [.ref a_l0, .int x_l1, .int x_l2, .int x_l3, .long x_l4] w I L P = some (.inr 0, w1, I1, L1, P1)) : go 125 0 [.ref a_l0, .int x_l1, .int x_l2, .int x_l3, .long x_l4, l5, l6] [] w I L P = go 125 17 [.ref a_l0, .int x_l1, .int x_l2, .int x_l3, .long x_l4, (fix1 l5), unk] [] w1 I1 L1 P1 := by
  refine (go_aload_n (m := 125) (pc := 0) (k := 0) (by decide +kernel) rfl).trans ?_
  refine (go_iload_n (m := 125) (pc := 1) (k := 1) (by decide +kernel) rfl).trans ?_
  refine (go_iload_n (m := 125) (pc := 2) (k := 2) (by decide +kernel) rfl).trans ?_
  refine (go_iload_n (m := 125) (pc := 3) (k := 3) (by decide +kernel) rfl).trans ?_
  refine (go_lload (m := 125) (pc := 4) (k := 4) (by decide +kernel) rfl).trans ?_
  exact go_virT (m := 125) (pc := 6) (e := 0) (pc' := 17) (k := 6) (o := 8) (x := 35) (y := 85) (kd := 0) (b := a_l0) (bs := [.int x_l1, .int x_l2, .int x_l3, .long x_l4]) (rs := []) (by decide +kernel) rfl c_8_35 (Or.inl rfl) rfl rfl rfl (by decide +kernel) (by simp only [List.length_cons, List.length_nil]; decide) (Nat.le_of_ble_eq_true rfl) h0 (by decide +kernel) (by decide +kernel) (by simp only [List.length_cons, List.length_nil]; decide) hc
theorem Law_write_0_thr1 (a_l0 : Nat) (x_l1 : Int32) (x_l2 : Int32) (x_l3 : Int32) (x_l4 : Int64) (l5 : Value) (l6 : Value) (w : Wd) (I : MI) (L : ML) (P : MP) (w1 : Wd) (I1 : MI) (L1 : ML) (P1 : MP) (h0 : w.1 a_l0 = some (6, 0)) (hc : call 85 [.ref a_l0, .int x_l1, .int x_l2, .int x_l3, .long x_l4] w I L P = some (.inr 1, w1, I1, L1, P1)) : go 125 0 [.ref a_l0, .int x_l1, .int x_l2, .int x_l3, .long x_l4, l5, l6] [] w I L P = go 125 22 [.ref a_l0, .int x_l1, .int x_l2, .int x_l3, .long x_l4, (fix1 l5), unk] [] w1 I1 L1 P1 := by
  refine (go_aload_n (m := 125) (pc := 0) (k := 0) (by decide +kernel) rfl).trans ?_
  refine (go_iload_n (m := 125) (pc := 1) (k := 1) (by decide +kernel) rfl).trans ?_
  refine (go_iload_n (m := 125) (pc := 2) (k := 2) (by decide +kernel) rfl).trans ?_
  refine (go_iload_n (m := 125) (pc := 3) (k := 3) (by decide +kernel) rfl).trans ?_
  refine (go_lload (m := 125) (pc := 4) (k := 4) (by decide +kernel) rfl).trans ?_
  exact go_virT (m := 125) (pc := 6) (e := 1) (pc' := 22) (k := 6) (o := 8) (x := 35) (y := 85) (kd := 0) (b := a_l0) (bs := [.int x_l1, .int x_l2, .int x_l3, .long x_l4]) (rs := []) (by decide +kernel) rfl c_8_35 (Or.inl rfl) rfl rfl rfl (by decide +kernel) (by simp only [List.length_cons, List.length_nil]; decide) (Nat.le_of_ble_eq_true rfl) h0 (by decide +kernel) (by decide +kernel) (by simp only [List.length_cons, List.length_nil]; decide) hc
theorem Law_write_0_thr2 (a_l0 : Nat) (x_l1 : Int32) (x_l2 : Int32) (x_l3 : Int32) (x_l4 : Int64) (l5 : Value) (l6 : Value) (w : Wd) (I : MI) (L : ML) (P : MP) (w1 : Wd) (I1 : MI) (L1 : ML) (P1 : MP) (h0 : w.1 a_l0 = some (6, 0)) (hc : call 85 [.ref a_l0, .int x_l1, .int x_l2, .int x_l3, .long x_l4] w I L P = some (.inr 2, w1, I1, L1, P1)) : go 125 0 [.ref a_l0, .int x_l1, .int x_l2, .int x_l3, .long x_l4, l5, l6] [] w I L P = go 125 12 [.ref a_l0, .int x_l1, .int x_l2, .int x_l3, .long x_l4, (fix1 l5), unk] [] w1 I1 L1 P1 := by
  refine (go_aload_n (m := 125) (pc := 0) (k := 0) (by decide +kernel) rfl).trans ?_
  refine (go_iload_n (m := 125) (pc := 1) (k := 1) (by decide +kernel) rfl).trans ?_
  refine (go_iload_n (m := 125) (pc := 2) (k := 2) (by decide +kernel) rfl).trans ?_
  refine (go_iload_n (m := 125) (pc := 3) (k := 3) (by decide +kernel) rfl).trans ?_
  refine (go_lload (m := 125) (pc := 4) (k := 4) (by decide +kernel) rfl).trans ?_
  exact go_virT (m := 125) (pc := 6) (e := 2) (pc' := 12) (k := 6) (o := 8) (x := 35) (y := 85) (kd := 0) (b := a_l0) (bs := [.int x_l1, .int x_l2, .int x_l3, .long x_l4]) (rs := []) (by decide +kernel) rfl c_8_35 (Or.inl rfl) rfl rfl rfl (by decide +kernel) (by simp only [List.length_cons, List.length_nil]; decide) (Nat.le_of_ble_eq_true rfl) h0 (by decide +kernel) (by decide +kernel) (by simp only [List.length_cons, List.length_nil]; decide) hc
theorem Law_write_9 (l0 : Value) (l1 : Value) (l2 : Value) (l3 : Value) (l4 : Value) (l5 : Value) (l6 : Value) (y0 : Int32) (w : Wd) (I : MI) (L : ML) (P : MP)  : go 125 9 [l0, l1, l2, l3, l4, l5, l6] [.int y0] w I L P = some (.inl (some (.int y0)), w, I, L, P) := by
  exact go_retI (m := 125) (pc := 9) (by decide +kernel) rfl
theorem Law_write_12 (l0 : Value) (l1 : Value) (l2 : Value) (l3 : Value) (l4 : Value) (l5 : Value) (l6 : Value) (w : Wd) (I : MI) (L : ML) (P : MP)  : go 125 12 [l0, l1, l2, l3, l4, l5, l6] [] w I L P = some (.inl (some (.int (-11))), w, I, L, P) := by
  refine (go_bi (m := 125) (pc := 12) (n := -11) (by decide +kernel) bi_m11).trans ?_
  exact go_retI (m := 125) (pc := 14) (by decide +kernel) rfl
theorem Law_write_17 (l0 : Value) (l1 : Value) (l2 : Value) (l3 : Value) (l4 : Value) (l5 : Value) (l6 : Value) (w : Wd) (I : MI) (L : ML) (P : MP)  : go 125 17 [l0, l1, l2, l3, l4, l5, l6] [] w I L P = some (.inl (some (.int (-12))), w, I, L, P) := by
  refine (go_bi (m := 125) (pc := 17) (n := -12) (by decide +kernel) bi_m12).trans ?_
  exact go_retI (m := 125) (pc := 19) (by decide +kernel) rfl
theorem Law_write_22 (l0 : Value) (l1 : Value) (l2 : Value) (l3 : Value) (l4 : Value) (l5 : Value) (l6 : Value) (w : Wd) (I : MI) (L : ML) (P : MP)  : go 125 22 [l0, l1, l2, l3, l4, l5, l6] [] w I L P = some (.inl (some (.int (-13))), w, I, L, P) := by
  refine (go_bi (m := 125) (pc := 22) (n := -13) (by decide +kernel) bi_m13).trans ?_
  exact go_retI (m := 125) (pc := 24) (by decide +kernel) rfl
theorem Law_write_E (p0 : Nat) (p1 : Int32) (p2 : Int32) (p3 : Int32) (p4 : Int64) (w : Wd) (I : MI) (L : ML) (P : MP) : call 125 [.ref p0, .int p1, .int p2, .int p3, .long p4] w I L P = go 125 0 [.ref p0, .int p1, .int p2, .int p3, .long p4, unk, unk] [] w I L P := rfl
theorem Law_write_E1 (p1 : Int32) (p2 : Int32) (p3 : Int32) (p4 : Int64) (w : Wd) (I : MI) (L : ML) (P : MP) : call 125 [.null, .int p1, .int p2, .int p3, .long p4] w I L P = go 125 0 [.null, .int p1, .int p2, .int p3, .long p4, unk, unk] [] w I L P := rfl
theorem Law_read_0_ret (a_l0 : Nat) (x_l1 : Int32) (x_l2 : Int32) (x_l3 : Int32) (l4 : Value) (w : Wd) (I : MI) (L : ML) (P : MP) (v : Option Value) (w1 : Wd) (I1 : MI) (L1 : ML) (P1 : MP) (h0 : w.1 a_l0 = some (6, 0)) (hc : call 86 [.ref a_l0, .int x_l1, .int x_l2, .int x_l3] w I L P = some (.inl v, w1, I1, L1, P1)) : go 126 0 [.ref a_l0, .int x_l1, .int x_l2, .int x_l3, l4] [] w I L P = go 126 7 [.ref a_l0, .int x_l1, .int x_l2, .int x_l3, l4] (v.toList ++ []) w1 I1 L1 P1 := by
  refine (go_aload_n (m := 126) (pc := 0) (k := 0) (by decide +kernel) rfl).trans ?_
  refine (go_iload_n (m := 126) (pc := 1) (k := 1) (by decide +kernel) rfl).trans ?_
  refine (go_iload_n (m := 126) (pc := 2) (k := 2) (by decide +kernel) rfl).trans ?_
  refine (go_iload_n (m := 126) (pc := 3) (k := 3) (by decide +kernel) rfl).trans ?_
  exact go_virH (m := 126) (pc := 4) (o := 8) (x := 39) (y := 86) (kd := 0) (b := a_l0) (bs := [.int x_l1, .int x_l2, .int x_l3]) (rs := []) (by decide +kernel) rfl c_8_39 (Or.inl rfl) rfl rfl rfl (by decide +kernel) (by simp only [List.length_cons, List.length_nil]; decide) (Nat.le_of_ble_eq_true rfl) h0 hc
theorem Law_read_0_thr0 (a_l0 : Nat) (x_l1 : Int32) (x_l2 : Int32) (x_l3 : Int32) (l4 : Value) (w : Wd) (I : MI) (L : ML) (P : MP) (w1 : Wd) (I1 : MI) (L1 : ML) (P1 : MP) (h0 : w.1 a_l0 = some (6, 0)) (hc : call 86 [.ref a_l0, .int x_l1, .int x_l2, .int x_l3] w I L P = some (.inr 0, w1, I1, L1, P1)) : go 126 0 [.ref a_l0, .int x_l1, .int x_l2, .int x_l3, l4] [] w I L P = go 126 15 [.ref a_l0, .int x_l1, .int x_l2, .int x_l3, unk] [] w1 I1 L1 P1 := by
  refine (go_aload_n (m := 126) (pc := 0) (k := 0) (by decide +kernel) rfl).trans ?_
  refine (go_iload_n (m := 126) (pc := 1) (k := 1) (by decide +kernel) rfl).trans ?_
  refine (go_iload_n (m := 126) (pc := 2) (k := 2) (by decide +kernel) rfl).trans ?_
  refine (go_iload_n (m := 126) (pc := 3) (k := 3) (by decide +kernel) rfl).trans ?_
  exact go_virT (m := 126) (pc := 4) (e := 0) (pc' := 15) (k := 4) (o := 8) (x := 39) (y := 86) (kd := 0) (b := a_l0) (bs := [.int x_l1, .int x_l2, .int x_l3]) (rs := []) (by decide +kernel) rfl c_8_39 (Or.inl rfl) rfl rfl rfl (by decide +kernel) (by simp only [List.length_cons, List.length_nil]; decide) (Nat.le_of_ble_eq_true rfl) h0 (by decide +kernel) (by decide +kernel) (by simp only [List.length_cons, List.length_nil]; decide) hc
theorem Law_read_0_thr1 (a_l0 : Nat) (x_l1 : Int32) (x_l2 : Int32) (x_l3 : Int32) (l4 : Value) (w : Wd) (I : MI) (L : ML) (P : MP) (w1 : Wd) (I1 : MI) (L1 : ML) (P1 : MP) (h0 : w.1 a_l0 = some (6, 0)) (hc : call 86 [.ref a_l0, .int x_l1, .int x_l2, .int x_l3] w I L P = some (.inr 1, w1, I1, L1, P1)) : go 126 0 [.ref a_l0, .int x_l1, .int x_l2, .int x_l3, l4] [] w I L P = go 126 20 [.ref a_l0, .int x_l1, .int x_l2, .int x_l3, unk] [] w1 I1 L1 P1 := by
  refine (go_aload_n (m := 126) (pc := 0) (k := 0) (by decide +kernel) rfl).trans ?_
  refine (go_iload_n (m := 126) (pc := 1) (k := 1) (by decide +kernel) rfl).trans ?_
  refine (go_iload_n (m := 126) (pc := 2) (k := 2) (by decide +kernel) rfl).trans ?_
  refine (go_iload_n (m := 126) (pc := 3) (k := 3) (by decide +kernel) rfl).trans ?_
  exact go_virT (m := 126) (pc := 4) (e := 1) (pc' := 20) (k := 4) (o := 8) (x := 39) (y := 86) (kd := 0) (b := a_l0) (bs := [.int x_l1, .int x_l2, .int x_l3]) (rs := []) (by decide +kernel) rfl c_8_39 (Or.inl rfl) rfl rfl rfl (by decide +kernel) (by simp only [List.length_cons, List.length_nil]; decide) (Nat.le_of_ble_eq_true rfl) h0 (by decide +kernel) (by decide +kernel) (by simp only [List.length_cons, List.length_nil]; decide) hc
theorem Law_read_0_thr2 (a_l0 : Nat) (x_l1 : Int32) (x_l2 : Int32) (x_l3 : Int32) (l4 : Value) (w : Wd) (I : MI) (L : ML) (P : MP) (w1 : Wd) (I1 : MI) (L1 : ML) (P1 : MP) (h0 : w.1 a_l0 = some (6, 0)) (hc : call 86 [.ref a_l0, .int x_l1, .int x_l2, .int x_l3] w I L P = some (.inr 2, w1, I1, L1, P1)) : go 126 0 [.ref a_l0, .int x_l1, .int x_l2, .int x_l3, l4] [] w I L P = go 126 10 [.ref a_l0, .int x_l1, .int x_l2, .int x_l3, unk] [] w1 I1 L1 P1 := by
  refine (go_aload_n (m := 126) (pc := 0) (k := 0) (by decide +kernel) rfl).trans ?_
  refine (go_iload_n (m := 126) (pc := 1) (k := 1) (by decide +kernel) rfl).trans ?_
  refine (go_iload_n (m := 126) (pc := 2) (k := 2) (by decide +kernel) rfl).trans ?_
  refine (go_iload_n (m := 126) (pc := 3) (k := 3) (by decide +kernel) rfl).trans ?_
  exact go_virT (m := 126) (pc := 4) (e := 2) (pc' := 10) (k := 4) (o := 8) (x := 39) (y := 86) (kd := 0) (b := a_l0) (bs := [.int x_l1, .int x_l2, .int x_l3]) (rs := []) (by decide +kernel) rfl c_8_39 (Or.inl rfl) rfl rfl rfl (by decide +kernel) (by simp only [List.length_cons, List.length_nil]; decide) (Nat.le_of_ble_eq_true rfl) h0 (by decide +kernel) (by decide +kernel) (by simp only [List.length_cons, List.length_nil]; decide) hc
theorem Law_read_7 (l0 : Value) (l1 : Value) (l2 : Value) (l3 : Value) (l4 : Value) (y0 : Int32) (w : Wd) (I : MI) (L : ML) (P : MP)  : go 126 7 [l0, l1, l2, l3, l4] [.int y0] w I L P = some (.inl (some (.int y0)), w, I, L, P) := by
  exact go_retI (m := 126) (pc := 7) (by decide +kernel) rfl
theorem Law_read_10 (l0 : Value) (l1 : Value) (l2 : Value) (l3 : Value) (l4 : Value) (w : Wd) (I : MI) (L : ML) (P : MP)  : go 126 10 [l0, l1, l2, l3, l4] [] w I L P = some (.inl (some (.int (-11))), w, I, L, P) := by
  refine (go_bi (m := 126) (pc := 10) (n := -11) (by decide +kernel) bi_m11).trans ?_
  exact go_retI (m := 126) (pc := 12) (by decide +kernel) rfl
theorem Law_read_15 (l0 : Value) (l1 : Value) (l2 : Value) (l3 : Value) (l4 : Value) (w : Wd) (I : MI) (L : ML) (P : MP)  : go 126 15 [l0, l1, l2, l3, l4] [] w I L P = some (.inl (some (.int (-12))), w, I, L, P) := by
  refine (go_bi (m := 126) (pc := 15) (n := -12) (by decide +kernel) bi_m12).trans ?_
  exact go_retI (m := 126) (pc := 17) (by decide +kernel) rfl
theorem Law_read_20 (l0 : Value) (l1 : Value) (l2 : Value) (l3 : Value) (l4 : Value) (w : Wd) (I : MI) (L : ML) (P : MP)  : go 126 20 [l0, l1, l2, l3, l4] [] w I L P = some (.inl (some (.int (-13))), w, I, L, P) := by
  refine (go_bi (m := 126) (pc := 20) (n := -13) (by decide +kernel) bi_m13).trans ?_
  exact go_retI (m := 126) (pc := 22) (by decide +kernel) rfl
theorem Law_read_E (p0 : Nat) (p1 : Int32) (p2 : Int32) (p3 : Int32) (w : Wd) (I : MI) (L : ML) (P : MP) : call 126 [.ref p0, .int p1, .int p2, .int p3] w I L P = go 126 0 [.ref p0, .int p1, .int p2, .int p3, unk] [] w I L P := rfl
theorem Law_read_E1 (p1 : Int32) (p2 : Int32) (p3 : Int32) (w : Wd) (I : MI) (L : ML) (P : MP) : call 126 [.null, .int p1, .int p2, .int p3] w I L P = go 126 0 [.null, .int p1, .int p2, .int p3, unk] [] w I L P := rfl
theorem Law_cancel_0_ret (a_l0 : Nat) (x_l1 : Int32) (l2 : Value) (w : Wd) (I : MI) (L : ML) (P : MP) (v : Option Value) (w1 : Wd) (I1 : MI) (L1 : ML) (P1 : MP) (h0 : w.1 a_l0 = some (6, 0)) (hc : call 87 [.ref a_l0, .int x_l1] w I L P = some (.inl v, w1, I1, L1, P1)) : go 127 0 [.ref a_l0, .int x_l1, l2] [] w I L P = go 127 5 [.ref a_l0, .int x_l1, l2] (v.toList ++ []) w1 I1 L1 P1 := by
  refine (go_aload_n (m := 127) (pc := 0) (k := 0) (by decide +kernel) rfl).trans ?_
  refine (go_iload_n (m := 127) (pc := 1) (k := 1) (by decide +kernel) rfl).trans ?_
  exact go_virH (m := 127) (pc := 2) (o := 8) (x := 43) (y := 87) (kd := 0) (b := a_l0) (bs := [.int x_l1]) (rs := []) (by decide +kernel) rfl c_8_43 (Or.inl rfl) rfl rfl rfl (by decide +kernel) (by simp only [List.length_cons, List.length_nil]; decide) (Nat.le_of_ble_eq_true rfl) h0 hc
theorem Law_cancel_0_thr1 (a_l0 : Nat) (x_l1 : Int32) (l2 : Value) (w : Wd) (I : MI) (L : ML) (P : MP) (w1 : Wd) (I1 : MI) (L1 : ML) (P1 : MP) (h0 : w.1 a_l0 = some (6, 0)) (hc : call 87 [.ref a_l0, .int x_l1] w I L P = some (.inr 1, w1, I1, L1, P1)) : go 127 0 [.ref a_l0, .int x_l1, l2] [] w I L P = go 127 11 [.ref a_l0, .int x_l1, unk] [] w1 I1 L1 P1 := by
  refine (go_aload_n (m := 127) (pc := 0) (k := 0) (by decide +kernel) rfl).trans ?_
  refine (go_iload_n (m := 127) (pc := 1) (k := 1) (by decide +kernel) rfl).trans ?_
  exact go_virT (m := 127) (pc := 2) (e := 1) (pc' := 11) (k := 2) (o := 8) (x := 43) (y := 87) (kd := 0) (b := a_l0) (bs := [.int x_l1]) (rs := []) (by decide +kernel) rfl c_8_43 (Or.inl rfl) rfl rfl rfl (by decide +kernel) (by simp only [List.length_cons, List.length_nil]; decide) (Nat.le_of_ble_eq_true rfl) h0 (by decide +kernel) (by decide +kernel) (by simp only [List.length_cons, List.length_nil]; decide) hc
theorem Law_cancel_0_thr2 (a_l0 : Nat) (x_l1 : Int32) (l2 : Value) (w : Wd) (I : MI) (L : ML) (P : MP) (w1 : Wd) (I1 : MI) (L1 : ML) (P1 : MP) (h0 : w.1 a_l0 = some (6, 0)) (hc : call 87 [.ref a_l0, .int x_l1] w I L P = some (.inr 2, w1, I1, L1, P1)) : go 127 0 [.ref a_l0, .int x_l1, l2] [] w I L P = go 127 7 [.ref a_l0, .int x_l1, unk] [] w1 I1 L1 P1 := by
  refine (go_aload_n (m := 127) (pc := 0) (k := 0) (by decide +kernel) rfl).trans ?_
  refine (go_iload_n (m := 127) (pc := 1) (k := 1) (by decide +kernel) rfl).trans ?_
  exact go_virT (m := 127) (pc := 2) (e := 2) (pc' := 7) (k := 2) (o := 8) (x := 43) (y := 87) (kd := 0) (b := a_l0) (bs := [.int x_l1]) (rs := []) (by decide +kernel) rfl c_8_43 (Or.inl rfl) rfl rfl rfl (by decide +kernel) (by simp only [List.length_cons, List.length_nil]; decide) (Nat.le_of_ble_eq_true rfl) h0 (by decide +kernel) (by decide +kernel) (by simp only [List.length_cons, List.length_nil]; decide) hc
theorem Law_cancel_5 (l0 : Value) (l1 : Value) (l2 : Value) (y0 : Int32) (w : Wd) (I : MI) (L : ML) (P : MP)  : go 127 5 [l0, l1, l2] [.int y0] w I L P = some (.inl (some (.int y0)), w, I, L, P) := by
  exact go_retI (m := 127) (pc := 5) (by decide +kernel) rfl
theorem Law_cancel_7 (l0 : Value) (l1 : Value) (l2 : Value) (w : Wd) (I : MI) (L : ML) (P : MP)  : go 127 7 [l0, l1, l2] [] w I L P = some (.inl (some (.int (-11))), w, I, L, P) := by
  refine (go_bi (m := 127) (pc := 7) (n := -11) (by decide +kernel) bi_m11).trans ?_
  exact go_retI (m := 127) (pc := 9) (by decide +kernel) rfl
theorem Law_cancel_11 (l0 : Value) (l1 : Value) (l2 : Value) (w : Wd) (I : MI) (L : ML) (P : MP)  : go 127 11 [l0, l1, l2] [] w I L P = some (.inl (some (.int (-12))), w, I, L, P) := by
  refine (go_bi (m := 127) (pc := 11) (n := -12) (by decide +kernel) bi_m12).trans ?_
  exact go_retI (m := 127) (pc := 13) (by decide +kernel) rfl
theorem Law_cancel_E (p0 : Nat) (p1 : Int32) (w : Wd) (I : MI) (L : ML) (P : MP) : call 127 [.ref p0, .int p1] w I L P = go 127 0 [.ref p0, .int p1, unk] [] w I L P := rfl
theorem Law_cancel_E1 (p1 : Int32) (w : Wd) (I : MI) (L : ML) (P : MP) : call 127 [.null, .int p1] w I L P = go 127 0 [.null, .int p1, unk] [] w I L P := rfl
theorem Law_pass_0_ret (a_l0 : Nat) (x_l1 : Int32) (l2 : Value) (w : Wd) (I : MI) (L : ML) (P : MP) (v : Option Value) (w1 : Wd) (I1 : MI) (L1 : ML) (P1 : MP) (h0 : w.1 a_l0 = some (6, 0)) (hc : call 88 [.ref a_l0, .int x_l1] w I L P = some (.inl v, w1, I1, L1, P1)) : go 128 0 [.ref a_l0, .int x_l1, l2] [] w I L P = go 128 5 [.ref a_l0, .int x_l1, l2] (v.toList ++ []) w1 I1 L1 P1 := by
  refine (go_aload_n (m := 128) (pc := 0) (k := 0) (by decide +kernel) rfl).trans ?_
  refine (go_iload_n (m := 128) (pc := 1) (k := 1) (by decide +kernel) rfl).trans ?_
  exact go_virH (m := 128) (pc := 2) (o := 8) (x := 46) (y := 88) (kd := 0) (b := a_l0) (bs := [.int x_l1]) (rs := []) (by decide +kernel) rfl c_8_46 (Or.inl rfl) rfl rfl rfl (by decide +kernel) (by simp only [List.length_cons, List.length_nil]; decide) (Nat.le_of_ble_eq_true rfl) h0 hc
theorem Law_pass_0_thr0 (a_l0 : Nat) (x_l1 : Int32) (l2 : Value) (w : Wd) (I : MI) (L : ML) (P : MP) (w1 : Wd) (I1 : MI) (L1 : ML) (P1 : MP) (h0 : w.1 a_l0 = some (6, 0)) (hc : call 88 [.ref a_l0, .int x_l1] w I L P = some (.inr 0, w1, I1, L1, P1)) : go 128 0 [.ref a_l0, .int x_l1, l2] [] w I L P = go 128 7 [.ref a_l0, .int x_l1, unk] [] w1 I1 L1 P1 := by
  refine (go_aload_n (m := 128) (pc := 0) (k := 0) (by decide +kernel) rfl).trans ?_
  refine (go_iload_n (m := 128) (pc := 1) (k := 1) (by decide +kernel) rfl).trans ?_
  exact go_virT (m := 128) (pc := 2) (e := 0) (pc' := 7) (k := 2) (o := 8) (x := 46) (y := 88) (kd := 0) (b := a_l0) (bs := [.int x_l1]) (rs := []) (by decide +kernel) rfl c_8_46 (Or.inl rfl) rfl rfl rfl (by decide +kernel) (by simp only [List.length_cons, List.length_nil]; decide) (Nat.le_of_ble_eq_true rfl) h0 (by decide +kernel) (by decide +kernel) (by simp only [List.length_cons, List.length_nil]; decide) hc
theorem Law_pass_5 (l0 : Value) (l1 : Value) (l2 : Value) (y0 : Int32) (w : Wd) (I : MI) (L : ML) (P : MP)  : go 128 5 [l0, l1, l2] [.int y0] w I L P = some (.inl (some (.int y0)), w, I, L, P) := by
  exact go_retI (m := 128) (pc := 5) (by decide +kernel) rfl
theorem Law_pass_7 (l0 : Value) (l1 : Value) (l2 : Value) (w : Wd) (I : MI) (L : ML) (P : MP)  : go 128 7 [l0, l1, l2] [] w I L P = some (.inl (some (.int (-11))), w, I, L, P) := by
  refine (go_bi (m := 128) (pc := 7) (n := -11) (by decide +kernel) bi_m11).trans ?_
  exact go_retI (m := 128) (pc := 9) (by decide +kernel) rfl
theorem Law_pass_E (p0 : Nat) (p1 : Int32) (w : Wd) (I : MI) (L : ML) (P : MP) : call 128 [.ref p0, .int p1] w I L P = go 128 0 [.ref p0, .int p1, unk] [] w I L P := rfl
theorem Law_pass_E1 (p1 : Int32) (w : Wd) (I : MI) (L : ML) (P : MP) : call 128 [.null, .int p1] w I L P = go 128 0 [.null, .int p1, unk] [] w I L P := rfl
theorem Law_caller_0_ret (a_l0 : Nat) (x_l1 : Int32) (x_l2 : Int32) (l3 : Value) (w : Wd) (I : MI) (L : ML) (P : MP) (v : Option Value) (w1 : Wd) (I1 : MI) (L1 : ML) (P1 : MP) (h0 : w.1 a_l0 = some (6, 0)) (hc : call 90 [.ref a_l0, .int x_l1, .int x_l2] w I L P = some (.inl v, w1, I1, L1, P1)) : go 129 0 [.ref a_l0, .int x_l1, .int x_l2, l3] [] w I L P = go 129 6 [.ref a_l0, .int x_l1, .int x_l2, l3] (v.toList ++ []) w1 I1 L1 P1 := by
  refine (go_aload_n (m := 129) (pc := 0) (k := 0) (by decide +kernel) rfl).trans ?_
  refine (go_iload_n (m := 129) (pc := 1) (k := 1) (by decide +kernel) rfl).trans ?_
  refine (go_iload_n (m := 129) (pc := 2) (k := 2) (by decide +kernel) rfl).trans ?_
  exact go_virH (m := 129) (pc := 3) (o := 8) (x := 49) (y := 90) (kd := 0) (b := a_l0) (bs := [.int x_l1, .int x_l2]) (rs := []) (by decide +kernel) rfl c_8_49 (Or.inl rfl) rfl rfl rfl (by decide +kernel) (by simp only [List.length_cons, List.length_nil]; decide) (Nat.le_of_ble_eq_true rfl) h0 hc
theorem Law_caller_0_thr0 (a_l0 : Nat) (x_l1 : Int32) (x_l2 : Int32) (l3 : Value) (w : Wd) (I : MI) (L : ML) (P : MP) (w1 : Wd) (I1 : MI) (L1 : ML) (P1 : MP) (h0 : w.1 a_l0 = some (6, 0)) (hc : call 90 [.ref a_l0, .int x_l1, .int x_l2] w I L P = some (.inr 0, w1, I1, L1, P1)) : go 129 0 [.ref a_l0, .int x_l1, .int x_l2, l3] [] w I L P = go 129 12 [.ref a_l0, .int x_l1, .int x_l2, unk] [] w1 I1 L1 P1 := by
  refine (go_aload_n (m := 129) (pc := 0) (k := 0) (by decide +kernel) rfl).trans ?_
  refine (go_iload_n (m := 129) (pc := 1) (k := 1) (by decide +kernel) rfl).trans ?_
  refine (go_iload_n (m := 129) (pc := 2) (k := 2) (by decide +kernel) rfl).trans ?_
  exact go_virT (m := 129) (pc := 3) (e := 0) (pc' := 12) (k := 3) (o := 8) (x := 49) (y := 90) (kd := 0) (b := a_l0) (bs := [.int x_l1, .int x_l2]) (rs := []) (by decide +kernel) rfl c_8_49 (Or.inl rfl) rfl rfl rfl (by decide +kernel) (by simp only [List.length_cons, List.length_nil]; decide) (Nat.le_of_ble_eq_true rfl) h0 (by decide +kernel) (by decide +kernel) (by simp only [List.length_cons, List.length_nil]; decide) hc
theorem Law_caller_0_thr2 (a_l0 : Nat) (x_l1 : Int32) (x_l2 : Int32) (l3 : Value) (w : Wd) (I : MI) (L : ML) (P : MP) (w1 : Wd) (I1 : MI) (L1 : ML) (P1 : MP) (h0 : w.1 a_l0 = some (6, 0)) (hc : call 90 [.ref a_l0, .int x_l1, .int x_l2] w I L P = some (.inr 2, w1, I1, L1, P1)) : go 129 0 [.ref a_l0, .int x_l1, .int x_l2, l3] [] w I L P = go 129 8 [.ref a_l0, .int x_l1, .int x_l2, unk] [] w1 I1 L1 P1 := by
  refine (go_aload_n (m := 129) (pc := 0) (k := 0) (by decide +kernel) rfl).trans ?_
  refine (go_iload_n (m := 129) (pc := 1) (k := 1) (by decide +kernel) rfl).trans ?_
  refine (go_iload_n (m := 129) (pc := 2) (k := 2) (by decide +kernel) rfl).trans ?_
  exact go_virT (m := 129) (pc := 3) (e := 2) (pc' := 8) (k := 3) (o := 8) (x := 49) (y := 90) (kd := 0) (b := a_l0) (bs := [.int x_l1, .int x_l2]) (rs := []) (by decide +kernel) rfl c_8_49 (Or.inl rfl) rfl rfl rfl (by decide +kernel) (by simp only [List.length_cons, List.length_nil]; decide) (Nat.le_of_ble_eq_true rfl) h0 (by decide +kernel) (by decide +kernel) (by simp only [List.length_cons, List.length_nil]; decide) hc
theorem Law_caller_6 (l0 : Value) (l1 : Value) (l2 : Value) (l3 : Value) (y0 : Int32) (w : Wd) (I : MI) (L : ML) (P : MP)  : go 129 6 [l0, l1, l2, l3] [.int y0] w I L P = some (.inl (some (.int y0)), w, I, L, P) := by
  exact go_retI (m := 129) (pc := 6) (by decide +kernel) rfl
theorem Law_caller_8 (l0 : Value) (l1 : Value) (l2 : Value) (l3 : Value) (w : Wd) (I : MI) (L : ML) (P : MP)  : go 129 8 [l0, l1, l2, l3] [] w I L P = some (.inl (some (.int (-11))), w, I, L, P) := by
  refine (go_bi (m := 129) (pc := 8) (n := -11) (by decide +kernel) bi_m11).trans ?_
  exact go_retI (m := 129) (pc := 10) (by decide +kernel) rfl
theorem Law_caller_12 (l0 : Value) (l1 : Value) (l2 : Value) (l3 : Value) (w : Wd) (I : MI) (L : ML) (P : MP)  : go 129 12 [l0, l1, l2, l3] [] w I L P = some (.inl (some (.int (-12))), w, I, L, P) := by
  refine (go_bi (m := 129) (pc := 12) (n := -12) (by decide +kernel) bi_m12).trans ?_
  exact go_retI (m := 129) (pc := 14) (by decide +kernel) rfl
theorem Law_caller_E (p0 : Nat) (p1 : Int32) (p2 : Int32) (w : Wd) (I : MI) (L : ML) (P : MP) : call 129 [.ref p0, .int p1, .int p2] w I L P = go 129 0 [.ref p0, .int p1, .int p2, unk] [] w I L P := rfl
theorem Law_caller_E1 (p1 : Int32) (p2 : Int32) (w : Wd) (I : MI) (L : ML) (P : MP) : call 129 [.null, .int p1, .int p2] w I L P = go 129 0 [.null, .int p1, .int p2, unk] [] w I L P := rfl
theorem Law_message_0_ret (a_l0 : Nat) (x_l1 : Int32) (x_l2 : Int32) (x_l3 : Int32) (l4 : Value) (w : Wd) (I : MI) (L : ML) (P : MP) (v : Option Value) (w1 : Wd) (I1 : MI) (L1 : ML) (P1 : MP) (h0 : w.1 a_l0 = some (6, 0)) (hc : call 91 [.ref a_l0, .int x_l1, .int x_l2, .int x_l3] w I L P = some (.inl v, w1, I1, L1, P1)) : go 130 0 [.ref a_l0, .int x_l1, .int x_l2, .int x_l3, l4] [] w I L P = go 130 7 [.ref a_l0, .int x_l1, .int x_l2, .int x_l3, l4] (v.toList ++ []) w1 I1 L1 P1 := by
  refine (go_aload_n (m := 130) (pc := 0) (k := 0) (by decide +kernel) rfl).trans ?_
  refine (go_iload_n (m := 130) (pc := 1) (k := 1) (by decide +kernel) rfl).trans ?_
  refine (go_iload_n (m := 130) (pc := 2) (k := 2) (by decide +kernel) rfl).trans ?_
  refine (go_iload_n (m := 130) (pc := 3) (k := 3) (by decide +kernel) rfl).trans ?_
  exact go_virH (m := 130) (pc := 4) (o := 8) (x := 52) (y := 91) (kd := 0) (b := a_l0) (bs := [.int x_l1, .int x_l2, .int x_l3]) (rs := []) (by decide +kernel) rfl c_8_52 (Or.inl rfl) rfl rfl rfl (by decide +kernel) (by simp only [List.length_cons, List.length_nil]; decide) (Nat.le_of_ble_eq_true rfl) h0 hc
theorem Law_message_0_thr0 (a_l0 : Nat) (x_l1 : Int32) (x_l2 : Int32) (x_l3 : Int32) (l4 : Value) (w : Wd) (I : MI) (L : ML) (P : MP) (w1 : Wd) (I1 : MI) (L1 : ML) (P1 : MP) (h0 : w.1 a_l0 = some (6, 0)) (hc : call 91 [.ref a_l0, .int x_l1, .int x_l2, .int x_l3] w I L P = some (.inr 0, w1, I1, L1, P1)) : go 130 0 [.ref a_l0, .int x_l1, .int x_l2, .int x_l3, l4] [] w I L P = go 130 15 [.ref a_l0, .int x_l1, .int x_l2, .int x_l3, unk] [] w1 I1 L1 P1 := by
  refine (go_aload_n (m := 130) (pc := 0) (k := 0) (by decide +kernel) rfl).trans ?_
  refine (go_iload_n (m := 130) (pc := 1) (k := 1) (by decide +kernel) rfl).trans ?_
  refine (go_iload_n (m := 130) (pc := 2) (k := 2) (by decide +kernel) rfl).trans ?_
  refine (go_iload_n (m := 130) (pc := 3) (k := 3) (by decide +kernel) rfl).trans ?_
  exact go_virT (m := 130) (pc := 4) (e := 0) (pc' := 15) (k := 4) (o := 8) (x := 52) (y := 91) (kd := 0) (b := a_l0) (bs := [.int x_l1, .int x_l2, .int x_l3]) (rs := []) (by decide +kernel) rfl c_8_52 (Or.inl rfl) rfl rfl rfl (by decide +kernel) (by simp only [List.length_cons, List.length_nil]; decide) (Nat.le_of_ble_eq_true rfl) h0 (by decide +kernel) (by decide +kernel) (by simp only [List.length_cons, List.length_nil]; decide) hc
theorem Law_message_0_thr2 (a_l0 : Nat) (x_l1 : Int32) (x_l2 : Int32) (x_l3 : Int32) (l4 : Value) (w : Wd) (I : MI) (L : ML) (P : MP) (w1 : Wd) (I1 : MI) (L1 : ML) (P1 : MP) (h0 : w.1 a_l0 = some (6, 0)) (hc : call 91 [.ref a_l0, .int x_l1, .int x_l2, .int x_l3] w I L P = some (.inr 2, w1, I1, L1, P1)) : go 130 0 [.ref a_l0, .int x_l1, .int x_l2, .int x_l3, l4] [] w I L P = go 130 10 [.ref a_l0, .int x_l1, .int x_l2, .int x_l3, unk] [] w1 I1 L1 P1 := by
  refine (go_aload_n (m := 130) (pc := 0) (k := 0) (by decide +kernel) rfl).trans ?_
  refine (go_iload_n (m := 130) (pc := 1) (k := 1) (by decide +kernel) rfl).trans ?_
  refine (go_iload_n (m := 130) (pc := 2) (k := 2) (by decide +kernel) rfl).trans ?_
  refine (go_iload_n (m := 130) (pc := 3) (k := 3) (by decide +kernel) rfl).trans ?_
  exact go_virT (m := 130) (pc := 4) (e := 2) (pc' := 10) (k := 4) (o := 8) (x := 52) (y := 91) (kd := 0) (b := a_l0) (bs := [.int x_l1, .int x_l2, .int x_l3]) (rs := []) (by decide +kernel) rfl c_8_52 (Or.inl rfl) rfl rfl rfl (by decide +kernel) (by simp only [List.length_cons, List.length_nil]; decide) (Nat.le_of_ble_eq_true rfl) h0 (by decide +kernel) (by decide +kernel) (by simp only [List.length_cons, List.length_nil]; decide) hc
theorem Law_message_7 (l0 : Value) (l1 : Value) (l2 : Value) (l3 : Value) (l4 : Value) (y0 : Int32) (w : Wd) (I : MI) (L : ML) (P : MP)  : go 130 7 [l0, l1, l2, l3, l4] [.int y0] w I L P = some (.inl (some (.int y0)), w, I, L, P) := by
  exact go_retI (m := 130) (pc := 7) (by decide +kernel) rfl
theorem Law_message_10 (l0 : Value) (l1 : Value) (l2 : Value) (l3 : Value) (l4 : Value) (w : Wd) (I : MI) (L : ML) (P : MP)  : go 130 10 [l0, l1, l2, l3, l4] [] w I L P = some (.inl (some (.int (-11))), w, I, L, P) := by
  refine (go_bi (m := 130) (pc := 10) (n := -11) (by decide +kernel) bi_m11).trans ?_
  exact go_retI (m := 130) (pc := 12) (by decide +kernel) rfl
theorem Law_message_15 (l0 : Value) (l1 : Value) (l2 : Value) (l3 : Value) (l4 : Value) (w : Wd) (I : MI) (L : ML) (P : MP)  : go 130 15 [l0, l1, l2, l3, l4] [] w I L P = some (.inl (some (.int (-12))), w, I, L, P) := by
  refine (go_bi (m := 130) (pc := 15) (n := -12) (by decide +kernel) bi_m12).trans ?_
  exact go_retI (m := 130) (pc := 17) (by decide +kernel) rfl
theorem Law_message_E (p0 : Nat) (p1 : Int32) (p2 : Int32) (p3 : Int32) (w : Wd) (I : MI) (L : ML) (P : MP) : call 130 [.ref p0, .int p1, .int p2, .int p3] w I L P = go 130 0 [.ref p0, .int p1, .int p2, .int p3, unk] [] w I L P := rfl
theorem Law_message_E1 (p1 : Int32) (p2 : Int32) (p3 : Int32) (w : Wd) (I : MI) (L : ML) (P : MP) : call 130 [.null, .int p1, .int p2, .int p3] w I L P = go 130 0 [.null, .int p1, .int p2, .int p3, unk] [] w I L P := rfl
theorem Law_listener_0_ret (a_l0 : Nat) (x_l1 : Int32) (x_l2 : Int32) (l3 : Value) (w : Wd) (I : MI) (L : ML) (P : MP) (v : Option Value) (w1 : Wd) (I1 : MI) (L1 : ML) (P1 : MP) (h0 : w.1 a_l0 = some (6, 0)) (hc : call 92 [.ref a_l0, .int x_l1, .int x_l2] w I L P = some (.inl v, w1, I1, L1, P1)) : go 131 0 [.ref a_l0, .int x_l1, .int x_l2, l3] [] w I L P = go 131 6 [.ref a_l0, .int x_l1, .int x_l2, l3] (v.toList ++ []) w1 I1 L1 P1 := by
  refine (go_aload_n (m := 131) (pc := 0) (k := 0) (by decide +kernel) rfl).trans ?_
  refine (go_iload_n (m := 131) (pc := 1) (k := 1) (by decide +kernel) rfl).trans ?_
  refine (go_iload_n (m := 131) (pc := 2) (k := 2) (by decide +kernel) rfl).trans ?_
  exact go_virH (m := 131) (pc := 3) (o := 8) (x := 55) (y := 92) (kd := 0) (b := a_l0) (bs := [.int x_l1, .int x_l2]) (rs := []) (by decide +kernel) rfl c_8_55 (Or.inl rfl) rfl rfl rfl (by decide +kernel) (by simp only [List.length_cons, List.length_nil]; decide) (Nat.le_of_ble_eq_true rfl) h0 hc
theorem Law_listener_0_thr0 (a_l0 : Nat) (x_l1 : Int32) (x_l2 : Int32) (l3 : Value) (w : Wd) (I : MI) (L : ML) (P : MP) (w1 : Wd) (I1 : MI) (L1 : ML) (P1 : MP) (h0 : w.1 a_l0 = some (6, 0)) (hc : call 92 [.ref a_l0, .int x_l1, .int x_l2] w I L P = some (.inr 0, w1, I1, L1, P1)) : go 131 0 [.ref a_l0, .int x_l1, .int x_l2, l3] [] w I L P = go 131 12 [.ref a_l0, .int x_l1, .int x_l2, unk] [] w1 I1 L1 P1 := by
  refine (go_aload_n (m := 131) (pc := 0) (k := 0) (by decide +kernel) rfl).trans ?_
  refine (go_iload_n (m := 131) (pc := 1) (k := 1) (by decide +kernel) rfl).trans ?_
  refine (go_iload_n (m := 131) (pc := 2) (k := 2) (by decide +kernel) rfl).trans ?_
  exact go_virT (m := 131) (pc := 3) (e := 0) (pc' := 12) (k := 3) (o := 8) (x := 55) (y := 92) (kd := 0) (b := a_l0) (bs := [.int x_l1, .int x_l2]) (rs := []) (by decide +kernel) rfl c_8_55 (Or.inl rfl) rfl rfl rfl (by decide +kernel) (by simp only [List.length_cons, List.length_nil]; decide) (Nat.le_of_ble_eq_true rfl) h0 (by decide +kernel) (by decide +kernel) (by simp only [List.length_cons, List.length_nil]; decide) hc
theorem Law_listener_0_thr2 (a_l0 : Nat) (x_l1 : Int32) (x_l2 : Int32) (l3 : Value) (w : Wd) (I : MI) (L : ML) (P : MP) (w1 : Wd) (I1 : MI) (L1 : ML) (P1 : MP) (h0 : w.1 a_l0 = some (6, 0)) (hc : call 92 [.ref a_l0, .int x_l1, .int x_l2] w I L P = some (.inr 2, w1, I1, L1, P1)) : go 131 0 [.ref a_l0, .int x_l1, .int x_l2, l3] [] w I L P = go 131 8 [.ref a_l0, .int x_l1, .int x_l2, unk] [] w1 I1 L1 P1 := by
  refine (go_aload_n (m := 131) (pc := 0) (k := 0) (by decide +kernel) rfl).trans ?_
  refine (go_iload_n (m := 131) (pc := 1) (k := 1) (by decide +kernel) rfl).trans ?_
  refine (go_iload_n (m := 131) (pc := 2) (k := 2) (by decide +kernel) rfl).trans ?_
  exact go_virT (m := 131) (pc := 3) (e := 2) (pc' := 8) (k := 3) (o := 8) (x := 55) (y := 92) (kd := 0) (b := a_l0) (bs := [.int x_l1, .int x_l2]) (rs := []) (by decide +kernel) rfl c_8_55 (Or.inl rfl) rfl rfl rfl (by decide +kernel) (by simp only [List.length_cons, List.length_nil]; decide) (Nat.le_of_ble_eq_true rfl) h0 (by decide +kernel) (by decide +kernel) (by simp only [List.length_cons, List.length_nil]; decide) hc
theorem Law_listener_6 (l0 : Value) (l1 : Value) (l2 : Value) (l3 : Value) (y0 : Int32) (w : Wd) (I : MI) (L : ML) (P : MP)  : go 131 6 [l0, l1, l2, l3] [.int y0] w I L P = some (.inl (some (.int y0)), w, I, L, P) := by
  exact go_retI (m := 131) (pc := 6) (by decide +kernel) rfl
theorem Law_listener_8 (l0 : Value) (l1 : Value) (l2 : Value) (l3 : Value) (w : Wd) (I : MI) (L : ML) (P : MP)  : go 131 8 [l0, l1, l2, l3] [] w I L P = some (.inl (some (.int (-11))), w, I, L, P) := by
  refine (go_bi (m := 131) (pc := 8) (n := -11) (by decide +kernel) bi_m11).trans ?_
  exact go_retI (m := 131) (pc := 10) (by decide +kernel) rfl
theorem Law_listener_12 (l0 : Value) (l1 : Value) (l2 : Value) (l3 : Value) (w : Wd) (I : MI) (L : ML) (P : MP)  : go 131 12 [l0, l1, l2, l3] [] w I L P = some (.inl (some (.int (-12))), w, I, L, P) := by
  refine (go_bi (m := 131) (pc := 12) (n := -12) (by decide +kernel) bi_m12).trans ?_
  exact go_retI (m := 131) (pc := 14) (by decide +kernel) rfl
theorem Law_listener_E (p0 : Nat) (p1 : Int32) (p2 : Int32) (w : Wd) (I : MI) (L : ML) (P : MP) : call 131 [.ref p0, .int p1, .int p2] w I L P = go 131 0 [.ref p0, .int p1, .int p2, unk] [] w I L P := rfl
theorem Law_listener_E1 (p1 : Int32) (p2 : Int32) (w : Wd) (I : MI) (L : ML) (P : MP) : call 131 [.null, .int p1, .int p2] w I L P = go 131 0 [.null, .int p1, .int p2, unk] [] w I L P := rfl
theorem Law_memory_0_ret (a_l0 : Nat) (x_l1 : Int32) (x_l2 : Int32) (l3 : Value) (w : Wd) (I : MI) (L : ML) (P : MP) (v : Option Value) (w1 : Wd) (I1 : MI) (L1 : ML) (P1 : MP) (h0 : w.1 a_l0 = some (6, 0)) (hc : call 93 [.ref a_l0, .int x_l1, .int x_l2] w I L P = some (.inl v, w1, I1, L1, P1)) : go 132 0 [.ref a_l0, .int x_l1, .int x_l2, l3] [] w I L P = go 132 6 [.ref a_l0, .int x_l1, .int x_l2, l3] (v.toList ++ []) w1 I1 L1 P1 := by
  refine (go_aload_n (m := 132) (pc := 0) (k := 0) (by decide +kernel) rfl).trans ?_
  refine (go_iload_n (m := 132) (pc := 1) (k := 1) (by decide +kernel) rfl).trans ?_
  refine (go_iload_n (m := 132) (pc := 2) (k := 2) (by decide +kernel) rfl).trans ?_
  exact go_virH (m := 132) (pc := 3) (o := 8) (x := 58) (y := 93) (kd := 0) (b := a_l0) (bs := [.int x_l1, .int x_l2]) (rs := []) (by decide +kernel) rfl c_8_58 (Or.inl rfl) rfl rfl rfl (by decide +kernel) (by simp only [List.length_cons, List.length_nil]; decide) (Nat.le_of_ble_eq_true rfl) h0 hc
theorem Law_memory_0_thr2 (a_l0 : Nat) (x_l1 : Int32) (x_l2 : Int32) (l3 : Value) (w : Wd) (I : MI) (L : ML) (P : MP) (w1 : Wd) (I1 : MI) (L1 : ML) (P1 : MP) (h0 : w.1 a_l0 = some (6, 0)) (hc : call 93 [.ref a_l0, .int x_l1, .int x_l2] w I L P = some (.inr 2, w1, I1, L1, P1)) : go 132 0 [.ref a_l0, .int x_l1, .int x_l2, l3] [] w I L P = go 132 8 [.ref a_l0, .int x_l1, .int x_l2, unk] [] w1 I1 L1 P1 := by
  refine (go_aload_n (m := 132) (pc := 0) (k := 0) (by decide +kernel) rfl).trans ?_
  refine (go_iload_n (m := 132) (pc := 1) (k := 1) (by decide +kernel) rfl).trans ?_
  refine (go_iload_n (m := 132) (pc := 2) (k := 2) (by decide +kernel) rfl).trans ?_
  exact go_virT (m := 132) (pc := 3) (e := 2) (pc' := 8) (k := 3) (o := 8) (x := 58) (y := 93) (kd := 0) (b := a_l0) (bs := [.int x_l1, .int x_l2]) (rs := []) (by decide +kernel) rfl c_8_58 (Or.inl rfl) rfl rfl rfl (by decide +kernel) (by simp only [List.length_cons, List.length_nil]; decide) (Nat.le_of_ble_eq_true rfl) h0 (by decide +kernel) (by decide +kernel) (by simp only [List.length_cons, List.length_nil]; decide) hc
theorem Law_memory_6 (l0 : Value) (l1 : Value) (l2 : Value) (l3 : Value) (y0 : Int32) (w : Wd) (I : MI) (L : ML) (P : MP)  : go 132 6 [l0, l1, l2, l3] [.int y0] w I L P = some (.inl (some (.int y0)), w, I, L, P) := by
  exact go_retI (m := 132) (pc := 6) (by decide +kernel) rfl
theorem Law_memory_8 (l0 : Value) (l1 : Value) (l2 : Value) (l3 : Value) (w : Wd) (I : MI) (L : ML) (P : MP)  : go 132 8 [l0, l1, l2, l3] [] w I L P = some (.inl (some (.int (-11))), w, I, L, P) := by
  refine (go_bi (m := 132) (pc := 8) (n := -11) (by decide +kernel) bi_m11).trans ?_
  exact go_retI (m := 132) (pc := 10) (by decide +kernel) rfl
theorem Law_memory_E (p0 : Nat) (p1 : Int32) (p2 : Int32) (w : Wd) (I : MI) (L : ML) (P : MP) : call 132 [.ref p0, .int p1, .int p2] w I L P = go 132 0 [.ref p0, .int p1, .int p2, unk] [] w I L P := rfl
theorem Law_memory_E1 (p1 : Int32) (p2 : Int32) (w : Wd) (I : MI) (L : ML) (P : MP) : call 132 [.null, .int p1, .int p2] w I L P = go 132 0 [.null, .int p1, .int p2, unk] [] w I L P := rfl
theorem Law_value_0_ret (a_l0 : Nat) (x_l1 : Int32) (l2 : Value) (w : Wd) (I : MI) (L : ML) (P : MP) (v : Option Value) (w1 : Wd) (I1 : MI) (L1 : ML) (P1 : MP) (h0 : w.1 a_l0 = some (6, 0)) (hc : call 94 [.ref a_l0, .int x_l1] w I L P = some (.inl v, w1, I1, L1, P1)) : go 133 0 [.ref a_l0, .int x_l1, l2] [] w I L P = go 133 5 [.ref a_l0, .int x_l1, l2] (v.toList ++ []) w1 I1 L1 P1 := by
  refine (go_aload_n (m := 133) (pc := 0) (k := 0) (by decide +kernel) rfl).trans ?_
  refine (go_iload_n (m := 133) (pc := 1) (k := 1) (by decide +kernel) rfl).trans ?_
  exact go_virH (m := 133) (pc := 2) (o := 8) (x := 61) (y := 94) (kd := 0) (b := a_l0) (bs := [.int x_l1]) (rs := []) (by decide +kernel) rfl c_8_61 (Or.inl rfl) rfl rfl rfl (by decide +kernel) (by simp only [List.length_cons, List.length_nil]; decide) (Nat.le_of_ble_eq_true rfl) h0 hc
theorem Law_value_0_thr0 (a_l0 : Nat) (x_l1 : Int32) (l2 : Value) (w : Wd) (I : MI) (L : ML) (P : MP) (w1 : Wd) (I1 : MI) (L1 : ML) (P1 : MP) (h0 : w.1 a_l0 = some (6, 0)) (hc : call 94 [.ref a_l0, .int x_l1] w I L P = some (.inr 0, w1, I1, L1, P1)) : go 133 0 [.ref a_l0, .int x_l1, l2] [] w I L P = go 133 7 [.ref a_l0, .int x_l1, unk] [] w1 I1 L1 P1 := by
  refine (go_aload_n (m := 133) (pc := 0) (k := 0) (by decide +kernel) rfl).trans ?_
  refine (go_iload_n (m := 133) (pc := 1) (k := 1) (by decide +kernel) rfl).trans ?_
  exact go_virT (m := 133) (pc := 2) (e := 0) (pc' := 7) (k := 2) (o := 8) (x := 61) (y := 94) (kd := 0) (b := a_l0) (bs := [.int x_l1]) (rs := []) (by decide +kernel) rfl c_8_61 (Or.inl rfl) rfl rfl rfl (by decide +kernel) (by simp only [List.length_cons, List.length_nil]; decide) (Nat.le_of_ble_eq_true rfl) h0 (by decide +kernel) (by decide +kernel) (by simp only [List.length_cons, List.length_nil]; decide) hc
theorem Law_value_5 (l0 : Value) (l1 : Value) (l2 : Value) (y0 : Int32) (w : Wd) (I : MI) (L : ML) (P : MP)  : go 133 5 [l0, l1, l2] [.int y0] w I L P = some (.inl (some (.int y0)), w, I, L, P) := by
  exact go_retI (m := 133) (pc := 5) (by decide +kernel) rfl
theorem Law_value_7 (l0 : Value) (l1 : Value) (l2 : Value) (w : Wd) (I : MI) (L : ML) (P : MP)  : go 133 7 [l0, l1, l2] [] w I L P = some (.inl (some (.int (-11))), w, I, L, P) := by
  refine (go_bi (m := 133) (pc := 7) (n := -11) (by decide +kernel) bi_m11).trans ?_
  exact go_retI (m := 133) (pc := 9) (by decide +kernel) rfl
theorem Law_value_E (p0 : Nat) (p1 : Int32) (w : Wd) (I : MI) (L : ML) (P : MP) : call 133 [.ref p0, .int p1] w I L P = go 133 0 [.ref p0, .int p1, unk] [] w I L P := rfl
theorem Law_value_E1 (p1 : Int32) (w : Wd) (I : MI) (L : ML) (P : MP) : call 133 [.null, .int p1] w I L P = go 133 0 [.null, .int p1, unk] [] w I L P := rfl
theorem Law_log_0_ret (a_l0 : Nat) (x_l1 : Int32) (x_l2 : Int32) (l3 : Value) (w : Wd) (I : MI) (L : ML) (P : MP) (v : Option Value) (w1 : Wd) (I1 : MI) (L1 : ML) (P1 : MP) (h0 : w.1 a_l0 = some (6, 0)) (hc : call 95 [.ref a_l0, .int x_l1, .int x_l2] w I L P = some (.inl v, w1, I1, L1, P1)) : go 134 0 [.ref a_l0, .int x_l1, .int x_l2, l3] [] w I L P = go 134 6 [.ref a_l0, .int x_l1, .int x_l2, l3] (v.toList ++ []) w1 I1 L1 P1 := by
  refine (go_aload_n (m := 134) (pc := 0) (k := 0) (by decide +kernel) rfl).trans ?_
  refine (go_iload_n (m := 134) (pc := 1) (k := 1) (by decide +kernel) rfl).trans ?_
  refine (go_iload_n (m := 134) (pc := 2) (k := 2) (by decide +kernel) rfl).trans ?_
  exact go_virH (m := 134) (pc := 3) (o := 8) (x := 64) (y := 95) (kd := 0) (b := a_l0) (bs := [.int x_l1, .int x_l2]) (rs := []) (by decide +kernel) rfl c_8_64 (Or.inl rfl) rfl rfl rfl (by decide +kernel) (by simp only [List.length_cons, List.length_nil]; decide) (Nat.le_of_ble_eq_true rfl) h0 hc
theorem Law_log_0_thr0 (a_l0 : Nat) (x_l1 : Int32) (x_l2 : Int32) (l3 : Value) (w : Wd) (I : MI) (L : ML) (P : MP) (w1 : Wd) (I1 : MI) (L1 : ML) (P1 : MP) (h0 : w.1 a_l0 = some (6, 0)) (hc : call 95 [.ref a_l0, .int x_l1, .int x_l2] w I L P = some (.inr 0, w1, I1, L1, P1)) : go 134 0 [.ref a_l0, .int x_l1, .int x_l2, l3] [] w I L P = go 134 12 [.ref a_l0, .int x_l1, .int x_l2, unk] [] w1 I1 L1 P1 := by
  refine (go_aload_n (m := 134) (pc := 0) (k := 0) (by decide +kernel) rfl).trans ?_
  refine (go_iload_n (m := 134) (pc := 1) (k := 1) (by decide +kernel) rfl).trans ?_
  refine (go_iload_n (m := 134) (pc := 2) (k := 2) (by decide +kernel) rfl).trans ?_
  exact go_virT (m := 134) (pc := 3) (e := 0) (pc' := 12) (k := 3) (o := 8) (x := 64) (y := 95) (kd := 0) (b := a_l0) (bs := [.int x_l1, .int x_l2]) (rs := []) (by decide +kernel) rfl c_8_64 (Or.inl rfl) rfl rfl rfl (by decide +kernel) (by simp only [List.length_cons, List.length_nil]; decide) (Nat.le_of_ble_eq_true rfl) h0 (by decide +kernel) (by decide +kernel) (by simp only [List.length_cons, List.length_nil]; decide) hc
theorem Law_log_0_thr2 (a_l0 : Nat) (x_l1 : Int32) (x_l2 : Int32) (l3 : Value) (w : Wd) (I : MI) (L : ML) (P : MP) (w1 : Wd) (I1 : MI) (L1 : ML) (P1 : MP) (h0 : w.1 a_l0 = some (6, 0)) (hc : call 95 [.ref a_l0, .int x_l1, .int x_l2] w I L P = some (.inr 2, w1, I1, L1, P1)) : go 134 0 [.ref a_l0, .int x_l1, .int x_l2, l3] [] w I L P = go 134 8 [.ref a_l0, .int x_l1, .int x_l2, unk] [] w1 I1 L1 P1 := by
  refine (go_aload_n (m := 134) (pc := 0) (k := 0) (by decide +kernel) rfl).trans ?_
  refine (go_iload_n (m := 134) (pc := 1) (k := 1) (by decide +kernel) rfl).trans ?_
  refine (go_iload_n (m := 134) (pc := 2) (k := 2) (by decide +kernel) rfl).trans ?_
  exact go_virT (m := 134) (pc := 3) (e := 2) (pc' := 8) (k := 3) (o := 8) (x := 64) (y := 95) (kd := 0) (b := a_l0) (bs := [.int x_l1, .int x_l2]) (rs := []) (by decide +kernel) rfl c_8_64 (Or.inl rfl) rfl rfl rfl (by decide +kernel) (by simp only [List.length_cons, List.length_nil]; decide) (Nat.le_of_ble_eq_true rfl) h0 (by decide +kernel) (by decide +kernel) (by simp only [List.length_cons, List.length_nil]; decide) hc
theorem Law_log_6 (l0 : Value) (l1 : Value) (l2 : Value) (l3 : Value) (y0 : Int32) (w : Wd) (I : MI) (L : ML) (P : MP)  : go 134 6 [l0, l1, l2, l3] [.int y0] w I L P = some (.inl (some (.int y0)), w, I, L, P) := by
  exact go_retI (m := 134) (pc := 6) (by decide +kernel) rfl
theorem Law_log_8 (l0 : Value) (l1 : Value) (l2 : Value) (l3 : Value) (w : Wd) (I : MI) (L : ML) (P : MP)  : go 134 8 [l0, l1, l2, l3] [] w I L P = some (.inl (some (.int (-11))), w, I, L, P) := by
  refine (go_bi (m := 134) (pc := 8) (n := -11) (by decide +kernel) bi_m11).trans ?_
  exact go_retI (m := 134) (pc := 10) (by decide +kernel) rfl
theorem Law_log_12 (l0 : Value) (l1 : Value) (l2 : Value) (l3 : Value) (w : Wd) (I : MI) (L : ML) (P : MP)  : go 134 12 [l0, l1, l2, l3] [] w I L P = some (.inl (some (.int (-12))), w, I, L, P) := by
  refine (go_bi (m := 134) (pc := 12) (n := -12) (by decide +kernel) bi_m12).trans ?_
  exact go_retI (m := 134) (pc := 14) (by decide +kernel) rfl
theorem Law_log_E (p0 : Nat) (p1 : Int32) (p2 : Int32) (w : Wd) (I : MI) (L : ML) (P : MP) : call 134 [.ref p0, .int p1, .int p2] w I L P = go 134 0 [.ref p0, .int p1, .int p2, unk] [] w I L P := rfl
theorem Law_log_E1 (p1 : Int32) (p2 : Int32) (w : Wd) (I : MI) (L : ML) (P : MP) : call 134 [.null, .int p1, .int p2] w I L P = go 134 0 [.null, .int p1, .int p2, unk] [] w I L P := rfl
theorem Law_alone_0_ret (a_l0 : Nat) (x_l1 : Int32) (l2 : Value) (w : Wd) (I : MI) (L : ML) (P : MP) (v : Option Value) (w1 : Wd) (I1 : MI) (L1 : ML) (P1 : MP) (h0 : w.1 a_l0 = some (6, 0)) (hc : call 97 [.ref a_l0, .int x_l1] w I L P = some (.inl v, w1, I1, L1, P1)) : go 135 0 [.ref a_l0, .int x_l1, l2] [] w I L P = go 135 5 [.ref a_l0, .int x_l1, l2] (v.toList ++ []) w1 I1 L1 P1 := by
  refine (go_aload_n (m := 135) (pc := 0) (k := 0) (by decide +kernel) rfl).trans ?_
  refine (go_iload_n (m := 135) (pc := 1) (k := 1) (by decide +kernel) rfl).trans ?_
  exact go_virH (m := 135) (pc := 2) (o := 8) (x := 67) (y := 97) (kd := 0) (b := a_l0) (bs := [.int x_l1]) (rs := []) (by decide +kernel) rfl c_8_67 (Or.inl rfl) rfl rfl rfl (by decide +kernel) (by simp only [List.length_cons, List.length_nil]; decide) (Nat.le_of_ble_eq_true rfl) h0 hc
theorem Law_alone_0_thr2 (a_l0 : Nat) (x_l1 : Int32) (l2 : Value) (w : Wd) (I : MI) (L : ML) (P : MP) (w1 : Wd) (I1 : MI) (L1 : ML) (P1 : MP) (h0 : w.1 a_l0 = some (6, 0)) (hc : call 97 [.ref a_l0, .int x_l1] w I L P = some (.inr 2, w1, I1, L1, P1)) : go 135 0 [.ref a_l0, .int x_l1, l2] [] w I L P = go 135 7 [.ref a_l0, .int x_l1, unk] [] w1 I1 L1 P1 := by
  refine (go_aload_n (m := 135) (pc := 0) (k := 0) (by decide +kernel) rfl).trans ?_
  refine (go_iload_n (m := 135) (pc := 1) (k := 1) (by decide +kernel) rfl).trans ?_
  exact go_virT (m := 135) (pc := 2) (e := 2) (pc' := 7) (k := 2) (o := 8) (x := 67) (y := 97) (kd := 0) (b := a_l0) (bs := [.int x_l1]) (rs := []) (by decide +kernel) rfl c_8_67 (Or.inl rfl) rfl rfl rfl (by decide +kernel) (by simp only [List.length_cons, List.length_nil]; decide) (Nat.le_of_ble_eq_true rfl) h0 (by decide +kernel) (by decide +kernel) (by simp only [List.length_cons, List.length_nil]; decide) hc
theorem Law_alone_5 (l0 : Value) (l1 : Value) (l2 : Value) (y0 : Int32) (w : Wd) (I : MI) (L : ML) (P : MP)  : go 135 5 [l0, l1, l2] [.int y0] w I L P = some (.inl (some (.int y0)), w, I, L, P) := by
  exact go_retI (m := 135) (pc := 5) (by decide +kernel) rfl
theorem Law_alone_7 (l0 : Value) (l1 : Value) (l2 : Value) (w : Wd) (I : MI) (L : ML) (P : MP)  : go 135 7 [l0, l1, l2] [] w I L P = some (.inl (some (.int (-11))), w, I, L, P) := by
  refine (go_bi (m := 135) (pc := 7) (n := -11) (by decide +kernel) bi_m11).trans ?_
  exact go_retI (m := 135) (pc := 9) (by decide +kernel) rfl
theorem Law_alone_E (p0 : Nat) (p1 : Int32) (w : Wd) (I : MI) (L : ML) (P : MP) : call 135 [.ref p0, .int p1] w I L P = go 135 0 [.ref p0, .int p1, unk] [] w I L P := rfl
theorem Law_alone_E1 (p1 : Int32) (w : Wd) (I : MI) (L : ML) (P : MP) : call 135 [.null, .int p1] w I L P = go 135 0 [.null, .int p1, unk] [] w I L P := rfl
theorem Law_delivers_0_ret (a_l0 : Nat) (x_l1 : Int32) (l2 : Value) (w : Wd) (I : MI) (L : ML) (P : MP) (v : Option Value) (w1 : Wd) (I1 : MI) (L1 : ML) (P1 : MP) (h0 : w.1 a_l0 = some (6, 0)) (hc : call 99 [.ref a_l0, .int x_l1] w I L P = some (.inl v, w1, I1, L1, P1)) : go 136 0 [.ref a_l0, .int x_l1, l2] [] w I L P = go 136 5 [.ref a_l0, .int x_l1, l2] (v.toList ++ []) w1 I1 L1 P1 := by
  refine (go_aload_n (m := 136) (pc := 0) (k := 0) (by decide +kernel) rfl).trans ?_
  refine (go_iload_n (m := 136) (pc := 1) (k := 1) (by decide +kernel) rfl).trans ?_
  exact go_virH (m := 136) (pc := 2) (o := 8) (x := 70) (y := 99) (kd := 0) (b := a_l0) (bs := [.int x_l1]) (rs := []) (by decide +kernel) rfl c_8_70 (Or.inl rfl) rfl rfl rfl (by decide +kernel) (by simp only [List.length_cons, List.length_nil]; decide) (Nat.le_of_ble_eq_true rfl) h0 hc
theorem Law_delivers_0_thr2 (a_l0 : Nat) (x_l1 : Int32) (l2 : Value) (w : Wd) (I : MI) (L : ML) (P : MP) (w1 : Wd) (I1 : MI) (L1 : ML) (P1 : MP) (h0 : w.1 a_l0 = some (6, 0)) (hc : call 99 [.ref a_l0, .int x_l1] w I L P = some (.inr 2, w1, I1, L1, P1)) : go 136 0 [.ref a_l0, .int x_l1, l2] [] w I L P = go 136 7 [.ref a_l0, .int x_l1, unk] [] w1 I1 L1 P1 := by
  refine (go_aload_n (m := 136) (pc := 0) (k := 0) (by decide +kernel) rfl).trans ?_
  refine (go_iload_n (m := 136) (pc := 1) (k := 1) (by decide +kernel) rfl).trans ?_
  exact go_virT (m := 136) (pc := 2) (e := 2) (pc' := 7) (k := 2) (o := 8) (x := 70) (y := 99) (kd := 0) (b := a_l0) (bs := [.int x_l1]) (rs := []) (by decide +kernel) rfl c_8_70 (Or.inl rfl) rfl rfl rfl (by decide +kernel) (by simp only [List.length_cons, List.length_nil]; decide) (Nat.le_of_ble_eq_true rfl) h0 (by decide +kernel) (by decide +kernel) (by simp only [List.length_cons, List.length_nil]; decide) hc
theorem Law_delivers_5 (l0 : Value) (l1 : Value) (l2 : Value) (y0 : Int32) (w : Wd) (I : MI) (L : ML) (P : MP)  : go 136 5 [l0, l1, l2] [.int y0] w I L P = some (.inl (some (.int y0)), w, I, L, P) := by
  exact go_retI (m := 136) (pc := 5) (by decide +kernel) rfl
theorem Law_delivers_7 (l0 : Value) (l1 : Value) (l2 : Value) (w : Wd) (I : MI) (L : ML) (P : MP)  : go 136 7 [l0, l1, l2] [] w I L P = some (.inl (some (.int (-11))), w, I, L, P) := by
  refine (go_bi (m := 136) (pc := 7) (n := -11) (by decide +kernel) bi_m11).trans ?_
  exact go_retI (m := 136) (pc := 9) (by decide +kernel) rfl
theorem Law_delivers_E (p0 : Nat) (p1 : Int32) (w : Wd) (I : MI) (L : ML) (P : MP) : call 136 [.ref p0, .int p1] w I L P = go 136 0 [.ref p0, .int p1, unk] [] w I L P := rfl
theorem Law_delivers_E1 (p1 : Int32) (w : Wd) (I : MI) (L : ML) (P : MP) : call 136 [.null, .int p1] w I L P = go 136 0 [.null, .int p1, unk] [] w I L P := rfl
theorem Law_append_0_ret (a_l0 : Nat) (x_l1 : Int32) (l2 : Value) (w : Wd) (I : MI) (L : ML) (P : MP) (v : Option Value) (w1 : Wd) (I1 : MI) (L1 : ML) (P1 : MP) (h0 : w.1 a_l0 = some (6, 0)) (hc : call 101 [.ref a_l0, .int x_l1] w I L P = some (.inl v, w1, I1, L1, P1)) : go 137 0 [.ref a_l0, .int x_l1, l2] [] w I L P = go 137 5 [.ref a_l0, .int x_l1, l2] (v.toList ++ []) w1 I1 L1 P1 := by
  refine (go_aload_n (m := 137) (pc := 0) (k := 0) (by decide +kernel) rfl).trans ?_
  refine (go_iload_n (m := 137) (pc := 1) (k := 1) (by decide +kernel) rfl).trans ?_
  exact go_virH (m := 137) (pc := 2) (o := 8) (x := 73) (y := 101) (kd := 0) (b := a_l0) (bs := [.int x_l1]) (rs := []) (by decide +kernel) rfl c_8_73 (Or.inl rfl) rfl rfl rfl (by decide +kernel) (by simp only [List.length_cons, List.length_nil]; decide) (Nat.le_of_ble_eq_true rfl) h0 hc
theorem Law_append_0_thr0 (a_l0 : Nat) (x_l1 : Int32) (l2 : Value) (w : Wd) (I : MI) (L : ML) (P : MP) (w1 : Wd) (I1 : MI) (L1 : ML) (P1 : MP) (h0 : w.1 a_l0 = some (6, 0)) (hc : call 101 [.ref a_l0, .int x_l1] w I L P = some (.inr 0, w1, I1, L1, P1)) : go 137 0 [.ref a_l0, .int x_l1, l2] [] w I L P = go 137 7 [.ref a_l0, .int x_l1, unk] [] w1 I1 L1 P1 := by
  refine (go_aload_n (m := 137) (pc := 0) (k := 0) (by decide +kernel) rfl).trans ?_
  refine (go_iload_n (m := 137) (pc := 1) (k := 1) (by decide +kernel) rfl).trans ?_
  exact go_virT (m := 137) (pc := 2) (e := 0) (pc' := 7) (k := 2) (o := 8) (x := 73) (y := 101) (kd := 0) (b := a_l0) (bs := [.int x_l1]) (rs := []) (by decide +kernel) rfl c_8_73 (Or.inl rfl) rfl rfl rfl (by decide +kernel) (by simp only [List.length_cons, List.length_nil]; decide) (Nat.le_of_ble_eq_true rfl) h0 (by decide +kernel) (by decide +kernel) (by simp only [List.length_cons, List.length_nil]; decide) hc
theorem Law_append_0_thr1 (a_l0 : Nat) (x_l1 : Int32) (l2 : Value) (w : Wd) (I : MI) (L : ML) (P : MP) (w1 : Wd) (I1 : MI) (L1 : ML) (P1 : MP) (h0 : w.1 a_l0 = some (6, 0)) (hc : call 101 [.ref a_l0, .int x_l1] w I L P = some (.inr 1, w1, I1, L1, P1)) : go 137 0 [.ref a_l0, .int x_l1, l2] [] w I L P = go 137 11 [.ref a_l0, .int x_l1, unk] [] w1 I1 L1 P1 := by
  refine (go_aload_n (m := 137) (pc := 0) (k := 0) (by decide +kernel) rfl).trans ?_
  refine (go_iload_n (m := 137) (pc := 1) (k := 1) (by decide +kernel) rfl).trans ?_
  exact go_virT (m := 137) (pc := 2) (e := 1) (pc' := 11) (k := 2) (o := 8) (x := 73) (y := 101) (kd := 0) (b := a_l0) (bs := [.int x_l1]) (rs := []) (by decide +kernel) rfl c_8_73 (Or.inl rfl) rfl rfl rfl (by decide +kernel) (by simp only [List.length_cons, List.length_nil]; decide) (Nat.le_of_ble_eq_true rfl) h0 (by decide +kernel) (by decide +kernel) (by simp only [List.length_cons, List.length_nil]; decide) hc
theorem Law_append_5 (l0 : Value) (l1 : Value) (l2 : Value) (y0 : Int32) (w : Wd) (I : MI) (L : ML) (P : MP)  : go 137 5 [l0, l1, l2] [.int y0] w I L P = some (.inl (some (.int y0)), w, I, L, P) := by
  exact go_retI (m := 137) (pc := 5) (by decide +kernel) rfl
theorem Law_append_7 (l0 : Value) (l1 : Value) (l2 : Value) (w : Wd) (I : MI) (L : ML) (P : MP)  : go 137 7 [l0, l1, l2] [] w I L P = some (.inl (some (.int (-11))), w, I, L, P) := by
  refine (go_bi (m := 137) (pc := 7) (n := -11) (by decide +kernel) bi_m11).trans ?_
  exact go_retI (m := 137) (pc := 9) (by decide +kernel) rfl
theorem Law_append_11 (l0 : Value) (l1 : Value) (l2 : Value) (w : Wd) (I : MI) (L : ML) (P : MP)  : go 137 11 [l0, l1, l2] [] w I L P = some (.inl (some (.int (-12))), w, I, L, P) := by
  refine (go_bi (m := 137) (pc := 11) (n := -12) (by decide +kernel) bi_m12).trans ?_
  exact go_retI (m := 137) (pc := 13) (by decide +kernel) rfl
theorem Law_append_E (p0 : Nat) (p1 : Int32) (w : Wd) (I : MI) (L : ML) (P : MP) : call 137 [.ref p0, .int p1] w I L P = go 137 0 [.ref p0, .int p1, unk] [] w I L P := rfl
theorem Law_append_E1 (p1 : Int32) (w : Wd) (I : MI) (L : ML) (P : MP) : call 137 [.null, .int p1] w I L P = go 137 0 [.null, .int p1, unk] [] w I L P := rfl
theorem Law_undo_0_ret (a_l0 : Nat) (l1 : Value) (w : Wd) (I : MI) (L : ML) (P : MP) (v : Option Value) (w1 : Wd) (I1 : MI) (L1 : ML) (P1 : MP) (h0 : w.1 a_l0 = some (6, 0)) (hc : call 104 [.ref a_l0] w I L P = some (.inl v, w1, I1, L1, P1)) : go 138 0 [.ref a_l0, l1] [] w I L P = go 138 4 [.ref a_l0, l1] (v.toList ++ []) w1 I1 L1 P1 := by
  refine (go_aload_n (m := 138) (pc := 0) (k := 0) (by decide +kernel) rfl).trans ?_
  exact go_virH (m := 138) (pc := 1) (o := 8) (x := 76) (y := 104) (kd := 0) (b := a_l0) (bs := []) (rs := []) (by decide +kernel) rfl c_8_76 (Or.inl rfl) rfl rfl rfl (by decide +kernel) (by simp only [List.length_cons, List.length_nil]; decide) (Nat.le_of_ble_eq_true rfl) h0 hc
theorem Law_undo_0_thr1 (a_l0 : Nat) (l1 : Value) (w : Wd) (I : MI) (L : ML) (P : MP) (w1 : Wd) (I1 : MI) (L1 : ML) (P1 : MP) (h0 : w.1 a_l0 = some (6, 0)) (hc : call 104 [.ref a_l0] w I L P = some (.inr 1, w1, I1, L1, P1)) : go 138 0 [.ref a_l0, l1] [] w I L P = go 138 6 [.ref a_l0, unk] [] w1 I1 L1 P1 := by
  refine (go_aload_n (m := 138) (pc := 0) (k := 0) (by decide +kernel) rfl).trans ?_
  exact go_virT (m := 138) (pc := 1) (e := 1) (pc' := 6) (k := 1) (o := 8) (x := 76) (y := 104) (kd := 0) (b := a_l0) (bs := []) (rs := []) (by decide +kernel) rfl c_8_76 (Or.inl rfl) rfl rfl rfl (by decide +kernel) (by simp only [List.length_cons, List.length_nil]; decide) (Nat.le_of_ble_eq_true rfl) h0 (by decide +kernel) (by decide +kernel) (by simp only [List.length_cons, List.length_nil]; decide) hc
theorem Law_undo_4 (l0 : Value) (l1 : Value) (y0 : Int32) (w : Wd) (I : MI) (L : ML) (P : MP)  : go 138 4 [l0, l1] [.int y0] w I L P = some (.inl (some (.int y0)), w, I, L, P) := by
  exact go_retI (m := 138) (pc := 4) (by decide +kernel) rfl
theorem Law_undo_6 (l0 : Value) (l1 : Value) (w : Wd) (I : MI) (L : ML) (P : MP)  : go 138 6 [l0, l1] [] w I L P = some (.inl (some (.int (-11))), w, I, L, P) := by
  refine (go_bi (m := 138) (pc := 6) (n := -11) (by decide +kernel) bi_m11).trans ?_
  exact go_retI (m := 138) (pc := 8) (by decide +kernel) rfl
theorem Law_undo_E (p0 : Nat) (w : Wd) (I : MI) (L : ML) (P : MP) : call 138 [.ref p0] w I L P = go 138 0 [.ref p0, unk] [] w I L P := rfl
theorem Law_undo_E1  (w : Wd) (I : MI) (L : ML) (P : MP) : call 138 [.null] w I L P = go 138 0 [.null, unk] [] w I L P := rfl
theorem Law_queued_0 (l0 : Value) (l1 : Value) (l2 : Value) (w : Wd) (I : MI) (L : ML) (P : MP)  : go 139 0 [l0, l1, l2] [] w I L P = go 139 4 [(fix1 l0), .int (nI 0), .int (nI 0)] [] w I L P := by
  refine (go_ic (m := 139) (pc := 0) (n := 0) (by decide +kernel) ic_0).trans ?_
  refine (go_istore_n (m := 139) (pc := 1) (k := 1) (ls' := [(fix1 l0), .int (nI 0), l2]) (by decide +kernel) (by simp only [List.length_cons, List.length_nil]; decide) rfl).trans ?_
  refine (go_ic (m := 139) (pc := 2) (n := 0) (by decide +kernel) ic_0).trans ?_
  refine (go_istore_n (m := 139) (pc := 3) (k := 2) (ls' := [(fix1 l0), .int (nI 0), .int (nI 0)]) (by decide +kernel) (by simp only [List.length_cons, List.length_nil]; decide) rfl).trans ?_
  rfl
theorem Law_queued_4_0 (l1 : Value) (x_l2 : Int32) (w : Wd) (I : MI) (L : ML) (P : MP)  : go 139 4 [.null, l1, .int x_l2] [] w I L P = kC (call 133 [.null, .int (nI 1)] w I L P) (fun v w1 I1 L1 P1 => go 139 10 [.null, l1, .int x_l2] (v.toList ++ [.int x_l2]) w1 I1 L1 P1) := by
  refine (go_iload_n (m := 139) (pc := 4) (k := 2) (by decide +kernel) rfl).trans ?_
  refine (go_aload_nN (m := 139) (pc := 5) (k := 0) (by decide +kernel) rfl).trans ?_
  refine (go_ic (m := 139) (pc := 6) (n := 1) (by decide +kernel) ic_1).trans ?_
  exact go_sta (m := 139) (pc := 7) (o := 8) (x := 80) (y := 133) (kd := 4) (as := [.null, .int (nI 1)]) (rs := [.int x_l2]) (by decide +kernel) rfl rfl c_8_80 (Or.inr (Or.inr rfl)) rfl rfl rfl (by decide +kernel) (by simp only [List.length_cons, List.length_nil]; decide) (Nat.le_of_ble_eq_true rfl)
theorem Law_queued_4_1 (a_l0 : Nat) (l1 : Value) (x_l2 : Int32) (w : Wd) (I : MI) (L : ML) (P : MP)  : go 139 4 [.ref a_l0, l1, .int x_l2] [] w I L P = kC (call 133 [.ref a_l0, .int (nI 1)] w I L P) (fun v w1 I1 L1 P1 => go 139 10 [.ref a_l0, l1, .int x_l2] (v.toList ++ [.int x_l2]) w1 I1 L1 P1) := by
  refine (go_iload_n (m := 139) (pc := 4) (k := 2) (by decide +kernel) rfl).trans ?_
  refine (go_aload_n (m := 139) (pc := 5) (k := 0) (by decide +kernel) rfl).trans ?_
  refine (go_ic (m := 139) (pc := 6) (n := 1) (by decide +kernel) ic_1).trans ?_
  exact go_sta (m := 139) (pc := 7) (o := 8) (x := 80) (y := 133) (kd := 4) (as := [.ref a_l0, .int (nI 1)]) (rs := [.int x_l2]) (by decide +kernel) rfl rfl c_8_80 (Or.inr (Or.inr rfl)) rfl rfl rfl (by decide +kernel) (by simp only [List.length_cons, List.length_nil]; decide) (Nat.le_of_ble_eq_true rfl)
theorem Law_queued_10 (l0 : Value) (l1 : Value) (l2 : Value) (y0 : Int32) (y1 : Int32) (w : Wd) (I : MI) (L : ML) (P : MP)  : go 139 10 [l0, l1, l2] [.int y1, .int y0] w I L P = if y1 ≤ y0 then go 139 28 [l0, l1, l2] [] w I L P else go 139 13 [l0, l1, l2] [] w I L P := by
  exact go_icmpge (m := 139) (pc := 10) (off := 18) (t := 28) (by decide +kernel) (by decide)
theorem Law_queued_13_0 (x_l1 : Int32) (x_l2 : Int32) (w : Wd) (I : MI) (L : ML) (P : MP)  : go 139 13 [.null, .int x_l1, .int x_l2] [] w I L P = kC (call 129 [.null, .int x_l2, .int (nI 0)] w I L P) (fun v w1 I1 L1 P1 => go 139 20 [.null, .int x_l1, .int x_l2] (v.toList ++ [.int x_l1]) w1 I1 L1 P1) := by
  refine (go_iload_n (m := 139) (pc := 13) (k := 1) (by decide +kernel) rfl).trans ?_
  refine (go_aload_nN (m := 139) (pc := 14) (k := 0) (by decide +kernel) rfl).trans ?_
  refine (go_iload_n (m := 139) (pc := 15) (k := 2) (by decide +kernel) rfl).trans ?_
  refine (go_ic (m := 139) (pc := 16) (n := 0) (by decide +kernel) ic_0).trans ?_
  exact go_sta (m := 139) (pc := 17) (o := 8) (x := 85) (y := 129) (kd := 4) (as := [.null, .int x_l2, .int (nI 0)]) (rs := [.int x_l1]) (by decide +kernel) rfl rfl c_8_85 (Or.inr (Or.inr rfl)) rfl rfl rfl (by decide +kernel) (by simp only [List.length_cons, List.length_nil]; decide) (Nat.le_of_ble_eq_true rfl)
theorem Law_queued_13_1 (a_l0 : Nat) (x_l1 : Int32) (x_l2 : Int32) (w : Wd) (I : MI) (L : ML) (P : MP)  : go 139 13 [.ref a_l0, .int x_l1, .int x_l2] [] w I L P = kC (call 129 [.ref a_l0, .int x_l2, .int (nI 0)] w I L P) (fun v w1 I1 L1 P1 => go 139 20 [.ref a_l0, .int x_l1, .int x_l2] (v.toList ++ [.int x_l1]) w1 I1 L1 P1) := by
  refine (go_iload_n (m := 139) (pc := 13) (k := 1) (by decide +kernel) rfl).trans ?_
  refine (go_aload_n (m := 139) (pc := 14) (k := 0) (by decide +kernel) rfl).trans ?_
  refine (go_iload_n (m := 139) (pc := 15) (k := 2) (by decide +kernel) rfl).trans ?_
  refine (go_ic (m := 139) (pc := 16) (n := 0) (by decide +kernel) ic_0).trans ?_
  exact go_sta (m := 139) (pc := 17) (o := 8) (x := 85) (y := 129) (kd := 4) (as := [.ref a_l0, .int x_l2, .int (nI 0)]) (rs := [.int x_l1]) (by decide +kernel) rfl rfl c_8_85 (Or.inr (Or.inr rfl)) rfl rfl rfl (by decide +kernel) (by simp only [List.length_cons, List.length_nil]; decide) (Nat.le_of_ble_eq_true rfl)
theorem Law_queued_20 (l0 : Value) (l1 : Value) (x_l2 : Int32) (y0 : Int32) (y1 : Int32) (w : Wd) (I : MI) (L : ML) (P : MP)  : go 139 20 [l0, l1, .int x_l2] [.int y1, .int y0] w I L P = go 139 4 [(fix1 l0), .int (y0 + y1), .int (x_l2 + (nI 1))] [] w I L P := by
  refine (go_iadd (m := 139) (pc := 20) (by decide +kernel)).trans ?_
  refine (go_istore_n (m := 139) (pc := 21) (k := 1) (ls' := [(fix1 l0), .int (y0 + y1), .int x_l2]) (by decide +kernel) (by simp only [List.length_cons, List.length_nil]; decide) rfl).trans ?_
  refine (go_iinc (m := 139) (pc := 22) (k := 2) (n := 1) (x := x_l2) (v := x_l2 + (nI 1)) (ls' := [(fix1 l0), .int (y0 + y1), .int (x_l2 + (nI 1))]) (by decide +kernel) rfl (by rw [ic_1]) rfl).trans ?_
  refine (go_goto (m := 139) (pc := 25) (off := -21) (t := 4) (by decide +kernel) (by decide)).trans ?_
  rfl
theorem Law_queued_28 (l0 : Value) (x_l1 : Int32) (l2 : Value) (w : Wd) (I : MI) (L : ML) (P : MP)  : go 139 28 [l0, .int x_l1, l2] [] w I L P = some (.inl (some (.int x_l1)), w, I, L, P) := by
  refine (go_iload_n (m := 139) (pc := 28) (k := 1) (by decide +kernel) rfl).trans ?_
  exact go_retI (m := 139) (pc := 29) (by decide +kernel) rfl
theorem Law_queued_E (p0 : Nat) (w : Wd) (I : MI) (L : ML) (P : MP) : call 139 [.ref p0] w I L P = go 139 0 [.ref p0, unk, unk] [] w I L P := rfl
theorem Law_queued_E1  (w : Wd) (I : MI) (L : ML) (P : MP) : call 139 [.null] w I L P = go 139 0 [.null, unk, unk] [] w I L P := rfl
theorem Law_isSound_0_0 (l1 : Value) (l2 : Value) (l3 : Value) (l4 : Value) (l5 : Value) (l6 : Value) (w : Wd) (I : MI) (L : ML) (P : MP)  : go 140 0 [.null, l1, l2, l3, l4, l5, l6] [] w I L P = kC (call 133 [.null, .int (nI 6)] w I L P) (fun v w1 I1 L1 P1 => go 140 10 [.null, .int (nI 0), .int (nI 0), l3, l4, l5, l6] (v.toList ++ []) w1 I1 L1 P1) := by
  refine (go_ic (m := 140) (pc := 0) (n := 0) (by decide +kernel) ic_0).trans ?_
  refine (go_istore_n (m := 140) (pc := 1) (k := 1) (ls' := [.null, .int (nI 0), l2, l3, l4, l5, l6]) (by decide +kernel) (by simp only [List.length_cons, List.length_nil]; decide) rfl).trans ?_
  refine (go_ic (m := 140) (pc := 2) (n := 0) (by decide +kernel) ic_0).trans ?_
  refine (go_istore_n (m := 140) (pc := 3) (k := 2) (ls' := [.null, .int (nI 0), .int (nI 0), l3, l4, l5, l6]) (by decide +kernel) (by simp only [List.length_cons, List.length_nil]; decide) rfl).trans ?_
  refine (go_aload_nN (m := 140) (pc := 4) (k := 0) (by decide +kernel) rfl).trans ?_
  refine (go_bi (m := 140) (pc := 5) (n := 6) (by decide +kernel) bi_6).trans ?_
  exact go_sta (m := 140) (pc := 7) (o := 8) (x := 80) (y := 133) (kd := 4) (as := [.null, .int (nI 6)]) (rs := []) (by decide +kernel) rfl rfl c_8_80 (Or.inr (Or.inr rfl)) rfl rfl rfl (by decide +kernel) (by simp only [List.length_cons, List.length_nil]; decide) (Nat.le_of_ble_eq_true rfl)
theorem Law_isSound_0_1 (a_l0 : Nat) (l1 : Value) (l2 : Value) (l3 : Value) (l4 : Value) (l5 : Value) (l6 : Value) (w : Wd) (I : MI) (L : ML) (P : MP)  : go 140 0 [.ref a_l0, l1, l2, l3, l4, l5, l6] [] w I L P = kC (call 133 [.ref a_l0, .int (nI 6)] w I L P) (fun v w1 I1 L1 P1 => go 140 10 [.ref a_l0, .int (nI 0), .int (nI 0), l3, l4, l5, l6] (v.toList ++ []) w1 I1 L1 P1) := by
  refine (go_ic (m := 140) (pc := 0) (n := 0) (by decide +kernel) ic_0).trans ?_
  refine (go_istore_n (m := 140) (pc := 1) (k := 1) (ls' := [.ref a_l0, .int (nI 0), l2, l3, l4, l5, l6]) (by decide +kernel) (by simp only [List.length_cons, List.length_nil]; decide) rfl).trans ?_
  refine (go_ic (m := 140) (pc := 2) (n := 0) (by decide +kernel) ic_0).trans ?_
  refine (go_istore_n (m := 140) (pc := 3) (k := 2) (ls' := [.ref a_l0, .int (nI 0), .int (nI 0), l3, l4, l5, l6]) (by decide +kernel) (by simp only [List.length_cons, List.length_nil]; decide) rfl).trans ?_
  refine (go_aload_n (m := 140) (pc := 4) (k := 0) (by decide +kernel) rfl).trans ?_
  refine (go_bi (m := 140) (pc := 5) (n := 6) (by decide +kernel) bi_6).trans ?_
  exact go_sta (m := 140) (pc := 7) (o := 8) (x := 80) (y := 133) (kd := 4) (as := [.ref a_l0, .int (nI 6)]) (rs := []) (by decide +kernel) rfl rfl c_8_80 (Or.inr (Or.inr rfl)) rfl rfl rfl (by decide +kernel) (by simp only [List.length_cons, List.length_nil]; decide) (Nat.le_of_ble_eq_true rfl)
theorem Law_isSound_10_0 (l1 : Value) (l2 : Value) (l3 : Value) (l4 : Value) (l5 : Value) (l6 : Value) (y0 : Int32) (w : Wd) (I : MI) (L : ML) (P : MP)  : go 140 10 [.null, l1, l2, l3, l4, l5, l6] [.int y0] w I L P = kC (call 133 [.null, .int (nI 0)] w I L P) (fun v w1 I1 L1 P1 => go 140 15 [.null, l1, l2, l3, l4, l5, l6] (v.toList ++ [.int y0]) w1 I1 L1 P1) := by
  refine (go_aload_nN (m := 140) (pc := 10) (k := 0) (by decide +kernel) rfl).trans ?_
  refine (go_ic (m := 140) (pc := 11) (n := 0) (by decide +kernel) ic_0).trans ?_
  exact go_sta (m := 140) (pc := 12) (o := 8) (x := 80) (y := 133) (kd := 4) (as := [.null, .int (nI 0)]) (rs := [.int y0]) (by decide +kernel) rfl rfl c_8_80 (Or.inr (Or.inr rfl)) rfl rfl rfl (by decide +kernel) (by simp only [List.length_cons, List.length_nil]; decide) (Nat.le_of_ble_eq_true rfl)
theorem Law_isSound_10_1 (a_l0 : Nat) (l1 : Value) (l2 : Value) (l3 : Value) (l4 : Value) (l5 : Value) (l6 : Value) (y0 : Int32) (w : Wd) (I : MI) (L : ML) (P : MP)  : go 140 10 [.ref a_l0, l1, l2, l3, l4, l5, l6] [.int y0] w I L P = kC (call 133 [.ref a_l0, .int (nI 0)] w I L P) (fun v w1 I1 L1 P1 => go 140 15 [.ref a_l0, l1, l2, l3, l4, l5, l6] (v.toList ++ [.int y0]) w1 I1 L1 P1) := by
  refine (go_aload_n (m := 140) (pc := 10) (k := 0) (by decide +kernel) rfl).trans ?_
  refine (go_ic (m := 140) (pc := 11) (n := 0) (by decide +kernel) ic_0).trans ?_
  exact go_sta (m := 140) (pc := 12) (o := 8) (x := 80) (y := 133) (kd := 4) (as := [.ref a_l0, .int (nI 0)]) (rs := [.int y0]) (by decide +kernel) rfl rfl c_8_80 (Or.inr (Or.inr rfl)) rfl rfl rfl (by decide +kernel) (by simp only [List.length_cons, List.length_nil]; decide) (Nat.le_of_ble_eq_true rfl)
theorem Law_isSound_15 (l0 : Value) (l1 : Value) (l2 : Value) (l3 : Value) (l4 : Value) (l5 : Value) (l6 : Value) (y0 : Int32) (y1 : Int32) (w : Wd) (I : MI) (L : ML) (P : MP)  : go 140 15 [l0, l1, l2, l3, l4, l5, l6] [.int y1, .int y0] w I L P = if y1 < y0 then go 140 48 [l0, l1, l2, l3, l4, l5, l6] [] w I L P else go 140 18 [l0, l1, l2, l3, l4, l5, l6] [] w I L P := by
  exact go_icmpgt (m := 140) (pc := 15) (off := 33) (t := 48) (by decide +kernel) (by decide)
theorem Law_isSound_18_0 (l1 : Value) (l2 : Value) (l3 : Value) (l4 : Value) (l5 : Value) (l6 : Value) (w : Wd) (I : MI) (L : ML) (P : MP)  : go 140 18 [.null, l1, l2, l3, l4, l5, l6] [] w I L P = kC (call 133 [.null, .int (nI 4)] w I L P) (fun v w1 I1 L1 P1 => go 140 23 [.null, l1, l2, l3, l4, l5, l6] (v.toList ++ []) w1 I1 L1 P1) := by
  refine (go_aload_nN (m := 140) (pc := 18) (k := 0) (by decide +kernel) rfl).trans ?_
  refine (go_ic (m := 140) (pc := 19) (n := 4) (by decide +kernel) ic_4).trans ?_
  exact go_sta (m := 140) (pc := 20) (o := 8) (x := 80) (y := 133) (kd := 4) (as := [.null, .int (nI 4)]) (rs := []) (by decide +kernel) rfl rfl c_8_80 (Or.inr (Or.inr rfl)) rfl rfl rfl (by decide +kernel) (by simp only [List.length_cons, List.length_nil]; decide) (Nat.le_of_ble_eq_true rfl)
theorem Law_isSound_18_1 (a_l0 : Nat) (l1 : Value) (l2 : Value) (l3 : Value) (l4 : Value) (l5 : Value) (l6 : Value) (w : Wd) (I : MI) (L : ML) (P : MP)  : go 140 18 [.ref a_l0, l1, l2, l3, l4, l5, l6] [] w I L P = kC (call 133 [.ref a_l0, .int (nI 4)] w I L P) (fun v w1 I1 L1 P1 => go 140 23 [.ref a_l0, l1, l2, l3, l4, l5, l6] (v.toList ++ []) w1 I1 L1 P1) := by
  refine (go_aload_n (m := 140) (pc := 18) (k := 0) (by decide +kernel) rfl).trans ?_
  refine (go_ic (m := 140) (pc := 19) (n := 4) (by decide +kernel) ic_4).trans ?_
  exact go_sta (m := 140) (pc := 20) (o := 8) (x := 80) (y := 133) (kd := 4) (as := [.ref a_l0, .int (nI 4)]) (rs := []) (by decide +kernel) rfl rfl c_8_80 (Or.inr (Or.inr rfl)) rfl rfl rfl (by decide +kernel) (by simp only [List.length_cons, List.length_nil]; decide) (Nat.le_of_ble_eq_true rfl)
theorem Law_isSound_23 (l0 : Value) (l1 : Value) (l2 : Value) (l3 : Value) (l4 : Value) (l5 : Value) (l6 : Value) (y0 : Int32) (w : Wd) (I : MI) (L : ML) (P : MP)  : go 140 23 [l0, l1, l2, l3, l4, l5, l6] [.int y0] w I L P = if y0 = 0 then go 140 44 [l0, l1, l2, l3, l4, l5, l6] [] w I L P else go 140 26 [l0, l1, l2, l3, l4, l5, l6] [] w I L P := by
  exact go_ifeq (m := 140) (pc := 23) (off := 21) (t := 44) (by decide +kernel) (by decide)
theorem Law_isSound_26_0 (l1 : Value) (l2 : Value) (l3 : Value) (l4 : Value) (l5 : Value) (l6 : Value) (w : Wd) (I : MI) (L : ML) (P : MP)  : go 140 26 [.null, l1, l2, l3, l4, l5, l6] [] w I L P = kC (call 133 [.null, .int (nI 5)] w I L P) (fun v w1 I1 L1 P1 => go 140 31 [.null, l1, l2, l3, l4, l5, l6] (v.toList ++ []) w1 I1 L1 P1) := by
  refine (go_aload_nN (m := 140) (pc := 26) (k := 0) (by decide +kernel) rfl).trans ?_
  refine (go_ic (m := 140) (pc := 27) (n := 5) (by decide +kernel) ic_5).trans ?_
  exact go_sta (m := 140) (pc := 28) (o := 8) (x := 80) (y := 133) (kd := 4) (as := [.null, .int (nI 5)]) (rs := []) (by decide +kernel) rfl rfl c_8_80 (Or.inr (Or.inr rfl)) rfl rfl rfl (by decide +kernel) (by simp only [List.length_cons, List.length_nil]; decide) (Nat.le_of_ble_eq_true rfl)
theorem Law_isSound_26_1 (a_l0 : Nat) (l1 : Value) (l2 : Value) (l3 : Value) (l4 : Value) (l5 : Value) (l6 : Value) (w : Wd) (I : MI) (L : ML) (P : MP)  : go 140 26 [.ref a_l0, l1, l2, l3, l4, l5, l6] [] w I L P = kC (call 133 [.ref a_l0, .int (nI 5)] w I L P) (fun v w1 I1 L1 P1 => go 140 31 [.ref a_l0, l1, l2, l3, l4, l5, l6] (v.toList ++ []) w1 I1 L1 P1) := by
  refine (go_aload_n (m := 140) (pc := 26) (k := 0) (by decide +kernel) rfl).trans ?_
  refine (go_ic (m := 140) (pc := 27) (n := 5) (by decide +kernel) ic_5).trans ?_
  exact go_sta (m := 140) (pc := 28) (o := 8) (x := 80) (y := 133) (kd := 4) (as := [.ref a_l0, .int (nI 5)]) (rs := []) (by decide +kernel) rfl rfl c_8_80 (Or.inr (Or.inr rfl)) rfl rfl rfl (by decide +kernel) (by simp only [List.length_cons, List.length_nil]; decide) (Nat.le_of_ble_eq_true rfl)
theorem Law_isSound_31 (l0 : Value) (l1 : Value) (l2 : Value) (l3 : Value) (l4 : Value) (l5 : Value) (l6 : Value) (y0 : Int32) (w : Wd) (I : MI) (L : ML) (P : MP)  : go 140 31 [l0, l1, l2, l3, l4, l5, l6] [.int y0] w I L P = if y0 ≠ 0 then go 140 48 [l0, l1, l2, l3, l4, l5, l6] [] w I L P else go 140 34 [l0, l1, l2, l3, l4, l5, l6] [] w I L P := by
  exact go_ifne (m := 140) (pc := 31) (off := 17) (t := 48) (by decide +kernel) (by decide)
theorem Law_isSound_34_0 (l1 : Value) (l2 : Value) (l3 : Value) (l4 : Value) (l5 : Value) (l6 : Value) (w : Wd) (I : MI) (L : ML) (P : MP)  : go 140 34 [.null, l1, l2, l3, l4, l5, l6] [] w I L P = kC (call 133 [.null, .int (nI 8)] w I L P) (fun v w1 I1 L1 P1 => go 140 40 [.null, l1, l2, l3, l4, l5, l6] (v.toList ++ []) w1 I1 L1 P1) := by
  refine (go_aload_nN (m := 140) (pc := 34) (k := 0) (by decide +kernel) rfl).trans ?_
  refine (go_bi (m := 140) (pc := 35) (n := 8) (by decide +kernel) bi_8).trans ?_
  exact go_sta (m := 140) (pc := 37) (o := 8) (x := 80) (y := 133) (kd := 4) (as := [.null, .int (nI 8)]) (rs := []) (by decide +kernel) rfl rfl c_8_80 (Or.inr (Or.inr rfl)) rfl rfl rfl (by decide +kernel) (by simp only [List.length_cons, List.length_nil]; decide) (Nat.le_of_ble_eq_true rfl)
theorem Law_isSound_34_1 (a_l0 : Nat) (l1 : Value) (l2 : Value) (l3 : Value) (l4 : Value) (l5 : Value) (l6 : Value) (w : Wd) (I : MI) (L : ML) (P : MP)  : go 140 34 [.ref a_l0, l1, l2, l3, l4, l5, l6] [] w I L P = kC (call 133 [.ref a_l0, .int (nI 8)] w I L P) (fun v w1 I1 L1 P1 => go 140 40 [.ref a_l0, l1, l2, l3, l4, l5, l6] (v.toList ++ []) w1 I1 L1 P1) := by
  refine (go_aload_n (m := 140) (pc := 34) (k := 0) (by decide +kernel) rfl).trans ?_
  refine (go_bi (m := 140) (pc := 35) (n := 8) (by decide +kernel) bi_8).trans ?_
  exact go_sta (m := 140) (pc := 37) (o := 8) (x := 80) (y := 133) (kd := 4) (as := [.ref a_l0, .int (nI 8)]) (rs := []) (by decide +kernel) rfl rfl c_8_80 (Or.inr (Or.inr rfl)) rfl rfl rfl (by decide +kernel) (by simp only [List.length_cons, List.length_nil]; decide) (Nat.le_of_ble_eq_true rfl)
theorem Law_isSound_40 (l0 : Value) (l1 : Value) (l2 : Value) (l3 : Value) (l4 : Value) (l5 : Value) (l6 : Value) (y0 : Int32) (w : Wd) (I : MI) (L : ML) (P : MP)  : go 140 40 [l0, l1, l2, l3, l4, l5, l6] [.int y0] w I L P = if y0 ≠ (-1) then go 140 48 [l0, l1, l2, l3, l4, l5, l6] [] w I L P else go 140 44 [l0, l1, l2, l3, l4, l5, l6] [] w I L P := by
  refine (go_ic (m := 140) (pc := 40) (n := -1) (by decide +kernel) ic_m1).trans ?_
  exact go_icmpne (m := 140) (pc := 41) (off := 7) (t := 48) (by decide +kernel) (by decide)
theorem Law_isSound_44 (l0 : Value) (l1 : Value) (l2 : Value) (l3 : Value) (l4 : Value) (l5 : Value) (l6 : Value) (w : Wd) (I : MI) (L : ML) (P : MP)  : go 140 44 [l0, l1, l2, l3, l4, l5, l6] [] w I L P = go 140 49 [l0, l1, l2, l3, l4, l5, l6] [.int (nI 1)] w I L P := by
  refine (go_ic (m := 140) (pc := 44) (n := 1) (by decide +kernel) ic_1).trans ?_
  refine (go_goto (m := 140) (pc := 45) (off := 4) (t := 49) (by decide +kernel) (by decide)).trans ?_
  rfl
theorem Law_isSound_48 (l0 : Value) (l1 : Value) (l2 : Value) (l3 : Value) (l4 : Value) (l5 : Value) (l6 : Value) (w : Wd) (I : MI) (L : ML) (P : MP)  : go 140 48 [l0, l1, l2, l3, l4, l5, l6] [] w I L P = go 140 49 [l0, l1, l2, l3, l4, l5, l6] [.int (nI 0)] w I L P := by
  refine (go_ic (m := 140) (pc := 48) (n := 0) (by decide +kernel) ic_0).trans ?_
  rfl
theorem Law_isSound_49 (l0 : Value) (l1 : Value) (l2 : Value) (l3 : Value) (l4 : Value) (l5 : Value) (l6 : Value) (y0 : Int32) (w : Wd) (I : MI) (L : ML) (P : MP)  : go 140 49 [l0, l1, l2, l3, l4, l5, l6] [.int y0] w I L P = go 140 53 [l0, l1, (fix1 l2), .int y0, .int (nI 0), l5, l6] [] w I L P := by
  refine (go_istore_n (m := 140) (pc := 49) (k := 3) (ls' := [l0, l1, (fix1 l2), .int y0, l4, l5, l6]) (by decide +kernel) (by simp only [List.length_cons, List.length_nil]; decide) rfl).trans ?_
  refine (go_ic (m := 140) (pc := 50) (n := 0) (by decide +kernel) ic_0).trans ?_
  refine (go_istore (m := 140) (pc := 51) (k := 4) (ls' := [l0, l1, (fix1 l2), .int y0, .int (nI 0), l5, l6]) (by decide +kernel) (by simp only [List.length_cons, List.length_nil]; decide) rfl).trans ?_
  rfl
theorem Law_isSound_53_0 (l1 : Value) (l2 : Value) (l3 : Value) (x_l4 : Int32) (l5 : Value) (l6 : Value) (w : Wd) (I : MI) (L : ML) (P : MP)  : go 140 53 [.null, l1, l2, l3, .int x_l4, l5, l6] [] w I L P = kC (call 133 [.null, .int (nI 1)] w I L P) (fun v w1 I1 L1 P1 => go 140 60 [.null, l1, l2, l3, .int x_l4, l5, l6] (v.toList ++ [.int x_l4]) w1 I1 L1 P1) := by
  refine (go_iload (m := 140) (pc := 53) (k := 4) (by decide +kernel) rfl).trans ?_
  refine (go_aload_nN (m := 140) (pc := 55) (k := 0) (by decide +kernel) rfl).trans ?_
  refine (go_ic (m := 140) (pc := 56) (n := 1) (by decide +kernel) ic_1).trans ?_
  exact go_sta (m := 140) (pc := 57) (o := 8) (x := 80) (y := 133) (kd := 4) (as := [.null, .int (nI 1)]) (rs := [.int x_l4]) (by decide +kernel) rfl rfl c_8_80 (Or.inr (Or.inr rfl)) rfl rfl rfl (by decide +kernel) (by simp only [List.length_cons, List.length_nil]; decide) (Nat.le_of_ble_eq_true rfl)
theorem Law_isSound_53_1 (a_l0 : Nat) (l1 : Value) (l2 : Value) (l3 : Value) (x_l4 : Int32) (l5 : Value) (l6 : Value) (w : Wd) (I : MI) (L : ML) (P : MP)  : go 140 53 [.ref a_l0, l1, l2, l3, .int x_l4, l5, l6] [] w I L P = kC (call 133 [.ref a_l0, .int (nI 1)] w I L P) (fun v w1 I1 L1 P1 => go 140 60 [.ref a_l0, l1, l2, l3, .int x_l4, l5, l6] (v.toList ++ [.int x_l4]) w1 I1 L1 P1) := by
  refine (go_iload (m := 140) (pc := 53) (k := 4) (by decide +kernel) rfl).trans ?_
  refine (go_aload_n (m := 140) (pc := 55) (k := 0) (by decide +kernel) rfl).trans ?_
  refine (go_ic (m := 140) (pc := 56) (n := 1) (by decide +kernel) ic_1).trans ?_
  exact go_sta (m := 140) (pc := 57) (o := 8) (x := 80) (y := 133) (kd := 4) (as := [.ref a_l0, .int (nI 1)]) (rs := [.int x_l4]) (by decide +kernel) rfl rfl c_8_80 (Or.inr (Or.inr rfl)) rfl rfl rfl (by decide +kernel) (by simp only [List.length_cons, List.length_nil]; decide) (Nat.le_of_ble_eq_true rfl)
theorem Law_isSound_60 (l0 : Value) (l1 : Value) (l2 : Value) (l3 : Value) (l4 : Value) (l5 : Value) (l6 : Value) (y0 : Int32) (y1 : Int32) (w : Wd) (I : MI) (L : ML) (P : MP)  : go 140 60 [l0, l1, l2, l3, l4, l5, l6] [.int y1, .int y0] w I L P = if y1 ≤ y0 then go 140 362 [l0, l1, l2, l3, l4, l5, l6] [] w I L P else go 140 63 [l0, l1, l2, l3, l4, l5, l6] [] w I L P := by
  exact go_icmpge (m := 140) (pc := 60) (off := 302) (t := 362) (by decide +kernel) (by decide)
theorem Law_isSound_63 (l0 : Value) (l1 : Value) (l2 : Value) (x_l3 : Int32) (l4 : Value) (l5 : Value) (l6 : Value) (w : Wd) (I : MI) (L : ML) (P : MP)  : go 140 63 [l0, l1, l2, .int x_l3, l4, l5, l6] [] w I L P = if x_l3 = 0 then go 140 362 [l0, l1, l2, .int x_l3, l4, l5, l6] [] w I L P else go 140 67 [l0, l1, l2, .int x_l3, l4, l5, l6] [] w I L P := by
  refine (go_iload_n (m := 140) (pc := 63) (k := 3) (by decide +kernel) rfl).trans ?_
  exact go_ifeq (m := 140) (pc := 64) (off := 298) (t := 362) (by decide +kernel) (by decide)
theorem Law_isSound_67_0 (x_l1 : Int32) (l2 : Value) (l3 : Value) (x_l4 : Int32) (l5 : Value) (l6 : Value) (w : Wd) (I : MI) (L : ML) (P : MP)  : go 140 67 [.null, .int x_l1, l2, l3, .int x_l4, l5, l6] [] w I L P = kC (call 129 [.null, .int x_l4, .int (nI 8)] w I L P) (fun v w1 I1 L1 P1 => go 140 76 [.null, .int x_l1, l2, l3, .int x_l4, l5, l6] (v.toList ++ [.int x_l1]) w1 I1 L1 P1) := by
  refine (go_iload_n (m := 140) (pc := 67) (k := 1) (by decide +kernel) rfl).trans ?_
  refine (go_aload_nN (m := 140) (pc := 68) (k := 0) (by decide +kernel) rfl).trans ?_
  refine (go_iload (m := 140) (pc := 69) (k := 4) (by decide +kernel) rfl).trans ?_
  refine (go_bi (m := 140) (pc := 71) (n := 8) (by decide +kernel) bi_8).trans ?_
  exact go_sta (m := 140) (pc := 73) (o := 8) (x := 85) (y := 129) (kd := 4) (as := [.null, .int x_l4, .int (nI 8)]) (rs := [.int x_l1]) (by decide +kernel) rfl rfl c_8_85 (Or.inr (Or.inr rfl)) rfl rfl rfl (by decide +kernel) (by simp only [List.length_cons, List.length_nil]; decide) (Nat.le_of_ble_eq_true rfl)
theorem Law_isSound_67_1 (a_l0 : Nat) (x_l1 : Int32) (l2 : Value) (l3 : Value) (x_l4 : Int32) (l5 : Value) (l6 : Value) (w : Wd) (I : MI) (L : ML) (P : MP)  : go 140 67 [.ref a_l0, .int x_l1, l2, l3, .int x_l4, l5, l6] [] w I L P = kC (call 129 [.ref a_l0, .int x_l4, .int (nI 8)] w I L P) (fun v w1 I1 L1 P1 => go 140 76 [.ref a_l0, .int x_l1, l2, l3, .int x_l4, l5, l6] (v.toList ++ [.int x_l1]) w1 I1 L1 P1) := by
  refine (go_iload_n (m := 140) (pc := 67) (k := 1) (by decide +kernel) rfl).trans ?_
  refine (go_aload_n (m := 140) (pc := 68) (k := 0) (by decide +kernel) rfl).trans ?_
  refine (go_iload (m := 140) (pc := 69) (k := 4) (by decide +kernel) rfl).trans ?_
  refine (go_bi (m := 140) (pc := 71) (n := 8) (by decide +kernel) bi_8).trans ?_
  exact go_sta (m := 140) (pc := 73) (o := 8) (x := 85) (y := 129) (kd := 4) (as := [.ref a_l0, .int x_l4, .int (nI 8)]) (rs := [.int x_l1]) (by decide +kernel) rfl rfl c_8_85 (Or.inr (Or.inr rfl)) rfl rfl rfl (by decide +kernel) (by simp only [List.length_cons, List.length_nil]; decide) (Nat.le_of_ble_eq_true rfl)
theorem Law_isSound_76_0 (l1 : Value) (l2 : Value) (l3 : Value) (x_l4 : Int32) (l5 : Value) (l6 : Value) (y0 : Int32) (y1 : Int32) (w : Wd) (I : MI) (L : ML) (P : MP)  : go 140 76 [.null, l1, l2, l3, .int x_l4, l5, l6] [.int y1, .int y0] w I L P = kC (call 129 [.null, .int x_l4, .int (nI 8)] w I L P) (fun v w1 I1 L1 P1 => go 140 89 [.null, .int (y0 ||| (y1 <<< (x_l4 &&& 31))), l2, l3, .int x_l4, l5, l6] (v.toList ++ []) w1 I1 L1 P1) := by
  refine (go_iload (m := 140) (pc := 76) (k := 4) (by decide +kernel) rfl).trans ?_
  refine (go_ishl (m := 140) (pc := 78) (by decide +kernel)).trans ?_
  refine (go_ior (m := 140) (pc := 79) (by decide +kernel)).trans ?_
  refine (go_istore_n (m := 140) (pc := 80) (k := 1) (ls' := [.null, .int (y0 ||| (y1 <<< (x_l4 &&& 31))), l2, l3, .int x_l4, l5, l6]) (by decide +kernel) (by simp only [List.length_cons, List.length_nil]; decide) rfl).trans ?_
  refine (go_aload_nN (m := 140) (pc := 81) (k := 0) (by decide +kernel) rfl).trans ?_
  refine (go_iload (m := 140) (pc := 82) (k := 4) (by decide +kernel) rfl).trans ?_
  refine (go_bi (m := 140) (pc := 84) (n := 8) (by decide +kernel) bi_8).trans ?_
  exact go_sta (m := 140) (pc := 86) (o := 8) (x := 85) (y := 129) (kd := 4) (as := [.null, .int x_l4, .int (nI 8)]) (rs := []) (by decide +kernel) rfl rfl c_8_85 (Or.inr (Or.inr rfl)) rfl rfl rfl (by decide +kernel) (by simp only [List.length_cons, List.length_nil]; decide) (Nat.le_of_ble_eq_true rfl)
theorem Law_isSound_76_1 (a_l0 : Nat) (l1 : Value) (l2 : Value) (l3 : Value) (x_l4 : Int32) (l5 : Value) (l6 : Value) (y0 : Int32) (y1 : Int32) (w : Wd) (I : MI) (L : ML) (P : MP)  : go 140 76 [.ref a_l0, l1, l2, l3, .int x_l4, l5, l6] [.int y1, .int y0] w I L P = kC (call 129 [.ref a_l0, .int x_l4, .int (nI 8)] w I L P) (fun v w1 I1 L1 P1 => go 140 89 [.ref a_l0, .int (y0 ||| (y1 <<< (x_l4 &&& 31))), l2, l3, .int x_l4, l5, l6] (v.toList ++ []) w1 I1 L1 P1) := by
  refine (go_iload (m := 140) (pc := 76) (k := 4) (by decide +kernel) rfl).trans ?_
  refine (go_ishl (m := 140) (pc := 78) (by decide +kernel)).trans ?_
  refine (go_ior (m := 140) (pc := 79) (by decide +kernel)).trans ?_
  refine (go_istore_n (m := 140) (pc := 80) (k := 1) (ls' := [.ref a_l0, .int (y0 ||| (y1 <<< (x_l4 &&& 31))), l2, l3, .int x_l4, l5, l6]) (by decide +kernel) (by simp only [List.length_cons, List.length_nil]; decide) rfl).trans ?_
  refine (go_aload_n (m := 140) (pc := 81) (k := 0) (by decide +kernel) rfl).trans ?_
  refine (go_iload (m := 140) (pc := 82) (k := 4) (by decide +kernel) rfl).trans ?_
  refine (go_bi (m := 140) (pc := 84) (n := 8) (by decide +kernel) bi_8).trans ?_
  exact go_sta (m := 140) (pc := 86) (o := 8) (x := 85) (y := 129) (kd := 4) (as := [.ref a_l0, .int x_l4, .int (nI 8)]) (rs := []) (by decide +kernel) rfl rfl c_8_85 (Or.inr (Or.inr rfl)) rfl rfl rfl (by decide +kernel) (by simp only [List.length_cons, List.length_nil]; decide) (Nat.le_of_ble_eq_true rfl)
theorem Law_isSound_89 (l0 : Value) (l1 : Value) (l2 : Value) (l3 : Value) (l4 : Value) (l5 : Value) (l6 : Value) (y0 : Int32) (w : Wd) (I : MI) (L : ML) (P : MP)  : go 140 89 [l0, l1, l2, l3, l4, l5, l6] [.int y0] w I L P = if y0 = 0 then go 140 102 [l0, l1, l2, l3, l4, l5, l6] [] w I L P else go 140 92 [l0, l1, l2, l3, l4, l5, l6] [] w I L P := by
  exact go_ifeq (m := 140) (pc := 89) (off := 13) (t := 102) (by decide +kernel) (by decide)
theorem Law_isSound_92_0 (l1 : Value) (l2 : Value) (l3 : Value) (x_l4 : Int32) (l5 : Value) (l6 : Value) (w : Wd) (I : MI) (L : ML) (P : MP)  : go 140 92 [.null, l1, l2, l3, .int x_l4, l5, l6] [] w I L P = kC (call 129 [.null, .int x_l4, .int (nI 0)] w I L P) (fun v w1 I1 L1 P1 => go 140 99 [.null, l1, l2, l3, .int x_l4, l5, l6] (v.toList ++ []) w1 I1 L1 P1) := by
  refine (go_aload_nN (m := 140) (pc := 92) (k := 0) (by decide +kernel) rfl).trans ?_
  refine (go_iload (m := 140) (pc := 93) (k := 4) (by decide +kernel) rfl).trans ?_
  refine (go_ic (m := 140) (pc := 95) (n := 0) (by decide +kernel) ic_0).trans ?_
  exact go_sta (m := 140) (pc := 96) (o := 8) (x := 85) (y := 129) (kd := 4) (as := [.null, .int x_l4, .int (nI 0)]) (rs := []) (by decide +kernel) rfl rfl c_8_85 (Or.inr (Or.inr rfl)) rfl rfl rfl (by decide +kernel) (by simp only [List.length_cons, List.length_nil]; decide) (Nat.le_of_ble_eq_true rfl)
theorem Law_isSound_92_1 (a_l0 : Nat) (l1 : Value) (l2 : Value) (l3 : Value) (x_l4 : Int32) (l5 : Value) (l6 : Value) (w : Wd) (I : MI) (L : ML) (P : MP)  : go 140 92 [.ref a_l0, l1, l2, l3, .int x_l4, l5, l6] [] w I L P = kC (call 129 [.ref a_l0, .int x_l4, .int (nI 0)] w I L P) (fun v w1 I1 L1 P1 => go 140 99 [.ref a_l0, l1, l2, l3, .int x_l4, l5, l6] (v.toList ++ []) w1 I1 L1 P1) := by
  refine (go_aload_n (m := 140) (pc := 92) (k := 0) (by decide +kernel) rfl).trans ?_
  refine (go_iload (m := 140) (pc := 93) (k := 4) (by decide +kernel) rfl).trans ?_
  refine (go_ic (m := 140) (pc := 95) (n := 0) (by decide +kernel) ic_0).trans ?_
  exact go_sta (m := 140) (pc := 96) (o := 8) (x := 85) (y := 129) (kd := 4) (as := [.ref a_l0, .int x_l4, .int (nI 0)]) (rs := []) (by decide +kernel) rfl rfl c_8_85 (Or.inr (Or.inr rfl)) rfl rfl rfl (by decide +kernel) (by simp only [List.length_cons, List.length_nil]; decide) (Nat.le_of_ble_eq_true rfl)
theorem Law_isSound_99 (l0 : Value) (l1 : Value) (l2 : Value) (l3 : Value) (l4 : Value) (l5 : Value) (l6 : Value) (y0 : Int32) (w : Wd) (I : MI) (L : ML) (P : MP)  : go 140 99 [l0, l1, l2, l3, l4, l5, l6] [.int y0] w I L P = if y0 ≤ 0 then go 140 222 [l0, l1, l2, l3, l4, l5, l6] [] w I L P else go 140 102 [l0, l1, l2, l3, l4, l5, l6] [] w I L P := by
  exact go_ifle (m := 140) (pc := 99) (off := 123) (t := 222) (by decide +kernel) (by decide)
theorem Law_isSound_102_0 (l1 : Value) (l2 : Value) (l3 : Value) (x_l4 : Int32) (l5 : Value) (l6 : Value) (w : Wd) (I : MI) (L : ML) (P : MP)  : go 140 102 [.null, l1, l2, l3, .int x_l4, l5, l6] [] w I L P = kC (call 129 [.null, .int x_l4, .int (nI 0)] w I L P) (fun v w1 I1 L1 P1 => go 140 109 [.null, l1, l2, l3, .int x_l4, l5, l6] (v.toList ++ []) w1 I1 L1 P1) := by
  refine (go_aload_nN (m := 140) (pc := 102) (k := 0) (by decide +kernel) rfl).trans ?_
  refine (go_iload (m := 140) (pc := 103) (k := 4) (by decide +kernel) rfl).trans ?_
  refine (go_ic (m := 140) (pc := 105) (n := 0) (by decide +kernel) ic_0).trans ?_
  exact go_sta (m := 140) (pc := 106) (o := 8) (x := 85) (y := 129) (kd := 4) (as := [.null, .int x_l4, .int (nI 0)]) (rs := []) (by decide +kernel) rfl rfl c_8_85 (Or.inr (Or.inr rfl)) rfl rfl rfl (by decide +kernel) (by simp only [List.length_cons, List.length_nil]; decide) (Nat.le_of_ble_eq_true rfl)
theorem Law_isSound_102_1 (a_l0 : Nat) (l1 : Value) (l2 : Value) (l3 : Value) (x_l4 : Int32) (l5 : Value) (l6 : Value) (w : Wd) (I : MI) (L : ML) (P : MP)  : go 140 102 [.ref a_l0, l1, l2, l3, .int x_l4, l5, l6] [] w I L P = kC (call 129 [.ref a_l0, .int x_l4, .int (nI 0)] w I L P) (fun v w1 I1 L1 P1 => go 140 109 [.ref a_l0, l1, l2, l3, .int x_l4, l5, l6] (v.toList ++ []) w1 I1 L1 P1) := by
  refine (go_aload_n (m := 140) (pc := 102) (k := 0) (by decide +kernel) rfl).trans ?_
  refine (go_iload (m := 140) (pc := 103) (k := 4) (by decide +kernel) rfl).trans ?_
  refine (go_ic (m := 140) (pc := 105) (n := 0) (by decide +kernel) ic_0).trans ?_
  exact go_sta (m := 140) (pc := 106) (o := 8) (x := 85) (y := 129) (kd := 4) (as := [.ref a_l0, .int x_l4, .int (nI 0)]) (rs := []) (by decide +kernel) rfl rfl c_8_85 (Or.inr (Or.inr rfl)) rfl rfl rfl (by decide +kernel) (by simp only [List.length_cons, List.length_nil]; decide) (Nat.le_of_ble_eq_true rfl)
theorem Law_isSound_109 (l0 : Value) (l1 : Value) (l2 : Value) (l3 : Value) (l4 : Value) (l5 : Value) (l6 : Value) (y0 : Int32) (w : Wd) (I : MI) (L : ML) (P : MP)  : go 140 109 [l0, l1, l2, l3, l4, l5, l6] [.int y0] w I L P = if (nI 4) < y0 then go 140 222 [l0, l1, l2, l3, l4, l5, l6] [] w I L P else go 140 113 [l0, l1, l2, l3, l4, l5, l6] [] w I L P := by
  refine (go_ic (m := 140) (pc := 109) (n := 4) (by decide +kernel) ic_4).trans ?_
  exact go_icmpgt (m := 140) (pc := 110) (off := 112) (t := 222) (by decide +kernel) (by decide)
theorem Law_isSound_113_0 (l1 : Value) (l2 : Value) (l3 : Value) (x_l4 : Int32) (l5 : Value) (l6 : Value) (w : Wd) (I : MI) (L : ML) (P : MP)  : go 140 113 [.null, l1, l2, l3, .int x_l4, l5, l6] [] w I L P = kC (call 129 [.null, .int x_l4, .int (nI 5)] w I L P) (fun v w1 I1 L1 P1 => go 140 120 [.null, l1, l2, l3, .int x_l4, l5, l6] (v.toList ++ []) w1 I1 L1 P1) := by
  refine (go_aload_nN (m := 140) (pc := 113) (k := 0) (by decide +kernel) rfl).trans ?_
  refine (go_iload (m := 140) (pc := 114) (k := 4) (by decide +kernel) rfl).trans ?_
  refine (go_ic (m := 140) (pc := 116) (n := 5) (by decide +kernel) ic_5).trans ?_
  exact go_sta (m := 140) (pc := 117) (o := 8) (x := 85) (y := 129) (kd := 4) (as := [.null, .int x_l4, .int (nI 5)]) (rs := []) (by decide +kernel) rfl rfl c_8_85 (Or.inr (Or.inr rfl)) rfl rfl rfl (by decide +kernel) (by simp only [List.length_cons, List.length_nil]; decide) (Nat.le_of_ble_eq_true rfl)
theorem Law_isSound_113_1 (a_l0 : Nat) (l1 : Value) (l2 : Value) (l3 : Value) (x_l4 : Int32) (l5 : Value) (l6 : Value) (w : Wd) (I : MI) (L : ML) (P : MP)  : go 140 113 [.ref a_l0, l1, l2, l3, .int x_l4, l5, l6] [] w I L P = kC (call 129 [.ref a_l0, .int x_l4, .int (nI 5)] w I L P) (fun v w1 I1 L1 P1 => go 140 120 [.ref a_l0, l1, l2, l3, .int x_l4, l5, l6] (v.toList ++ []) w1 I1 L1 P1) := by
  refine (go_aload_n (m := 140) (pc := 113) (k := 0) (by decide +kernel) rfl).trans ?_
  refine (go_iload (m := 140) (pc := 114) (k := 4) (by decide +kernel) rfl).trans ?_
  refine (go_ic (m := 140) (pc := 116) (n := 5) (by decide +kernel) ic_5).trans ?_
  exact go_sta (m := 140) (pc := 117) (o := 8) (x := 85) (y := 129) (kd := 4) (as := [.ref a_l0, .int x_l4, .int (nI 5)]) (rs := []) (by decide +kernel) rfl rfl c_8_85 (Or.inr (Or.inr rfl)) rfl rfl rfl (by decide +kernel) (by simp only [List.length_cons, List.length_nil]; decide) (Nat.le_of_ble_eq_true rfl)
theorem Law_isSound_120_0 (l1 : Value) (l2 : Value) (l3 : Value) (x_l4 : Int32) (l5 : Value) (l6 : Value) (y0 : Int32) (w : Wd) (I : MI) (L : ML) (P : MP)  : go 140 120 [.null, l1, l2, l3, .int x_l4, l5, l6] [.int y0] w I L P = kC (call 129 [.null, .int x_l4, .int (nI 4)] w I L P) (fun v w1 I1 L1 P1 => go 140 127 [.null, l1, l2, l3, .int x_l4, l5, l6] (v.toList ++ [.int y0]) w1 I1 L1 P1) := by
  refine (go_aload_nN (m := 140) (pc := 120) (k := 0) (by decide +kernel) rfl).trans ?_
  refine (go_iload (m := 140) (pc := 121) (k := 4) (by decide +kernel) rfl).trans ?_
  refine (go_ic (m := 140) (pc := 123) (n := 4) (by decide +kernel) ic_4).trans ?_
  exact go_sta (m := 140) (pc := 124) (o := 8) (x := 85) (y := 129) (kd := 4) (as := [.null, .int x_l4, .int (nI 4)]) (rs := [.int y0]) (by decide +kernel) rfl rfl c_8_85 (Or.inr (Or.inr rfl)) rfl rfl rfl (by decide +kernel) (by simp only [List.length_cons, List.length_nil]; decide) (Nat.le_of_ble_eq_true rfl)
theorem Law_isSound_120_1 (a_l0 : Nat) (l1 : Value) (l2 : Value) (l3 : Value) (x_l4 : Int32) (l5 : Value) (l6 : Value) (y0 : Int32) (w : Wd) (I : MI) (L : ML) (P : MP)  : go 140 120 [.ref a_l0, l1, l2, l3, .int x_l4, l5, l6] [.int y0] w I L P = kC (call 129 [.ref a_l0, .int x_l4, .int (nI 4)] w I L P) (fun v w1 I1 L1 P1 => go 140 127 [.ref a_l0, l1, l2, l3, .int x_l4, l5, l6] (v.toList ++ [.int y0]) w1 I1 L1 P1) := by
  refine (go_aload_n (m := 140) (pc := 120) (k := 0) (by decide +kernel) rfl).trans ?_
  refine (go_iload (m := 140) (pc := 121) (k := 4) (by decide +kernel) rfl).trans ?_
  refine (go_ic (m := 140) (pc := 123) (n := 4) (by decide +kernel) ic_4).trans ?_
  exact go_sta (m := 140) (pc := 124) (o := 8) (x := 85) (y := 129) (kd := 4) (as := [.ref a_l0, .int x_l4, .int (nI 4)]) (rs := [.int y0]) (by decide +kernel) rfl rfl c_8_85 (Or.inr (Or.inr rfl)) rfl rfl rfl (by decide +kernel) (by simp only [List.length_cons, List.length_nil]; decide) (Nat.le_of_ble_eq_true rfl)
theorem Law_isSound_127 (l0 : Value) (l1 : Value) (l2 : Value) (l3 : Value) (l4 : Value) (l5 : Value) (l6 : Value) (y0 : Int32) (y1 : Int32) (w : Wd) (I : MI) (L : ML) (P : MP)  : go 140 127 [l0, l1, l2, l3, l4, l5, l6] [.int y1, .int y0] w I L P = if y0 < y1 then go 140 222 [l0, l1, l2, l3, l4, l5, l6] [] w I L P else go 140 130 [l0, l1, l2, l3, l4, l5, l6] [] w I L P := by
  exact go_icmplt (m := 140) (pc := 127) (off := 95) (t := 222) (by decide +kernel) (by decide)
theorem Law_isSound_130_0 (l1 : Value) (l2 : Value) (l3 : Value) (x_l4 : Int32) (l5 : Value) (l6 : Value) (w : Wd) (I : MI) (L : ML) (P : MP)  : go 140 130 [.null, l1, l2, l3, .int x_l4, l5, l6] [] w I L P = kC (call 129 [.null, .int x_l4, .int (nI 6)] w I L P) (fun v w1 I1 L1 P1 => go 140 138 [.null, l1, l2, l3, .int x_l4, l5, l6] (v.toList ++ []) w1 I1 L1 P1) := by
  refine (go_aload_nN (m := 140) (pc := 130) (k := 0) (by decide +kernel) rfl).trans ?_
  refine (go_iload (m := 140) (pc := 131) (k := 4) (by decide +kernel) rfl).trans ?_
  refine (go_bi (m := 140) (pc := 133) (n := 6) (by decide +kernel) bi_6).trans ?_
  exact go_sta (m := 140) (pc := 135) (o := 8) (x := 85) (y := 129) (kd := 4) (as := [.null, .int x_l4, .int (nI 6)]) (rs := []) (by decide +kernel) rfl rfl c_8_85 (Or.inr (Or.inr rfl)) rfl rfl rfl (by decide +kernel) (by simp only [List.length_cons, List.length_nil]; decide) (Nat.le_of_ble_eq_true rfl)
theorem Law_isSound_130_1 (a_l0 : Nat) (l1 : Value) (l2 : Value) (l3 : Value) (x_l4 : Int32) (l5 : Value) (l6 : Value) (w : Wd) (I : MI) (L : ML) (P : MP)  : go 140 130 [.ref a_l0, l1, l2, l3, .int x_l4, l5, l6] [] w I L P = kC (call 129 [.ref a_l0, .int x_l4, .int (nI 6)] w I L P) (fun v w1 I1 L1 P1 => go 140 138 [.ref a_l0, l1, l2, l3, .int x_l4, l5, l6] (v.toList ++ []) w1 I1 L1 P1) := by
  refine (go_aload_n (m := 140) (pc := 130) (k := 0) (by decide +kernel) rfl).trans ?_
  refine (go_iload (m := 140) (pc := 131) (k := 4) (by decide +kernel) rfl).trans ?_
  refine (go_bi (m := 140) (pc := 133) (n := 6) (by decide +kernel) bi_6).trans ?_
  exact go_sta (m := 140) (pc := 135) (o := 8) (x := 85) (y := 129) (kd := 4) (as := [.ref a_l0, .int x_l4, .int (nI 6)]) (rs := []) (by decide +kernel) rfl rfl c_8_85 (Or.inr (Or.inr rfl)) rfl rfl rfl (by decide +kernel) (by simp only [List.length_cons, List.length_nil]; decide) (Nat.le_of_ble_eq_true rfl)
theorem Law_isSound_138 (l0 : Value) (l1 : Value) (l2 : Value) (l3 : Value) (l4 : Value) (l5 : Value) (l6 : Value) (y0 : Int32) (w : Wd) (I : MI) (L : ML) (P : MP)  : go 140 138 [l0, l1, l2, l3, l4, l5, l6] [.int y0] w I L P = if y0 ≠ 0 then go 140 145 [l0, l1, l2, l3, l4, l5, l6] [] w I L P else go 140 141 [l0, l1, l2, l3, l4, l5, l6] [] w I L P := by
  exact go_ifne (m := 140) (pc := 138) (off := 7) (t := 145) (by decide +kernel) (by decide)
theorem Law_isSound_141 (l0 : Value) (l1 : Value) (l2 : Value) (l3 : Value) (l4 : Value) (l5 : Value) (l6 : Value) (w : Wd) (I : MI) (L : ML) (P : MP)  : go 140 141 [l0, l1, l2, l3, l4, l5, l6] [] w I L P = go 140 146 [l0, l1, l2, l3, l4, l5, l6] [.int (nI 1)] w I L P := by
  refine (go_ic (m := 140) (pc := 141) (n := 1) (by decide +kernel) ic_1).trans ?_
  refine (go_goto (m := 140) (pc := 142) (off := 4) (t := 146) (by decide +kernel) (by decide)).trans ?_
  rfl
theorem Law_isSound_145 (l0 : Value) (l1 : Value) (l2 : Value) (l3 : Value) (l4 : Value) (l5 : Value) (l6 : Value) (w : Wd) (I : MI) (L : ML) (P : MP)  : go 140 145 [l0, l1, l2, l3, l4, l5, l6] [] w I L P = go 140 146 [l0, l1, l2, l3, l4, l5, l6] [.int (nI 0)] w I L P := by
  refine (go_ic (m := 140) (pc := 145) (n := 0) (by decide +kernel) ic_0).trans ?_
  rfl
theorem Law_isSound_146_0 (l1 : Value) (l2 : Value) (l3 : Value) (x_l4 : Int32) (l5 : Value) (l6 : Value) (y0 : Int32) (w : Wd) (I : MI) (L : ML) (P : MP)  : go 140 146 [.null, l1, l2, l3, .int x_l4, l5, l6] [.int y0] w I L P = kC (call 129 [.null, .int x_l4, .int (nI 7)] w I L P) (fun v w1 I1 L1 P1 => go 140 154 [.null, l1, l2, l3, .int x_l4, l5, l6] (v.toList ++ [.int y0]) w1 I1 L1 P1) := by
  refine (go_aload_nN (m := 140) (pc := 146) (k := 0) (by decide +kernel) rfl).trans ?_
  refine (go_iload (m := 140) (pc := 147) (k := 4) (by decide +kernel) rfl).trans ?_
  refine (go_bi (m := 140) (pc := 149) (n := 7) (by decide +kernel) bi_7).trans ?_
  exact go_sta (m := 140) (pc := 151) (o := 8) (x := 85) (y := 129) (kd := 4) (as := [.null, .int x_l4, .int (nI 7)]) (rs := [.int y0]) (by decide +kernel) rfl rfl c_8_85 (Or.inr (Or.inr rfl)) rfl rfl rfl (by decide +kernel) (by simp only [List.length_cons, List.length_nil]; decide) (Nat.le_of_ble_eq_true rfl)
theorem Law_isSound_146_1 (a_l0 : Nat) (l1 : Value) (l2 : Value) (l3 : Value) (x_l4 : Int32) (l5 : Value) (l6 : Value) (y0 : Int32) (w : Wd) (I : MI) (L : ML) (P : MP)  : go 140 146 [.ref a_l0, l1, l2, l3, .int x_l4, l5, l6] [.int y0] w I L P = kC (call 129 [.ref a_l0, .int x_l4, .int (nI 7)] w I L P) (fun v w1 I1 L1 P1 => go 140 154 [.ref a_l0, l1, l2, l3, .int x_l4, l5, l6] (v.toList ++ [.int y0]) w1 I1 L1 P1) := by
  refine (go_aload_n (m := 140) (pc := 146) (k := 0) (by decide +kernel) rfl).trans ?_
  refine (go_iload (m := 140) (pc := 147) (k := 4) (by decide +kernel) rfl).trans ?_
  refine (go_bi (m := 140) (pc := 149) (n := 7) (by decide +kernel) bi_7).trans ?_
  exact go_sta (m := 140) (pc := 151) (o := 8) (x := 85) (y := 129) (kd := 4) (as := [.ref a_l0, .int x_l4, .int (nI 7)]) (rs := [.int y0]) (by decide +kernel) rfl rfl c_8_85 (Or.inr (Or.inr rfl)) rfl rfl rfl (by decide +kernel) (by simp only [List.length_cons, List.length_nil]; decide) (Nat.le_of_ble_eq_true rfl)
theorem Law_isSound_154 (l0 : Value) (l1 : Value) (l2 : Value) (l3 : Value) (l4 : Value) (l5 : Value) (l6 : Value) (y0 : Int32) (y1 : Int32) (w : Wd) (I : MI) (L : ML) (P : MP)  : go 140 154 [l0, l1, l2, l3, l4, l5, l6] [.int y1, .int y0] w I L P = if y1 ≠ (-1) then go 140 162 [l0, l1, l2, l3, l4, l5, l6] [.int y0] w I L P else go 140 158 [l0, l1, l2, l3, l4, l5, l6] [.int y0] w I L P := by
  refine (go_ic (m := 140) (pc := 154) (n := -1) (by decide +kernel) ic_m1).trans ?_
  exact go_icmpne (m := 140) (pc := 155) (off := 7) (t := 162) (by decide +kernel) (by decide)
theorem Law_isSound_158 (l0 : Value) (l1 : Value) (l2 : Value) (l3 : Value) (l4 : Value) (l5 : Value) (l6 : Value) (y0 : Int32) (w : Wd) (I : MI) (L : ML) (P : MP)  : go 140 158 [l0, l1, l2, l3, l4, l5, l6] [.int y0] w I L P = go 140 163 [l0, l1, l2, l3, l4, l5, l6] [.int (nI 1), .int y0] w I L P := by
  refine (go_ic (m := 140) (pc := 158) (n := 1) (by decide +kernel) ic_1).trans ?_
  refine (go_goto (m := 140) (pc := 159) (off := 4) (t := 163) (by decide +kernel) (by decide)).trans ?_
  rfl
theorem Law_isSound_162 (l0 : Value) (l1 : Value) (l2 : Value) (l3 : Value) (l4 : Value) (l5 : Value) (l6 : Value) (y0 : Int32) (w : Wd) (I : MI) (L : ML) (P : MP)  : go 140 162 [l0, l1, l2, l3, l4, l5, l6] [.int y0] w I L P = go 140 163 [l0, l1, l2, l3, l4, l5, l6] [.int (nI 0), .int y0] w I L P := by
  refine (go_ic (m := 140) (pc := 162) (n := 0) (by decide +kernel) ic_0).trans ?_
  rfl
theorem Law_isSound_163 (l0 : Value) (l1 : Value) (l2 : Value) (l3 : Value) (l4 : Value) (l5 : Value) (l6 : Value) (y0 : Int32) (y1 : Int32) (w : Wd) (I : MI) (L : ML) (P : MP)  : go 140 163 [l0, l1, l2, l3, l4, l5, l6] [.int y1, .int y0] w I L P = if y0 ≠ y1 then go 140 222 [l0, l1, l2, l3, l4, l5, l6] [] w I L P else go 140 166 [l0, l1, l2, l3, l4, l5, l6] [] w I L P := by
  exact go_icmpne (m := 140) (pc := 163) (off := 59) (t := 222) (by decide +kernel) (by decide)
theorem Law_isSound_166_0 (l1 : Value) (l2 : Value) (l3 : Value) (x_l4 : Int32) (l5 : Value) (l6 : Value) (w : Wd) (I : MI) (L : ML) (P : MP)  : go 140 166 [.null, l1, l2, l3, .int x_l4, l5, l6] [] w I L P = kC (call 129 [.null, .int x_l4, .int (nI 0)] w I L P) (fun v w1 I1 L1 P1 => go 140 173 [.null, l1, l2, l3, .int x_l4, l5, l6] (v.toList ++ []) w1 I1 L1 P1) := by
  refine (go_aload_nN (m := 140) (pc := 166) (k := 0) (by decide +kernel) rfl).trans ?_
  refine (go_iload (m := 140) (pc := 167) (k := 4) (by decide +kernel) rfl).trans ?_
  refine (go_ic (m := 140) (pc := 169) (n := 0) (by decide +kernel) ic_0).trans ?_
  exact go_sta (m := 140) (pc := 170) (o := 8) (x := 85) (y := 129) (kd := 4) (as := [.null, .int x_l4, .int (nI 0)]) (rs := []) (by decide +kernel) rfl rfl c_8_85 (Or.inr (Or.inr rfl)) rfl rfl rfl (by decide +kernel) (by simp only [List.length_cons, List.length_nil]; decide) (Nat.le_of_ble_eq_true rfl)
theorem Law_isSound_166_1 (a_l0 : Nat) (l1 : Value) (l2 : Value) (l3 : Value) (x_l4 : Int32) (l5 : Value) (l6 : Value) (w : Wd) (I : MI) (L : ML) (P : MP)  : go 140 166 [.ref a_l0, l1, l2, l3, .int x_l4, l5, l6] [] w I L P = kC (call 129 [.ref a_l0, .int x_l4, .int (nI 0)] w I L P) (fun v w1 I1 L1 P1 => go 140 173 [.ref a_l0, l1, l2, l3, .int x_l4, l5, l6] (v.toList ++ []) w1 I1 L1 P1) := by
  refine (go_aload_n (m := 140) (pc := 166) (k := 0) (by decide +kernel) rfl).trans ?_
  refine (go_iload (m := 140) (pc := 167) (k := 4) (by decide +kernel) rfl).trans ?_
  refine (go_ic (m := 140) (pc := 169) (n := 0) (by decide +kernel) ic_0).trans ?_
  exact go_sta (m := 140) (pc := 170) (o := 8) (x := 85) (y := 129) (kd := 4) (as := [.ref a_l0, .int x_l4, .int (nI 0)]) (rs := []) (by decide +kernel) rfl rfl c_8_85 (Or.inr (Or.inr rfl)) rfl rfl rfl (by decide +kernel) (by simp only [List.length_cons, List.length_nil]; decide) (Nat.le_of_ble_eq_true rfl)
theorem Law_isSound_173 (l0 : Value) (l1 : Value) (l2 : Value) (l3 : Value) (l4 : Value) (l5 : Value) (l6 : Value) (y0 : Int32) (w : Wd) (I : MI) (L : ML) (P : MP)  : go 140 173 [l0, l1, l2, l3, l4, l5, l6] [.int y0] w I L P = if y0 ≠ 0 then go 140 180 [l0, l1, l2, l3, l4, l5, l6] [] w I L P else go 140 176 [l0, l1, l2, l3, l4, l5, l6] [] w I L P := by
  exact go_ifne (m := 140) (pc := 173) (off := 7) (t := 180) (by decide +kernel) (by decide)
theorem Law_isSound_176 (l0 : Value) (l1 : Value) (l2 : Value) (l3 : Value) (l4 : Value) (l5 : Value) (l6 : Value) (w : Wd) (I : MI) (L : ML) (P : MP)  : go 140 176 [l0, l1, l2, l3, l4, l5, l6] [] w I L P = go 140 181 [l0, l1, l2, l3, l4, l5, l6] [.int (nI 1)] w I L P := by
  refine (go_ic (m := 140) (pc := 176) (n := 1) (by decide +kernel) ic_1).trans ?_
  refine (go_goto (m := 140) (pc := 177) (off := 4) (t := 181) (by decide +kernel) (by decide)).trans ?_
  rfl
theorem Law_isSound_180 (l0 : Value) (l1 : Value) (l2 : Value) (l3 : Value) (l4 : Value) (l5 : Value) (l6 : Value) (w : Wd) (I : MI) (L : ML) (P : MP)  : go 140 180 [l0, l1, l2, l3, l4, l5, l6] [] w I L P = go 140 181 [l0, l1, l2, l3, l4, l5, l6] [.int (nI 0)] w I L P := by
  refine (go_ic (m := 140) (pc := 180) (n := 0) (by decide +kernel) ic_0).trans ?_
  rfl
theorem Law_isSound_181_0 (l1 : Value) (l2 : Value) (l3 : Value) (x_l4 : Int32) (l5 : Value) (l6 : Value) (y0 : Int32) (w : Wd) (I : MI) (L : ML) (P : MP)  : go 140 181 [.null, l1, l2, l3, .int x_l4, l5, l6] [.int y0] w I L P = kC (call 135 [.null, .int x_l4] w I L P) (fun v w1 I1 L1 P1 => go 140 187 [.null, l1, l2, l3, .int x_l4, l5, l6] (v.toList ++ [.int y0]) w1 I1 L1 P1) := by
  refine (go_aload_nN (m := 140) (pc := 181) (k := 0) (by decide +kernel) rfl).trans ?_
  refine (go_iload (m := 140) (pc := 182) (k := 4) (by decide +kernel) rfl).trans ?_
  exact go_sta (m := 140) (pc := 184) (o := 8) (x := 88) (y := 135) (kd := 4) (as := [.null, .int x_l4]) (rs := [.int y0]) (by decide +kernel) rfl rfl c_8_88 (Or.inr (Or.inr rfl)) rfl rfl rfl (by decide +kernel) (by simp only [List.length_cons, List.length_nil]; decide) (Nat.le_of_ble_eq_true rfl)
theorem Law_isSound_181_1 (a_l0 : Nat) (l1 : Value) (l2 : Value) (l3 : Value) (x_l4 : Int32) (l5 : Value) (l6 : Value) (y0 : Int32) (w : Wd) (I : MI) (L : ML) (P : MP)  : go 140 181 [.ref a_l0, l1, l2, l3, .int x_l4, l5, l6] [.int y0] w I L P = kC (call 135 [.ref a_l0, .int x_l4] w I L P) (fun v w1 I1 L1 P1 => go 140 187 [.ref a_l0, l1, l2, l3, .int x_l4, l5, l6] (v.toList ++ [.int y0]) w1 I1 L1 P1) := by
  refine (go_aload_n (m := 140) (pc := 181) (k := 0) (by decide +kernel) rfl).trans ?_
  refine (go_iload (m := 140) (pc := 182) (k := 4) (by decide +kernel) rfl).trans ?_
  exact go_sta (m := 140) (pc := 184) (o := 8) (x := 88) (y := 135) (kd := 4) (as := [.ref a_l0, .int x_l4]) (rs := [.int y0]) (by decide +kernel) rfl rfl c_8_88 (Or.inr (Or.inr rfl)) rfl rfl rfl (by decide +kernel) (by simp only [List.length_cons, List.length_nil]; decide) (Nat.le_of_ble_eq_true rfl)
theorem Law_isSound_187 (l0 : Value) (l1 : Value) (l2 : Value) (l3 : Value) (l4 : Value) (l5 : Value) (l6 : Value) (y0 : Int32) (y1 : Int32) (w : Wd) (I : MI) (L : ML) (P : MP)  : go 140 187 [l0, l1, l2, l3, l4, l5, l6] [.int y1, .int y0] w I L P = if y1 ≠ (-1) then go 140 195 [l0, l1, l2, l3, l4, l5, l6] [.int y0] w I L P else go 140 191 [l0, l1, l2, l3, l4, l5, l6] [.int y0] w I L P := by
  refine (go_ic (m := 140) (pc := 187) (n := -1) (by decide +kernel) ic_m1).trans ?_
  exact go_icmpne (m := 140) (pc := 188) (off := 7) (t := 195) (by decide +kernel) (by decide)
theorem Law_isSound_191 (l0 : Value) (l1 : Value) (l2 : Value) (l3 : Value) (l4 : Value) (l5 : Value) (l6 : Value) (y0 : Int32) (w : Wd) (I : MI) (L : ML) (P : MP)  : go 140 191 [l0, l1, l2, l3, l4, l5, l6] [.int y0] w I L P = go 140 196 [l0, l1, l2, l3, l4, l5, l6] [.int (nI 1), .int y0] w I L P := by
  refine (go_ic (m := 140) (pc := 191) (n := 1) (by decide +kernel) ic_1).trans ?_
  refine (go_goto (m := 140) (pc := 192) (off := 4) (t := 196) (by decide +kernel) (by decide)).trans ?_
  rfl
theorem Law_isSound_195 (l0 : Value) (l1 : Value) (l2 : Value) (l3 : Value) (l4 : Value) (l5 : Value) (l6 : Value) (y0 : Int32) (w : Wd) (I : MI) (L : ML) (P : MP)  : go 140 195 [l0, l1, l2, l3, l4, l5, l6] [.int y0] w I L P = go 140 196 [l0, l1, l2, l3, l4, l5, l6] [.int (nI 0), .int y0] w I L P := by
  refine (go_ic (m := 140) (pc := 195) (n := 0) (by decide +kernel) ic_0).trans ?_
  rfl
theorem Law_isSound_196 (l0 : Value) (l1 : Value) (l2 : Value) (l3 : Value) (l4 : Value) (l5 : Value) (l6 : Value) (y0 : Int32) (y1 : Int32) (w : Wd) (I : MI) (L : ML) (P : MP)  : go 140 196 [l0, l1, l2, l3, l4, l5, l6] [.int y1, .int y0] w I L P = if y0 ≠ y1 then go 140 222 [l0, l1, l2, l3, l4, l5, l6] [] w I L P else go 140 199 [l0, l1, l2, l3, l4, l5, l6] [] w I L P := by
  exact go_icmpne (m := 140) (pc := 196) (off := 26) (t := 222) (by decide +kernel) (by decide)
theorem Law_isSound_199_0 (l1 : Value) (l2 : Value) (l3 : Value) (x_l4 : Int32) (l5 : Value) (l6 : Value) (w : Wd) (I : MI) (L : ML) (P : MP)  : go 140 199 [.null, l1, l2, l3, .int x_l4, l5, l6] [] w I L P = kC (call 129 [.null, .int x_l4, .int (nI 0)] w I L P) (fun v w1 I1 L1 P1 => go 140 209 [.null, l1, l2, l3, .int x_l4, l5, l6] (v.toList ++ [.int x_l4, .null]) w1 I1 L1 P1) := by
  refine (go_aload_nN (m := 140) (pc := 199) (k := 0) (by decide +kernel) rfl).trans ?_
  refine (go_iload (m := 140) (pc := 200) (k := 4) (by decide +kernel) rfl).trans ?_
  refine (go_aload_nN (m := 140) (pc := 202) (k := 0) (by decide +kernel) rfl).trans ?_
  refine (go_iload (m := 140) (pc := 203) (k := 4) (by decide +kernel) rfl).trans ?_
  refine (go_ic (m := 140) (pc := 205) (n := 0) (by decide +kernel) ic_0).trans ?_
  exact go_sta (m := 140) (pc := 206) (o := 8) (x := 85) (y := 129) (kd := 4) (as := [.null, .int x_l4, .int (nI 0)]) (rs := [.int x_l4, .null]) (by decide +kernel) rfl rfl c_8_85 (Or.inr (Or.inr rfl)) rfl rfl rfl (by decide +kernel) (by simp only [List.length_cons, List.length_nil]; decide) (Nat.le_of_ble_eq_true rfl)
theorem Law_isSound_199_1 (a_l0 : Nat) (l1 : Value) (l2 : Value) (l3 : Value) (x_l4 : Int32) (l5 : Value) (l6 : Value) (w : Wd) (I : MI) (L : ML) (P : MP)  : go 140 199 [.ref a_l0, l1, l2, l3, .int x_l4, l5, l6] [] w I L P = kC (call 129 [.ref a_l0, .int x_l4, .int (nI 0)] w I L P) (fun v w1 I1 L1 P1 => go 140 209 [.ref a_l0, l1, l2, l3, .int x_l4, l5, l6] (v.toList ++ [.int x_l4, .ref a_l0]) w1 I1 L1 P1) := by
  refine (go_aload_n (m := 140) (pc := 199) (k := 0) (by decide +kernel) rfl).trans ?_
  refine (go_iload (m := 140) (pc := 200) (k := 4) (by decide +kernel) rfl).trans ?_
  refine (go_aload_n (m := 140) (pc := 202) (k := 0) (by decide +kernel) rfl).trans ?_
  refine (go_iload (m := 140) (pc := 203) (k := 4) (by decide +kernel) rfl).trans ?_
  refine (go_ic (m := 140) (pc := 205) (n := 0) (by decide +kernel) ic_0).trans ?_
  exact go_sta (m := 140) (pc := 206) (o := 8) (x := 85) (y := 129) (kd := 4) (as := [.ref a_l0, .int x_l4, .int (nI 0)]) (rs := [.int x_l4, .ref a_l0]) (by decide +kernel) rfl rfl c_8_85 (Or.inr (Or.inr rfl)) rfl rfl rfl (by decide +kernel) (by simp only [List.length_cons, List.length_nil]; decide) (Nat.le_of_ble_eq_true rfl)
theorem Law_isSound_209_0 (l0 : Value) (l1 : Value) (l2 : Value) (l3 : Value) (l4 : Value) (l5 : Value) (l6 : Value) (y1 : Int32) (y2 : Int32) (w : Wd) (I : MI) (L : ML) (P : MP)  : go 140 209 [l0, l1, l2, l3, l4, l5, l6] [.int y2, .int y1, .null] w I L P = kC (call 130 [.null, .int y1, .int y2, .int (nI 0)] w I L P) (fun v w1 I1 L1 P1 => go 140 213 [l0, l1, l2, l3, l4, l5, l6] (v.toList ++ []) w1 I1 L1 P1) := by
  refine (go_ic (m := 140) (pc := 209) (n := 0) (by decide +kernel) ic_0).trans ?_
  exact go_sta (m := 140) (pc := 210) (o := 8) (x := 90) (y := 130) (kd := 4) (as := [.null, .int y1, .int y2, .int (nI 0)]) (rs := []) (by decide +kernel) rfl rfl c_8_90 (Or.inr (Or.inr rfl)) rfl rfl rfl (by decide +kernel) (by simp only [List.length_cons, List.length_nil]; decide) (Nat.le_of_ble_eq_true rfl)
theorem Law_isSound_209_1 (l0 : Value) (l1 : Value) (l2 : Value) (l3 : Value) (l4 : Value) (l5 : Value) (l6 : Value) (a_s0 : Nat) (y1 : Int32) (y2 : Int32) (w : Wd) (I : MI) (L : ML) (P : MP)  : go 140 209 [l0, l1, l2, l3, l4, l5, l6] [.int y2, .int y1, .ref a_s0] w I L P = kC (call 130 [.ref a_s0, .int y1, .int y2, .int (nI 0)] w I L P) (fun v w1 I1 L1 P1 => go 140 213 [l0, l1, l2, l3, l4, l5, l6] (v.toList ++ []) w1 I1 L1 P1) := by
  refine (go_ic (m := 140) (pc := 209) (n := 0) (by decide +kernel) ic_0).trans ?_
  exact go_sta (m := 140) (pc := 210) (o := 8) (x := 90) (y := 130) (kd := 4) (as := [.ref a_s0, .int y1, .int y2, .int (nI 0)]) (rs := []) (by decide +kernel) rfl rfl c_8_90 (Or.inr (Or.inr rfl)) rfl rfl rfl (by decide +kernel) (by simp only [List.length_cons, List.length_nil]; decide) (Nat.le_of_ble_eq_true rfl)
theorem Law_isSound_213 (l0 : Value) (l1 : Value) (l2 : Value) (l3 : Value) (l4 : Value) (l5 : Value) (l6 : Value) (y0 : Int32) (w : Wd) (I : MI) (L : ML) (P : MP)  : go 140 213 [l0, l1, l2, l3, l4, l5, l6] [.int y0] w I L P = if y0 ≠ (-11) then go 140 222 [l0, l1, l2, l3, l4, l5, l6] [] w I L P else go 140 218 [l0, l1, l2, l3, l4, l5, l6] [] w I L P := by
  refine (go_bi (m := 140) (pc := 213) (n := -11) (by decide +kernel) bi_m11).trans ?_
  exact go_icmpne (m := 140) (pc := 215) (off := 7) (t := 222) (by decide +kernel) (by decide)
theorem Law_isSound_218 (l0 : Value) (l1 : Value) (l2 : Value) (l3 : Value) (l4 : Value) (l5 : Value) (l6 : Value) (w : Wd) (I : MI) (L : ML) (P : MP)  : go 140 218 [l0, l1, l2, l3, l4, l5, l6] [] w I L P = go 140 223 [l0, l1, l2, l3, l4, l5, l6] [.int (nI 1)] w I L P := by
  refine (go_ic (m := 140) (pc := 218) (n := 1) (by decide +kernel) ic_1).trans ?_
  refine (go_goto (m := 140) (pc := 219) (off := 4) (t := 223) (by decide +kernel) (by decide)).trans ?_
  rfl
theorem Law_isSound_222 (l0 : Value) (l1 : Value) (l2 : Value) (l3 : Value) (l4 : Value) (l5 : Value) (l6 : Value) (w : Wd) (I : MI) (L : ML) (P : MP)  : go 140 222 [l0, l1, l2, l3, l4, l5, l6] [] w I L P = go 140 223 [l0, l1, l2, l3, l4, l5, l6] [.int (nI 0)] w I L P := by
  refine (go_ic (m := 140) (pc := 222) (n := 0) (by decide +kernel) ic_0).trans ?_
  rfl
theorem Law_isSound_223 (l0 : Value) (l1 : Value) (l2 : Value) (l3 : Value) (l4 : Value) (l5 : Value) (l6 : Value) (y0 : Int32) (w : Wd) (I : MI) (L : ML) (P : MP)  : go 140 223 [l0, l1, l2, l3, l4, l5, l6] [.int y0] w I L P = go 140 227 [l0, l1, (fix1 l2), .int y0, (fix1 l4), .int (nI 0), l6] [] w I L P := by
  refine (go_istore_n (m := 140) (pc := 223) (k := 3) (ls' := [l0, l1, (fix1 l2), .int y0, l4, l5, l6]) (by decide +kernel) (by simp only [List.length_cons, List.length_nil]; decide) rfl).trans ?_
  refine (go_ic (m := 140) (pc := 224) (n := 0) (by decide +kernel) ic_0).trans ?_
  refine (go_istore (m := 140) (pc := 225) (k := 5) (ls' := [l0, l1, (fix1 l2), .int y0, (fix1 l4), .int (nI 0), l6]) (by decide +kernel) (by simp only [List.length_cons, List.length_nil]; decide) rfl).trans ?_
  rfl
theorem Law_isSound_227_0 (l1 : Value) (l2 : Value) (l3 : Value) (x_l4 : Int32) (x_l5 : Int32) (l6 : Value) (w : Wd) (I : MI) (L : ML) (P : MP)  : go 140 227 [.null, l1, l2, l3, .int x_l4, .int x_l5, l6] [] w I L P = kC (call 129 [.null, .int x_l4, .int (nI 0)] w I L P) (fun v w1 I1 L1 P1 => go 140 236 [.null, l1, l2, l3, .int x_l4, .int x_l5, l6] (v.toList ++ [.int x_l5]) w1 I1 L1 P1) := by
  refine (go_iload (m := 140) (pc := 227) (k := 5) (by decide +kernel) rfl).trans ?_
  refine (go_aload_nN (m := 140) (pc := 229) (k := 0) (by decide +kernel) rfl).trans ?_
  refine (go_iload (m := 140) (pc := 230) (k := 4) (by decide +kernel) rfl).trans ?_
  refine (go_ic (m := 140) (pc := 232) (n := 0) (by decide +kernel) ic_0).trans ?_
  exact go_sta (m := 140) (pc := 233) (o := 8) (x := 85) (y := 129) (kd := 4) (as := [.null, .int x_l4, .int (nI 0)]) (rs := [.int x_l5]) (by decide +kernel) rfl rfl c_8_85 (Or.inr (Or.inr rfl)) rfl rfl rfl (by decide +kernel) (by simp only [List.length_cons, List.length_nil]; decide) (Nat.le_of_ble_eq_true rfl)
theorem Law_isSound_227_1 (a_l0 : Nat) (l1 : Value) (l2 : Value) (l3 : Value) (x_l4 : Int32) (x_l5 : Int32) (l6 : Value) (w : Wd) (I : MI) (L : ML) (P : MP)  : go 140 227 [.ref a_l0, l1, l2, l3, .int x_l4, .int x_l5, l6] [] w I L P = kC (call 129 [.ref a_l0, .int x_l4, .int (nI 0)] w I L P) (fun v w1 I1 L1 P1 => go 140 236 [.ref a_l0, l1, l2, l3, .int x_l4, .int x_l5, l6] (v.toList ++ [.int x_l5]) w1 I1 L1 P1) := by
  refine (go_iload (m := 140) (pc := 227) (k := 5) (by decide +kernel) rfl).trans ?_
  refine (go_aload_n (m := 140) (pc := 229) (k := 0) (by decide +kernel) rfl).trans ?_
  refine (go_iload (m := 140) (pc := 230) (k := 4) (by decide +kernel) rfl).trans ?_
  refine (go_ic (m := 140) (pc := 232) (n := 0) (by decide +kernel) ic_0).trans ?_
  exact go_sta (m := 140) (pc := 233) (o := 8) (x := 85) (y := 129) (kd := 4) (as := [.ref a_l0, .int x_l4, .int (nI 0)]) (rs := [.int x_l5]) (by decide +kernel) rfl rfl c_8_85 (Or.inr (Or.inr rfl)) rfl rfl rfl (by decide +kernel) (by simp only [List.length_cons, List.length_nil]; decide) (Nat.le_of_ble_eq_true rfl)
theorem Law_isSound_236 (l0 : Value) (l1 : Value) (l2 : Value) (l3 : Value) (l4 : Value) (l5 : Value) (l6 : Value) (y0 : Int32) (y1 : Int32) (w : Wd) (I : MI) (L : ML) (P : MP)  : go 140 236 [l0, l1, l2, l3, l4, l5, l6] [.int y1, .int y0] w I L P = if y1 ≤ y0 then go 140 356 [l0, l1, l2, l3, l4, l5, l6] [] w I L P else go 140 239 [l0, l1, l2, l3, l4, l5, l6] [] w I L P := by
  exact go_icmpge (m := 140) (pc := 236) (off := 120) (t := 356) (by decide +kernel) (by decide)
theorem Law_isSound_239 (l0 : Value) (l1 : Value) (l2 : Value) (x_l3 : Int32) (l4 : Value) (l5 : Value) (l6 : Value) (w : Wd) (I : MI) (L : ML) (P : MP)  : go 140 239 [l0, l1, l2, .int x_l3, l4, l5, l6] [] w I L P = if x_l3 = 0 then go 140 356 [l0, l1, l2, .int x_l3, l4, l5, l6] [] w I L P else go 140 243 [l0, l1, l2, .int x_l3, l4, l5, l6] [] w I L P := by
  refine (go_iload_n (m := 140) (pc := 239) (k := 3) (by decide +kernel) rfl).trans ?_
  exact go_ifeq (m := 140) (pc := 240) (off := 116) (t := 356) (by decide +kernel) (by decide)
theorem Law_isSound_243_0 (l1 : Value) (l2 : Value) (l3 : Value) (x_l4 : Int32) (x_l5 : Int32) (l6 : Value) (w : Wd) (I : MI) (L : ML) (P : MP)  : go 140 243 [.null, l1, l2, l3, .int x_l4, .int x_l5, l6] [] w I L P = kC (call 130 [.null, .int x_l4, .int x_l5, .int (nI 2)] w I L P) (fun v w1 I1 L1 P1 => go 140 252 [.null, l1, l2, l3, .int x_l4, .int x_l5, l6] (v.toList ++ []) w1 I1 L1 P1) := by
  refine (go_aload_nN (m := 140) (pc := 243) (k := 0) (by decide +kernel) rfl).trans ?_
  refine (go_iload (m := 140) (pc := 244) (k := 4) (by decide +kernel) rfl).trans ?_
  refine (go_iload (m := 140) (pc := 246) (k := 5) (by decide +kernel) rfl).trans ?_
  refine (go_ic (m := 140) (pc := 248) (n := 2) (by decide +kernel) ic_2).trans ?_
  exact go_sta (m := 140) (pc := 249) (o := 8) (x := 90) (y := 130) (kd := 4) (as := [.null, .int x_l4, .int x_l5, .int (nI 2)]) (rs := []) (by decide +kernel) rfl rfl c_8_90 (Or.inr (Or.inr rfl)) rfl rfl rfl (by decide +kernel) (by simp only [List.length_cons, List.length_nil]; decide) (Nat.le_of_ble_eq_true rfl)
theorem Law_isSound_243_1 (a_l0 : Nat) (l1 : Value) (l2 : Value) (l3 : Value) (x_l4 : Int32) (x_l5 : Int32) (l6 : Value) (w : Wd) (I : MI) (L : ML) (P : MP)  : go 140 243 [.ref a_l0, l1, l2, l3, .int x_l4, .int x_l5, l6] [] w I L P = kC (call 130 [.ref a_l0, .int x_l4, .int x_l5, .int (nI 2)] w I L P) (fun v w1 I1 L1 P1 => go 140 252 [.ref a_l0, l1, l2, l3, .int x_l4, .int x_l5, l6] (v.toList ++ []) w1 I1 L1 P1) := by
  refine (go_aload_n (m := 140) (pc := 243) (k := 0) (by decide +kernel) rfl).trans ?_
  refine (go_iload (m := 140) (pc := 244) (k := 4) (by decide +kernel) rfl).trans ?_
  refine (go_iload (m := 140) (pc := 246) (k := 5) (by decide +kernel) rfl).trans ?_
  refine (go_ic (m := 140) (pc := 248) (n := 2) (by decide +kernel) ic_2).trans ?_
  exact go_sta (m := 140) (pc := 249) (o := 8) (x := 90) (y := 130) (kd := 4) (as := [.ref a_l0, .int x_l4, .int x_l5, .int (nI 2)]) (rs := []) (by decide +kernel) rfl rfl c_8_90 (Or.inr (Or.inr rfl)) rfl rfl rfl (by decide +kernel) (by simp only [List.length_cons, List.length_nil]; decide) (Nat.le_of_ble_eq_true rfl)
theorem Law_isSound_252 (l0 : Value) (l1 : Value) (l2 : Value) (l3 : Value) (l4 : Value) (l5 : Value) (l6 : Value) (y0 : Int32) (w : Wd) (I : MI) (L : ML) (P : MP)  : go 140 252 [l0, l1, l2, l3, l4, l5, l6] [.int y0] w I L P = if y0 < (nI 1) then go 140 348 [l0, l1, l2, l3, l4, (fix1 l5), .int y0] [] w I L P else go 140 260 [l0, l1, l2, l3, l4, (fix1 l5), .int y0] [] w I L P := by
  refine (go_istore (m := 140) (pc := 252) (k := 6) (ls' := [l0, l1, l2, l3, l4, (fix1 l5), .int y0]) (by decide +kernel) (by simp only [List.length_cons, List.length_nil]; decide) rfl).trans ?_
  refine (go_iload (m := 140) (pc := 254) (k := 6) (by decide +kernel) rfl).trans ?_
  refine (go_ic (m := 140) (pc := 256) (n := 1) (by decide +kernel) ic_1).trans ?_
  exact go_icmplt (m := 140) (pc := 257) (off := 91) (t := 348) (by decide +kernel) (by decide)
theorem Law_isSound_260 (l0 : Value) (l1 : Value) (l2 : Value) (l3 : Value) (l4 : Value) (l5 : Value) (x_l6 : Int32) (w : Wd) (I : MI) (L : ML) (P : MP)  : go 140 260 [l0, l1, l2, l3, l4, l5, .int x_l6] [] w I L P = if (nI 4) < x_l6 then go 140 348 [l0, l1, l2, l3, l4, l5, .int x_l6] [] w I L P else go 140 266 [l0, l1, l2, l3, l4, l5, .int x_l6] [] w I L P := by
  refine (go_iload (m := 140) (pc := 260) (k := 6) (by decide +kernel) rfl).trans ?_
  refine (go_ic (m := 140) (pc := 262) (n := 4) (by decide +kernel) ic_4).trans ?_
  exact go_icmpgt (m := 140) (pc := 263) (off := 85) (t := 348) (by decide +kernel) (by decide)
theorem Law_isSound_266_0 (l1 : Value) (l2 : Value) (l3 : Value) (x_l4 : Int32) (x_l5 : Int32) (l6 : Value) (w : Wd) (I : MI) (L : ML) (P : MP)  : go 140 266 [.null, l1, l2, l3, .int x_l4, .int x_l5, l6] [] w I L P = kC (call 130 [.null, .int x_l4, .int x_l5, .int (nI 4)] w I L P) (fun v w1 I1 L1 P1 => go 140 275 [.null, l1, l2, l3, .int x_l4, .int x_l5, l6] (v.toList ++ []) w1 I1 L1 P1) := by
  refine (go_aload_nN (m := 140) (pc := 266) (k := 0) (by decide +kernel) rfl).trans ?_
  refine (go_iload (m := 140) (pc := 267) (k := 4) (by decide +kernel) rfl).trans ?_
  refine (go_iload (m := 140) (pc := 269) (k := 5) (by decide +kernel) rfl).trans ?_
  refine (go_ic (m := 140) (pc := 271) (n := 4) (by decide +kernel) ic_4).trans ?_
  exact go_sta (m := 140) (pc := 272) (o := 8) (x := 90) (y := 130) (kd := 4) (as := [.null, .int x_l4, .int x_l5, .int (nI 4)]) (rs := []) (by decide +kernel) rfl rfl c_8_90 (Or.inr (Or.inr rfl)) rfl rfl rfl (by decide +kernel) (by simp only [List.length_cons, List.length_nil]; decide) (Nat.le_of_ble_eq_true rfl)
theorem Law_isSound_266_1 (a_l0 : Nat) (l1 : Value) (l2 : Value) (l3 : Value) (x_l4 : Int32) (x_l5 : Int32) (l6 : Value) (w : Wd) (I : MI) (L : ML) (P : MP)  : go 140 266 [.ref a_l0, l1, l2, l3, .int x_l4, .int x_l5, l6] [] w I L P = kC (call 130 [.ref a_l0, .int x_l4, .int x_l5, .int (nI 4)] w I L P) (fun v w1 I1 L1 P1 => go 140 275 [.ref a_l0, l1, l2, l3, .int x_l4, .int x_l5, l6] (v.toList ++ []) w1 I1 L1 P1) := by
  refine (go_aload_n (m := 140) (pc := 266) (k := 0) (by decide +kernel) rfl).trans ?_
  refine (go_iload (m := 140) (pc := 267) (k := 4) (by decide +kernel) rfl).trans ?_
  refine (go_iload (m := 140) (pc := 269) (k := 5) (by decide +kernel) rfl).trans ?_
  refine (go_ic (m := 140) (pc := 271) (n := 4) (by decide +kernel) ic_4).trans ?_
  exact go_sta (m := 140) (pc := 272) (o := 8) (x := 90) (y := 130) (kd := 4) (as := [.ref a_l0, .int x_l4, .int x_l5, .int (nI 4)]) (rs := []) (by decide +kernel) rfl rfl c_8_90 (Or.inr (Or.inr rfl)) rfl rfl rfl (by decide +kernel) (by simp only [List.length_cons, List.length_nil]; decide) (Nat.le_of_ble_eq_true rfl)
theorem Law_isSound_275 (l0 : Value) (l1 : Value) (l2 : Value) (l3 : Value) (l4 : Value) (l5 : Value) (l6 : Value) (y0 : Int32) (w : Wd) (I : MI) (L : ML) (P : MP)  : go 140 275 [l0, l1, l2, l3, l4, l5, l6] [.int y0] w I L P = if y0 ≠ (-1) then go 140 283 [l0, l1, l2, l3, l4, l5, l6] [] w I L P else go 140 279 [l0, l1, l2, l3, l4, l5, l6] [] w I L P := by
  refine (go_ic (m := 140) (pc := 275) (n := -1) (by decide +kernel) ic_m1).trans ?_
  exact go_icmpne (m := 140) (pc := 276) (off := 7) (t := 283) (by decide +kernel) (by decide)
theorem Law_isSound_279 (l0 : Value) (l1 : Value) (l2 : Value) (l3 : Value) (l4 : Value) (l5 : Value) (l6 : Value) (w : Wd) (I : MI) (L : ML) (P : MP)  : go 140 279 [l0, l1, l2, l3, l4, l5, l6] [] w I L P = go 140 284 [l0, l1, l2, l3, l4, l5, l6] [.int (nI 1)] w I L P := by
  refine (go_ic (m := 140) (pc := 279) (n := 1) (by decide +kernel) ic_1).trans ?_
  refine (go_goto (m := 140) (pc := 280) (off := 4) (t := 284) (by decide +kernel) (by decide)).trans ?_
  rfl
theorem Law_isSound_283 (l0 : Value) (l1 : Value) (l2 : Value) (l3 : Value) (l4 : Value) (l5 : Value) (l6 : Value) (w : Wd) (I : MI) (L : ML) (P : MP)  : go 140 283 [l0, l1, l2, l3, l4, l5, l6] [] w I L P = go 140 284 [l0, l1, l2, l3, l4, l5, l6] [.int (nI 0)] w I L P := by
  refine (go_ic (m := 140) (pc := 283) (n := 0) (by decide +kernel) ic_0).trans ?_
  rfl
theorem Law_isSound_284_0 (l1 : Value) (l2 : Value) (l3 : Value) (x_l4 : Int32) (x_l5 : Int32) (l6 : Value) (y0 : Int32) (w : Wd) (I : MI) (L : ML) (P : MP)  : go 140 284 [.null, l1, l2, l3, .int x_l4, .int x_l5, l6] [.int y0] w I L P = kC (call 130 [.null, .int x_l4, .int x_l5, .int (nI 1)] w I L P) (fun v w1 I1 L1 P1 => go 140 293 [.null, l1, l2, l3, .int x_l4, .int x_l5, l6] (v.toList ++ [.int y0]) w1 I1 L1 P1) := by
  refine (go_aload_nN (m := 140) (pc := 284) (k := 0) (by decide +kernel) rfl).trans ?_
  refine (go_iload (m := 140) (pc := 285) (k := 4) (by decide +kernel) rfl).trans ?_
  refine (go_iload (m := 140) (pc := 287) (k := 5) (by decide +kernel) rfl).trans ?_
  refine (go_ic (m := 140) (pc := 289) (n := 1) (by decide +kernel) ic_1).trans ?_
  exact go_sta (m := 140) (pc := 290) (o := 8) (x := 90) (y := 130) (kd := 4) (as := [.null, .int x_l4, .int x_l5, .int (nI 1)]) (rs := [.int y0]) (by decide +kernel) rfl rfl c_8_90 (Or.inr (Or.inr rfl)) rfl rfl rfl (by decide +kernel) (by simp only [List.length_cons, List.length_nil]; decide) (Nat.le_of_ble_eq_true rfl)
theorem Law_isSound_284_1 (a_l0 : Nat) (l1 : Value) (l2 : Value) (l3 : Value) (x_l4 : Int32) (x_l5 : Int32) (l6 : Value) (y0 : Int32) (w : Wd) (I : MI) (L : ML) (P : MP)  : go 140 284 [.ref a_l0, l1, l2, l3, .int x_l4, .int x_l5, l6] [.int y0] w I L P = kC (call 130 [.ref a_l0, .int x_l4, .int x_l5, .int (nI 1)] w I L P) (fun v w1 I1 L1 P1 => go 140 293 [.ref a_l0, l1, l2, l3, .int x_l4, .int x_l5, l6] (v.toList ++ [.int y0]) w1 I1 L1 P1) := by
  refine (go_aload_n (m := 140) (pc := 284) (k := 0) (by decide +kernel) rfl).trans ?_
  refine (go_iload (m := 140) (pc := 285) (k := 4) (by decide +kernel) rfl).trans ?_
  refine (go_iload (m := 140) (pc := 287) (k := 5) (by decide +kernel) rfl).trans ?_
  refine (go_ic (m := 140) (pc := 289) (n := 1) (by decide +kernel) ic_1).trans ?_
  exact go_sta (m := 140) (pc := 290) (o := 8) (x := 90) (y := 130) (kd := 4) (as := [.ref a_l0, .int x_l4, .int x_l5, .int (nI 1)]) (rs := [.int y0]) (by decide +kernel) rfl rfl c_8_90 (Or.inr (Or.inr rfl)) rfl rfl rfl (by decide +kernel) (by simp only [List.length_cons, List.length_nil]; decide) (Nat.le_of_ble_eq_true rfl)
theorem Law_isSound_293 (l0 : Value) (l1 : Value) (l2 : Value) (l3 : Value) (l4 : Value) (l5 : Value) (l6 : Value) (y0 : Int32) (y1 : Int32) (w : Wd) (I : MI) (L : ML) (P : MP)  : go 140 293 [l0, l1, l2, l3, l4, l5, l6] [.int y1, .int y0] w I L P = if y1 ≠ (nI 1) then go 140 301 [l0, l1, l2, l3, l4, l5, l6] [.int y0] w I L P else go 140 297 [l0, l1, l2, l3, l4, l5, l6] [.int y0] w I L P := by
  refine (go_ic (m := 140) (pc := 293) (n := 1) (by decide +kernel) ic_1).trans ?_
  exact go_icmpne (m := 140) (pc := 294) (off := 7) (t := 301) (by decide +kernel) (by decide)
theorem Law_isSound_297 (l0 : Value) (l1 : Value) (l2 : Value) (l3 : Value) (l4 : Value) (l5 : Value) (l6 : Value) (y0 : Int32) (w : Wd) (I : MI) (L : ML) (P : MP)  : go 140 297 [l0, l1, l2, l3, l4, l5, l6] [.int y0] w I L P = go 140 302 [l0, l1, l2, l3, l4, l5, l6] [.int (nI 1), .int y0] w I L P := by
  refine (go_ic (m := 140) (pc := 297) (n := 1) (by decide +kernel) ic_1).trans ?_
  refine (go_goto (m := 140) (pc := 298) (off := 4) (t := 302) (by decide +kernel) (by decide)).trans ?_
  rfl
theorem Law_isSound_301 (l0 : Value) (l1 : Value) (l2 : Value) (l3 : Value) (l4 : Value) (l5 : Value) (l6 : Value) (y0 : Int32) (w : Wd) (I : MI) (L : ML) (P : MP)  : go 140 301 [l0, l1, l2, l3, l4, l5, l6] [.int y0] w I L P = go 140 302 [l0, l1, l2, l3, l4, l5, l6] [.int (nI 0), .int y0] w I L P := by
  refine (go_ic (m := 140) (pc := 301) (n := 0) (by decide +kernel) ic_0).trans ?_
  rfl
theorem Law_isSound_302 (l0 : Value) (l1 : Value) (l2 : Value) (l3 : Value) (l4 : Value) (l5 : Value) (l6 : Value) (y0 : Int32) (y1 : Int32) (w : Wd) (I : MI) (L : ML) (P : MP)  : go 140 302 [l0, l1, l2, l3, l4, l5, l6] [.int y1, .int y0] w I L P = if y0 ≠ y1 then go 140 348 [l0, l1, l2, l3, l4, l5, l6] [] w I L P else go 140 305 [l0, l1, l2, l3, l4, l5, l6] [] w I L P := by
  exact go_icmpne (m := 140) (pc := 302) (off := 46) (t := 348) (by decide +kernel) (by decide)
theorem Law_isSound_305 (l0 : Value) (l1 : Value) (l2 : Value) (l3 : Value) (l4 : Value) (l5 : Value) (x_l6 : Int32) (w : Wd) (I : MI) (L : ML) (P : MP)  : go 140 305 [l0, l1, l2, l3, l4, l5, .int x_l6] [] w I L P = if x_l6 = (nI 4) then go 140 327 [l0, l1, l2, l3, l4, l5, .int x_l6] [] w I L P else go 140 311 [l0, l1, l2, l3, l4, l5, .int x_l6] [] w I L P := by
  refine (go_iload (m := 140) (pc := 305) (k := 6) (by decide +kernel) rfl).trans ?_
  refine (go_ic (m := 140) (pc := 307) (n := 4) (by decide +kernel) ic_4).trans ?_
  exact go_icmpeq (m := 140) (pc := 308) (off := 19) (t := 327) (by decide +kernel) (by decide)
theorem Law_isSound_311_0 (l1 : Value) (l2 : Value) (l3 : Value) (x_l4 : Int32) (x_l5 : Int32) (x_l6 : Int32) (w : Wd) (I : MI) (L : ML) (P : MP)  : go 140 311 [.null, l1, l2, l3, .int x_l4, .int x_l5, .int x_l6] [] w I L P = kC (call 130 [.null, .int x_l4, .int x_l5, .int ((nI 4) + x_l6)] w I L P) (fun v w1 I1 L1 P1 => go 140 323 [.null, l1, l2, l3, .int x_l4, .int x_l5, .int x_l6] (v.toList ++ []) w1 I1 L1 P1) := by
  refine (go_aload_nN (m := 140) (pc := 311) (k := 0) (by decide +kernel) rfl).trans ?_
  refine (go_iload (m := 140) (pc := 312) (k := 4) (by decide +kernel) rfl).trans ?_
  refine (go_iload (m := 140) (pc := 314) (k := 5) (by decide +kernel) rfl).trans ?_
  refine (go_ic (m := 140) (pc := 316) (n := 4) (by decide +kernel) ic_4).trans ?_
  refine (go_iload (m := 140) (pc := 317) (k := 6) (by decide +kernel) rfl).trans ?_
  refine (go_iadd (m := 140) (pc := 319) (by decide +kernel)).trans ?_
  exact go_sta (m := 140) (pc := 320) (o := 8) (x := 90) (y := 130) (kd := 4) (as := [.null, .int x_l4, .int x_l5, .int ((nI 4) + x_l6)]) (rs := []) (by decide +kernel) rfl rfl c_8_90 (Or.inr (Or.inr rfl)) rfl rfl rfl (by decide +kernel) (by simp only [List.length_cons, List.length_nil]; decide) (Nat.le_of_ble_eq_true rfl)
theorem Law_isSound_311_1 (a_l0 : Nat) (l1 : Value) (l2 : Value) (l3 : Value) (x_l4 : Int32) (x_l5 : Int32) (x_l6 : Int32) (w : Wd) (I : MI) (L : ML) (P : MP)  : go 140 311 [.ref a_l0, l1, l2, l3, .int x_l4, .int x_l5, .int x_l6] [] w I L P = kC (call 130 [.ref a_l0, .int x_l4, .int x_l5, .int ((nI 4) + x_l6)] w I L P) (fun v w1 I1 L1 P1 => go 140 323 [.ref a_l0, l1, l2, l3, .int x_l4, .int x_l5, .int x_l6] (v.toList ++ []) w1 I1 L1 P1) := by
  refine (go_aload_n (m := 140) (pc := 311) (k := 0) (by decide +kernel) rfl).trans ?_
  refine (go_iload (m := 140) (pc := 312) (k := 4) (by decide +kernel) rfl).trans ?_
  refine (go_iload (m := 140) (pc := 314) (k := 5) (by decide +kernel) rfl).trans ?_
  refine (go_ic (m := 140) (pc := 316) (n := 4) (by decide +kernel) ic_4).trans ?_
  refine (go_iload (m := 140) (pc := 317) (k := 6) (by decide +kernel) rfl).trans ?_
  refine (go_iadd (m := 140) (pc := 319) (by decide +kernel)).trans ?_
  exact go_sta (m := 140) (pc := 320) (o := 8) (x := 90) (y := 130) (kd := 4) (as := [.ref a_l0, .int x_l4, .int x_l5, .int ((nI 4) + x_l6)]) (rs := []) (by decide +kernel) rfl rfl c_8_90 (Or.inr (Or.inr rfl)) rfl rfl rfl (by decide +kernel) (by simp only [List.length_cons, List.length_nil]; decide) (Nat.le_of_ble_eq_true rfl)
theorem Law_isSound_323 (l0 : Value) (l1 : Value) (l2 : Value) (l3 : Value) (l4 : Value) (l5 : Value) (l6 : Value) (y0 : Int32) (w : Wd) (I : MI) (L : ML) (P : MP)  : go 140 323 [l0, l1, l2, l3, l4, l5, l6] [.int y0] w I L P = if y0 ≠ (-1) then go 140 348 [l0, l1, l2, l3, l4, l5, l6] [] w I L P else go 140 327 [l0, l1, l2, l3, l4, l5, l6] [] w I L P := by
  refine (go_ic (m := 140) (pc := 323) (n := -1) (by decide +kernel) ic_m1).trans ?_
  exact go_icmpne (m := 140) (pc := 324) (off := 24) (t := 348) (by decide +kernel) (by decide)
theorem Law_isSound_327 (l0 : Value) (l1 : Value) (l2 : Value) (l3 : Value) (l4 : Value) (x_l5 : Int32) (l6 : Value) (w : Wd) (I : MI) (L : ML) (P : MP)  : go 140 327 [l0, l1, l2, l3, l4, .int x_l5, l6] [] w I L P = if x_l5 = 0 then go 140 344 [l0, l1, l2, l3, l4, .int x_l5, l6] [] w I L P else go 140 332 [l0, l1, l2, l3, l4, .int x_l5, l6] [] w I L P := by
  refine (go_iload (m := 140) (pc := 327) (k := 5) (by decide +kernel) rfl).trans ?_
  exact go_ifeq (m := 140) (pc := 329) (off := 15) (t := 344) (by decide +kernel) (by decide)
theorem Law_isSound_332_0 (l1 : Value) (l2 : Value) (l3 : Value) (x_l4 : Int32) (x_l5 : Int32) (l6 : Value) (w : Wd) (I : MI) (L : ML) (P : MP)  : go 140 332 [.null, l1, l2, l3, .int x_l4, .int x_l5, l6] [] w I L P = kC (call 130 [.null, .int x_l4, .int x_l5, .int (nI 3)] w I L P) (fun v w1 I1 L1 P1 => go 140 341 [.null, l1, l2, l3, .int x_l4, .int x_l5, l6] (v.toList ++ []) w1 I1 L1 P1) := by
  refine (go_aload_nN (m := 140) (pc := 332) (k := 0) (by decide +kernel) rfl).trans ?_
  refine (go_iload (m := 140) (pc := 333) (k := 4) (by decide +kernel) rfl).trans ?_
  refine (go_iload (m := 140) (pc := 335) (k := 5) (by decide +kernel) rfl).trans ?_
  refine (go_ic (m := 140) (pc := 337) (n := 3) (by decide +kernel) ic_3).trans ?_
  exact go_sta (m := 140) (pc := 338) (o := 8) (x := 90) (y := 130) (kd := 4) (as := [.null, .int x_l4, .int x_l5, .int (nI 3)]) (rs := []) (by decide +kernel) rfl rfl c_8_90 (Or.inr (Or.inr rfl)) rfl rfl rfl (by decide +kernel) (by simp only [List.length_cons, List.length_nil]; decide) (Nat.le_of_ble_eq_true rfl)
theorem Law_isSound_332_1 (a_l0 : Nat) (l1 : Value) (l2 : Value) (l3 : Value) (x_l4 : Int32) (x_l5 : Int32) (l6 : Value) (w : Wd) (I : MI) (L : ML) (P : MP)  : go 140 332 [.ref a_l0, l1, l2, l3, .int x_l4, .int x_l5, l6] [] w I L P = kC (call 130 [.ref a_l0, .int x_l4, .int x_l5, .int (nI 3)] w I L P) (fun v w1 I1 L1 P1 => go 140 341 [.ref a_l0, l1, l2, l3, .int x_l4, .int x_l5, l6] (v.toList ++ []) w1 I1 L1 P1) := by
  refine (go_aload_n (m := 140) (pc := 332) (k := 0) (by decide +kernel) rfl).trans ?_
  refine (go_iload (m := 140) (pc := 333) (k := 4) (by decide +kernel) rfl).trans ?_
  refine (go_iload (m := 140) (pc := 335) (k := 5) (by decide +kernel) rfl).trans ?_
  refine (go_ic (m := 140) (pc := 337) (n := 3) (by decide +kernel) ic_3).trans ?_
  exact go_sta (m := 140) (pc := 338) (o := 8) (x := 90) (y := 130) (kd := 4) (as := [.ref a_l0, .int x_l4, .int x_l5, .int (nI 3)]) (rs := []) (by decide +kernel) rfl rfl c_8_90 (Or.inr (Or.inr rfl)) rfl rfl rfl (by decide +kernel) (by simp only [List.length_cons, List.length_nil]; decide) (Nat.le_of_ble_eq_true rfl)
theorem Law_isSound_341 (l0 : Value) (l1 : Value) (l2 : Value) (l3 : Value) (l4 : Value) (l5 : Value) (l6 : Value) (y0 : Int32) (w : Wd) (I : MI) (L : ML) (P : MP)  : go 140 341 [l0, l1, l2, l3, l4, l5, l6] [.int y0] w I L P = if y0 ≠ 0 then go 140 348 [l0, l1, l2, l3, l4, l5, l6] [] w I L P else go 140 344 [l0, l1, l2, l3, l4, l5, l6] [] w I L P := by
  exact go_ifne (m := 140) (pc := 341) (off := 7) (t := 348) (by decide +kernel) (by decide)
theorem Law_isSound_344 (l0 : Value) (l1 : Value) (l2 : Value) (l3 : Value) (l4 : Value) (l5 : Value) (l6 : Value) (w : Wd) (I : MI) (L : ML) (P : MP)  : go 140 344 [l0, l1, l2, l3, l4, l5, l6] [] w I L P = go 140 349 [l0, l1, l2, l3, l4, l5, l6] [.int (nI 1)] w I L P := by
  refine (go_ic (m := 140) (pc := 344) (n := 1) (by decide +kernel) ic_1).trans ?_
  refine (go_goto (m := 140) (pc := 345) (off := 4) (t := 349) (by decide +kernel) (by decide)).trans ?_
  rfl
theorem Law_isSound_348 (l0 : Value) (l1 : Value) (l2 : Value) (l3 : Value) (l4 : Value) (l5 : Value) (l6 : Value) (w : Wd) (I : MI) (L : ML) (P : MP)  : go 140 348 [l0, l1, l2, l3, l4, l5, l6] [] w I L P = go 140 349 [l0, l1, l2, l3, l4, l5, l6] [.int (nI 0)] w I L P := by
  refine (go_ic (m := 140) (pc := 348) (n := 0) (by decide +kernel) ic_0).trans ?_
  rfl
theorem Law_isSound_349 (l0 : Value) (l1 : Value) (l2 : Value) (l3 : Value) (l4 : Value) (x_l5 : Int32) (l6 : Value) (y0 : Int32) (w : Wd) (I : MI) (L : ML) (P : MP)  : go 140 349 [l0, l1, l2, l3, l4, .int x_l5, l6] [.int y0] w I L P = go 140 227 [l0, l1, (fix1 l2), .int y0, (fix1 l4), .int (x_l5 + (nI 1)), l6] [] w I L P := by
  refine (go_istore_n (m := 140) (pc := 349) (k := 3) (ls' := [l0, l1, (fix1 l2), .int y0, l4, .int x_l5, l6]) (by decide +kernel) (by simp only [List.length_cons, List.length_nil]; decide) rfl).trans ?_
  refine (go_iinc (m := 140) (pc := 350) (k := 5) (n := 1) (x := x_l5) (v := x_l5 + (nI 1)) (ls' := [l0, l1, (fix1 l2), .int y0, (fix1 l4), .int (x_l5 + (nI 1)), l6]) (by decide +kernel) rfl (by rw [ic_1]) rfl).trans ?_
  refine (go_goto (m := 140) (pc := 353) (off := -126) (t := 227) (by decide +kernel) (by decide)).trans ?_
  rfl
theorem Law_isSound_356 (l0 : Value) (l1 : Value) (l2 : Value) (l3 : Value) (x_l4 : Int32) (l5 : Value) (l6 : Value) (w : Wd) (I : MI) (L : ML) (P : MP)  : go 140 356 [l0, l1, l2, l3, .int x_l4, l5, l6] [] w I L P = go 140 53 [l0, l1, l2, (fix1 l3), .int (x_l4 + (nI 1)), l5, l6] [] w I L P := by
  refine (go_iinc (m := 140) (pc := 356) (k := 4) (n := 1) (x := x_l4) (v := x_l4 + (nI 1)) (ls' := [l0, l1, l2, (fix1 l3), .int (x_l4 + (nI 1)), l5, l6]) (by decide +kernel) rfl (by rw [ic_1]) rfl).trans ?_
  refine (go_goto (m := 140) (pc := 359) (off := -306) (t := 53) (by decide +kernel) (by decide)).trans ?_
  rfl
theorem Law_isSound_362 (l0 : Value) (l1 : Value) (l2 : Value) (l3 : Value) (l4 : Value) (l5 : Value) (l6 : Value) (w : Wd) (I : MI) (L : ML) (P : MP)  : go 140 362 [l0, l1, l2, l3, l4, l5, l6] [] w I L P = go 140 365 [l0, l1, l2, (fix1 l3), .int (nI 0), l5, l6] [] w I L P := by
  refine (go_ic (m := 140) (pc := 362) (n := 0) (by decide +kernel) ic_0).trans ?_
  refine (go_istore (m := 140) (pc := 363) (k := 4) (ls' := [l0, l1, l2, (fix1 l3), .int (nI 0), l5, l6]) (by decide +kernel) (by simp only [List.length_cons, List.length_nil]; decide) rfl).trans ?_
  rfl
theorem Law_isSound_365_0 (l1 : Value) (l2 : Value) (l3 : Value) (x_l4 : Int32) (l5 : Value) (l6 : Value) (w : Wd) (I : MI) (L : ML) (P : MP)  : go 140 365 [.null, l1, l2, l3, .int x_l4, l5, l6] [] w I L P = kC (call 133 [.null, .int (nI 2)] w I L P) (fun v w1 I1 L1 P1 => go 140 372 [.null, l1, l2, l3, .int x_l4, l5, l6] (v.toList ++ [.int x_l4]) w1 I1 L1 P1) := by
  refine (go_iload (m := 140) (pc := 365) (k := 4) (by decide +kernel) rfl).trans ?_
  refine (go_aload_nN (m := 140) (pc := 367) (k := 0) (by decide +kernel) rfl).trans ?_
  refine (go_ic (m := 140) (pc := 368) (n := 2) (by decide +kernel) ic_2).trans ?_
  exact go_sta (m := 140) (pc := 369) (o := 8) (x := 80) (y := 133) (kd := 4) (as := [.null, .int (nI 2)]) (rs := [.int x_l4]) (by decide +kernel) rfl rfl c_8_80 (Or.inr (Or.inr rfl)) rfl rfl rfl (by decide +kernel) (by simp only [List.length_cons, List.length_nil]; decide) (Nat.le_of_ble_eq_true rfl)
theorem Law_isSound_365_1 (a_l0 : Nat) (l1 : Value) (l2 : Value) (l3 : Value) (x_l4 : Int32) (l5 : Value) (l6 : Value) (w : Wd) (I : MI) (L : ML) (P : MP)  : go 140 365 [.ref a_l0, l1, l2, l3, .int x_l4, l5, l6] [] w I L P = kC (call 133 [.ref a_l0, .int (nI 2)] w I L P) (fun v w1 I1 L1 P1 => go 140 372 [.ref a_l0, l1, l2, l3, .int x_l4, l5, l6] (v.toList ++ [.int x_l4]) w1 I1 L1 P1) := by
  refine (go_iload (m := 140) (pc := 365) (k := 4) (by decide +kernel) rfl).trans ?_
  refine (go_aload_n (m := 140) (pc := 367) (k := 0) (by decide +kernel) rfl).trans ?_
  refine (go_ic (m := 140) (pc := 368) (n := 2) (by decide +kernel) ic_2).trans ?_
  exact go_sta (m := 140) (pc := 369) (o := 8) (x := 80) (y := 133) (kd := 4) (as := [.ref a_l0, .int (nI 2)]) (rs := [.int x_l4]) (by decide +kernel) rfl rfl c_8_80 (Or.inr (Or.inr rfl)) rfl rfl rfl (by decide +kernel) (by simp only [List.length_cons, List.length_nil]; decide) (Nat.le_of_ble_eq_true rfl)
theorem Law_isSound_372 (l0 : Value) (l1 : Value) (l2 : Value) (l3 : Value) (l4 : Value) (l5 : Value) (l6 : Value) (y0 : Int32) (y1 : Int32) (w : Wd) (I : MI) (L : ML) (P : MP)  : go 140 372 [l0, l1, l2, l3, l4, l5, l6] [.int y1, .int y0] w I L P = if y1 ≤ y0 then go 140 462 [l0, l1, l2, l3, l4, l5, l6] [] w I L P else go 140 375 [l0, l1, l2, l3, l4, l5, l6] [] w I L P := by
  exact go_icmpge (m := 140) (pc := 372) (off := 90) (t := 462) (by decide +kernel) (by decide)
theorem Law_isSound_375 (l0 : Value) (l1 : Value) (l2 : Value) (x_l3 : Int32) (l4 : Value) (l5 : Value) (l6 : Value) (w : Wd) (I : MI) (L : ML) (P : MP)  : go 140 375 [l0, l1, l2, .int x_l3, l4, l5, l6] [] w I L P = if x_l3 = 0 then go 140 462 [l0, l1, l2, .int x_l3, l4, l5, l6] [] w I L P else go 140 379 [l0, l1, l2, .int x_l3, l4, l5, l6] [] w I L P := by
  refine (go_iload_n (m := 140) (pc := 375) (k := 3) (by decide +kernel) rfl).trans ?_
  exact go_ifeq (m := 140) (pc := 376) (off := 86) (t := 462) (by decide +kernel) (by decide)
theorem Law_isSound_379_0 (l1 : Value) (l2 : Value) (l3 : Value) (x_l4 : Int32) (l5 : Value) (l6 : Value) (w : Wd) (I : MI) (L : ML) (P : MP)  : go 140 379 [.null, l1, l2, l3, .int x_l4, l5, l6] [] w I L P = kC (call 131 [.null, .int x_l4, .int (nI 2)] w I L P) (fun v w1 I1 L1 P1 => go 140 386 [.null, l1, l2, l3, .int x_l4, l5, l6] (v.toList ++ []) w1 I1 L1 P1) := by
  refine (go_aload_nN (m := 140) (pc := 379) (k := 0) (by decide +kernel) rfl).trans ?_
  refine (go_iload (m := 140) (pc := 380) (k := 4) (by decide +kernel) rfl).trans ?_
  refine (go_ic (m := 140) (pc := 382) (n := 2) (by decide +kernel) ic_2).trans ?_
  exact go_sta (m := 140) (pc := 383) (o := 8) (x := 93) (y := 131) (kd := 4) (as := [.null, .int x_l4, .int (nI 2)]) (rs := []) (by decide +kernel) rfl rfl c_8_93 (Or.inr (Or.inr rfl)) rfl rfl rfl (by decide +kernel) (by simp only [List.length_cons, List.length_nil]; decide) (Nat.le_of_ble_eq_true rfl)
theorem Law_isSound_379_1 (a_l0 : Nat) (l1 : Value) (l2 : Value) (l3 : Value) (x_l4 : Int32) (l5 : Value) (l6 : Value) (w : Wd) (I : MI) (L : ML) (P : MP)  : go 140 379 [.ref a_l0, l1, l2, l3, .int x_l4, l5, l6] [] w I L P = kC (call 131 [.ref a_l0, .int x_l4, .int (nI 2)] w I L P) (fun v w1 I1 L1 P1 => go 140 386 [.ref a_l0, l1, l2, l3, .int x_l4, l5, l6] (v.toList ++ []) w1 I1 L1 P1) := by
  refine (go_aload_n (m := 140) (pc := 379) (k := 0) (by decide +kernel) rfl).trans ?_
  refine (go_iload (m := 140) (pc := 380) (k := 4) (by decide +kernel) rfl).trans ?_
  refine (go_ic (m := 140) (pc := 382) (n := 2) (by decide +kernel) ic_2).trans ?_
  exact go_sta (m := 140) (pc := 383) (o := 8) (x := 93) (y := 131) (kd := 4) (as := [.ref a_l0, .int x_l4, .int (nI 2)]) (rs := []) (by decide +kernel) rfl rfl c_8_93 (Or.inr (Or.inr rfl)) rfl rfl rfl (by decide +kernel) (by simp only [List.length_cons, List.length_nil]; decide) (Nat.le_of_ble_eq_true rfl)
theorem Law_isSound_386_0 (l1 : Value) (x_l2 : Int32) (l3 : Value) (x_l4 : Int32) (l5 : Value) (l6 : Value) (y0 : Int32) (w : Wd) (I : MI) (L : ML) (P : MP)  : go 140 386 [.null, l1, .int x_l2, l3, .int x_l4, l5, l6] [.int y0] w I L P = kC (call 131 [.null, .int x_l4, .int (nI 5)] w I L P) (fun v w1 I1 L1 P1 => go 140 396 [.null, l1, .int x_l2, l3, .int x_l4, .int y0, l6] (v.toList ++ [.int x_l2]) w1 I1 L1 P1) := by
  refine (go_istore (m := 140) (pc := 386) (k := 5) (ls' := [.null, l1, .int x_l2, l3, .int x_l4, .int y0, l6]) (by decide +kernel) (by simp only [List.length_cons, List.length_nil]; decide) rfl).trans ?_
  refine (go_iload_n (m := 140) (pc := 388) (k := 2) (by decide +kernel) rfl).trans ?_
  refine (go_aload_nN (m := 140) (pc := 389) (k := 0) (by decide +kernel) rfl).trans ?_
  refine (go_iload (m := 140) (pc := 390) (k := 4) (by decide +kernel) rfl).trans ?_
  refine (go_ic (m := 140) (pc := 392) (n := 5) (by decide +kernel) ic_5).trans ?_
  exact go_sta (m := 140) (pc := 393) (o := 8) (x := 93) (y := 131) (kd := 4) (as := [.null, .int x_l4, .int (nI 5)]) (rs := [.int x_l2]) (by decide +kernel) rfl rfl c_8_93 (Or.inr (Or.inr rfl)) rfl rfl rfl (by decide +kernel) (by simp only [List.length_cons, List.length_nil]; decide) (Nat.le_of_ble_eq_true rfl)
theorem Law_isSound_386_1 (a_l0 : Nat) (l1 : Value) (x_l2 : Int32) (l3 : Value) (x_l4 : Int32) (l5 : Value) (l6 : Value) (y0 : Int32) (w : Wd) (I : MI) (L : ML) (P : MP)  : go 140 386 [.ref a_l0, l1, .int x_l2, l3, .int x_l4, l5, l6] [.int y0] w I L P = kC (call 131 [.ref a_l0, .int x_l4, .int (nI 5)] w I L P) (fun v w1 I1 L1 P1 => go 140 396 [.ref a_l0, l1, .int x_l2, l3, .int x_l4, .int y0, l6] (v.toList ++ [.int x_l2]) w1 I1 L1 P1) := by
  refine (go_istore (m := 140) (pc := 386) (k := 5) (ls' := [.ref a_l0, l1, .int x_l2, l3, .int x_l4, .int y0, l6]) (by decide +kernel) (by simp only [List.length_cons, List.length_nil]; decide) rfl).trans ?_
  refine (go_iload_n (m := 140) (pc := 388) (k := 2) (by decide +kernel) rfl).trans ?_
  refine (go_aload_n (m := 140) (pc := 389) (k := 0) (by decide +kernel) rfl).trans ?_
  refine (go_iload (m := 140) (pc := 390) (k := 4) (by decide +kernel) rfl).trans ?_
  refine (go_ic (m := 140) (pc := 392) (n := 5) (by decide +kernel) ic_5).trans ?_
  exact go_sta (m := 140) (pc := 393) (o := 8) (x := 93) (y := 131) (kd := 4) (as := [.ref a_l0, .int x_l4, .int (nI 5)]) (rs := [.int x_l2]) (by decide +kernel) rfl rfl c_8_93 (Or.inr (Or.inr rfl)) rfl rfl rfl (by decide +kernel) (by simp only [List.length_cons, List.length_nil]; decide) (Nat.le_of_ble_eq_true rfl)
theorem Law_isSound_396 (l0 : Value) (l1 : Value) (l2 : Value) (l3 : Value) (l4 : Value) (x_l5 : Int32) (l6 : Value) (y0 : Int32) (y1 : Int32) (w : Wd) (I : MI) (L : ML) (P : MP)  : go 140 396 [l0, l1, l2, l3, l4, .int x_l5, l6] [.int y1, .int y0] w I L P = if x_l5 < 0 then go 140 454 [l0, (fix1 l1), .int (y0 + y1), l3, l4, .int x_l5, l6] [] w I L P else go 140 403 [l0, (fix1 l1), .int (y0 + y1), l3, l4, .int x_l5, l6] [] w I L P := by
  refine (go_iadd (m := 140) (pc := 396) (by decide +kernel)).trans ?_
  refine (go_istore_n (m := 140) (pc := 397) (k := 2) (ls' := [l0, (fix1 l1), .int (y0 + y1), l3, l4, .int x_l5, l6]) (by decide +kernel) (by simp only [List.length_cons, List.length_nil]; decide) rfl).trans ?_
  refine (go_iload (m := 140) (pc := 398) (k := 5) (by decide +kernel) rfl).trans ?_
  exact go_iflt (m := 140) (pc := 400) (off := 54) (t := 454) (by decide +kernel) (by decide)
theorem Law_isSound_403 (l0 : Value) (l1 : Value) (l2 : Value) (l3 : Value) (l4 : Value) (x_l5 : Int32) (l6 : Value) (w : Wd) (I : MI) (L : ML) (P : MP)  : go 140 403 [l0, l1, l2, l3, l4, .int x_l5, l6] [] w I L P = if (nI 16) < x_l5 then go 140 454 [l0, l1, l2, l3, l4, .int x_l5, l6] [] w I L P else go 140 410 [l0, l1, l2, l3, l4, .int x_l5, l6] [] w I L P := by
  refine (go_iload (m := 140) (pc := 403) (k := 5) (by decide +kernel) rfl).trans ?_
  refine (go_bi (m := 140) (pc := 405) (n := 16) (by decide +kernel) bi_16).trans ?_
  exact go_icmpgt (m := 140) (pc := 407) (off := 47) (t := 454) (by decide +kernel) (by decide)
theorem Law_isSound_410_0 (l1 : Value) (l2 : Value) (l3 : Value) (x_l4 : Int32) (l5 : Value) (l6 : Value) (w : Wd) (I : MI) (L : ML) (P : MP)  : go 140 410 [.null, l1, l2, l3, .int x_l4, l5, l6] [] w I L P = kC (call 131 [.null, .int x_l4, .int (nI 3)] w I L P) (fun v w1 I1 L1 P1 => go 140 417 [.null, l1, l2, l3, .int x_l4, l5, l6] (v.toList ++ []) w1 I1 L1 P1) := by
  refine (go_aload_nN (m := 140) (pc := 410) (k := 0) (by decide +kernel) rfl).trans ?_
  refine (go_iload (m := 140) (pc := 411) (k := 4) (by decide +kernel) rfl).trans ?_
  refine (go_ic (m := 140) (pc := 413) (n := 3) (by decide +kernel) ic_3).trans ?_
  exact go_sta (m := 140) (pc := 414) (o := 8) (x := 93) (y := 131) (kd := 4) (as := [.null, .int x_l4, .int (nI 3)]) (rs := []) (by decide +kernel) rfl rfl c_8_93 (Or.inr (Or.inr rfl)) rfl rfl rfl (by decide +kernel) (by simp only [List.length_cons, List.length_nil]; decide) (Nat.le_of_ble_eq_true rfl)
theorem Law_isSound_410_1 (a_l0 : Nat) (l1 : Value) (l2 : Value) (l3 : Value) (x_l4 : Int32) (l5 : Value) (l6 : Value) (w : Wd) (I : MI) (L : ML) (P : MP)  : go 140 410 [.ref a_l0, l1, l2, l3, .int x_l4, l5, l6] [] w I L P = kC (call 131 [.ref a_l0, .int x_l4, .int (nI 3)] w I L P) (fun v w1 I1 L1 P1 => go 140 417 [.ref a_l0, l1, l2, l3, .int x_l4, l5, l6] (v.toList ++ []) w1 I1 L1 P1) := by
  refine (go_aload_n (m := 140) (pc := 410) (k := 0) (by decide +kernel) rfl).trans ?_
  refine (go_iload (m := 140) (pc := 411) (k := 4) (by decide +kernel) rfl).trans ?_
  refine (go_ic (m := 140) (pc := 413) (n := 3) (by decide +kernel) ic_3).trans ?_
  exact go_sta (m := 140) (pc := 414) (o := 8) (x := 93) (y := 131) (kd := 4) (as := [.ref a_l0, .int x_l4, .int (nI 3)]) (rs := []) (by decide +kernel) rfl rfl c_8_93 (Or.inr (Or.inr rfl)) rfl rfl rfl (by decide +kernel) (by simp only [List.length_cons, List.length_nil]; decide) (Nat.le_of_ble_eq_true rfl)
theorem Law_isSound_417 (l0 : Value) (l1 : Value) (l2 : Value) (l3 : Value) (l4 : Value) (x_l5 : Int32) (l6 : Value) (y0 : Int32) (w : Wd) (I : MI) (L : ML) (P : MP)  : go 140 417 [l0, l1, l2, l3, l4, .int x_l5, l6] [.int y0] w I L P = if y0 < x_l5 then go 140 437 [l0, l1, l2, l3, l4, .int x_l5, l6] [] w I L P else go 140 422 [l0, l1, l2, l3, l4, .int x_l5, l6] [] w I L P := by
  refine (go_iload (m := 140) (pc := 417) (k := 5) (by decide +kernel) rfl).trans ?_
  exact go_icmplt (m := 140) (pc := 419) (off := 18) (t := 437) (by decide +kernel) (by decide)
theorem Law_isSound_422 (l0 : Value) (l1 : Value) (l2 : Value) (l3 : Value) (l4 : Value) (x_l5 : Int32) (l6 : Value) (w : Wd) (I : MI) (L : ML) (P : MP)  : go 140 422 [l0, l1, l2, l3, l4, .int x_l5, l6] [] w I L P = if x_l5 ≠ 0 then go 140 454 [l0, l1, l2, l3, l4, .int x_l5, l6] [] w I L P else go 140 427 [l0, l1, l2, l3, l4, .int x_l5, l6] [] w I L P := by
  refine (go_iload (m := 140) (pc := 422) (k := 5) (by decide +kernel) rfl).trans ?_
  exact go_ifne (m := 140) (pc := 424) (off := 30) (t := 454) (by decide +kernel) (by decide)
theorem Law_isSound_427_0 (l1 : Value) (l2 : Value) (l3 : Value) (x_l4 : Int32) (l5 : Value) (l6 : Value) (w : Wd) (I : MI) (L : ML) (P : MP)  : go 140 427 [.null, l1, l2, l3, .int x_l4, l5, l6] [] w I L P = kC (call 131 [.null, .int x_l4, .int (nI 3)] w I L P) (fun v w1 I1 L1 P1 => go 140 434 [.null, l1, l2, l3, .int x_l4, l5, l6] (v.toList ++ []) w1 I1 L1 P1) := by
  refine (go_aload_nN (m := 140) (pc := 427) (k := 0) (by decide +kernel) rfl).trans ?_
  refine (go_iload (m := 140) (pc := 428) (k := 4) (by decide +kernel) rfl).trans ?_
  refine (go_ic (m := 140) (pc := 430) (n := 3) (by decide +kernel) ic_3).trans ?_
  exact go_sta (m := 140) (pc := 431) (o := 8) (x := 93) (y := 131) (kd := 4) (as := [.null, .int x_l4, .int (nI 3)]) (rs := []) (by decide +kernel) rfl rfl c_8_93 (Or.inr (Or.inr rfl)) rfl rfl rfl (by decide +kernel) (by simp only [List.length_cons, List.length_nil]; decide) (Nat.le_of_ble_eq_true rfl)
theorem Law_isSound_427_1 (a_l0 : Nat) (l1 : Value) (l2 : Value) (l3 : Value) (x_l4 : Int32) (l5 : Value) (l6 : Value) (w : Wd) (I : MI) (L : ML) (P : MP)  : go 140 427 [.ref a_l0, l1, l2, l3, .int x_l4, l5, l6] [] w I L P = kC (call 131 [.ref a_l0, .int x_l4, .int (nI 3)] w I L P) (fun v w1 I1 L1 P1 => go 140 434 [.ref a_l0, l1, l2, l3, .int x_l4, l5, l6] (v.toList ++ []) w1 I1 L1 P1) := by
  refine (go_aload_n (m := 140) (pc := 427) (k := 0) (by decide +kernel) rfl).trans ?_
  refine (go_iload (m := 140) (pc := 428) (k := 4) (by decide +kernel) rfl).trans ?_
  refine (go_ic (m := 140) (pc := 430) (n := 3) (by decide +kernel) ic_3).trans ?_
  exact go_sta (m := 140) (pc := 431) (o := 8) (x := 93) (y := 131) (kd := 4) (as := [.ref a_l0, .int x_l4, .int (nI 3)]) (rs := []) (by decide +kernel) rfl rfl c_8_93 (Or.inr (Or.inr rfl)) rfl rfl rfl (by decide +kernel) (by simp only [List.length_cons, List.length_nil]; decide) (Nat.le_of_ble_eq_true rfl)
theorem Law_isSound_434 (l0 : Value) (l1 : Value) (l2 : Value) (l3 : Value) (l4 : Value) (l5 : Value) (l6 : Value) (y0 : Int32) (w : Wd) (I : MI) (L : ML) (P : MP)  : go 140 434 [l0, l1, l2, l3, l4, l5, l6] [.int y0] w I L P = if y0 ≠ 0 then go 140 454 [l0, l1, l2, l3, l4, l5, l6] [] w I L P else go 140 437 [l0, l1, l2, l3, l4, l5, l6] [] w I L P := by
  exact go_ifne (m := 140) (pc := 434) (off := 20) (t := 454) (by decide +kernel) (by decide)
theorem Law_isSound_437_0 (l1 : Value) (l2 : Value) (l3 : Value) (x_l4 : Int32) (x_l5 : Int32) (l6 : Value) (w : Wd) (I : MI) (L : ML) (P : MP)  : go 140 437 [.null, l1, l2, l3, .int x_l4, .int x_l5, l6] [] w I L P = kC (call 132 [.null, .int x_l4, .int x_l5] w I L P) (fun v w1 I1 L1 P1 => go 140 445 [.null, l1, l2, l3, .int x_l4, .int x_l5, l6] (v.toList ++ []) w1 I1 L1 P1) := by
  refine (go_aload_nN (m := 140) (pc := 437) (k := 0) (by decide +kernel) rfl).trans ?_
  refine (go_iload (m := 140) (pc := 438) (k := 4) (by decide +kernel) rfl).trans ?_
  refine (go_iload (m := 140) (pc := 440) (k := 5) (by decide +kernel) rfl).trans ?_
  exact go_sta (m := 140) (pc := 442) (o := 8) (x := 95) (y := 132) (kd := 4) (as := [.null, .int x_l4, .int x_l5]) (rs := []) (by decide +kernel) rfl rfl c_8_95 (Or.inr (Or.inr rfl)) rfl rfl rfl (by decide +kernel) (by simp only [List.length_cons, List.length_nil]; decide) (Nat.le_of_ble_eq_true rfl)
theorem Law_isSound_437_1 (a_l0 : Nat) (l1 : Value) (l2 : Value) (l3 : Value) (x_l4 : Int32) (x_l5 : Int32) (l6 : Value) (w : Wd) (I : MI) (L : ML) (P : MP)  : go 140 437 [.ref a_l0, l1, l2, l3, .int x_l4, .int x_l5, l6] [] w I L P = kC (call 132 [.ref a_l0, .int x_l4, .int x_l5] w I L P) (fun v w1 I1 L1 P1 => go 140 445 [.ref a_l0, l1, l2, l3, .int x_l4, .int x_l5, l6] (v.toList ++ []) w1 I1 L1 P1) := by
  refine (go_aload_n (m := 140) (pc := 437) (k := 0) (by decide +kernel) rfl).trans ?_
  refine (go_iload (m := 140) (pc := 438) (k := 4) (by decide +kernel) rfl).trans ?_
  refine (go_iload (m := 140) (pc := 440) (k := 5) (by decide +kernel) rfl).trans ?_
  exact go_sta (m := 140) (pc := 442) (o := 8) (x := 95) (y := 132) (kd := 4) (as := [.ref a_l0, .int x_l4, .int x_l5]) (rs := []) (by decide +kernel) rfl rfl c_8_95 (Or.inr (Or.inr rfl)) rfl rfl rfl (by decide +kernel) (by simp only [List.length_cons, List.length_nil]; decide) (Nat.le_of_ble_eq_true rfl)
theorem Law_isSound_445 (l0 : Value) (l1 : Value) (l2 : Value) (l3 : Value) (l4 : Value) (l5 : Value) (l6 : Value) (y0 : Int32) (w : Wd) (I : MI) (L : ML) (P : MP)  : go 140 445 [l0, l1, l2, l3, l4, l5, l6] [.int y0] w I L P = if y0 ≠ (-11) then go 140 454 [l0, l1, l2, l3, l4, l5, l6] [] w I L P else go 140 450 [l0, l1, l2, l3, l4, l5, l6] [] w I L P := by
  refine (go_bi (m := 140) (pc := 445) (n := -11) (by decide +kernel) bi_m11).trans ?_
  exact go_icmpne (m := 140) (pc := 447) (off := 7) (t := 454) (by decide +kernel) (by decide)
theorem Law_isSound_450 (l0 : Value) (l1 : Value) (l2 : Value) (l3 : Value) (l4 : Value) (l5 : Value) (l6 : Value) (w : Wd) (I : MI) (L : ML) (P : MP)  : go 140 450 [l0, l1, l2, l3, l4, l5, l6] [] w I L P = go 140 455 [l0, l1, l2, l3, l4, l5, l6] [.int (nI 1)] w I L P := by
  refine (go_ic (m := 140) (pc := 450) (n := 1) (by decide +kernel) ic_1).trans ?_
  refine (go_goto (m := 140) (pc := 451) (off := 4) (t := 455) (by decide +kernel) (by decide)).trans ?_
  rfl
theorem Law_isSound_454 (l0 : Value) (l1 : Value) (l2 : Value) (l3 : Value) (l4 : Value) (l5 : Value) (l6 : Value) (w : Wd) (I : MI) (L : ML) (P : MP)  : go 140 454 [l0, l1, l2, l3, l4, l5, l6] [] w I L P = go 140 455 [l0, l1, l2, l3, l4, l5, l6] [.int (nI 0)] w I L P := by
  refine (go_ic (m := 140) (pc := 454) (n := 0) (by decide +kernel) ic_0).trans ?_
  rfl
theorem Law_isSound_455 (l0 : Value) (l1 : Value) (l2 : Value) (l3 : Value) (x_l4 : Int32) (l5 : Value) (l6 : Value) (y0 : Int32) (w : Wd) (I : MI) (L : ML) (P : MP)  : go 140 455 [l0, l1, l2, l3, .int x_l4, l5, l6] [.int y0] w I L P = go 140 365 [l0, l1, (fix1 l2), .int y0, .int (x_l4 + (nI 1)), l5, l6] [] w I L P := by
  refine (go_istore_n (m := 140) (pc := 455) (k := 3) (ls' := [l0, l1, (fix1 l2), .int y0, .int x_l4, l5, l6]) (by decide +kernel) (by simp only [List.length_cons, List.length_nil]; decide) rfl).trans ?_
  refine (go_iinc (m := 140) (pc := 456) (k := 4) (n := 1) (x := x_l4) (v := x_l4 + (nI 1)) (ls' := [l0, l1, (fix1 l2), .int y0, .int (x_l4 + (nI 1)), l5, l6]) (by decide +kernel) rfl (by rw [ic_1]) rfl).trans ?_
  refine (go_goto (m := 140) (pc := 459) (off := -94) (t := 365) (by decide +kernel) (by decide)).trans ?_
  rfl
theorem Law_isSound_462_0 (l1 : Value) (l2 : Value) (l3 : Value) (l4 : Value) (l5 : Value) (l6 : Value) (w : Wd) (I : MI) (L : ML) (P : MP)  : go 140 462 [.null, l1, l2, l3, l4, l5, l6] [] w I L P = kC (call 133 [.null, .int (nI 0)] w I L P) (fun v w1 I1 L1 P1 => go 140 467 [.null, l1, l2, l3, l4, l5, l6] (v.toList ++ []) w1 I1 L1 P1) := by
  refine (go_aload_nN (m := 140) (pc := 462) (k := 0) (by decide +kernel) rfl).trans ?_
  refine (go_ic (m := 140) (pc := 463) (n := 0) (by decide +kernel) ic_0).trans ?_
  exact go_sta (m := 140) (pc := 464) (o := 8) (x := 80) (y := 133) (kd := 4) (as := [.null, .int (nI 0)]) (rs := []) (by decide +kernel) rfl rfl c_8_80 (Or.inr (Or.inr rfl)) rfl rfl rfl (by decide +kernel) (by simp only [List.length_cons, List.length_nil]; decide) (Nat.le_of_ble_eq_true rfl)
theorem Law_isSound_462_1 (a_l0 : Nat) (l1 : Value) (l2 : Value) (l3 : Value) (l4 : Value) (l5 : Value) (l6 : Value) (w : Wd) (I : MI) (L : ML) (P : MP)  : go 140 462 [.ref a_l0, l1, l2, l3, l4, l5, l6] [] w I L P = kC (call 133 [.ref a_l0, .int (nI 0)] w I L P) (fun v w1 I1 L1 P1 => go 140 467 [.ref a_l0, l1, l2, l3, l4, l5, l6] (v.toList ++ []) w1 I1 L1 P1) := by
  refine (go_aload_n (m := 140) (pc := 462) (k := 0) (by decide +kernel) rfl).trans ?_
  refine (go_ic (m := 140) (pc := 463) (n := 0) (by decide +kernel) ic_0).trans ?_
  exact go_sta (m := 140) (pc := 464) (o := 8) (x := 80) (y := 133) (kd := 4) (as := [.ref a_l0, .int (nI 0)]) (rs := []) (by decide +kernel) rfl rfl c_8_80 (Or.inr (Or.inr rfl)) rfl rfl rfl (by decide +kernel) (by simp only [List.length_cons, List.length_nil]; decide) (Nat.le_of_ble_eq_true rfl)
theorem Law_isSound_467 (l0 : Value) (l1 : Value) (l2 : Value) (l3 : Value) (l4 : Value) (l5 : Value) (l6 : Value) (y0 : Int32) (w : Wd) (I : MI) (L : ML) (P : MP)  : go 140 467 [l0, l1, l2, l3, l4, l5, l6] [.int y0] w I L P = if (nI 64) ≤ y0 then go 140 480 [l0, l1, l2, l3, l4, l5, l6] [] w I L P else go 140 472 [l0, l1, l2, l3, l4, l5, l6] [] w I L P := by
  refine (go_bi (m := 140) (pc := 467) (n := 64) (by decide +kernel) bi_64).trans ?_
  exact go_icmpge (m := 140) (pc := 469) (off := 11) (t := 480) (by decide +kernel) (by decide)
theorem Law_isSound_472_0 (l1 : Value) (l2 : Value) (l3 : Value) (l4 : Value) (l5 : Value) (l6 : Value) (w : Wd) (I : MI) (L : ML) (P : MP)  : go 140 472 [.null, l1, l2, l3, l4, l5, l6] [] w I L P = kC (call 133 [.null, .int (nI 0)] w I L P) (fun v w1 I1 L1 P1 => go 140 477 [.null, l1, l2, l3, l4, l5, l6] (v.toList ++ []) w1 I1 L1 P1) := by
  refine (go_aload_nN (m := 140) (pc := 472) (k := 0) (by decide +kernel) rfl).trans ?_
  refine (go_ic (m := 140) (pc := 473) (n := 0) (by decide +kernel) ic_0).trans ?_
  exact go_sta (m := 140) (pc := 474) (o := 8) (x := 80) (y := 133) (kd := 4) (as := [.null, .int (nI 0)]) (rs := []) (by decide +kernel) rfl rfl c_8_80 (Or.inr (Or.inr rfl)) rfl rfl rfl (by decide +kernel) (by simp only [List.length_cons, List.length_nil]; decide) (Nat.le_of_ble_eq_true rfl)
theorem Law_isSound_472_1 (a_l0 : Nat) (l1 : Value) (l2 : Value) (l3 : Value) (l4 : Value) (l5 : Value) (l6 : Value) (w : Wd) (I : MI) (L : ML) (P : MP)  : go 140 472 [.ref a_l0, l1, l2, l3, l4, l5, l6] [] w I L P = kC (call 133 [.ref a_l0, .int (nI 0)] w I L P) (fun v w1 I1 L1 P1 => go 140 477 [.ref a_l0, l1, l2, l3, l4, l5, l6] (v.toList ++ []) w1 I1 L1 P1) := by
  refine (go_aload_n (m := 140) (pc := 472) (k := 0) (by decide +kernel) rfl).trans ?_
  refine (go_ic (m := 140) (pc := 473) (n := 0) (by decide +kernel) ic_0).trans ?_
  exact go_sta (m := 140) (pc := 474) (o := 8) (x := 80) (y := 133) (kd := 4) (as := [.ref a_l0, .int (nI 0)]) (rs := []) (by decide +kernel) rfl rfl c_8_80 (Or.inr (Or.inr rfl)) rfl rfl rfl (by decide +kernel) (by simp only [List.length_cons, List.length_nil]; decide) (Nat.le_of_ble_eq_true rfl)
theorem Law_isSound_477 (l0 : Value) (l1 : Value) (l2 : Value) (l3 : Value) (l4 : Value) (l5 : Value) (l6 : Value) (y0 : Int32) (w : Wd) (I : MI) (L : ML) (P : MP)  : go 140 477 [l0, l1, l2, l3, l4, l5, l6] [.int y0] w I L P = go 140 482 [l0, l1, l2, l3, l4, l5, l6] [.int y0] w I L P := by
  refine (go_goto (m := 140) (pc := 477) (off := 5) (t := 482) (by decide +kernel) (by decide)).trans ?_
  rfl
theorem Law_isSound_480 (l0 : Value) (l1 : Value) (l2 : Value) (l3 : Value) (l4 : Value) (l5 : Value) (l6 : Value) (w : Wd) (I : MI) (L : ML) (P : MP)  : go 140 480 [l0, l1, l2, l3, l4, l5, l6] [] w I L P = go 140 482 [l0, l1, l2, l3, l4, l5, l6] [.int (nI 64)] w I L P := by
  refine (go_bi (m := 140) (pc := 480) (n := 64) (by decide +kernel) bi_64).trans ?_
  rfl
theorem Law_isSound_482 (l0 : Value) (l1 : Value) (l2 : Value) (l3 : Value) (l4 : Value) (l5 : Value) (l6 : Value) (y0 : Int32) (w : Wd) (I : MI) (L : ML) (P : MP)  : go 140 482 [l0, l1, l2, l3, l4, l5, l6] [.int y0] w I L P = go 140 487 [l0, l1, l2, (fix1 l3), .int y0, .int (nI 0), l6] [] w I L P := by
  refine (go_istore (m := 140) (pc := 482) (k := 4) (ls' := [l0, l1, l2, (fix1 l3), .int y0, l5, l6]) (by decide +kernel) (by simp only [List.length_cons, List.length_nil]; decide) rfl).trans ?_
  refine (go_ic (m := 140) (pc := 484) (n := 0) (by decide +kernel) ic_0).trans ?_
  refine (go_istore (m := 140) (pc := 485) (k := 5) (ls' := [l0, l1, l2, (fix1 l3), .int y0, .int (nI 0), l6]) (by decide +kernel) (by simp only [List.length_cons, List.length_nil]; decide) rfl).trans ?_
  rfl
theorem Law_isSound_487 (l0 : Value) (l1 : Value) (l2 : Value) (l3 : Value) (x_l4 : Int32) (x_l5 : Int32) (l6 : Value) (w : Wd) (I : MI) (L : ML) (P : MP)  : go 140 487 [l0, l1, l2, l3, .int x_l4, .int x_l5, l6] [] w I L P = if x_l4 ≤ x_l5 then go 140 595 [l0, l1, l2, l3, .int x_l4, .int x_l5, l6] [] w I L P else go 140 494 [l0, l1, l2, l3, .int x_l4, .int x_l5, l6] [] w I L P := by
  refine (go_iload (m := 140) (pc := 487) (k := 5) (by decide +kernel) rfl).trans ?_
  refine (go_iload (m := 140) (pc := 489) (k := 4) (by decide +kernel) rfl).trans ?_
  exact go_icmpge (m := 140) (pc := 491) (off := 104) (t := 595) (by decide +kernel) (by decide)
theorem Law_isSound_494 (l0 : Value) (l1 : Value) (l2 : Value) (x_l3 : Int32) (l4 : Value) (l5 : Value) (l6 : Value) (w : Wd) (I : MI) (L : ML) (P : MP)  : go 140 494 [l0, l1, l2, .int x_l3, l4, l5, l6] [] w I L P = if x_l3 = 0 then go 140 595 [l0, l1, l2, .int x_l3, l4, l5, l6] [] w I L P else go 140 498 [l0, l1, l2, .int x_l3, l4, l5, l6] [] w I L P := by
  refine (go_iload_n (m := 140) (pc := 494) (k := 3) (by decide +kernel) rfl).trans ?_
  exact go_ifeq (m := 140) (pc := 495) (off := 100) (t := 595) (by decide +kernel) (by decide)
theorem Law_isSound_498_0 (l1 : Value) (l2 : Value) (l3 : Value) (l4 : Value) (x_l5 : Int32) (l6 : Value) (w : Wd) (I : MI) (L : ML) (P : MP)  : go 140 498 [.null, l1, l2, l3, l4, .int x_l5, l6] [] w I L P = kC (call 134 [.null, .int x_l5, .int (nI 2)] w I L P) (fun v w1 I1 L1 P1 => go 140 505 [.null, l1, l2, l3, l4, .int x_l5, l6] (v.toList ++ []) w1 I1 L1 P1) := by
  refine (go_aload_nN (m := 140) (pc := 498) (k := 0) (by decide +kernel) rfl).trans ?_
  refine (go_iload (m := 140) (pc := 499) (k := 5) (by decide +kernel) rfl).trans ?_
  refine (go_ic (m := 140) (pc := 501) (n := 2) (by decide +kernel) ic_2).trans ?_
  exact go_sta (m := 140) (pc := 502) (o := 8) (x := 97) (y := 134) (kd := 4) (as := [.null, .int x_l5, .int (nI 2)]) (rs := []) (by decide +kernel) rfl rfl c_8_97 (Or.inr (Or.inr rfl)) rfl rfl rfl (by decide +kernel) (by simp only [List.length_cons, List.length_nil]; decide) (Nat.le_of_ble_eq_true rfl)
theorem Law_isSound_498_1 (a_l0 : Nat) (l1 : Value) (l2 : Value) (l3 : Value) (l4 : Value) (x_l5 : Int32) (l6 : Value) (w : Wd) (I : MI) (L : ML) (P : MP)  : go 140 498 [.ref a_l0, l1, l2, l3, l4, .int x_l5, l6] [] w I L P = kC (call 134 [.ref a_l0, .int x_l5, .int (nI 2)] w I L P) (fun v w1 I1 L1 P1 => go 140 505 [.ref a_l0, l1, l2, l3, l4, .int x_l5, l6] (v.toList ++ []) w1 I1 L1 P1) := by
  refine (go_aload_n (m := 140) (pc := 498) (k := 0) (by decide +kernel) rfl).trans ?_
  refine (go_iload (m := 140) (pc := 499) (k := 5) (by decide +kernel) rfl).trans ?_
  refine (go_ic (m := 140) (pc := 501) (n := 2) (by decide +kernel) ic_2).trans ?_
  exact go_sta (m := 140) (pc := 502) (o := 8) (x := 97) (y := 134) (kd := 4) (as := [.ref a_l0, .int x_l5, .int (nI 2)]) (rs := []) (by decide +kernel) rfl rfl c_8_97 (Or.inr (Or.inr rfl)) rfl rfl rfl (by decide +kernel) (by simp only [List.length_cons, List.length_nil]; decide) (Nat.le_of_ble_eq_true rfl)
theorem Law_isSound_505 (l0 : Value) (l1 : Value) (l2 : Value) (l3 : Value) (l4 : Value) (l5 : Value) (l6 : Value) (y0 : Int32) (w : Wd) (I : MI) (L : ML) (P : MP)  : go 140 505 [l0, l1, l2, l3, l4, l5, l6] [.int y0] w I L P = if y0 = 0 then go 140 519 [l0, l1, l2, l3, l4, (fix1 l5), .int y0] [] w I L P else go 140 512 [l0, l1, l2, l3, l4, (fix1 l5), .int y0] [] w I L P := by
  refine (go_istore (m := 140) (pc := 505) (k := 6) (ls' := [l0, l1, l2, l3, l4, (fix1 l5), .int y0]) (by decide +kernel) (by simp only [List.length_cons, List.length_nil]; decide) rfl).trans ?_
  refine (go_iload (m := 140) (pc := 507) (k := 6) (by decide +kernel) rfl).trans ?_
  exact go_ifeq (m := 140) (pc := 509) (off := 10) (t := 519) (by decide +kernel) (by decide)
theorem Law_isSound_512 (l0 : Value) (l1 : Value) (l2 : Value) (l3 : Value) (l4 : Value) (l5 : Value) (x_l6 : Int32) (w : Wd) (I : MI) (L : ML) (P : MP)  : go 140 512 [l0, l1, l2, l3, l4, l5, .int x_l6] [] w I L P = if x_l6 ≠ (nI 7) then go 140 543 [l0, l1, l2, l3, l4, l5, .int x_l6] [] w I L P else go 140 519 [l0, l1, l2, l3, l4, l5, .int x_l6] [] w I L P := by
  refine (go_iload (m := 140) (pc := 512) (k := 6) (by decide +kernel) rfl).trans ?_
  refine (go_bi (m := 140) (pc := 514) (n := 7) (by decide +kernel) bi_7).trans ?_
  exact go_icmpne (m := 140) (pc := 516) (off := 27) (t := 543) (by decide +kernel) (by decide)
theorem Law_isSound_519_0 (l1 : Value) (l2 : Value) (l3 : Value) (l4 : Value) (x_l5 : Int32) (l6 : Value) (w : Wd) (I : MI) (L : ML) (P : MP)  : go 140 519 [.null, l1, l2, l3, l4, .int x_l5, l6] [] w I L P = kC (call 134 [.null, .int x_l5, .int (nI 0)] w I L P) (fun v w1 I1 L1 P1 => go 140 526 [.null, l1, l2, l3, l4, .int x_l5, l6] (v.toList ++ []) w1 I1 L1 P1) := by
  refine (go_aload_nN (m := 140) (pc := 519) (k := 0) (by decide +kernel) rfl).trans ?_
  refine (go_iload (m := 140) (pc := 520) (k := 5) (by decide +kernel) rfl).trans ?_
  refine (go_ic (m := 140) (pc := 522) (n := 0) (by decide +kernel) ic_0).trans ?_
  exact go_sta (m := 140) (pc := 523) (o := 8) (x := 97) (y := 134) (kd := 4) (as := [.null, .int x_l5, .int (nI 0)]) (rs := []) (by decide +kernel) rfl rfl c_8_97 (Or.inr (Or.inr rfl)) rfl rfl rfl (by decide +kernel) (by simp only [List.length_cons, List.length_nil]; decide) (Nat.le_of_ble_eq_true rfl)
theorem Law_isSound_519_1 (a_l0 : Nat) (l1 : Value) (l2 : Value) (l3 : Value) (l4 : Value) (x_l5 : Int32) (l6 : Value) (w : Wd) (I : MI) (L : ML) (P : MP)  : go 140 519 [.ref a_l0, l1, l2, l3, l4, .int x_l5, l6] [] w I L P = kC (call 134 [.ref a_l0, .int x_l5, .int (nI 0)] w I L P) (fun v w1 I1 L1 P1 => go 140 526 [.ref a_l0, l1, l2, l3, l4, .int x_l5, l6] (v.toList ++ []) w1 I1 L1 P1) := by
  refine (go_aload_n (m := 140) (pc := 519) (k := 0) (by decide +kernel) rfl).trans ?_
  refine (go_iload (m := 140) (pc := 520) (k := 5) (by decide +kernel) rfl).trans ?_
  refine (go_ic (m := 140) (pc := 522) (n := 0) (by decide +kernel) ic_0).trans ?_
  exact go_sta (m := 140) (pc := 523) (o := 8) (x := 97) (y := 134) (kd := 4) (as := [.ref a_l0, .int x_l5, .int (nI 0)]) (rs := []) (by decide +kernel) rfl rfl c_8_97 (Or.inr (Or.inr rfl)) rfl rfl rfl (by decide +kernel) (by simp only [List.length_cons, List.length_nil]; decide) (Nat.le_of_ble_eq_true rfl)
theorem Law_isSound_526 (l0 : Value) (l1 : Value) (l2 : Value) (l3 : Value) (l4 : Value) (l5 : Value) (l6 : Value) (y0 : Int32) (w : Wd) (I : MI) (L : ML) (P : MP)  : go 140 526 [l0, l1, l2, l3, l4, l5, l6] [.int y0] w I L P = if y0 ≠ (nI 1) then go 140 587 [l0, l1, l2, l3, l4, l5, l6] [] w I L P else go 140 530 [l0, l1, l2, l3, l4, l5, l6] [] w I L P := by
  refine (go_ic (m := 140) (pc := 526) (n := 1) (by decide +kernel) ic_1).trans ?_
  exact go_icmpne (m := 140) (pc := 527) (off := 60) (t := 587) (by decide +kernel) (by decide)
theorem Law_isSound_530_0 (l1 : Value) (l2 : Value) (l3 : Value) (l4 : Value) (x_l5 : Int32) (l6 : Value) (w : Wd) (I : MI) (L : ML) (P : MP)  : go 140 530 [.null, l1, l2, l3, l4, .int x_l5, l6] [] w I L P = kC (call 134 [.null, .int x_l5, .int (nI 1)] w I L P) (fun v w1 I1 L1 P1 => go 140 537 [.null, l1, l2, l3, l4, .int x_l5, l6] (v.toList ++ []) w1 I1 L1 P1) := by
  refine (go_aload_nN (m := 140) (pc := 530) (k := 0) (by decide +kernel) rfl).trans ?_
  refine (go_iload (m := 140) (pc := 531) (k := 5) (by decide +kernel) rfl).trans ?_
  refine (go_ic (m := 140) (pc := 533) (n := 1) (by decide +kernel) ic_1).trans ?_
  exact go_sta (m := 140) (pc := 534) (o := 8) (x := 97) (y := 134) (kd := 4) (as := [.null, .int x_l5, .int (nI 1)]) (rs := []) (by decide +kernel) rfl rfl c_8_97 (Or.inr (Or.inr rfl)) rfl rfl rfl (by decide +kernel) (by simp only [List.length_cons, List.length_nil]; decide) (Nat.le_of_ble_eq_true rfl)
theorem Law_isSound_530_1 (a_l0 : Nat) (l1 : Value) (l2 : Value) (l3 : Value) (l4 : Value) (x_l5 : Int32) (l6 : Value) (w : Wd) (I : MI) (L : ML) (P : MP)  : go 140 530 [.ref a_l0, l1, l2, l3, l4, .int x_l5, l6] [] w I L P = kC (call 134 [.ref a_l0, .int x_l5, .int (nI 1)] w I L P) (fun v w1 I1 L1 P1 => go 140 537 [.ref a_l0, l1, l2, l3, l4, .int x_l5, l6] (v.toList ++ []) w1 I1 L1 P1) := by
  refine (go_aload_n (m := 140) (pc := 530) (k := 0) (by decide +kernel) rfl).trans ?_
  refine (go_iload (m := 140) (pc := 531) (k := 5) (by decide +kernel) rfl).trans ?_
  refine (go_ic (m := 140) (pc := 533) (n := 1) (by decide +kernel) ic_1).trans ?_
  exact go_sta (m := 140) (pc := 534) (o := 8) (x := 97) (y := 134) (kd := 4) (as := [.ref a_l0, .int x_l5, .int (nI 1)]) (rs := []) (by decide +kernel) rfl rfl c_8_97 (Or.inr (Or.inr rfl)) rfl rfl rfl (by decide +kernel) (by simp only [List.length_cons, List.length_nil]; decide) (Nat.le_of_ble_eq_true rfl)
theorem Law_isSound_537 (l0 : Value) (l1 : Value) (l2 : Value) (l3 : Value) (l4 : Value) (l5 : Value) (l6 : Value) (y0 : Int32) (w : Wd) (I : MI) (L : ML) (P : MP)  : go 140 537 [l0, l1, l2, l3, l4, l5, l6] [.int y0] w I L P = if y0 ≠ 0 then go 140 587 [l0, l1, l2, l3, l4, l5, l6] [] w I L P else go 140 540 [l0, l1, l2, l3, l4, l5, l6] [] w I L P := by
  exact go_ifne (m := 140) (pc := 537) (off := 50) (t := 587) (by decide +kernel) (by decide)
theorem Law_isSound_540 (l0 : Value) (l1 : Value) (l2 : Value) (l3 : Value) (l4 : Value) (l5 : Value) (l6 : Value) (w : Wd) (I : MI) (L : ML) (P : MP)  : go 140 540 [l0, l1, l2, l3, l4, l5, l6] [] w I L P = go 140 566 [l0, l1, l2, l3, l4, l5, l6] [] w I L P := by
  refine (go_goto (m := 140) (pc := 540) (off := 26) (t := 566) (by decide +kernel) (by decide)).trans ?_
  rfl
theorem Law_isSound_543 (l0 : Value) (l1 : Value) (l2 : Value) (l3 : Value) (l4 : Value) (l5 : Value) (x_l6 : Int32) (w : Wd) (I : MI) (L : ML) (P : MP)  : go 140 543 [l0, l1, l2, l3, l4, l5, .int x_l6] [] w I L P = if x_l6 = (nI 1) then go 140 556 [l0, l1, l2, l3, l4, l5, .int x_l6] [] w I L P else go 140 549 [l0, l1, l2, l3, l4, l5, .int x_l6] [] w I L P := by
  refine (go_iload (m := 140) (pc := 543) (k := 6) (by decide +kernel) rfl).trans ?_
  refine (go_ic (m := 140) (pc := 545) (n := 1) (by decide +kernel) ic_1).trans ?_
  exact go_icmpeq (m := 140) (pc := 546) (off := 10) (t := 556) (by decide +kernel) (by decide)
theorem Law_isSound_549 (l0 : Value) (l1 : Value) (l2 : Value) (l3 : Value) (l4 : Value) (l5 : Value) (x_l6 : Int32) (w : Wd) (I : MI) (L : ML) (P : MP)  : go 140 549 [l0, l1, l2, l3, l4, l5, .int x_l6] [] w I L P = if x_l6 ≠ (nI 6) then go 140 566 [l0, l1, l2, l3, l4, l5, .int x_l6] [] w I L P else go 140 556 [l0, l1, l2, l3, l4, l5, .int x_l6] [] w I L P := by
  refine (go_iload (m := 140) (pc := 549) (k := 6) (by decide +kernel) rfl).trans ?_
  refine (go_bi (m := 140) (pc := 551) (n := 6) (by decide +kernel) bi_6).trans ?_
  exact go_icmpne (m := 140) (pc := 553) (off := 13) (t := 566) (by decide +kernel) (by decide)
theorem Law_isSound_556_0 (l1 : Value) (l2 : Value) (l3 : Value) (l4 : Value) (x_l5 : Int32) (l6 : Value) (w : Wd) (I : MI) (L : ML) (P : MP)  : go 140 556 [.null, l1, l2, l3, l4, .int x_l5, l6] [] w I L P = kC (call 134 [.null, .int x_l5, .int (nI 0)] w I L P) (fun v w1 I1 L1 P1 => go 140 563 [.null, l1, l2, l3, l4, .int x_l5, l6] (v.toList ++ []) w1 I1 L1 P1) := by
  refine (go_aload_nN (m := 140) (pc := 556) (k := 0) (by decide +kernel) rfl).trans ?_
  refine (go_iload (m := 140) (pc := 557) (k := 5) (by decide +kernel) rfl).trans ?_
  refine (go_ic (m := 140) (pc := 559) (n := 0) (by decide +kernel) ic_0).trans ?_
  exact go_sta (m := 140) (pc := 560) (o := 8) (x := 97) (y := 134) (kd := 4) (as := [.null, .int x_l5, .int (nI 0)]) (rs := []) (by decide +kernel) rfl rfl c_8_97 (Or.inr (Or.inr rfl)) rfl rfl rfl (by decide +kernel) (by simp only [List.length_cons, List.length_nil]; decide) (Nat.le_of_ble_eq_true rfl)
theorem Law_isSound_556_1 (a_l0 : Nat) (l1 : Value) (l2 : Value) (l3 : Value) (l4 : Value) (x_l5 : Int32) (l6 : Value) (w : Wd) (I : MI) (L : ML) (P : MP)  : go 140 556 [.ref a_l0, l1, l2, l3, l4, .int x_l5, l6] [] w I L P = kC (call 134 [.ref a_l0, .int x_l5, .int (nI 0)] w I L P) (fun v w1 I1 L1 P1 => go 140 563 [.ref a_l0, l1, l2, l3, l4, .int x_l5, l6] (v.toList ++ []) w1 I1 L1 P1) := by
  refine (go_aload_n (m := 140) (pc := 556) (k := 0) (by decide +kernel) rfl).trans ?_
  refine (go_iload (m := 140) (pc := 557) (k := 5) (by decide +kernel) rfl).trans ?_
  refine (go_ic (m := 140) (pc := 559) (n := 0) (by decide +kernel) ic_0).trans ?_
  exact go_sta (m := 140) (pc := 560) (o := 8) (x := 97) (y := 134) (kd := 4) (as := [.ref a_l0, .int x_l5, .int (nI 0)]) (rs := []) (by decide +kernel) rfl rfl c_8_97 (Or.inr (Or.inr rfl)) rfl rfl rfl (by decide +kernel) (by simp only [List.length_cons, List.length_nil]; decide) (Nat.le_of_ble_eq_true rfl)
theorem Law_isSound_563 (l0 : Value) (l1 : Value) (l2 : Value) (l3 : Value) (l4 : Value) (l5 : Value) (l6 : Value) (y0 : Int32) (w : Wd) (I : MI) (L : ML) (P : MP)  : go 140 563 [l0, l1, l2, l3, l4, l5, l6] [.int y0] w I L P = if y0 ≠ 0 then go 140 587 [l0, l1, l2, l3, l4, l5, l6] [] w I L P else go 140 566 [l0, l1, l2, l3, l4, l5, l6] [] w I L P := by
  exact go_ifne (m := 140) (pc := 563) (off := 24) (t := 587) (by decide +kernel) (by decide)
theorem Law_isSound_566 (l0 : Value) (l1 : Value) (l2 : Value) (l3 : Value) (l4 : Value) (l5 : Value) (x_l6 : Int32) (w : Wd) (I : MI) (L : ML) (P : MP)  : go 140 566 [l0, l1, l2, l3, l4, l5, .int x_l6] [] w I L P = if x_l6 ≠ (nI 6) then go 140 583 [l0, l1, l2, l3, l4, l5, .int x_l6] [] w I L P else go 140 573 [l0, l1, l2, l3, l4, l5, .int x_l6] [] w I L P := by
  refine (go_iload (m := 140) (pc := 566) (k := 6) (by decide +kernel) rfl).trans ?_
  refine (go_bi (m := 140) (pc := 568) (n := 6) (by decide +kernel) bi_6).trans ?_
  exact go_icmpne (m := 140) (pc := 570) (off := 13) (t := 583) (by decide +kernel) (by decide)
theorem Law_isSound_573_0 (l1 : Value) (l2 : Value) (l3 : Value) (l4 : Value) (x_l5 : Int32) (l6 : Value) (w : Wd) (I : MI) (L : ML) (P : MP)  : go 140 573 [.null, l1, l2, l3, l4, .int x_l5, l6] [] w I L P = kC (call 134 [.null, .int x_l5, .int (nI 1)] w I L P) (fun v w1 I1 L1 P1 => go 140 580 [.null, l1, l2, l3, l4, .int x_l5, l6] (v.toList ++ []) w1 I1 L1 P1) := by
  refine (go_aload_nN (m := 140) (pc := 573) (k := 0) (by decide +kernel) rfl).trans ?_
  refine (go_iload (m := 140) (pc := 574) (k := 5) (by decide +kernel) rfl).trans ?_
  refine (go_ic (m := 140) (pc := 576) (n := 1) (by decide +kernel) ic_1).trans ?_
  exact go_sta (m := 140) (pc := 577) (o := 8) (x := 97) (y := 134) (kd := 4) (as := [.null, .int x_l5, .int (nI 1)]) (rs := []) (by decide +kernel) rfl rfl c_8_97 (Or.inr (Or.inr rfl)) rfl rfl rfl (by decide +kernel) (by simp only [List.length_cons, List.length_nil]; decide) (Nat.le_of_ble_eq_true rfl)
theorem Law_isSound_573_1 (a_l0 : Nat) (l1 : Value) (l2 : Value) (l3 : Value) (l4 : Value) (x_l5 : Int32) (l6 : Value) (w : Wd) (I : MI) (L : ML) (P : MP)  : go 140 573 [.ref a_l0, l1, l2, l3, l4, .int x_l5, l6] [] w I L P = kC (call 134 [.ref a_l0, .int x_l5, .int (nI 1)] w I L P) (fun v w1 I1 L1 P1 => go 140 580 [.ref a_l0, l1, l2, l3, l4, .int x_l5, l6] (v.toList ++ []) w1 I1 L1 P1) := by
  refine (go_aload_n (m := 140) (pc := 573) (k := 0) (by decide +kernel) rfl).trans ?_
  refine (go_iload (m := 140) (pc := 574) (k := 5) (by decide +kernel) rfl).trans ?_
  refine (go_ic (m := 140) (pc := 576) (n := 1) (by decide +kernel) ic_1).trans ?_
  exact go_sta (m := 140) (pc := 577) (o := 8) (x := 97) (y := 134) (kd := 4) (as := [.ref a_l0, .int x_l5, .int (nI 1)]) (rs := []) (by decide +kernel) rfl rfl c_8_97 (Or.inr (Or.inr rfl)) rfl rfl rfl (by decide +kernel) (by simp only [List.length_cons, List.length_nil]; decide) (Nat.le_of_ble_eq_true rfl)
theorem Law_isSound_580 (l0 : Value) (l1 : Value) (l2 : Value) (l3 : Value) (l4 : Value) (l5 : Value) (l6 : Value) (y0 : Int32) (w : Wd) (I : MI) (L : ML) (P : MP)  : go 140 580 [l0, l1, l2, l3, l4, l5, l6] [.int y0] w I L P = if y0 = 0 then go 140 587 [l0, l1, l2, l3, l4, l5, l6] [] w I L P else go 140 583 [l0, l1, l2, l3, l4, l5, l6] [] w I L P := by
  exact go_ifeq (m := 140) (pc := 580) (off := 7) (t := 587) (by decide +kernel) (by decide)
theorem Law_isSound_583 (l0 : Value) (l1 : Value) (l2 : Value) (l3 : Value) (l4 : Value) (l5 : Value) (l6 : Value) (w : Wd) (I : MI) (L : ML) (P : MP)  : go 140 583 [l0, l1, l2, l3, l4, l5, l6] [] w I L P = go 140 588 [l0, l1, l2, l3, l4, l5, l6] [.int (nI 1)] w I L P := by
  refine (go_ic (m := 140) (pc := 583) (n := 1) (by decide +kernel) ic_1).trans ?_
  refine (go_goto (m := 140) (pc := 584) (off := 4) (t := 588) (by decide +kernel) (by decide)).trans ?_
  rfl
theorem Law_isSound_587 (l0 : Value) (l1 : Value) (l2 : Value) (l3 : Value) (l4 : Value) (l5 : Value) (l6 : Value) (w : Wd) (I : MI) (L : ML) (P : MP)  : go 140 587 [l0, l1, l2, l3, l4, l5, l6] [] w I L P = go 140 588 [l0, l1, l2, l3, l4, l5, l6] [.int (nI 0)] w I L P := by
  refine (go_ic (m := 140) (pc := 587) (n := 0) (by decide +kernel) ic_0).trans ?_
  rfl
theorem Law_isSound_588 (l0 : Value) (l1 : Value) (l2 : Value) (l3 : Value) (l4 : Value) (x_l5 : Int32) (l6 : Value) (y0 : Int32) (w : Wd) (I : MI) (L : ML) (P : MP)  : go 140 588 [l0, l1, l2, l3, l4, .int x_l5, l6] [.int y0] w I L P = go 140 487 [l0, l1, (fix1 l2), .int y0, (fix1 l4), .int (x_l5 + (nI 1)), l6] [] w I L P := by
  refine (go_istore_n (m := 140) (pc := 588) (k := 3) (ls' := [l0, l1, (fix1 l2), .int y0, l4, .int x_l5, l6]) (by decide +kernel) (by simp only [List.length_cons, List.length_nil]; decide) rfl).trans ?_
  refine (go_iinc (m := 140) (pc := 589) (k := 5) (n := 1) (x := x_l5) (v := x_l5 + (nI 1)) (ls' := [l0, l1, (fix1 l2), .int y0, (fix1 l4), .int (x_l5 + (nI 1)), l6]) (by decide +kernel) rfl (by rw [ic_1]) rfl).trans ?_
  refine (go_goto (m := 140) (pc := 592) (off := -105) (t := 487) (by decide +kernel) (by decide)).trans ?_
  rfl
theorem Law_isSound_595 (l0 : Value) (l1 : Value) (l2 : Value) (x_l3 : Int32) (l4 : Value) (l5 : Value) (l6 : Value) (w : Wd) (I : MI) (L : ML) (P : MP)  : go 140 595 [l0, l1, l2, .int x_l3, l4, l5, l6] [] w I L P = if x_l3 = 0 then go 140 681 [l0, l1, l2, .int x_l3, l4, l5, l6] [] w I L P else go 140 599 [l0, l1, l2, .int x_l3, l4, l5, l6] [] w I L P := by
  refine (go_iload_n (m := 140) (pc := 595) (k := 3) (by decide +kernel) rfl).trans ?_
  exact go_ifeq (m := 140) (pc := 596) (off := 85) (t := 681) (by decide +kernel) (by decide)
theorem Law_isSound_599_0 (x_l1 : Int32) (l2 : Value) (l3 : Value) (l4 : Value) (l5 : Value) (l6 : Value) (w : Wd) (I : MI) (L : ML) (P : MP)  : go 140 599 [.null, .int x_l1, l2, l3, l4, l5, l6] [] w I L P = kC (call 133 [.null, .int (nI 5)] w I L P) (fun v w1 I1 L1 P1 => go 140 605 [.null, .int x_l1, l2, l3, l4, l5, l6] (v.toList ++ [.int x_l1]) w1 I1 L1 P1) := by
  refine (go_iload_n (m := 140) (pc := 599) (k := 1) (by decide +kernel) rfl).trans ?_
  refine (go_aload_nN (m := 140) (pc := 600) (k := 0) (by decide +kernel) rfl).trans ?_
  refine (go_ic (m := 140) (pc := 601) (n := 5) (by decide +kernel) ic_5).trans ?_
  exact go_sta (m := 140) (pc := 602) (o := 8) (x := 80) (y := 133) (kd := 4) (as := [.null, .int (nI 5)]) (rs := [.int x_l1]) (by decide +kernel) rfl rfl c_8_80 (Or.inr (Or.inr rfl)) rfl rfl rfl (by decide +kernel) (by simp only [List.length_cons, List.length_nil]; decide) (Nat.le_of_ble_eq_true rfl)
theorem Law_isSound_599_1 (a_l0 : Nat) (x_l1 : Int32) (l2 : Value) (l3 : Value) (l4 : Value) (l5 : Value) (l6 : Value) (w : Wd) (I : MI) (L : ML) (P : MP)  : go 140 599 [.ref a_l0, .int x_l1, l2, l3, l4, l5, l6] [] w I L P = kC (call 133 [.ref a_l0, .int (nI 5)] w I L P) (fun v w1 I1 L1 P1 => go 140 605 [.ref a_l0, .int x_l1, l2, l3, l4, l5, l6] (v.toList ++ [.int x_l1]) w1 I1 L1 P1) := by
  refine (go_iload_n (m := 140) (pc := 599) (k := 1) (by decide +kernel) rfl).trans ?_
  refine (go_aload_n (m := 140) (pc := 600) (k := 0) (by decide +kernel) rfl).trans ?_
  refine (go_ic (m := 140) (pc := 601) (n := 5) (by decide +kernel) ic_5).trans ?_
  exact go_sta (m := 140) (pc := 602) (o := 8) (x := 80) (y := 133) (kd := 4) (as := [.ref a_l0, .int (nI 5)]) (rs := [.int x_l1]) (by decide +kernel) rfl rfl c_8_80 (Or.inr (Or.inr rfl)) rfl rfl rfl (by decide +kernel) (by simp only [List.length_cons, List.length_nil]; decide) (Nat.le_of_ble_eq_true rfl)
theorem Law_isSound_605 (l0 : Value) (l1 : Value) (l2 : Value) (l3 : Value) (l4 : Value) (l5 : Value) (l6 : Value) (y0 : Int32) (y1 : Int32) (w : Wd) (I : MI) (L : ML) (P : MP)  : go 140 605 [l0, l1, l2, l3, l4, l5, l6] [.int y1, .int y0] w I L P = if y0 ≠ y1 then go 140 681 [l0, l1, l2, l3, l4, l5, l6] [] w I L P else go 140 608 [l0, l1, l2, l3, l4, l5, l6] [] w I L P := by
  exact go_icmpne (m := 140) (pc := 605) (off := 76) (t := 681) (by decide +kernel) (by decide)
theorem Law_isSound_608_0 (l1 : Value) (x_l2 : Int32) (l3 : Value) (l4 : Value) (l5 : Value) (l6 : Value) (w : Wd) (I : MI) (L : ML) (P : MP)  : go 140 608 [.null, l1, .int x_l2, l3, l4, l5, l6] [] w I L P = kC (call 133 [.null, .int (nI 7)] w I L P) (fun v w1 I1 L1 P1 => go 140 615 [.null, l1, .int x_l2, l3, l4, l5, l6] (v.toList ++ [.int x_l2]) w1 I1 L1 P1) := by
  refine (go_iload_n (m := 140) (pc := 608) (k := 2) (by decide +kernel) rfl).trans ?_
  refine (go_aload_nN (m := 140) (pc := 609) (k := 0) (by decide +kernel) rfl).trans ?_
  refine (go_bi (m := 140) (pc := 610) (n := 7) (by decide +kernel) bi_7).trans ?_
  exact go_sta (m := 140) (pc := 612) (o := 8) (x := 80) (y := 133) (kd := 4) (as := [.null, .int (nI 7)]) (rs := [.int x_l2]) (by decide +kernel) rfl rfl c_8_80 (Or.inr (Or.inr rfl)) rfl rfl rfl (by decide +kernel) (by simp only [List.length_cons, List.length_nil]; decide) (Nat.le_of_ble_eq_true rfl)
theorem Law_isSound_608_1 (a_l0 : Nat) (l1 : Value) (x_l2 : Int32) (l3 : Value) (l4 : Value) (l5 : Value) (l6 : Value) (w : Wd) (I : MI) (L : ML) (P : MP)  : go 140 608 [.ref a_l0, l1, .int x_l2, l3, l4, l5, l6] [] w I L P = kC (call 133 [.ref a_l0, .int (nI 7)] w I L P) (fun v w1 I1 L1 P1 => go 140 615 [.ref a_l0, l1, .int x_l2, l3, l4, l5, l6] (v.toList ++ [.int x_l2]) w1 I1 L1 P1) := by
  refine (go_iload_n (m := 140) (pc := 608) (k := 2) (by decide +kernel) rfl).trans ?_
  refine (go_aload_n (m := 140) (pc := 609) (k := 0) (by decide +kernel) rfl).trans ?_
  refine (go_bi (m := 140) (pc := 610) (n := 7) (by decide +kernel) bi_7).trans ?_
  exact go_sta (m := 140) (pc := 612) (o := 8) (x := 80) (y := 133) (kd := 4) (as := [.ref a_l0, .int (nI 7)]) (rs := [.int x_l2]) (by decide +kernel) rfl rfl c_8_80 (Or.inr (Or.inr rfl)) rfl rfl rfl (by decide +kernel) (by simp only [List.length_cons, List.length_nil]; decide) (Nat.le_of_ble_eq_true rfl)
theorem Law_isSound_615 (l0 : Value) (l1 : Value) (l2 : Value) (l3 : Value) (l4 : Value) (l5 : Value) (l6 : Value) (y0 : Int32) (y1 : Int32) (w : Wd) (I : MI) (L : ML) (P : MP)  : go 140 615 [l0, l1, l2, l3, l4, l5, l6] [.int y1, .int y0] w I L P = if y0 ≠ y1 then go 140 681 [l0, l1, l2, l3, l4, l5, l6] [] w I L P else go 140 618 [l0, l1, l2, l3, l4, l5, l6] [] w I L P := by
  exact go_icmpne (m := 140) (pc := 615) (off := 66) (t := 681) (by decide +kernel) (by decide)
theorem Law_isSound_618_0 (l1 : Value) (l2 : Value) (l3 : Value) (x_l4 : Int32) (l5 : Value) (l6 : Value) (w : Wd) (I : MI) (L : ML) (P : MP)  : go 140 618 [.null, l1, l2, l3, .int x_l4, l5, l6] [] w I L P = kC (call 134 [.null, .int x_l4, .int (nI 0)] w I L P) (fun v w1 I1 L1 P1 => go 140 625 [.null, l1, l2, l3, .int x_l4, l5, l6] (v.toList ++ []) w1 I1 L1 P1) := by
  refine (go_aload_nN (m := 140) (pc := 618) (k := 0) (by decide +kernel) rfl).trans ?_
  refine (go_iload (m := 140) (pc := 619) (k := 4) (by decide +kernel) rfl).trans ?_
  refine (go_ic (m := 140) (pc := 621) (n := 0) (by decide +kernel) ic_0).trans ?_
  exact go_sta (m := 140) (pc := 622) (o := 8) (x := 97) (y := 134) (kd := 4) (as := [.null, .int x_l4, .int (nI 0)]) (rs := []) (by decide +kernel) rfl rfl c_8_97 (Or.inr (Or.inr rfl)) rfl rfl rfl (by decide +kernel) (by simp only [List.length_cons, List.length_nil]; decide) (Nat.le_of_ble_eq_true rfl)
theorem Law_isSound_618_1 (a_l0 : Nat) (l1 : Value) (l2 : Value) (l3 : Value) (x_l4 : Int32) (l5 : Value) (l6 : Value) (w : Wd) (I : MI) (L : ML) (P : MP)  : go 140 618 [.ref a_l0, l1, l2, l3, .int x_l4, l5, l6] [] w I L P = kC (call 134 [.ref a_l0, .int x_l4, .int (nI 0)] w I L P) (fun v w1 I1 L1 P1 => go 140 625 [.ref a_l0, l1, l2, l3, .int x_l4, l5, l6] (v.toList ++ []) w1 I1 L1 P1) := by
  refine (go_aload_n (m := 140) (pc := 618) (k := 0) (by decide +kernel) rfl).trans ?_
  refine (go_iload (m := 140) (pc := 619) (k := 4) (by decide +kernel) rfl).trans ?_
  refine (go_ic (m := 140) (pc := 621) (n := 0) (by decide +kernel) ic_0).trans ?_
  exact go_sta (m := 140) (pc := 622) (o := 8) (x := 97) (y := 134) (kd := 4) (as := [.ref a_l0, .int x_l4, .int (nI 0)]) (rs := []) (by decide +kernel) rfl rfl c_8_97 (Or.inr (Or.inr rfl)) rfl rfl rfl (by decide +kernel) (by simp only [List.length_cons, List.length_nil]; decide) (Nat.le_of_ble_eq_true rfl)
theorem Law_isSound_625 (l0 : Value) (l1 : Value) (l2 : Value) (l3 : Value) (l4 : Value) (l5 : Value) (l6 : Value) (y0 : Int32) (w : Wd) (I : MI) (L : ML) (P : MP)  : go 140 625 [l0, l1, l2, l3, l4, l5, l6] [.int y0] w I L P = if y0 ≠ (-11) then go 140 681 [l0, l1, l2, l3, l4, l5, l6] [] w I L P else go 140 630 [l0, l1, l2, l3, l4, l5, l6] [] w I L P := by
  refine (go_bi (m := 140) (pc := 625) (n := -11) (by decide +kernel) bi_m11).trans ?_
  exact go_icmpne (m := 140) (pc := 627) (off := 54) (t := 681) (by decide +kernel) (by decide)
theorem Law_isSound_630 (l0 : Value) (l1 : Value) (l2 : Value) (l3 : Value) (x_l4 : Int32) (l5 : Value) (l6 : Value) (w : Wd) (I : MI) (L : ML) (P : MP)  : go 140 630 [l0, l1, l2, l3, .int x_l4, l5, l6] [] w I L P = if x_l4 ≠ 0 then go 140 648 [l0, l1, l2, l3, .int x_l4, l5, l6] [] w I L P else go 140 635 [l0, l1, l2, l3, .int x_l4, l5, l6] [] w I L P := by
  refine (go_iload (m := 140) (pc := 630) (k := 4) (by decide +kernel) rfl).trans ?_
  exact go_ifne (m := 140) (pc := 632) (off := 16) (t := 648) (by decide +kernel) (by decide)
theorem Law_isSound_635_0 (l1 : Value) (l2 : Value) (l3 : Value) (l4 : Value) (l5 : Value) (l6 : Value) (w : Wd) (I : MI) (L : ML) (P : MP)  : go 140 635 [.null, l1, l2, l3, l4, l5, l6] [] w I L P = kC (call 133 [.null, .int (nI 9)] w I L P) (fun v w1 I1 L1 P1 => go 140 641 [.null, l1, l2, l3, l4, l5, l6] (v.toList ++ []) w1 I1 L1 P1) := by
  refine (go_aload_nN (m := 140) (pc := 635) (k := 0) (by decide +kernel) rfl).trans ?_
  refine (go_bi (m := 140) (pc := 636) (n := 9) (by decide +kernel) bi_9).trans ?_
  exact go_sta (m := 140) (pc := 638) (o := 8) (x := 80) (y := 133) (kd := 4) (as := [.null, .int (nI 9)]) (rs := []) (by decide +kernel) rfl rfl c_8_80 (Or.inr (Or.inr rfl)) rfl rfl rfl (by decide +kernel) (by simp only [List.length_cons, List.length_nil]; decide) (Nat.le_of_ble_eq_true rfl)
theorem Law_isSound_635_1 (a_l0 : Nat) (l1 : Value) (l2 : Value) (l3 : Value) (l4 : Value) (l5 : Value) (l6 : Value) (w : Wd) (I : MI) (L : ML) (P : MP)  : go 140 635 [.ref a_l0, l1, l2, l3, l4, l5, l6] [] w I L P = kC (call 133 [.ref a_l0, .int (nI 9)] w I L P) (fun v w1 I1 L1 P1 => go 140 641 [.ref a_l0, l1, l2, l3, l4, l5, l6] (v.toList ++ []) w1 I1 L1 P1) := by
  refine (go_aload_n (m := 140) (pc := 635) (k := 0) (by decide +kernel) rfl).trans ?_
  refine (go_bi (m := 140) (pc := 636) (n := 9) (by decide +kernel) bi_9).trans ?_
  exact go_sta (m := 140) (pc := 638) (o := 8) (x := 80) (y := 133) (kd := 4) (as := [.ref a_l0, .int (nI 9)]) (rs := []) (by decide +kernel) rfl rfl c_8_80 (Or.inr (Or.inr rfl)) rfl rfl rfl (by decide +kernel) (by simp only [List.length_cons, List.length_nil]; decide) (Nat.le_of_ble_eq_true rfl)
theorem Law_isSound_641 (l0 : Value) (l1 : Value) (l2 : Value) (l3 : Value) (l4 : Value) (l5 : Value) (l6 : Value) (y0 : Int32) (w : Wd) (I : MI) (L : ML) (P : MP)  : go 140 641 [l0, l1, l2, l3, l4, l5, l6] [.int y0] w I L P = if y0 ≠ (nI 1) then go 140 681 [l0, l1, l2, l3, l4, l5, l6] [] w I L P else go 140 645 [l0, l1, l2, l3, l4, l5, l6] [] w I L P := by
  refine (go_ic (m := 140) (pc := 641) (n := 1) (by decide +kernel) ic_1).trans ?_
  exact go_icmpne (m := 140) (pc := 642) (off := 39) (t := 681) (by decide +kernel) (by decide)
theorem Law_isSound_645 (l0 : Value) (l1 : Value) (l2 : Value) (l3 : Value) (l4 : Value) (l5 : Value) (l6 : Value) (w : Wd) (I : MI) (L : ML) (P : MP)  : go 140 645 [l0, l1, l2, l3, l4, l5, l6] [] w I L P = go 140 677 [l0, l1, l2, l3, l4, l5, l6] [] w I L P := by
  refine (go_goto (m := 140) (pc := 645) (off := 32) (t := 677) (by decide +kernel) (by decide)).trans ?_
  rfl
theorem Law_isSound_648_0 (l1 : Value) (l2 : Value) (l3 : Value) (l4 : Value) (l5 : Value) (l6 : Value) (w : Wd) (I : MI) (L : ML) (P : MP)  : go 140 648 [.null, l1, l2, l3, l4, l5, l6] [] w I L P = kC (call 133 [.null, .int (nI 9)] w I L P) (fun v w1 I1 L1 P1 => go 140 654 [.null, l1, l2, l3, l4, l5, l6] (v.toList ++ []) w1 I1 L1 P1) := by
  refine (go_aload_nN (m := 140) (pc := 648) (k := 0) (by decide +kernel) rfl).trans ?_
  refine (go_bi (m := 140) (pc := 649) (n := 9) (by decide +kernel) bi_9).trans ?_
  exact go_sta (m := 140) (pc := 651) (o := 8) (x := 80) (y := 133) (kd := 4) (as := [.null, .int (nI 9)]) (rs := []) (by decide +kernel) rfl rfl c_8_80 (Or.inr (Or.inr rfl)) rfl rfl rfl (by decide +kernel) (by simp only [List.length_cons, List.length_nil]; decide) (Nat.le_of_ble_eq_true rfl)
theorem Law_isSound_648_1 (a_l0 : Nat) (l1 : Value) (l2 : Value) (l3 : Value) (l4 : Value) (l5 : Value) (l6 : Value) (w : Wd) (I : MI) (L : ML) (P : MP)  : go 140 648 [.ref a_l0, l1, l2, l3, l4, l5, l6] [] w I L P = kC (call 133 [.ref a_l0, .int (nI 9)] w I L P) (fun v w1 I1 L1 P1 => go 140 654 [.ref a_l0, l1, l2, l3, l4, l5, l6] (v.toList ++ []) w1 I1 L1 P1) := by
  refine (go_aload_n (m := 140) (pc := 648) (k := 0) (by decide +kernel) rfl).trans ?_
  refine (go_bi (m := 140) (pc := 649) (n := 9) (by decide +kernel) bi_9).trans ?_
  exact go_sta (m := 140) (pc := 651) (o := 8) (x := 80) (y := 133) (kd := 4) (as := [.ref a_l0, .int (nI 9)]) (rs := []) (by decide +kernel) rfl rfl c_8_80 (Or.inr (Or.inr rfl)) rfl rfl rfl (by decide +kernel) (by simp only [List.length_cons, List.length_nil]; decide) (Nat.le_of_ble_eq_true rfl)
theorem Law_isSound_654_0 (l1 : Value) (l2 : Value) (l3 : Value) (l4 : Value) (l5 : Value) (l6 : Value) (y0 : Int32) (w : Wd) (I : MI) (L : ML) (P : MP)  : go 140 654 [.null, l1, l2, l3, l4, l5, l6] [.int y0] w I L P = kC (call 134 [.null, .int (nI 0), .int (nI 0)] w I L P) (fun v w1 I1 L1 P1 => go 140 660 [.null, l1, l2, l3, l4, l5, l6] (v.toList ++ [.int y0]) w1 I1 L1 P1) := by
  refine (go_aload_nN (m := 140) (pc := 654) (k := 0) (by decide +kernel) rfl).trans ?_
  refine (go_ic (m := 140) (pc := 655) (n := 0) (by decide +kernel) ic_0).trans ?_
  refine (go_ic (m := 140) (pc := 656) (n := 0) (by decide +kernel) ic_0).trans ?_
  exact go_sta (m := 140) (pc := 657) (o := 8) (x := 97) (y := 134) (kd := 4) (as := [.null, .int (nI 0), .int (nI 0)]) (rs := [.int y0]) (by decide +kernel) rfl rfl c_8_97 (Or.inr (Or.inr rfl)) rfl rfl rfl (by decide +kernel) (by simp only [List.length_cons, List.length_nil]; decide) (Nat.le_of_ble_eq_true rfl)
theorem Law_isSound_654_1 (a_l0 : Nat) (l1 : Value) (l2 : Value) (l3 : Value) (l4 : Value) (l5 : Value) (l6 : Value) (y0 : Int32) (w : Wd) (I : MI) (L : ML) (P : MP)  : go 140 654 [.ref a_l0, l1, l2, l3, l4, l5, l6] [.int y0] w I L P = kC (call 134 [.ref a_l0, .int (nI 0), .int (nI 0)] w I L P) (fun v w1 I1 L1 P1 => go 140 660 [.ref a_l0, l1, l2, l3, l4, l5, l6] (v.toList ++ [.int y0]) w1 I1 L1 P1) := by
  refine (go_aload_n (m := 140) (pc := 654) (k := 0) (by decide +kernel) rfl).trans ?_
  refine (go_ic (m := 140) (pc := 655) (n := 0) (by decide +kernel) ic_0).trans ?_
  refine (go_ic (m := 140) (pc := 656) (n := 0) (by decide +kernel) ic_0).trans ?_
  exact go_sta (m := 140) (pc := 657) (o := 8) (x := 97) (y := 134) (kd := 4) (as := [.ref a_l0, .int (nI 0), .int (nI 0)]) (rs := [.int y0]) (by decide +kernel) rfl rfl c_8_97 (Or.inr (Or.inr rfl)) rfl rfl rfl (by decide +kernel) (by simp only [List.length_cons, List.length_nil]; decide) (Nat.le_of_ble_eq_true rfl)
theorem Law_isSound_660 (l0 : Value) (l1 : Value) (l2 : Value) (l3 : Value) (l4 : Value) (l5 : Value) (l6 : Value) (y0 : Int32) (y1 : Int32) (w : Wd) (I : MI) (L : ML) (P : MP)  : go 140 660 [l0, l1, l2, l3, l4, l5, l6] [.int y1, .int y0] w I L P = if y0 ≠ y1 then go 140 681 [l0, l1, l2, l3, l4, l5, l6] [] w I L P else go 140 663 [l0, l1, l2, l3, l4, l5, l6] [] w I L P := by
  exact go_icmpne (m := 140) (pc := 660) (off := 21) (t := 681) (by decide +kernel) (by decide)
theorem Law_isSound_663_0 (l1 : Value) (l2 : Value) (l3 : Value) (l4 : Value) (l5 : Value) (l6 : Value) (w : Wd) (I : MI) (L : ML) (P : MP)  : go 140 663 [.null, l1, l2, l3, l4, l5, l6] [] w I L P = kC (call 134 [.null, .int (nI 0), .int (nI 1)] w I L P) (fun v w1 I1 L1 P1 => go 140 669 [.null, l1, l2, l3, l4, l5, l6] (v.toList ++ []) w1 I1 L1 P1) := by
  refine (go_aload_nN (m := 140) (pc := 663) (k := 0) (by decide +kernel) rfl).trans ?_
  refine (go_ic (m := 140) (pc := 664) (n := 0) (by decide +kernel) ic_0).trans ?_
  refine (go_ic (m := 140) (pc := 665) (n := 1) (by decide +kernel) ic_1).trans ?_
  exact go_sta (m := 140) (pc := 666) (o := 8) (x := 97) (y := 134) (kd := 4) (as := [.null, .int (nI 0), .int (nI 1)]) (rs := []) (by decide +kernel) rfl rfl c_8_97 (Or.inr (Or.inr rfl)) rfl rfl rfl (by decide +kernel) (by simp only [List.length_cons, List.length_nil]; decide) (Nat.le_of_ble_eq_true rfl)
theorem Law_isSound_663_1 (a_l0 : Nat) (l1 : Value) (l2 : Value) (l3 : Value) (l4 : Value) (l5 : Value) (l6 : Value) (w : Wd) (I : MI) (L : ML) (P : MP)  : go 140 663 [.ref a_l0, l1, l2, l3, l4, l5, l6] [] w I L P = kC (call 134 [.ref a_l0, .int (nI 0), .int (nI 1)] w I L P) (fun v w1 I1 L1 P1 => go 140 669 [.ref a_l0, l1, l2, l3, l4, l5, l6] (v.toList ++ []) w1 I1 L1 P1) := by
  refine (go_aload_n (m := 140) (pc := 663) (k := 0) (by decide +kernel) rfl).trans ?_
  refine (go_ic (m := 140) (pc := 664) (n := 0) (by decide +kernel) ic_0).trans ?_
  refine (go_ic (m := 140) (pc := 665) (n := 1) (by decide +kernel) ic_1).trans ?_
  exact go_sta (m := 140) (pc := 666) (o := 8) (x := 97) (y := 134) (kd := 4) (as := [.ref a_l0, .int (nI 0), .int (nI 1)]) (rs := []) (by decide +kernel) rfl rfl c_8_97 (Or.inr (Or.inr rfl)) rfl rfl rfl (by decide +kernel) (by simp only [List.length_cons, List.length_nil]; decide) (Nat.le_of_ble_eq_true rfl)
theorem Law_isSound_669_0 (l1 : Value) (l2 : Value) (l3 : Value) (l4 : Value) (l5 : Value) (l6 : Value) (y0 : Int32) (w : Wd) (I : MI) (L : ML) (P : MP)  : go 140 669 [.null, l1, l2, l3, l4, l5, l6] [.int y0] w I L P = kC (call 133 [.null, .int (nI 5)] w I L P) (fun v w1 I1 L1 P1 => go 140 674 [.null, l1, l2, l3, l4, l5, l6] (v.toList ++ [.int y0]) w1 I1 L1 P1) := by
  refine (go_aload_nN (m := 140) (pc := 669) (k := 0) (by decide +kernel) rfl).trans ?_
  refine (go_ic (m := 140) (pc := 670) (n := 5) (by decide +kernel) ic_5).trans ?_
  exact go_sta (m := 140) (pc := 671) (o := 8) (x := 80) (y := 133) (kd := 4) (as := [.null, .int (nI 5)]) (rs := [.int y0]) (by decide +kernel) rfl rfl c_8_80 (Or.inr (Or.inr rfl)) rfl rfl rfl (by decide +kernel) (by simp only [List.length_cons, List.length_nil]; decide) (Nat.le_of_ble_eq_true rfl)
theorem Law_isSound_669_1 (a_l0 : Nat) (l1 : Value) (l2 : Value) (l3 : Value) (l4 : Value) (l5 : Value) (l6 : Value) (y0 : Int32) (w : Wd) (I : MI) (L : ML) (P : MP)  : go 140 669 [.ref a_l0, l1, l2, l3, l4, l5, l6] [.int y0] w I L P = kC (call 133 [.ref a_l0, .int (nI 5)] w I L P) (fun v w1 I1 L1 P1 => go 140 674 [.ref a_l0, l1, l2, l3, l4, l5, l6] (v.toList ++ [.int y0]) w1 I1 L1 P1) := by
  refine (go_aload_n (m := 140) (pc := 669) (k := 0) (by decide +kernel) rfl).trans ?_
  refine (go_ic (m := 140) (pc := 670) (n := 5) (by decide +kernel) ic_5).trans ?_
  exact go_sta (m := 140) (pc := 671) (o := 8) (x := 80) (y := 133) (kd := 4) (as := [.ref a_l0, .int (nI 5)]) (rs := [.int y0]) (by decide +kernel) rfl rfl c_8_80 (Or.inr (Or.inr rfl)) rfl rfl rfl (by decide +kernel) (by simp only [List.length_cons, List.length_nil]; decide) (Nat.le_of_ble_eq_true rfl)
theorem Law_isSound_674 (l0 : Value) (l1 : Value) (l2 : Value) (l3 : Value) (l4 : Value) (l5 : Value) (l6 : Value) (y0 : Int32) (y1 : Int32) (w : Wd) (I : MI) (L : ML) (P : MP)  : go 140 674 [l0, l1, l2, l3, l4, l5, l6] [.int y1, .int y0] w I L P = if y0 ≠ y1 then go 140 681 [l0, l1, l2, l3, l4, l5, l6] [] w I L P else go 140 677 [l0, l1, l2, l3, l4, l5, l6] [] w I L P := by
  exact go_icmpne (m := 140) (pc := 674) (off := 7) (t := 681) (by decide +kernel) (by decide)
theorem Law_isSound_677 (l0 : Value) (l1 : Value) (l2 : Value) (l3 : Value) (l4 : Value) (l5 : Value) (l6 : Value) (w : Wd) (I : MI) (L : ML) (P : MP)  : go 140 677 [l0, l1, l2, l3, l4, l5, l6] [] w I L P = go 140 682 [l0, l1, l2, l3, l4, l5, l6] [.int (nI 1)] w I L P := by
  refine (go_ic (m := 140) (pc := 677) (n := 1) (by decide +kernel) ic_1).trans ?_
  refine (go_goto (m := 140) (pc := 678) (off := 4) (t := 682) (by decide +kernel) (by decide)).trans ?_
  rfl
theorem Law_isSound_681 (l0 : Value) (l1 : Value) (l2 : Value) (l3 : Value) (l4 : Value) (l5 : Value) (l6 : Value) (w : Wd) (I : MI) (L : ML) (P : MP)  : go 140 681 [l0, l1, l2, l3, l4, l5, l6] [] w I L P = go 140 682 [l0, l1, l2, l3, l4, l5, l6] [.int (nI 0)] w I L P := by
  refine (go_ic (m := 140) (pc := 681) (n := 0) (by decide +kernel) ic_0).trans ?_
  rfl
theorem Law_isSound_682 (l0 : Value) (l1 : Value) (l2 : Value) (l3 : Value) (l4 : Value) (l5 : Value) (l6 : Value) (y0 : Int32) (w : Wd) (I : MI) (L : ML) (P : MP) (h0 : y0 &&& 1 = y0) : go 140 682 [l0, l1, l2, l3, l4, l5, l6] [.int y0] w I L P = some (.inl (some (.int y0)), w, I, L, P) := by
  exact go_retZ (m := 140) (pc := 682) (by decide +kernel) rfl h0
theorem Law_isSound_E (p0 : Nat) (w : Wd) (I : MI) (L : ML) (P : MP) : call 140 [.ref p0] w I L P = go 140 0 [.ref p0, unk, unk, unk, unk, unk, unk] [] w I L P := rfl
theorem Law_isSound_E1  (w : Wd) (I : MI) (L : ML) (P : MP) : call 140 [.null] w I L P = go 140 0 [.null, unk, unk, unk, unk, unk, unk] [] w I L P := rfl
theorem Law_wins_0 (a_l0 : Nat) (l1 : Value) (l2 : Value) (l3 : Value) (l4 : Value) (l5 : Value) (w : Wd) (I : MI) (L : ML) (P : MP) (h0 : w.1 a_l0 = some (6, 0)) : go 142 0 [.ref a_l0, l1, l2, l3, l4, l5] [] w I L P = kC (call 98 [.ref a_l0] w I L P) (fun v w1 I1 L1 P1 => go 142 4 [.ref a_l0, l1, l2, l3, l4, l5] (v.toList ++ []) w1 I1 L1 P1) := by
  refine (go_aload_n (m := 142) (pc := 0) (k := 0) (by decide +kernel) rfl).trans ?_
  exact go_vir (m := 142) (pc := 1) (o := 8) (x := 115) (y := 98) (kd := 0) (b := a_l0) (bs := []) (rs := []) (by decide +kernel) rfl rfl c_8_115 (Or.inl rfl) rfl rfl rfl (by decide +kernel) (by simp only [List.length_cons, List.length_nil]; decide) (Nat.le_of_ble_eq_true rfl) h0
theorem Law_wins_4 (l0 : Value) (l1 : Value) (l2 : Value) (l3 : Value) (l4 : Value) (l5 : Value) (y0 : Int32) (w : Wd) (I : MI) (L : ML) (P : MP)  : go 142 4 [l0, l1, l2, l3, l4, l5] [.int y0] w I L P = if y0 ≠ 0 then go 142 13 [l0, (fix1 l1), .int y0, l3, l4, l5] [] w I L P else go 142 9 [l0, (fix1 l1), .int y0, l3, l4, l5] [] w I L P := by
  refine (go_istore_n (m := 142) (pc := 4) (k := 2) (ls' := [l0, (fix1 l1), .int y0, l3, l4, l5]) (by decide +kernel) (by simp only [List.length_cons, List.length_nil]; decide) rfl).trans ?_
  refine (go_iload_n (m := 142) (pc := 5) (k := 2) (by decide +kernel) rfl).trans ?_
  exact go_ifne (m := 142) (pc := 6) (off := 7) (t := 13) (by decide +kernel) (by decide)
theorem Law_wins_9 (l0 : Value) (l1 : Value) (l2 : Value) (l3 : Value) (l4 : Value) (l5 : Value) (w : Wd) (I : MI) (L : ML) (P : MP)  : go 142 9 [l0, l1, l2, l3, l4, l5] [] w I L P = go 142 14 [l0, l1, l2, l3, l4, l5] [.int (nI 1)] w I L P := by
  refine (go_ic (m := 142) (pc := 9) (n := 1) (by decide +kernel) ic_1).trans ?_
  refine (go_goto (m := 142) (pc := 10) (off := 4) (t := 14) (by decide +kernel) (by decide)).trans ?_
  rfl
theorem Law_wins_13 (l0 : Value) (l1 : Value) (l2 : Value) (l3 : Value) (l4 : Value) (l5 : Value) (w : Wd) (I : MI) (L : ML) (P : MP)  : go 142 13 [l0, l1, l2, l3, l4, l5] [] w I L P = go 142 14 [l0, l1, l2, l3, l4, l5] [.int (nI 0)] w I L P := by
  refine (go_ic (m := 142) (pc := 13) (n := 0) (by decide +kernel) ic_0).trans ?_
  rfl
theorem Law_wins_14_0 (l1 : Value) (l2 : Value) (l3 : Value) (l4 : Value) (l5 : Value) (y0 : Int32) (w : Wd) (I : MI) (L : ML) (P : MP)  : go 142 14 [.null, l1, l2, l3, l4, l5] [.int y0] w I L P = kC (call 139 [.null] w I L P) (fun v w1 I1 L1 P1 => go 142 18 [.null, l1, l2, l3, l4, l5] (v.toList ++ [.int y0]) w1 I1 L1 P1) := by
  refine (go_aload_nN (m := 142) (pc := 14) (k := 0) (by decide +kernel) rfl).trans ?_
  exact go_sta (m := 142) (pc := 15) (o := 8) (x := 104) (y := 139) (kd := 2) (as := [.null]) (rs := [.int y0]) (by decide +kernel) rfl rfl c_8_104 (Or.inl rfl) rfl rfl rfl (by decide +kernel) (by simp only [List.length_cons, List.length_nil]; decide) (Nat.le_of_ble_eq_true rfl)
theorem Law_wins_14_1 (a_l0 : Nat) (l1 : Value) (l2 : Value) (l3 : Value) (l4 : Value) (l5 : Value) (y0 : Int32) (w : Wd) (I : MI) (L : ML) (P : MP)  : go 142 14 [.ref a_l0, l1, l2, l3, l4, l5] [.int y0] w I L P = kC (call 139 [.ref a_l0] w I L P) (fun v w1 I1 L1 P1 => go 142 18 [.ref a_l0, l1, l2, l3, l4, l5] (v.toList ++ [.int y0]) w1 I1 L1 P1) := by
  refine (go_aload_n (m := 142) (pc := 14) (k := 0) (by decide +kernel) rfl).trans ?_
  exact go_sta (m := 142) (pc := 15) (o := 8) (x := 104) (y := 139) (kd := 2) (as := [.ref a_l0]) (rs := [.int y0]) (by decide +kernel) rfl rfl c_8_104 (Or.inl rfl) rfl rfl rfl (by decide +kernel) (by simp only [List.length_cons, List.length_nil]; decide) (Nat.le_of_ble_eq_true rfl)
theorem Law_wins_18 (l0 : Value) (l1 : Value) (l2 : Value) (l3 : Value) (l4 : Value) (l5 : Value) (y0 : Int32) (y1 : Int32) (w : Wd) (I : MI) (L : ML) (P : MP)  : go 142 18 [l0, l1, l2, l3, l4, l5] [.int y1, .int y0] w I L P = if y1 ≠ 0 then go 142 25 [l0, l1, l2, l3, l4, l5] [.int y0] w I L P else go 142 21 [l0, l1, l2, l3, l4, l5] [.int y0] w I L P := by
  exact go_ifne (m := 142) (pc := 18) (off := 7) (t := 25) (by decide +kernel) (by decide)
theorem Law_wins_21 (l0 : Value) (l1 : Value) (l2 : Value) (l3 : Value) (l4 : Value) (l5 : Value) (y0 : Int32) (w : Wd) (I : MI) (L : ML) (P : MP)  : go 142 21 [l0, l1, l2, l3, l4, l5] [.int y0] w I L P = go 142 26 [l0, l1, l2, l3, l4, l5] [.int (nI 1), .int y0] w I L P := by
  refine (go_ic (m := 142) (pc := 21) (n := 1) (by decide +kernel) ic_1).trans ?_
  refine (go_goto (m := 142) (pc := 22) (off := 4) (t := 26) (by decide +kernel) (by decide)).trans ?_
  rfl
theorem Law_wins_25 (l0 : Value) (l1 : Value) (l2 : Value) (l3 : Value) (l4 : Value) (l5 : Value) (y0 : Int32) (w : Wd) (I : MI) (L : ML) (P : MP)  : go 142 25 [l0, l1, l2, l3, l4, l5] [.int y0] w I L P = go 142 26 [l0, l1, l2, l3, l4, l5] [.int (nI 0), .int y0] w I L P := by
  refine (go_ic (m := 142) (pc := 25) (n := 0) (by decide +kernel) ic_0).trans ?_
  rfl
theorem Law_wins_26 (l0 : Value) (l1 : Value) (l2 : Value) (l3 : Value) (l4 : Value) (l5 : Value) (y0 : Int32) (y1 : Int32) (w : Wd) (I : MI) (L : ML) (P : MP)  : go 142 26 [l0, l1, l2, l3, l4, l5] [.int y1, .int y0] w I L P = if y0 ≠ y1 then go 142 33 [l0, l1, l2, l3, l4, l5] [] w I L P else go 142 29 [l0, l1, l2, l3, l4, l5] [] w I L P := by
  exact go_icmpne (m := 142) (pc := 26) (off := 7) (t := 33) (by decide +kernel) (by decide)
theorem Law_wins_29 (l0 : Value) (l1 : Value) (l2 : Value) (l3 : Value) (l4 : Value) (l5 : Value) (w : Wd) (I : MI) (L : ML) (P : MP)  : go 142 29 [l0, l1, l2, l3, l4, l5] [] w I L P = go 142 34 [l0, l1, l2, l3, l4, l5] [.int (nI 1)] w I L P := by
  refine (go_ic (m := 142) (pc := 29) (n := 1) (by decide +kernel) ic_1).trans ?_
  refine (go_goto (m := 142) (pc := 30) (off := 4) (t := 34) (by decide +kernel) (by decide)).trans ?_
  rfl
theorem Law_wins_33 (l0 : Value) (l1 : Value) (l2 : Value) (l3 : Value) (l4 : Value) (l5 : Value) (w : Wd) (I : MI) (L : ML) (P : MP)  : go 142 33 [l0, l1, l2, l3, l4, l5] [] w I L P = go 142 34 [l0, l1, l2, l3, l4, l5] [.int (nI 0)] w I L P := by
  refine (go_ic (m := 142) (pc := 33) (n := 0) (by decide +kernel) ic_0).trans ?_
  rfl
theorem Law_wins_34_0 (l1 : Value) (l2 : Value) (l3 : Value) (l4 : Value) (l5 : Value) (y0 : Int32) (w : Wd) (I : MI) (L : ML) (P : MP)  : go 142 34 [.null, l1, l2, l3, l4, l5] [.int y0] w I L P = kC (call 133 [.null, .int (nI 4)] w I L P) (fun v w1 I1 L1 P1 => go 142 40 [.null, l1, (fix1 l2), .int y0, l4, l5] (v.toList ++ []) w1 I1 L1 P1) := by
  refine (go_istore_n (m := 142) (pc := 34) (k := 3) (ls' := [.null, l1, (fix1 l2), .int y0, l4, l5]) (by decide +kernel) (by simp only [List.length_cons, List.length_nil]; decide) rfl).trans ?_
  refine (go_aload_nN (m := 142) (pc := 35) (k := 0) (by decide +kernel) rfl).trans ?_
  refine (go_ic (m := 142) (pc := 36) (n := 4) (by decide +kernel) ic_4).trans ?_
  exact go_sta (m := 142) (pc := 37) (o := 8) (x := 80) (y := 133) (kd := 4) (as := [.null, .int (nI 4)]) (rs := []) (by decide +kernel) rfl rfl c_8_80 (Or.inr (Or.inr rfl)) rfl rfl rfl (by decide +kernel) (by simp only [List.length_cons, List.length_nil]; decide) (Nat.le_of_ble_eq_true rfl)
theorem Law_wins_34_1 (a_l0 : Nat) (l1 : Value) (l2 : Value) (l3 : Value) (l4 : Value) (l5 : Value) (y0 : Int32) (w : Wd) (I : MI) (L : ML) (P : MP)  : go 142 34 [.ref a_l0, l1, l2, l3, l4, l5] [.int y0] w I L P = kC (call 133 [.ref a_l0, .int (nI 4)] w I L P) (fun v w1 I1 L1 P1 => go 142 40 [.ref a_l0, l1, (fix1 l2), .int y0, l4, l5] (v.toList ++ []) w1 I1 L1 P1) := by
  refine (go_istore_n (m := 142) (pc := 34) (k := 3) (ls' := [.ref a_l0, l1, (fix1 l2), .int y0, l4, l5]) (by decide +kernel) (by simp only [List.length_cons, List.length_nil]; decide) rfl).trans ?_
  refine (go_aload_n (m := 142) (pc := 35) (k := 0) (by decide +kernel) rfl).trans ?_
  refine (go_ic (m := 142) (pc := 36) (n := 4) (by decide +kernel) ic_4).trans ?_
  exact go_sta (m := 142) (pc := 37) (o := 8) (x := 80) (y := 133) (kd := 4) (as := [.ref a_l0, .int (nI 4)]) (rs := []) (by decide +kernel) rfl rfl c_8_80 (Or.inr (Or.inr rfl)) rfl rfl rfl (by decide +kernel) (by simp only [List.length_cons, List.length_nil]; decide) (Nat.le_of_ble_eq_true rfl)
theorem Law_wins_40 (l0 : Value) (l1 : Value) (l2 : Value) (l3 : Value) (l4 : Value) (l5 : Value) (y0 : Int32) (w : Wd) (I : MI) (L : ML) (P : MP)  : go 142 40 [l0, l1, l2, l3, l4, l5] [.int y0] w I L P = if y0 ≠ (nI 1) then go 142 174 [l0, l1, l2, l3, l4, l5] [] w I L P else go 142 44 [l0, l1, l2, l3, l4, l5] [] w I L P := by
  refine (go_ic (m := 142) (pc := 40) (n := 1) (by decide +kernel) ic_1).trans ?_
  exact go_icmpne (m := 142) (pc := 41) (off := 133) (t := 174) (by decide +kernel) (by decide)
theorem Law_wins_44 (l0 : Value) (l1 : Value) (x_l2 : Int32) (l3 : Value) (l4 : Value) (l5 : Value) (w : Wd) (I : MI) (L : ML) (P : MP)  : go 142 44 [l0, l1, .int x_l2, l3, l4, l5] [] w I L P = if x_l2 ≤ 0 then go 142 174 [l0, l1, .int x_l2, l3, l4, l5] [] w I L P else go 142 48 [l0, l1, .int x_l2, l3, l4, l5] [] w I L P := by
  refine (go_iload_n (m := 142) (pc := 44) (k := 2) (by decide +kernel) rfl).trans ?_
  exact go_ifle (m := 142) (pc := 45) (off := 129) (t := 174) (by decide +kernel) (by decide)
theorem Law_wins_48_0 (x_l1 : Int32) (l2 : Value) (l3 : Value) (l4 : Value) (l5 : Value) (w : Wd) (I : MI) (L : ML) (P : MP)  : go 142 48 [.null, .int x_l1, l2, l3, l4, l5] [] w I L P = kC (call 135 [.null, .int x_l1] w I L P) (fun v w1 I1 L1 P1 => go 142 53 [.null, .int x_l1, l2, l3, l4, l5] (v.toList ++ []) w1 I1 L1 P1) := by
  refine (go_aload_nN (m := 142) (pc := 48) (k := 0) (by decide +kernel) rfl).trans ?_
  refine (go_iload_n (m := 142) (pc := 49) (k := 1) (by decide +kernel) rfl).trans ?_
  exact go_sta (m := 142) (pc := 50) (o := 8) (x := 88) (y := 135) (kd := 4) (as := [.null, .int x_l1]) (rs := []) (by decide +kernel) rfl rfl c_8_88 (Or.inr (Or.inr rfl)) rfl rfl rfl (by decide +kernel) (by simp only [List.length_cons, List.length_nil]; decide) (Nat.le_of_ble_eq_true rfl)
theorem Law_wins_48_1 (a_l0 : Nat) (x_l1 : Int32) (l2 : Value) (l3 : Value) (l4 : Value) (l5 : Value) (w : Wd) (I : MI) (L : ML) (P : MP)  : go 142 48 [.ref a_l0, .int x_l1, l2, l3, l4, l5] [] w I L P = kC (call 135 [.ref a_l0, .int x_l1] w I L P) (fun v w1 I1 L1 P1 => go 142 53 [.ref a_l0, .int x_l1, l2, l3, l4, l5] (v.toList ++ []) w1 I1 L1 P1) := by
  refine (go_aload_n (m := 142) (pc := 48) (k := 0) (by decide +kernel) rfl).trans ?_
  refine (go_iload_n (m := 142) (pc := 49) (k := 1) (by decide +kernel) rfl).trans ?_
  exact go_sta (m := 142) (pc := 50) (o := 8) (x := 88) (y := 135) (kd := 4) (as := [.ref a_l0, .int x_l1]) (rs := []) (by decide +kernel) rfl rfl c_8_88 (Or.inr (Or.inr rfl)) rfl rfl rfl (by decide +kernel) (by simp only [List.length_cons, List.length_nil]; decide) (Nat.le_of_ble_eq_true rfl)
theorem Law_wins_53_0 (l1 : Value) (l2 : Value) (l3 : Value) (l4 : Value) (l5 : Value) (y0 : Int32) (w : Wd) (I : MI) (L : ML) (P : MP)  : go 142 53 [.null, l1, l2, l3, l4, l5] [.int y0] w I L P = kC (call 139 [.null] w I L P) (fun v w1 I1 L1 P1 => go 142 59 [.null, l1, l2, (fix1 l3), .int y0, l5] (v.toList ++ []) w1 I1 L1 P1) := by
  refine (go_istore (m := 142) (pc := 53) (k := 4) (ls' := [.null, l1, l2, (fix1 l3), .int y0, l5]) (by decide +kernel) (by simp only [List.length_cons, List.length_nil]; decide) rfl).trans ?_
  refine (go_aload_nN (m := 142) (pc := 55) (k := 0) (by decide +kernel) rfl).trans ?_
  exact go_sta (m := 142) (pc := 56) (o := 8) (x := 104) (y := 139) (kd := 2) (as := [.null]) (rs := []) (by decide +kernel) rfl rfl c_8_104 (Or.inl rfl) rfl rfl rfl (by decide +kernel) (by simp only [List.length_cons, List.length_nil]; decide) (Nat.le_of_ble_eq_true rfl)
theorem Law_wins_53_1 (a_l0 : Nat) (l1 : Value) (l2 : Value) (l3 : Value) (l4 : Value) (l5 : Value) (y0 : Int32) (w : Wd) (I : MI) (L : ML) (P : MP)  : go 142 53 [.ref a_l0, l1, l2, l3, l4, l5] [.int y0] w I L P = kC (call 139 [.ref a_l0] w I L P) (fun v w1 I1 L1 P1 => go 142 59 [.ref a_l0, l1, l2, (fix1 l3), .int y0, l5] (v.toList ++ []) w1 I1 L1 P1) := by
  refine (go_istore (m := 142) (pc := 53) (k := 4) (ls' := [.ref a_l0, l1, l2, (fix1 l3), .int y0, l5]) (by decide +kernel) (by simp only [List.length_cons, List.length_nil]; decide) rfl).trans ?_
  refine (go_aload_n (m := 142) (pc := 55) (k := 0) (by decide +kernel) rfl).trans ?_
  exact go_sta (m := 142) (pc := 56) (o := 8) (x := 104) (y := 139) (kd := 2) (as := [.ref a_l0]) (rs := []) (by decide +kernel) rfl rfl c_8_104 (Or.inl rfl) rfl rfl rfl (by decide +kernel) (by simp only [List.length_cons, List.length_nil]; decide) (Nat.le_of_ble_eq_true rfl)
theorem Law_wins_59 (l0 : Value) (l1 : Value) (l2 : Value) (l3 : Value) (l4 : Value) (l5 : Value) (y0 : Int32) (w : Wd) (I : MI) (L : ML) (P : MP)  : go 142 59 [l0, l1, l2, l3, l4, l5] [.int y0] w I L P = if y0 ≠ (nI 1) then go 142 77 [l0, l1, l2, l3, l4, l5] [] w I L P else go 142 63 [l0, l1, l2, l3, l4, l5] [] w I L P := by
  refine (go_ic (m := 142) (pc := 59) (n := 1) (by decide +kernel) ic_1).trans ?_
  exact go_icmpne (m := 142) (pc := 60) (off := 17) (t := 77) (by decide +kernel) (by decide)
theorem Law_wins_63_0 (x_l1 : Int32) (l2 : Value) (l3 : Value) (l4 : Value) (l5 : Value) (w : Wd) (I : MI) (L : ML) (P : MP)  : go 142 63 [.null, .int x_l1, l2, l3, l4, l5] [] w I L P = kC (call 129 [.null, .int x_l1, .int (nI 0)] w I L P) (fun v w1 I1 L1 P1 => go 142 69 [.null, .int x_l1, l2, l3, l4, l5] (v.toList ++ []) w1 I1 L1 P1) := by
  refine (go_aload_nN (m := 142) (pc := 63) (k := 0) (by decide +kernel) rfl).trans ?_
  refine (go_iload_n (m := 142) (pc := 64) (k := 1) (by decide +kernel) rfl).trans ?_
  refine (go_ic (m := 142) (pc := 65) (n := 0) (by decide +kernel) ic_0).trans ?_
  exact go_sta (m := 142) (pc := 66) (o := 8) (x := 85) (y := 129) (kd := 4) (as := [.null, .int x_l1, .int (nI 0)]) (rs := []) (by decide +kernel) rfl rfl c_8_85 (Or.inr (Or.inr rfl)) rfl rfl rfl (by decide +kernel) (by simp only [List.length_cons, List.length_nil]; decide) (Nat.le_of_ble_eq_true rfl)
theorem Law_wins_63_1 (a_l0 : Nat) (x_l1 : Int32) (l2 : Value) (l3 : Value) (l4 : Value) (l5 : Value) (w : Wd) (I : MI) (L : ML) (P : MP)  : go 142 63 [.ref a_l0, .int x_l1, l2, l3, l4, l5] [] w I L P = kC (call 129 [.ref a_l0, .int x_l1, .int (nI 0)] w I L P) (fun v w1 I1 L1 P1 => go 142 69 [.ref a_l0, .int x_l1, l2, l3, l4, l5] (v.toList ++ []) w1 I1 L1 P1) := by
  refine (go_aload_n (m := 142) (pc := 63) (k := 0) (by decide +kernel) rfl).trans ?_
  refine (go_iload_n (m := 142) (pc := 64) (k := 1) (by decide +kernel) rfl).trans ?_
  refine (go_ic (m := 142) (pc := 65) (n := 0) (by decide +kernel) ic_0).trans ?_
  exact go_sta (m := 142) (pc := 66) (o := 8) (x := 85) (y := 129) (kd := 4) (as := [.ref a_l0, .int x_l1, .int (nI 0)]) (rs := []) (by decide +kernel) rfl rfl c_8_85 (Or.inr (Or.inr rfl)) rfl rfl rfl (by decide +kernel) (by simp only [List.length_cons, List.length_nil]; decide) (Nat.le_of_ble_eq_true rfl)
theorem Law_wins_69 (l0 : Value) (l1 : Value) (l2 : Value) (l3 : Value) (l4 : Value) (l5 : Value) (y0 : Int32) (w : Wd) (I : MI) (L : ML) (P : MP)  : go 142 69 [l0, l1, l2, l3, l4, l5] [.int y0] w I L P = if y0 ≠ (nI 1) then go 142 77 [l0, l1, l2, l3, l4, l5] [] w I L P else go 142 73 [l0, l1, l2, l3, l4, l5] [] w I L P := by
  refine (go_ic (m := 142) (pc := 69) (n := 1) (by decide +kernel) ic_1).trans ?_
  exact go_icmpne (m := 142) (pc := 70) (off := 7) (t := 77) (by decide +kernel) (by decide)
theorem Law_wins_73 (l0 : Value) (l1 : Value) (l2 : Value) (l3 : Value) (l4 : Value) (l5 : Value) (w : Wd) (I : MI) (L : ML) (P : MP)  : go 142 73 [l0, l1, l2, l3, l4, l5] [] w I L P = go 142 78 [l0, l1, l2, l3, l4, l5] [.int (nI 1)] w I L P := by
  refine (go_ic (m := 142) (pc := 73) (n := 1) (by decide +kernel) ic_1).trans ?_
  refine (go_goto (m := 142) (pc := 74) (off := 4) (t := 78) (by decide +kernel) (by decide)).trans ?_
  rfl
theorem Law_wins_77 (l0 : Value) (l1 : Value) (l2 : Value) (l3 : Value) (l4 : Value) (l5 : Value) (w : Wd) (I : MI) (L : ML) (P : MP)  : go 142 77 [l0, l1, l2, l3, l4, l5] [] w I L P = go 142 78 [l0, l1, l2, l3, l4, l5] [.int (nI 0)] w I L P := by
  refine (go_ic (m := 142) (pc := 77) (n := 0) (by decide +kernel) ic_0).trans ?_
  rfl
theorem Law_wins_78 (l0 : Value) (l1 : Value) (l2 : Value) (x_l3 : Int32) (l4 : Value) (l5 : Value) (y0 : Int32) (w : Wd) (I : MI) (L : ML) (P : MP)  : go 142 78 [l0, l1, l2, .int x_l3, l4, l5] [.int y0] w I L P = if x_l3 = 0 then go 142 148 [l0, l1, l2, .int x_l3, (fix1 l4), .int y0] [] w I L P else go 142 84 [l0, l1, l2, .int x_l3, (fix1 l4), .int y0] [] w I L P := by
  refine (go_istore (m := 142) (pc := 78) (k := 5) (ls' := [l0, l1, l2, .int x_l3, (fix1 l4), .int y0]) (by decide +kernel) (by simp only [List.length_cons, List.length_nil]; decide) rfl).trans ?_
  refine (go_iload_n (m := 142) (pc := 80) (k := 3) (by decide +kernel) rfl).trans ?_
  exact go_ifeq (m := 142) (pc := 81) (off := 67) (t := 148) (by decide +kernel) (by decide)
theorem Law_wins_84_0 (l1 : Value) (l2 : Value) (l3 : Value) (l4 : Value) (l5 : Value) (w : Wd) (I : MI) (L : ML) (P : MP)  : go 142 84 [.null, l1, l2, l3, l4, l5] [] w I L P = kC (call 128 [.null, .int (nI 1)] w I L P) (fun v w1 I1 L1 P1 => go 142 89 [.null, l1, l2, l3, l4, l5] (v.toList ++ []) w1 I1 L1 P1) := by
  refine (go_aload_nN (m := 142) (pc := 84) (k := 0) (by decide +kernel) rfl).trans ?_
  refine (go_ic (m := 142) (pc := 85) (n := 1) (by decide +kernel) ic_1).trans ?_
  exact go_sta (m := 142) (pc := 86) (o := 8) (x := 113) (y := 128) (kd := 4) (as := [.null, .int (nI 1)]) (rs := []) (by decide +kernel) rfl rfl c_8_113 (Or.inr (Or.inr rfl)) rfl rfl rfl (by decide +kernel) (by simp only [List.length_cons, List.length_nil]; decide) (Nat.le_of_ble_eq_true rfl)
theorem Law_wins_84_1 (a_l0 : Nat) (l1 : Value) (l2 : Value) (l3 : Value) (l4 : Value) (l5 : Value) (w : Wd) (I : MI) (L : ML) (P : MP)  : go 142 84 [.ref a_l0, l1, l2, l3, l4, l5] [] w I L P = kC (call 128 [.ref a_l0, .int (nI 1)] w I L P) (fun v w1 I1 L1 P1 => go 142 89 [.ref a_l0, l1, l2, l3, l4, l5] (v.toList ++ []) w1 I1 L1 P1) := by
  refine (go_aload_n (m := 142) (pc := 84) (k := 0) (by decide +kernel) rfl).trans ?_
  refine (go_ic (m := 142) (pc := 85) (n := 1) (by decide +kernel) ic_1).trans ?_
  exact go_sta (m := 142) (pc := 86) (o := 8) (x := 113) (y := 128) (kd := 4) (as := [.ref a_l0, .int (nI 1)]) (rs := []) (by decide +kernel) rfl rfl c_8_113 (Or.inr (Or.inr rfl)) rfl rfl rfl (by decide +kernel) (by simp only [List.length_cons, List.length_nil]; decide) (Nat.le_of_ble_eq_true rfl)
theorem Law_wins_89 (l0 : Value) (l1 : Value) (l2 : Value) (l3 : Value) (l4 : Value) (l5 : Value) (y0 : Int32) (w : Wd) (I : MI) (L : ML) (P : MP)  : go 142 89 [l0, l1, l2, l3, l4, l5] [.int y0] w I L P = if y0 ≤ 0 then go 142 148 [l0, l1, l2, l3, l4, l5] [] w I L P else go 142 92 [l0, l1, l2, l3, l4, l5] [] w I L P := by
  exact go_ifle (m := 142) (pc := 89) (off := 59) (t := 148) (by decide +kernel) (by decide)
theorem Law_wins_92_0 (l1 : Value) (l2 : Value) (l3 : Value) (l4 : Value) (l5 : Value) (w : Wd) (I : MI) (L : ML) (P : MP)  : go 142 92 [.null, l1, l2, l3, l4, l5] [] w I L P = kC (call 134 [.null, .int (nI 0), .int (nI 2)] w I L P) (fun v w1 I1 L1 P1 => go 142 98 [.null, l1, l2, l3, l4, l5] (v.toList ++ []) w1 I1 L1 P1) := by
  refine (go_aload_nN (m := 142) (pc := 92) (k := 0) (by decide +kernel) rfl).trans ?_
  refine (go_ic (m := 142) (pc := 93) (n := 0) (by decide +kernel) ic_0).trans ?_
  refine (go_ic (m := 142) (pc := 94) (n := 2) (by decide +kernel) ic_2).trans ?_
  exact go_sta (m := 142) (pc := 95) (o := 8) (x := 97) (y := 134) (kd := 4) (as := [.null, .int (nI 0), .int (nI 2)]) (rs := []) (by decide +kernel) rfl rfl c_8_97 (Or.inr (Or.inr rfl)) rfl rfl rfl (by decide +kernel) (by simp only [List.length_cons, List.length_nil]; decide) (Nat.le_of_ble_eq_true rfl)
theorem Law_wins_92_1 (a_l0 : Nat) (l1 : Value) (l2 : Value) (l3 : Value) (l4 : Value) (l5 : Value) (w : Wd) (I : MI) (L : ML) (P : MP)  : go 142 92 [.ref a_l0, l1, l2, l3, l4, l5] [] w I L P = kC (call 134 [.ref a_l0, .int (nI 0), .int (nI 2)] w I L P) (fun v w1 I1 L1 P1 => go 142 98 [.ref a_l0, l1, l2, l3, l4, l5] (v.toList ++ []) w1 I1 L1 P1) := by
  refine (go_aload_n (m := 142) (pc := 92) (k := 0) (by decide +kernel) rfl).trans ?_
  refine (go_ic (m := 142) (pc := 93) (n := 0) (by decide +kernel) ic_0).trans ?_
  refine (go_ic (m := 142) (pc := 94) (n := 2) (by decide +kernel) ic_2).trans ?_
  exact go_sta (m := 142) (pc := 95) (o := 8) (x := 97) (y := 134) (kd := 4) (as := [.ref a_l0, .int (nI 0), .int (nI 2)]) (rs := []) (by decide +kernel) rfl rfl c_8_97 (Or.inr (Or.inr rfl)) rfl rfl rfl (by decide +kernel) (by simp only [List.length_cons, List.length_nil]; decide) (Nat.le_of_ble_eq_true rfl)
theorem Law_wins_98 (l0 : Value) (l1 : Value) (l2 : Value) (l3 : Value) (l4 : Value) (l5 : Value) (y0 : Int32) (w : Wd) (I : MI) (L : ML) (P : MP)  : go 142 98 [l0, l1, l2, l3, l4, l5] [.int y0] w I L P = if y0 ≠ (nI 1) then go 142 148 [l0, l1, l2, l3, l4, l5] [] w I L P else go 142 102 [l0, l1, l2, l3, l4, l5] [] w I L P := by
  refine (go_ic (m := 142) (pc := 98) (n := 1) (by decide +kernel) ic_1).trans ?_
  exact go_icmpne (m := 142) (pc := 99) (off := 49) (t := 148) (by decide +kernel) (by decide)
theorem Law_wins_102_0 (l1 : Value) (l2 : Value) (l3 : Value) (l4 : Value) (l5 : Value) (w : Wd) (I : MI) (L : ML) (P : MP)  : go 142 102 [.null, l1, l2, l3, l4, l5] [] w I L P = kC (call 128 [.null, .int (nI 8)] w I L P) (fun v w1 I1 L1 P1 => go 142 108 [.null, l1, l2, l3, l4, l5] (v.toList ++ []) w1 I1 L1 P1) := by
  refine (go_aload_nN (m := 142) (pc := 102) (k := 0) (by decide +kernel) rfl).trans ?_
  refine (go_bi (m := 142) (pc := 103) (n := 8) (by decide +kernel) bi_8).trans ?_
  exact go_sta (m := 142) (pc := 105) (o := 8) (x := 113) (y := 128) (kd := 4) (as := [.null, .int (nI 8)]) (rs := []) (by decide +kernel) rfl rfl c_8_113 (Or.inr (Or.inr rfl)) rfl rfl rfl (by decide +kernel) (by simp only [List.length_cons, List.length_nil]; decide) (Nat.le_of_ble_eq_true rfl)
theorem Law_wins_102_1 (a_l0 : Nat) (l1 : Value) (l2 : Value) (l3 : Value) (l4 : Value) (l5 : Value) (w : Wd) (I : MI) (L : ML) (P : MP)  : go 142 102 [.ref a_l0, l1, l2, l3, l4, l5] [] w I L P = kC (call 128 [.ref a_l0, .int (nI 8)] w I L P) (fun v w1 I1 L1 P1 => go 142 108 [.ref a_l0, l1, l2, l3, l4, l5] (v.toList ++ []) w1 I1 L1 P1) := by
  refine (go_aload_n (m := 142) (pc := 102) (k := 0) (by decide +kernel) rfl).trans ?_
  refine (go_bi (m := 142) (pc := 103) (n := 8) (by decide +kernel) bi_8).trans ?_
  exact go_sta (m := 142) (pc := 105) (o := 8) (x := 113) (y := 128) (kd := 4) (as := [.ref a_l0, .int (nI 8)]) (rs := []) (by decide +kernel) rfl rfl c_8_113 (Or.inr (Or.inr rfl)) rfl rfl rfl (by decide +kernel) (by simp only [List.length_cons, List.length_nil]; decide) (Nat.le_of_ble_eq_true rfl)
theorem Law_wins_108 (l0 : Value) (l1 : Value) (l2 : Value) (l3 : Value) (l4 : Value) (l5 : Value) (y0 : Int32) (w : Wd) (I : MI) (L : ML) (P : MP)  : go 142 108 [l0, l1, l2, l3, l4, l5] [.int y0] w I L P = if y0 ≤ 0 then go 142 148 [l0, l1, l2, l3, l4, l5] [] w I L P else go 142 111 [l0, l1, l2, l3, l4, l5] [] w I L P := by
  exact go_ifle (m := 142) (pc := 108) (off := 40) (t := 148) (by decide +kernel) (by decide)
theorem Law_wins_111_0 (l1 : Value) (l2 : Value) (l3 : Value) (l4 : Value) (l5 : Value) (w : Wd) (I : MI) (L : ML) (P : MP)  : go 142 111 [.null, l1, l2, l3, l4, l5] [] w I L P = kC (call 133 [.null, .int (nI 5)] w I L P) (fun v w1 I1 L1 P1 => go 142 116 [.null, l1, l2, l3, l4, l5] (v.toList ++ []) w1 I1 L1 P1) := by
  refine (go_aload_nN (m := 142) (pc := 111) (k := 0) (by decide +kernel) rfl).trans ?_
  refine (go_ic (m := 142) (pc := 112) (n := 5) (by decide +kernel) ic_5).trans ?_
  exact go_sta (m := 142) (pc := 113) (o := 8) (x := 80) (y := 133) (kd := 4) (as := [.null, .int (nI 5)]) (rs := []) (by decide +kernel) rfl rfl c_8_80 (Or.inr (Or.inr rfl)) rfl rfl rfl (by decide +kernel) (by simp only [List.length_cons, List.length_nil]; decide) (Nat.le_of_ble_eq_true rfl)
theorem Law_wins_111_1 (a_l0 : Nat) (l1 : Value) (l2 : Value) (l3 : Value) (l4 : Value) (l5 : Value) (w : Wd) (I : MI) (L : ML) (P : MP)  : go 142 111 [.ref a_l0, l1, l2, l3, l4, l5] [] w I L P = kC (call 133 [.ref a_l0, .int (nI 5)] w I L P) (fun v w1 I1 L1 P1 => go 142 116 [.ref a_l0, l1, l2, l3, l4, l5] (v.toList ++ []) w1 I1 L1 P1) := by
  refine (go_aload_n (m := 142) (pc := 111) (k := 0) (by decide +kernel) rfl).trans ?_
  refine (go_ic (m := 142) (pc := 112) (n := 5) (by decide +kernel) ic_5).trans ?_
  exact go_sta (m := 142) (pc := 113) (o := 8) (x := 80) (y := 133) (kd := 4) (as := [.ref a_l0, .int (nI 5)]) (rs := []) (by decide +kernel) rfl rfl c_8_80 (Or.inr (Or.inr rfl)) rfl rfl rfl (by decide +kernel) (by simp only [List.length_cons, List.length_nil]; decide) (Nat.le_of_ble_eq_true rfl)
theorem Law_wins_116 (l0 : Value) (l1 : Value) (x_l2 : Int32) (l3 : Value) (l4 : Value) (l5 : Value) (y0 : Int32) (w : Wd) (I : MI) (L : ML) (P : MP)  : go 142 116 [l0, l1, .int x_l2, l3, l4, l5] [.int y0] w I L P = if y0 ≠ x_l2 then go 142 148 [l0, l1, .int x_l2, l3, l4, l5] [] w I L P else go 142 120 [l0, l1, .int x_l2, l3, l4, l5] [] w I L P := by
  refine (go_iload_n (m := 142) (pc := 116) (k := 2) (by decide +kernel) rfl).trans ?_
  exact go_icmpne (m := 142) (pc := 117) (off := 31) (t := 148) (by decide +kernel) (by decide)
theorem Law_wins_120_0 (l1 : Value) (l2 : Value) (l3 : Value) (l4 : Value) (l5 : Value) (w : Wd) (I : MI) (L : ML) (P : MP)  : go 142 120 [.null, l1, l2, l3, l4, l5] [] w I L P = kC (call 134 [.null, .int (nI 0), .int (nI 2)] w I L P) (fun v w1 I1 L1 P1 => go 142 126 [.null, l1, l2, l3, l4, l5] (v.toList ++ []) w1 I1 L1 P1) := by
  refine (go_aload_nN (m := 142) (pc := 120) (k := 0) (by decide +kernel) rfl).trans ?_
  refine (go_ic (m := 142) (pc := 121) (n := 0) (by decide +kernel) ic_0).trans ?_
  refine (go_ic (m := 142) (pc := 122) (n := 2) (by decide +kernel) ic_2).trans ?_
  exact go_sta (m := 142) (pc := 123) (o := 8) (x := 97) (y := 134) (kd := 4) (as := [.null, .int (nI 0), .int (nI 2)]) (rs := []) (by decide +kernel) rfl rfl c_8_97 (Or.inr (Or.inr rfl)) rfl rfl rfl (by decide +kernel) (by simp only [List.length_cons, List.length_nil]; decide) (Nat.le_of_ble_eq_true rfl)
theorem Law_wins_120_1 (a_l0 : Nat) (l1 : Value) (l2 : Value) (l3 : Value) (l4 : Value) (l5 : Value) (w : Wd) (I : MI) (L : ML) (P : MP)  : go 142 120 [.ref a_l0, l1, l2, l3, l4, l5] [] w I L P = kC (call 134 [.ref a_l0, .int (nI 0), .int (nI 2)] w I L P) (fun v w1 I1 L1 P1 => go 142 126 [.ref a_l0, l1, l2, l3, l4, l5] (v.toList ++ []) w1 I1 L1 P1) := by
  refine (go_aload_n (m := 142) (pc := 120) (k := 0) (by decide +kernel) rfl).trans ?_
  refine (go_ic (m := 142) (pc := 121) (n := 0) (by decide +kernel) ic_0).trans ?_
  refine (go_ic (m := 142) (pc := 122) (n := 2) (by decide +kernel) ic_2).trans ?_
  exact go_sta (m := 142) (pc := 123) (o := 8) (x := 97) (y := 134) (kd := 4) (as := [.ref a_l0, .int (nI 0), .int (nI 2)]) (rs := []) (by decide +kernel) rfl rfl c_8_97 (Or.inr (Or.inr rfl)) rfl rfl rfl (by decide +kernel) (by simp only [List.length_cons, List.length_nil]; decide) (Nat.le_of_ble_eq_true rfl)
theorem Law_wins_126 (l0 : Value) (l1 : Value) (l2 : Value) (l3 : Value) (l4 : Value) (l5 : Value) (y0 : Int32) (w : Wd) (I : MI) (L : ML) (P : MP)  : go 142 126 [l0, l1, l2, l3, l4, l5] [.int y0] w I L P = if y0 ≠ (nI 2) then go 142 148 [l0, l1, l2, l3, l4, l5] [] w I L P else go 142 130 [l0, l1, l2, l3, l4, l5] [] w I L P := by
  refine (go_ic (m := 142) (pc := 126) (n := 2) (by decide +kernel) ic_2).trans ?_
  exact go_icmpne (m := 142) (pc := 127) (off := 21) (t := 148) (by decide +kernel) (by decide)
theorem Law_wins_130_0 (l1 : Value) (l2 : Value) (l3 : Value) (l4 : Value) (l5 : Value) (w : Wd) (I : MI) (L : ML) (P : MP)  : go 142 130 [.null, l1, l2, l3, l4, l5] [] w I L P = kC (call 138 [.null] w I L P) (fun v w1 I1 L1 P1 => go 142 134 [.null, l1, l2, l3, l4, l5] (v.toList ++ []) w1 I1 L1 P1) := by
  refine (go_aload_nN (m := 142) (pc := 130) (k := 0) (by decide +kernel) rfl).trans ?_
  exact go_sta (m := 142) (pc := 131) (o := 8) (x := 111) (y := 138) (kd := 4) (as := [.null]) (rs := []) (by decide +kernel) rfl rfl c_8_111 (Or.inr (Or.inr rfl)) rfl rfl rfl (by decide +kernel) (by simp only [List.length_cons, List.length_nil]; decide) (Nat.le_of_ble_eq_true rfl)
theorem Law_wins_130_1 (a_l0 : Nat) (l1 : Value) (l2 : Value) (l3 : Value) (l4 : Value) (l5 : Value) (w : Wd) (I : MI) (L : ML) (P : MP)  : go 142 130 [.ref a_l0, l1, l2, l3, l4, l5] [] w I L P = kC (call 138 [.ref a_l0] w I L P) (fun v w1 I1 L1 P1 => go 142 134 [.ref a_l0, l1, l2, l3, l4, l5] (v.toList ++ []) w1 I1 L1 P1) := by
  refine (go_aload_n (m := 142) (pc := 130) (k := 0) (by decide +kernel) rfl).trans ?_
  exact go_sta (m := 142) (pc := 131) (o := 8) (x := 111) (y := 138) (kd := 4) (as := [.ref a_l0]) (rs := []) (by decide +kernel) rfl rfl c_8_111 (Or.inr (Or.inr rfl)) rfl rfl rfl (by decide +kernel) (by simp only [List.length_cons, List.length_nil]; decide) (Nat.le_of_ble_eq_true rfl)
theorem Law_wins_134 (l0 : Value) (l1 : Value) (l2 : Value) (l3 : Value) (l4 : Value) (l5 : Value) (y0 : Int32) (w : Wd) (I : MI) (L : ML) (P : MP)  : go 142 134 [l0, l1, l2, l3, l4, l5] [.int y0] w I L P = if y0 < 0 then go 142 148 [l0, l1, l2, l3, l4, l5] [] w I L P else go 142 137 [l0, l1, l2, l3, l4, l5] [] w I L P := by
  exact go_iflt (m := 142) (pc := 134) (off := 14) (t := 148) (by decide +kernel) (by decide)
theorem Law_wins_137_0 (l1 : Value) (l2 : Value) (l3 : Value) (l4 : Value) (l5 : Value) (w : Wd) (I : MI) (L : ML) (P : MP)  : go 142 137 [.null, l1, l2, l3, l4, l5] [] w I L P = kC (call 138 [.null] w I L P) (fun v w1 I1 L1 P1 => go 142 141 [.null, l1, l2, l3, l4, l5] (v.toList ++ []) w1 I1 L1 P1) := by
  refine (go_aload_nN (m := 142) (pc := 137) (k := 0) (by decide +kernel) rfl).trans ?_
  exact go_sta (m := 142) (pc := 138) (o := 8) (x := 111) (y := 138) (kd := 4) (as := [.null]) (rs := []) (by decide +kernel) rfl rfl c_8_111 (Or.inr (Or.inr rfl)) rfl rfl rfl (by decide +kernel) (by simp only [List.length_cons, List.length_nil]; decide) (Nat.le_of_ble_eq_true rfl)
theorem Law_wins_137_1 (a_l0 : Nat) (l1 : Value) (l2 : Value) (l3 : Value) (l4 : Value) (l5 : Value) (w : Wd) (I : MI) (L : ML) (P : MP)  : go 142 137 [.ref a_l0, l1, l2, l3, l4, l5] [] w I L P = kC (call 138 [.ref a_l0] w I L P) (fun v w1 I1 L1 P1 => go 142 141 [.ref a_l0, l1, l2, l3, l4, l5] (v.toList ++ []) w1 I1 L1 P1) := by
  refine (go_aload_n (m := 142) (pc := 137) (k := 0) (by decide +kernel) rfl).trans ?_
  exact go_sta (m := 142) (pc := 138) (o := 8) (x := 111) (y := 138) (kd := 4) (as := [.ref a_l0]) (rs := []) (by decide +kernel) rfl rfl c_8_111 (Or.inr (Or.inr rfl)) rfl rfl rfl (by decide +kernel) (by simp only [List.length_cons, List.length_nil]; decide) (Nat.le_of_ble_eq_true rfl)
theorem Law_wins_141 (l0 : Value) (l1 : Value) (l2 : Value) (l3 : Value) (l4 : Value) (l5 : Value) (y0 : Int32) (w : Wd) (I : MI) (L : ML) (P : MP)  : go 142 141 [l0, l1, l2, l3, l4, l5] [.int y0] w I L P = if y0 < 0 then go 142 148 [l0, l1, l2, l3, l4, l5] [] w I L P else go 142 144 [l0, l1, l2, l3, l4, l5] [] w I L P := by
  exact go_iflt (m := 142) (pc := 141) (off := 7) (t := 148) (by decide +kernel) (by decide)
theorem Law_wins_144 (l0 : Value) (l1 : Value) (l2 : Value) (l3 : Value) (l4 : Value) (l5 : Value) (w : Wd) (I : MI) (L : ML) (P : MP)  : go 142 144 [l0, l1, l2, l3, l4, l5] [] w I L P = go 142 149 [l0, l1, l2, l3, l4, l5] [.int (nI 1)] w I L P := by
  refine (go_ic (m := 142) (pc := 144) (n := 1) (by decide +kernel) ic_1).trans ?_
  refine (go_goto (m := 142) (pc := 145) (off := 4) (t := 149) (by decide +kernel) (by decide)).trans ?_
  rfl
theorem Law_wins_148 (l0 : Value) (l1 : Value) (l2 : Value) (l3 : Value) (l4 : Value) (l5 : Value) (w : Wd) (I : MI) (L : ML) (P : MP)  : go 142 148 [l0, l1, l2, l3, l4, l5] [] w I L P = go 142 149 [l0, l1, l2, l3, l4, l5] [.int (nI 0)] w I L P := by
  refine (go_ic (m := 142) (pc := 148) (n := 0) (by decide +kernel) ic_0).trans ?_
  rfl
theorem Law_wins_149 (l0 : Value) (l1 : Value) (l2 : Value) (l3 : Value) (l4 : Value) (l5 : Value) (y0 : Int32) (w : Wd) (I : MI) (L : ML) (P : MP)  : go 142 149 [l0, l1, l2, l3, l4, l5] [.int y0] w I L P = if y0 = 0 then go 142 172 [l0, l1, (fix1 l2), .int y0, l4, l5] [] w I L P else go 142 154 [l0, l1, (fix1 l2), .int y0, l4, l5] [] w I L P := by
  refine (go_istore_n (m := 142) (pc := 149) (k := 3) (ls' := [l0, l1, (fix1 l2), .int y0, l4, l5]) (by decide +kernel) (by simp only [List.length_cons, List.length_nil]; decide) rfl).trans ?_
  refine (go_iload_n (m := 142) (pc := 150) (k := 3) (by decide +kernel) rfl).trans ?_
  exact go_ifeq (m := 142) (pc := 151) (off := 21) (t := 172) (by decide +kernel) (by decide)
theorem Law_wins_154 (l0 : Value) (l1 : Value) (l2 : Value) (l3 : Value) (l4 : Value) (x_l5 : Int32) (w : Wd) (I : MI) (L : ML) (P : MP)  : go 142 154 [l0, l1, l2, l3, l4, .int x_l5] [] w I L P = if x_l5 = 0 then go 142 168 [l0, l1, l2, l3, l4, .int x_l5] [] w I L P else go 142 159 [l0, l1, l2, l3, l4, .int x_l5] [] w I L P := by
  refine (go_iload (m := 142) (pc := 154) (k := 5) (by decide +kernel) rfl).trans ?_
  exact go_ifeq (m := 142) (pc := 156) (off := 12) (t := 168) (by decide +kernel) (by decide)
theorem Law_wins_159 (a_l0 : Nat) (l1 : Value) (l2 : Value) (l3 : Value) (l4 : Value) (l5 : Value) (w : Wd) (I : MI) (L : ML) (P : MP) (h0 : w.1 a_l0 = some (6, 0)) : go 142 159 [.ref a_l0, l1, l2, l3, l4, l5] [] w I L P = kC (call 96 [.ref a_l0] w I L P) (fun v w1 I1 L1 P1 => go 142 163 [.ref a_l0, l1, l2, l3, l4, l5] (v.toList ++ []) w1 I1 L1 P1) := by
  refine (go_aload_n (m := 142) (pc := 159) (k := 0) (by decide +kernel) rfl).trans ?_
  exact go_vir (m := 142) (pc := 160) (o := 8) (x := 99) (y := 96) (kd := 0) (b := a_l0) (bs := []) (rs := []) (by decide +kernel) rfl rfl c_8_99 (Or.inl rfl) rfl rfl rfl (by decide +kernel) (by simp only [List.length_cons, List.length_nil]; decide) (Nat.le_of_ble_eq_true rfl) h0
theorem Law_wins_163 (l0 : Value) (l1 : Value) (l2 : Value) (l3 : Value) (x_l4 : Int32) (l5 : Value) (y0 : Int32) (w : Wd) (I : MI) (L : ML) (P : MP)  : go 142 163 [l0, l1, l2, l3, .int x_l4, l5] [.int y0] w I L P = if y0 ≠ x_l4 then go 142 172 [l0, l1, l2, l3, .int x_l4, l5] [] w I L P else go 142 168 [l0, l1, l2, l3, .int x_l4, l5] [] w I L P := by
  refine (go_iload (m := 142) (pc := 163) (k := 4) (by decide +kernel) rfl).trans ?_
  exact go_icmpne (m := 142) (pc := 165) (off := 7) (t := 172) (by decide +kernel) (by decide)
theorem Law_wins_168 (l0 : Value) (l1 : Value) (l2 : Value) (l3 : Value) (l4 : Value) (l5 : Value) (w : Wd) (I : MI) (L : ML) (P : MP)  : go 142 168 [l0, l1, l2, l3, l4, l5] [] w I L P = go 142 173 [l0, l1, l2, l3, l4, l5] [.int (nI 1)] w I L P := by
  refine (go_ic (m := 142) (pc := 168) (n := 1) (by decide +kernel) ic_1).trans ?_
  refine (go_goto (m := 142) (pc := 169) (off := 4) (t := 173) (by decide +kernel) (by decide)).trans ?_
  rfl
theorem Law_wins_172 (l0 : Value) (l1 : Value) (l2 : Value) (l3 : Value) (l4 : Value) (l5 : Value) (w : Wd) (I : MI) (L : ML) (P : MP)  : go 142 172 [l0, l1, l2, l3, l4, l5] [] w I L P = go 142 173 [l0, l1, l2, l3, l4, l5] [.int (nI 0)] w I L P := by
  refine (go_ic (m := 142) (pc := 172) (n := 0) (by decide +kernel) ic_0).trans ?_
  rfl
theorem Law_wins_173 (l0 : Value) (l1 : Value) (l2 : Value) (l3 : Value) (l4 : Value) (l5 : Value) (y0 : Int32) (w : Wd) (I : MI) (L : ML) (P : MP)  : go 142 173 [l0, l1, l2, l3, l4, l5] [.int y0] w I L P = go 142 174 [l0, l1, (fix1 l2), .int y0, l4, l5] [] w I L P := by
  refine (go_istore_n (m := 142) (pc := 173) (k := 3) (ls' := [l0, l1, (fix1 l2), .int y0, l4, l5]) (by decide +kernel) (by simp only [List.length_cons, List.length_nil]; decide) rfl).trans ?_
  rfl
theorem Law_wins_174 (l0 : Value) (l1 : Value) (l2 : Value) (x_l3 : Int32) (l4 : Value) (l5 : Value) (w : Wd) (I : MI) (L : ML) (P : MP) (h0 : x_l3 &&& 1 = x_l3) : go 142 174 [l0, l1, l2, .int x_l3, l4, l5] [] w I L P = some (.inl (some (.int x_l3)), w, I, L, P) := by
  refine (go_iload_n (m := 142) (pc := 174) (k := 3) (by decide +kernel) rfl).trans ?_
  exact go_retZ (m := 142) (pc := 175) (by decide +kernel) rfl h0
theorem Law_wins_E (p0 : Nat) (p1 : Int32) (w : Wd) (I : MI) (L : ML) (P : MP) : call 142 [.ref p0, .int p1] w I L P = go 142 0 [.ref p0, .int p1, unk, unk, unk, unk] [] w I L P := rfl
theorem Law_wins_E1 (p1 : Int32) (w : Wd) (I : MI) (L : ML) (P : MP) : call 142 [.null, .int p1] w I L P = go 142 0 [.null, .int p1, unk, unk, unk, unk] [] w I L P := rfl
theorem Law_acts_0 (l0 : Value) (x_l1 : Int32) (l2 : Value) (l3 : Value) (l4 : Value) (w : Wd) (I : MI) (L : ML) (P : MP) (h0 : ¬ (nI 3) = 0) (h1 : ¬ (nI 4) = 0) : go 145 0 [l0, .int x_l1, l2, l3, l4] [] w I L P = go 145 19 [l0, .int x_l1, .int (x_l1 >>> ((nI 4) &&& 31)), .int ((x_l1 >>> ((nI 4) &&& 31)) - (x_l1 >>> ((nI 4) &&& 31)) / (nI 3) * (nI 3)), .int (((x_l1 >>> ((nI 4) &&& 31)) / (nI 4)) &&& (nI 3))] [.int (x_l1 &&& (nI 15))] w I L P := by
  refine (go_iload_n (m := 145) (pc := 0) (k := 1) (by decide +kernel) rfl).trans ?_
  refine (go_ic (m := 145) (pc := 1) (n := 4) (by decide +kernel) ic_4).trans ?_
  refine (go_ishr (m := 145) (pc := 2) (by decide +kernel)).trans ?_
  refine (go_istore_n (m := 145) (pc := 3) (k := 2) (ls' := [l0, .int x_l1, .int (x_l1 >>> ((nI 4) &&& 31)), l3, l4]) (by decide +kernel) (by simp only [List.length_cons, List.length_nil]; decide) rfl).trans ?_
  refine (go_iload_n (m := 145) (pc := 4) (k := 2) (by decide +kernel) rfl).trans ?_
  refine (go_ic (m := 145) (pc := 5) (n := 3) (by decide +kernel) ic_3).trans ?_
  refine (go_irem (m := 145) (pc := 6) (by decide +kernel) h0).trans ?_
  refine (go_istore_n (m := 145) (pc := 7) (k := 3) (ls' := [l0, .int x_l1, .int (x_l1 >>> ((nI 4) &&& 31)), .int ((x_l1 >>> ((nI 4) &&& 31)) - (x_l1 >>> ((nI 4) &&& 31)) / (nI 3) * (nI 3)), l4]) (by decide +kernel) (by simp only [List.length_cons, List.length_nil]; decide) rfl).trans ?_
  refine (go_iload_n (m := 145) (pc := 8) (k := 2) (by decide +kernel) rfl).trans ?_
  refine (go_ic (m := 145) (pc := 9) (n := 4) (by decide +kernel) ic_4).trans ?_
  refine (go_idiv (m := 145) (pc := 10) (by decide +kernel) h1).trans ?_
  refine (go_ic (m := 145) (pc := 11) (n := 3) (by decide +kernel) ic_3).trans ?_
  refine (go_iand (m := 145) (pc := 12) (by decide +kernel)).trans ?_
  refine (go_istore (m := 145) (pc := 13) (k := 4) (ls' := [l0, .int x_l1, .int (x_l1 >>> ((nI 4) &&& 31)), .int ((x_l1 >>> ((nI 4) &&& 31)) - (x_l1 >>> ((nI 4) &&& 31)) / (nI 3) * (nI 3)), .int (((x_l1 >>> ((nI 4) &&& 31)) / (nI 4)) &&& (nI 3))]) (by decide +kernel) (by simp only [List.length_cons, List.length_nil]; decide) rfl).trans ?_
  refine (go_iload_n (m := 145) (pc := 15) (k := 1) (by decide +kernel) rfl).trans ?_
  refine (go_bi (m := 145) (pc := 16) (n := 15) (by decide +kernel) bi_15).trans ?_
  refine (go_iand (m := 145) (pc := 18) (by decide +kernel)).trans ?_
  rfl
theorem Law_acts_19_k0 (l0 : Value) (l1 : Value) (l2 : Value) (l3 : Value) (l4 : Value) (w : Wd) (I : MI) (L : ML) (P : MP) : go 145 19 [l0, l1, l2, l3, l4] [.int (nI 0)] w I L P = go 145 92 [l0, l1, l2, l3, l4] [] w I L P := go_tsI (m := 145) (pc := 19) (z := 0) (off := 73) (t := 92) (dflt := 346) (lo := 0) (hi := 14) (offs := #[73, 73, 96, 96, 96, 131, 131, 157, 157, 177, 177, 198, 210, 232, 278]) (len := 73) (by decide +kernel) (by decide) (by decide) (by decide) (by decide) (by decide)
theorem Law_acts_19_k1 (l0 : Value) (l1 : Value) (l2 : Value) (l3 : Value) (l4 : Value) (w : Wd) (I : MI) (L : ML) (P : MP) : go 145 19 [l0, l1, l2, l3, l4] [.int (nI 1)] w I L P = go 145 92 [l0, l1, l2, l3, l4] [] w I L P := go_tsI (m := 145) (pc := 19) (z := 1) (off := 73) (t := 92) (dflt := 346) (lo := 0) (hi := 14) (offs := #[73, 73, 96, 96, 96, 131, 131, 157, 157, 177, 177, 198, 210, 232, 278]) (len := 73) (by decide +kernel) (by decide) (by decide) (by decide) (by decide) (by decide)
theorem Law_acts_19_k2 (l0 : Value) (l1 : Value) (l2 : Value) (l3 : Value) (l4 : Value) (w : Wd) (I : MI) (L : ML) (P : MP) : go 145 19 [l0, l1, l2, l3, l4] [.int (nI 2)] w I L P = go 145 115 [l0, l1, l2, l3, l4] [] w I L P := go_tsI (m := 145) (pc := 19) (z := 2) (off := 96) (t := 115) (dflt := 346) (lo := 0) (hi := 14) (offs := #[73, 73, 96, 96, 96, 131, 131, 157, 157, 177, 177, 198, 210, 232, 278]) (len := 73) (by decide +kernel) (by decide) (by decide) (by decide) (by decide) (by decide)
theorem Law_acts_19_k3 (l0 : Value) (l1 : Value) (l2 : Value) (l3 : Value) (l4 : Value) (w : Wd) (I : MI) (L : ML) (P : MP) : go 145 19 [l0, l1, l2, l3, l4] [.int (nI 3)] w I L P = go 145 115 [l0, l1, l2, l3, l4] [] w I L P := go_tsI (m := 145) (pc := 19) (z := 3) (off := 96) (t := 115) (dflt := 346) (lo := 0) (hi := 14) (offs := #[73, 73, 96, 96, 96, 131, 131, 157, 157, 177, 177, 198, 210, 232, 278]) (len := 73) (by decide +kernel) (by decide) (by decide) (by decide) (by decide) (by decide)
theorem Law_acts_19_k4 (l0 : Value) (l1 : Value) (l2 : Value) (l3 : Value) (l4 : Value) (w : Wd) (I : MI) (L : ML) (P : MP) : go 145 19 [l0, l1, l2, l3, l4] [.int (nI 4)] w I L P = go 145 115 [l0, l1, l2, l3, l4] [] w I L P := go_tsI (m := 145) (pc := 19) (z := 4) (off := 96) (t := 115) (dflt := 346) (lo := 0) (hi := 14) (offs := #[73, 73, 96, 96, 96, 131, 131, 157, 157, 177, 177, 198, 210, 232, 278]) (len := 73) (by decide +kernel) (by decide) (by decide) (by decide) (by decide) (by decide)
theorem Law_acts_19_k5 (l0 : Value) (l1 : Value) (l2 : Value) (l3 : Value) (l4 : Value) (w : Wd) (I : MI) (L : ML) (P : MP) : go 145 19 [l0, l1, l2, l3, l4] [.int (nI 5)] w I L P = go 145 150 [l0, l1, l2, l3, l4] [] w I L P := go_tsI (m := 145) (pc := 19) (z := 5) (off := 131) (t := 150) (dflt := 346) (lo := 0) (hi := 14) (offs := #[73, 73, 96, 96, 96, 131, 131, 157, 157, 177, 177, 198, 210, 232, 278]) (len := 73) (by decide +kernel) (by decide) (by decide) (by decide) (by decide) (by decide)
theorem Law_acts_19_k6 (l0 : Value) (l1 : Value) (l2 : Value) (l3 : Value) (l4 : Value) (w : Wd) (I : MI) (L : ML) (P : MP) : go 145 19 [l0, l1, l2, l3, l4] [.int (nI 6)] w I L P = go 145 150 [l0, l1, l2, l3, l4] [] w I L P := go_tsI (m := 145) (pc := 19) (z := 6) (off := 131) (t := 150) (dflt := 346) (lo := 0) (hi := 14) (offs := #[73, 73, 96, 96, 96, 131, 131, 157, 157, 177, 177, 198, 210, 232, 278]) (len := 73) (by decide +kernel) (by decide) (by decide) (by decide) (by decide) (by decide)
theorem Law_acts_19_k7 (l0 : Value) (l1 : Value) (l2 : Value) (l3 : Value) (l4 : Value) (w : Wd) (I : MI) (L : ML) (P : MP) : go 145 19 [l0, l1, l2, l3, l4] [.int (nI 7)] w I L P = go 145 176 [l0, l1, l2, l3, l4] [] w I L P := go_tsI (m := 145) (pc := 19) (z := 7) (off := 157) (t := 176) (dflt := 346) (lo := 0) (hi := 14) (offs := #[73, 73, 96, 96, 96, 131, 131, 157, 157, 177, 177, 198, 210, 232, 278]) (len := 73) (by decide +kernel) (by decide) (by decide) (by decide) (by decide) (by decide)
theorem Law_acts_19_k8 (l0 : Value) (l1 : Value) (l2 : Value) (l3 : Value) (l4 : Value) (w : Wd) (I : MI) (L : ML) (P : MP) : go 145 19 [l0, l1, l2, l3, l4] [.int (nI 8)] w I L P = go 145 176 [l0, l1, l2, l3, l4] [] w I L P := go_tsI (m := 145) (pc := 19) (z := 8) (off := 157) (t := 176) (dflt := 346) (lo := 0) (hi := 14) (offs := #[73, 73, 96, 96, 96, 131, 131, 157, 157, 177, 177, 198, 210, 232, 278]) (len := 73) (by decide +kernel) (by decide) (by decide) (by decide) (by decide) (by decide)
theorem Law_acts_19_k9 (l0 : Value) (l1 : Value) (l2 : Value) (l3 : Value) (l4 : Value) (w : Wd) (I : MI) (L : ML) (P : MP) : go 145 19 [l0, l1, l2, l3, l4] [.int (nI 9)] w I L P = go 145 196 [l0, l1, l2, l3, l4] [] w I L P := go_tsI (m := 145) (pc := 19) (z := 9) (off := 177) (t := 196) (dflt := 346) (lo := 0) (hi := 14) (offs := #[73, 73, 96, 96, 96, 131, 131, 157, 157, 177, 177, 198, 210, 232, 278]) (len := 73) (by decide +kernel) (by decide) (by decide) (by decide) (by decide) (by decide)
theorem Law_acts_19_k10 (l0 : Value) (l1 : Value) (l2 : Value) (l3 : Value) (l4 : Value) (w : Wd) (I : MI) (L : ML) (P : MP) : go 145 19 [l0, l1, l2, l3, l4] [.int (nI 10)] w I L P = go 145 196 [l0, l1, l2, l3, l4] [] w I L P := go_tsI (m := 145) (pc := 19) (z := 10) (off := 177) (t := 196) (dflt := 346) (lo := 0) (hi := 14) (offs := #[73, 73, 96, 96, 96, 131, 131, 157, 157, 177, 177, 198, 210, 232, 278]) (len := 73) (by decide +kernel) (by decide) (by decide) (by decide) (by decide) (by decide)
theorem Law_acts_19_k11 (l0 : Value) (l1 : Value) (l2 : Value) (l3 : Value) (l4 : Value) (w : Wd) (I : MI) (L : ML) (P : MP) : go 145 19 [l0, l1, l2, l3, l4] [.int (nI 11)] w I L P = go 145 217 [l0, l1, l2, l3, l4] [] w I L P := go_tsI (m := 145) (pc := 19) (z := 11) (off := 198) (t := 217) (dflt := 346) (lo := 0) (hi := 14) (offs := #[73, 73, 96, 96, 96, 131, 131, 157, 157, 177, 177, 198, 210, 232, 278]) (len := 73) (by decide +kernel) (by decide) (by decide) (by decide) (by decide) (by decide)
theorem Law_acts_19_k12 (l0 : Value) (l1 : Value) (l2 : Value) (l3 : Value) (l4 : Value) (w : Wd) (I : MI) (L : ML) (P : MP) : go 145 19 [l0, l1, l2, l3, l4] [.int (nI 12)] w I L P = go 145 229 [l0, l1, l2, l3, l4] [] w I L P := go_tsI (m := 145) (pc := 19) (z := 12) (off := 210) (t := 229) (dflt := 346) (lo := 0) (hi := 14) (offs := #[73, 73, 96, 96, 96, 131, 131, 157, 157, 177, 177, 198, 210, 232, 278]) (len := 73) (by decide +kernel) (by decide) (by decide) (by decide) (by decide) (by decide)
theorem Law_acts_19_k13 (l0 : Value) (l1 : Value) (l2 : Value) (l3 : Value) (l4 : Value) (w : Wd) (I : MI) (L : ML) (P : MP) : go 145 19 [l0, l1, l2, l3, l4] [.int (nI 13)] w I L P = go 145 251 [l0, l1, l2, l3, l4] [] w I L P := go_tsI (m := 145) (pc := 19) (z := 13) (off := 232) (t := 251) (dflt := 346) (lo := 0) (hi := 14) (offs := #[73, 73, 96, 96, 96, 131, 131, 157, 157, 177, 177, 198, 210, 232, 278]) (len := 73) (by decide +kernel) (by decide) (by decide) (by decide) (by decide) (by decide)
theorem Law_acts_19_k14 (l0 : Value) (l1 : Value) (l2 : Value) (l3 : Value) (l4 : Value) (w : Wd) (I : MI) (L : ML) (P : MP) : go 145 19 [l0, l1, l2, l3, l4] [.int (nI 14)] w I L P = go 145 297 [l0, l1, l2, l3, l4] [] w I L P := go_tsI (m := 145) (pc := 19) (z := 14) (off := 278) (t := 297) (dflt := 346) (lo := 0) (hi := 14) (offs := #[73, 73, 96, 96, 96, 131, 131, 157, 157, 177, 177, 198, 210, 232, 278]) (len := 73) (by decide +kernel) (by decide) (by decide) (by decide) (by decide) (by decide)
theorem Law_acts_19_kd (l0 : Value) (l1 : Value) (l2 : Value) (l3 : Value) (l4 : Value) (w : Wd) (I : MI) (L : ML) (P : MP) (y : Int32) (h0 : y.toInt < 0 ∨ 14 < y.toInt) : go 145 19 [l0, l1, l2, l3, l4] [.int y] w I L P = go 145 365 [l0, l1, l2, l3, l4] [] w I L P := go_tsO (m := 145) (pc := 19) (t := 365) (dflt := 346) (lo := 0) (hi := 14) (offs := #[73, 73, 96, 96, 96, 131, 131, 157, 157, 177, 177, 198, 210, 232, 278]) (len := 73) (by decide +kernel) h0 (by decide)
theorem Law_acts_92_0 (l1 : Value) (x_l2 : Int32) (l3 : Value) (x_l4 : Int32) (w : Wd) (I : MI) (L : ML) (P : MP) (h0 : ¬ (nI 16) = 0) (h1 : ¬ (nI 4) = 0) : go 145 92 [.null, l1, .int x_l2, l3, .int x_l4] [] w I L P = kC (call 121 [.null, .int x_l4, .int ((x_l2 / (nI 16)) - (x_l2 / (nI 16)) / (nI 4) * (nI 4))] w I L P) (fun v w1 I1 L1 P1 => go 145 104 [.null, l1, .int x_l2, l3, .int x_l4] (v.toList ++ []) w1 I1 L1 P1) := by
  refine (go_aload_nN (m := 145) (pc := 92) (k := 0) (by decide +kernel) rfl).trans ?_
  refine (go_iload (m := 145) (pc := 93) (k := 4) (by decide +kernel) rfl).trans ?_
  refine (go_iload_n (m := 145) (pc := 95) (k := 2) (by decide +kernel) rfl).trans ?_
  refine (go_bi (m := 145) (pc := 96) (n := 16) (by decide +kernel) bi_16).trans ?_
  refine (go_idiv (m := 145) (pc := 98) (by decide +kernel) h0).trans ?_
  refine (go_ic (m := 145) (pc := 99) (n := 4) (by decide +kernel) ic_4).trans ?_
  refine (go_irem (m := 145) (pc := 100) (by decide +kernel) h1).trans ?_
  exact go_sta (m := 145) (pc := 101) (o := 8) (x := 134) (y := 121) (kd := 4) (as := [.null, .int x_l4, .int ((x_l2 / (nI 16)) - (x_l2 / (nI 16)) / (nI 4) * (nI 4))]) (rs := []) (by decide +kernel) rfl rfl c_8_134 (Or.inr (Or.inr rfl)) rfl rfl rfl (by decide +kernel) (by simp only [List.length_cons, List.length_nil]; decide) (Nat.le_of_ble_eq_true rfl)
theorem Law_acts_92_1 (a_l0 : Nat) (l1 : Value) (x_l2 : Int32) (l3 : Value) (x_l4 : Int32) (w : Wd) (I : MI) (L : ML) (P : MP) (h0 : ¬ (nI 16) = 0) (h1 : ¬ (nI 4) = 0) : go 145 92 [.ref a_l0, l1, .int x_l2, l3, .int x_l4] [] w I L P = kC (call 121 [.ref a_l0, .int x_l4, .int ((x_l2 / (nI 16)) - (x_l2 / (nI 16)) / (nI 4) * (nI 4))] w I L P) (fun v w1 I1 L1 P1 => go 145 104 [.ref a_l0, l1, .int x_l2, l3, .int x_l4] (v.toList ++ []) w1 I1 L1 P1) := by
  refine (go_aload_n (m := 145) (pc := 92) (k := 0) (by decide +kernel) rfl).trans ?_
  refine (go_iload (m := 145) (pc := 93) (k := 4) (by decide +kernel) rfl).trans ?_
  refine (go_iload_n (m := 145) (pc := 95) (k := 2) (by decide +kernel) rfl).trans ?_
  refine (go_bi (m := 145) (pc := 96) (n := 16) (by decide +kernel) bi_16).trans ?_
  refine (go_idiv (m := 145) (pc := 98) (by decide +kernel) h0).trans ?_
  refine (go_ic (m := 145) (pc := 99) (n := 4) (by decide +kernel) ic_4).trans ?_
  refine (go_irem (m := 145) (pc := 100) (by decide +kernel) h1).trans ?_
  exact go_sta (m := 145) (pc := 101) (o := 8) (x := 134) (y := 121) (kd := 4) (as := [.ref a_l0, .int x_l4, .int ((x_l2 / (nI 16)) - (x_l2 / (nI 16)) / (nI 4) * (nI 4))]) (rs := []) (by decide +kernel) rfl rfl c_8_134 (Or.inr (Or.inr rfl)) rfl rfl rfl (by decide +kernel) (by simp only [List.length_cons, List.length_nil]; decide) (Nat.le_of_ble_eq_true rfl)
theorem Law_acts_104 (l0 : Value) (l1 : Value) (l2 : Value) (l3 : Value) (l4 : Value) (y0 : Int32) (w : Wd) (I : MI) (L : ML) (P : MP)  : go 145 104 [l0, l1, l2, l3, l4] [.int y0] w I L P = if y0 < (-12) then go 145 113 [l0, l1, l2, l3, l4] [] w I L P else go 145 109 [l0, l1, l2, l3, l4] [] w I L P := by
  refine (go_bi (m := 145) (pc := 104) (n := -12) (by decide +kernel) bi_m12).trans ?_
  exact go_icmplt (m := 145) (pc := 106) (off := 7) (t := 113) (by decide +kernel) (by decide)
theorem Law_acts_109 (l0 : Value) (l1 : Value) (l2 : Value) (l3 : Value) (l4 : Value) (w : Wd) (I : MI) (L : ML) (P : MP)  : go 145 109 [l0, l1, l2, l3, l4] [] w I L P = go 145 114 [l0, l1, l2, l3, l4] [.int (nI 1)] w I L P := by
  refine (go_ic (m := 145) (pc := 109) (n := 1) (by decide +kernel) ic_1).trans ?_
  refine (go_goto (m := 145) (pc := 110) (off := 4) (t := 114) (by decide +kernel) (by decide)).trans ?_
  rfl
theorem Law_acts_113 (l0 : Value) (l1 : Value) (l2 : Value) (l3 : Value) (l4 : Value) (w : Wd) (I : MI) (L : ML) (P : MP)  : go 145 113 [l0, l1, l2, l3, l4] [] w I L P = go 145 114 [l0, l1, l2, l3, l4] [.int (nI 0)] w I L P := by
  refine (go_ic (m := 145) (pc := 113) (n := 0) (by decide +kernel) ic_0).trans ?_
  rfl
theorem Law_acts_114 (l0 : Value) (l1 : Value) (l2 : Value) (l3 : Value) (l4 : Value) (y0 : Int32) (w : Wd) (I : MI) (L : ML) (P : MP) (h0 : y0 &&& 1 = y0) : go 145 114 [l0, l1, l2, l3, l4] [.int y0] w I L P = some (.inl (some (.int y0)), w, I, L, P) := by
  exact go_retZ (m := 145) (pc := 114) (by decide +kernel) rfl h0
theorem Law_acts_115_0 (l1 : Value) (x_l2 : Int32) (x_l3 : Int32) (x_l4 : Int32) (w : Wd) (I : MI) (L : ML) (P : MP) (h0 : ¬ (nI 16) = 0) (h1 : ¬ (nI 2) = 0) (h2 : ¬ (nI 64) = 0) : go 145 115 [.null, l1, .int x_l2, .int x_l3, .int x_l4] [] w I L P = kC (call 125 [.null, .int x_l3, .int x_l4, .int ((nI 1) + ((x_l2 / (nI 16)) - (x_l2 / (nI 16)) / (nI 2) * (nI 2))), .long (Int32.toInt64 ((x_l2 / (nI 64)) &&& (nI 255)))] w I L P) (fun v w1 I1 L1 P1 => go 145 139 [.null, l1, .int x_l2, .int x_l3, .int x_l4] (v.toList ++ []) w1 I1 L1 P1) := by
  refine (go_aload_nN (m := 145) (pc := 115) (k := 0) (by decide +kernel) rfl).trans ?_
  refine (go_iload_n (m := 145) (pc := 116) (k := 3) (by decide +kernel) rfl).trans ?_
  refine (go_iload (m := 145) (pc := 117) (k := 4) (by decide +kernel) rfl).trans ?_
  refine (go_ic (m := 145) (pc := 119) (n := 1) (by decide +kernel) ic_1).trans ?_
  refine (go_iload_n (m := 145) (pc := 120) (k := 2) (by decide +kernel) rfl).trans ?_
  refine (go_bi (m := 145) (pc := 121) (n := 16) (by decide +kernel) bi_16).trans ?_
  refine (go_idiv (m := 145) (pc := 123) (by decide +kernel) h0).trans ?_
  refine (go_ic (m := 145) (pc := 124) (n := 2) (by decide +kernel) ic_2).trans ?_
  refine (go_irem (m := 145) (pc := 125) (by decide +kernel) h1).trans ?_
  refine (go_iadd (m := 145) (pc := 126) (by decide +kernel)).trans ?_
  refine (go_iload_n (m := 145) (pc := 127) (k := 2) (by decide +kernel) rfl).trans ?_
  refine (go_bi (m := 145) (pc := 128) (n := 64) (by decide +kernel) bi_64).trans ?_
  refine (go_idiv (m := 145) (pc := 130) (by decide +kernel) h2).trans ?_
  refine (go_si (m := 145) (pc := 131) (n := 255) (by decide +kernel) si_255).trans ?_
  refine (go_iand (m := 145) (pc := 134) (by decide +kernel)).trans ?_
  refine (go_i2l (m := 145) (pc := 135) (by decide +kernel)).trans ?_
  exact go_sta (m := 145) (pc := 136) (o := 8) (x := 143) (y := 125) (kd := 4) (as := [.null, .int x_l3, .int x_l4, .int ((nI 1) + ((x_l2 / (nI 16)) - (x_l2 / (nI 16)) / (nI 2) * (nI 2))), .long (Int32.toInt64 ((x_l2 / (nI 64)) &&& (nI 255)))]) (rs := []) (by decide +kernel) rfl rfl c_8_143 (Or.inr (Or.inr rfl)) rfl rfl rfl (by decide +kernel) (by simp only [List.length_cons, List.length_nil]; decide) (Nat.le_of_ble_eq_true rfl)
theorem Law_acts_115_1 (a_l0 : Nat) (l1 : Value) (x_l2 : Int32) (x_l3 : Int32) (x_l4 : Int32) (w : Wd) (I : MI) (L : ML) (P : MP) (h0 : ¬ (nI 16) = 0) (h1 : ¬ (nI 2) = 0) (h2 : ¬ (nI 64) = 0) : go 145 115 [.ref a_l0, l1, .int x_l2, .int x_l3, .int x_l4] [] w I L P = kC (call 125 [.ref a_l0, .int x_l3, .int x_l4, .int ((nI 1) + ((x_l2 / (nI 16)) - (x_l2 / (nI 16)) / (nI 2) * (nI 2))), .long (Int32.toInt64 ((x_l2 / (nI 64)) &&& (nI 255)))] w I L P) (fun v w1 I1 L1 P1 => go 145 139 [.ref a_l0, l1, .int x_l2, .int x_l3, .int x_l4] (v.toList ++ []) w1 I1 L1 P1) := by
  refine (go_aload_n (m := 145) (pc := 115) (k := 0) (by decide +kernel) rfl).trans ?_
  refine (go_iload_n (m := 145) (pc := 116) (k := 3) (by decide +kernel) rfl).trans ?_
  refine (go_iload (m := 145) (pc := 117) (k := 4) (by decide +kernel) rfl).trans ?_
  refine (go_ic (m := 145) (pc := 119) (n := 1) (by decide +kernel) ic_1).trans ?_
  refine (go_iload_n (m := 145) (pc := 120) (k := 2) (by decide +kernel) rfl).trans ?_
  refine (go_bi (m := 145) (pc := 121) (n := 16) (by decide +kernel) bi_16).trans ?_
  refine (go_idiv (m := 145) (pc := 123) (by decide +kernel) h0).trans ?_
  refine (go_ic (m := 145) (pc := 124) (n := 2) (by decide +kernel) ic_2).trans ?_
  refine (go_irem (m := 145) (pc := 125) (by decide +kernel) h1).trans ?_
  refine (go_iadd (m := 145) (pc := 126) (by decide +kernel)).trans ?_
  refine (go_iload_n (m := 145) (pc := 127) (k := 2) (by decide +kernel) rfl).trans ?_
  refine (go_bi (m := 145) (pc := 128) (n := 64) (by decide +kernel) bi_64).trans ?_
  refine (go_idiv (m := 145) (pc := 130) (by decide +kernel) h2).trans ?_
  refine (go_si (m := 145) (pc := 131) (n := 255) (by decide +kernel) si_255).trans ?_
  refine (go_iand (m := 145) (pc := 134) (by decide +kernel)).trans ?_
  refine (go_i2l (m := 145) (pc := 135) (by decide +kernel)).trans ?_
  exact go_sta (m := 145) (pc := 136) (o := 8) (x := 143) (y := 125) (kd := 4) (as := [.ref a_l0, .int x_l3, .int x_l4, .int ((nI 1) + ((x_l2 / (nI 16)) - (x_l2 / (nI 16)) / (nI 2) * (nI 2))), .long (Int32.toInt64 ((x_l2 / (nI 64)) &&& (nI 255)))]) (rs := []) (by decide +kernel) rfl rfl c_8_143 (Or.inr (Or.inr rfl)) rfl rfl rfl (by decide +kernel) (by simp only [List.length_cons, List.length_nil]; decide) (Nat.le_of_ble_eq_true rfl)
theorem Law_acts_139 (l0 : Value) (l1 : Value) (l2 : Value) (l3 : Value) (l4 : Value) (y0 : Int32) (w : Wd) (I : MI) (L : ML) (P : MP)  : go 145 139 [l0, l1, l2, l3, l4] [.int y0] w I L P = if y0 < (-13) then go 145 148 [l0, l1, l2, l3, l4] [] w I L P else go 145 144 [l0, l1, l2, l3, l4] [] w I L P := by
  refine (go_bi (m := 145) (pc := 139) (n := -13) (by decide +kernel) bi_m13).trans ?_
  exact go_icmplt (m := 145) (pc := 141) (off := 7) (t := 148) (by decide +kernel) (by decide)
theorem Law_acts_144 (l0 : Value) (l1 : Value) (l2 : Value) (l3 : Value) (l4 : Value) (w : Wd) (I : MI) (L : ML) (P : MP)  : go 145 144 [l0, l1, l2, l3, l4] [] w I L P = go 145 149 [l0, l1, l2, l3, l4] [.int (nI 1)] w I L P := by
  refine (go_ic (m := 145) (pc := 144) (n := 1) (by decide +kernel) ic_1).trans ?_
  refine (go_goto (m := 145) (pc := 145) (off := 4) (t := 149) (by decide +kernel) (by decide)).trans ?_
  rfl
theorem Law_acts_148 (l0 : Value) (l1 : Value) (l2 : Value) (l3 : Value) (l4 : Value) (w : Wd) (I : MI) (L : ML) (P : MP)  : go 145 148 [l0, l1, l2, l3, l4] [] w I L P = go 145 149 [l0, l1, l2, l3, l4] [.int (nI 0)] w I L P := by
  refine (go_ic (m := 145) (pc := 148) (n := 0) (by decide +kernel) ic_0).trans ?_
  rfl
theorem Law_acts_149 (l0 : Value) (l1 : Value) (l2 : Value) (l3 : Value) (l4 : Value) (y0 : Int32) (w : Wd) (I : MI) (L : ML) (P : MP) (h0 : y0 &&& 1 = y0) : go 145 149 [l0, l1, l2, l3, l4] [.int y0] w I L P = some (.inl (some (.int y0)), w, I, L, P) := by
  exact go_retZ (m := 145) (pc := 149) (by decide +kernel) rfl h0
theorem Law_acts_150_0 (l1 : Value) (x_l2 : Int32) (x_l3 : Int32) (x_l4 : Int32) (w : Wd) (I : MI) (L : ML) (P : MP) (h0 : ¬ (nI 16) = 0) (h1 : ¬ (nI 3) = 0) : go 145 150 [.null, l1, .int x_l2, .int x_l3, .int x_l4] [] w I L P = kC (call 126 [.null, .int x_l3, .int x_l4, .int ((nI 1) + ((x_l2 / (nI 16)) - (x_l2 / (nI 16)) / (nI 3) * (nI 3)))] w I L P) (fun v w1 I1 L1 P1 => go 145 165 [.null, l1, .int x_l2, .int x_l3, .int x_l4] (v.toList ++ []) w1 I1 L1 P1) := by
  refine (go_aload_nN (m := 145) (pc := 150) (k := 0) (by decide +kernel) rfl).trans ?_
  refine (go_iload_n (m := 145) (pc := 151) (k := 3) (by decide +kernel) rfl).trans ?_
  refine (go_iload (m := 145) (pc := 152) (k := 4) (by decide +kernel) rfl).trans ?_
  refine (go_ic (m := 145) (pc := 154) (n := 1) (by decide +kernel) ic_1).trans ?_
  refine (go_iload_n (m := 145) (pc := 155) (k := 2) (by decide +kernel) rfl).trans ?_
  refine (go_bi (m := 145) (pc := 156) (n := 16) (by decide +kernel) bi_16).trans ?_
  refine (go_idiv (m := 145) (pc := 158) (by decide +kernel) h0).trans ?_
  refine (go_ic (m := 145) (pc := 159) (n := 3) (by decide +kernel) ic_3).trans ?_
  refine (go_irem (m := 145) (pc := 160) (by decide +kernel) h1).trans ?_
  refine (go_iadd (m := 145) (pc := 161) (by decide +kernel)).trans ?_
  exact go_sta (m := 145) (pc := 162) (o := 8) (x := 152) (y := 126) (kd := 4) (as := [.null, .int x_l3, .int x_l4, .int ((nI 1) + ((x_l2 / (nI 16)) - (x_l2 / (nI 16)) / (nI 3) * (nI 3)))]) (rs := []) (by decide +kernel) rfl rfl c_8_152 (Or.inr (Or.inr rfl)) rfl rfl rfl (by decide +kernel) (by simp only [List.length_cons, List.length_nil]; decide) (Nat.le_of_ble_eq_true rfl)
theorem Law_acts_150_1 (a_l0 : Nat) (l1 : Value) (x_l2 : Int32) (x_l3 : Int32) (x_l4 : Int32) (w : Wd) (I : MI) (L : ML) (P : MP) (h0 : ¬ (nI 16) = 0) (h1 : ¬ (nI 3) = 0) : go 145 150 [.ref a_l0, l1, .int x_l2, .int x_l3, .int x_l4] [] w I L P = kC (call 126 [.ref a_l0, .int x_l3, .int x_l4, .int ((nI 1) + ((x_l2 / (nI 16)) - (x_l2 / (nI 16)) / (nI 3) * (nI 3)))] w I L P) (fun v w1 I1 L1 P1 => go 145 165 [.ref a_l0, l1, .int x_l2, .int x_l3, .int x_l4] (v.toList ++ []) w1 I1 L1 P1) := by
  refine (go_aload_n (m := 145) (pc := 150) (k := 0) (by decide +kernel) rfl).trans ?_
  refine (go_iload_n (m := 145) (pc := 151) (k := 3) (by decide +kernel) rfl).trans ?_
  refine (go_iload (m := 145) (pc := 152) (k := 4) (by decide +kernel) rfl).trans ?_
  refine (go_ic (m := 145) (pc := 154) (n := 1) (by decide +kernel) ic_1).trans ?_
  refine (go_iload_n (m := 145) (pc := 155) (k := 2) (by decide +kernel) rfl).trans ?_
  refine (go_bi (m := 145) (pc := 156) (n := 16) (by decide +kernel) bi_16).trans ?_
  refine (go_idiv (m := 145) (pc := 158) (by decide +kernel) h0).trans ?_
  refine (go_ic (m := 145) (pc := 159) (n := 3) (by decide +kernel) ic_3).trans ?_
  refine (go_irem (m := 145) (pc := 160) (by decide +kernel) h1).trans ?_
  refine (go_iadd (m := 145) (pc := 161) (by decide +kernel)).trans ?_
  exact go_sta (m := 145) (pc := 162) (o := 8) (x := 152) (y := 126) (kd := 4) (as := [.ref a_l0, .int x_l3, .int x_l4, .int ((nI 1) + ((x_l2 / (nI 16)) - (x_l2 / (nI 16)) / (nI 3) * (nI 3)))]) (rs := []) (by decide +kernel) rfl rfl c_8_152 (Or.inr (Or.inr rfl)) rfl rfl rfl (by decide +kernel) (by simp only [List.length_cons, List.length_nil]; decide) (Nat.le_of_ble_eq_true rfl)
theorem Law_acts_165 (l0 : Value) (l1 : Value) (l2 : Value) (l3 : Value) (l4 : Value) (y0 : Int32) (w : Wd) (I : MI) (L : ML) (P : MP)  : go 145 165 [l0, l1, l2, l3, l4] [.int y0] w I L P = if y0 < (-13) then go 145 174 [l0, l1, l2, l3, l4] [] w I L P else go 145 170 [l0, l1, l2, l3, l4] [] w I L P := by
  refine (go_bi (m := 145) (pc := 165) (n := -13) (by decide +kernel) bi_m13).trans ?_
  exact go_icmplt (m := 145) (pc := 167) (off := 7) (t := 174) (by decide +kernel) (by decide)
theorem Law_acts_170 (l0 : Value) (l1 : Value) (l2 : Value) (l3 : Value) (l4 : Value) (w : Wd) (I : MI) (L : ML) (P : MP)  : go 145 170 [l0, l1, l2, l3, l4] [] w I L P = go 145 175 [l0, l1, l2, l3, l4] [.int (nI 1)] w I L P := by
  refine (go_ic (m := 145) (pc := 170) (n := 1) (by decide +kernel) ic_1).trans ?_
  refine (go_goto (m := 145) (pc := 171) (off := 4) (t := 175) (by decide +kernel) (by decide)).trans ?_
  rfl
theorem Law_acts_174 (l0 : Value) (l1 : Value) (l2 : Value) (l3 : Value) (l4 : Value) (w : Wd) (I : MI) (L : ML) (P : MP)  : go 145 174 [l0, l1, l2, l3, l4] [] w I L P = go 145 175 [l0, l1, l2, l3, l4] [.int (nI 0)] w I L P := by
  refine (go_ic (m := 145) (pc := 174) (n := 0) (by decide +kernel) ic_0).trans ?_
  rfl
theorem Law_acts_175 (l0 : Value) (l1 : Value) (l2 : Value) (l3 : Value) (l4 : Value) (y0 : Int32) (w : Wd) (I : MI) (L : ML) (P : MP) (h0 : y0 &&& 1 = y0) : go 145 175 [l0, l1, l2, l3, l4] [.int y0] w I L P = some (.inl (some (.int y0)), w, I, L, P) := by
  exact go_retZ (m := 145) (pc := 175) (by decide +kernel) rfl h0
theorem Law_acts_176_0 (l1 : Value) (x_l2 : Int32) (l3 : Value) (l4 : Value) (w : Wd) (I : MI) (L : ML) (P : MP) (h0 : ¬ (nI 40) = 0) : go 145 176 [.null, l1, .int x_l2, l3, l4] [] w I L P = kC (call 128 [.null, .int ((nI 1) + (x_l2 - x_l2 / (nI 40) * (nI 40)))] w I L P) (fun v w1 I1 L1 P1 => go 145 186 [.null, l1, .int x_l2, l3, l4] (v.toList ++ []) w1 I1 L1 P1) := by
  refine (go_aload_nN (m := 145) (pc := 176) (k := 0) (by decide +kernel) rfl).trans ?_
  refine (go_ic (m := 145) (pc := 177) (n := 1) (by decide +kernel) ic_1).trans ?_
  refine (go_iload_n (m := 145) (pc := 178) (k := 2) (by decide +kernel) rfl).trans ?_
  refine (go_bi (m := 145) (pc := 179) (n := 40) (by decide +kernel) bi_40).trans ?_
  refine (go_irem (m := 145) (pc := 181) (by decide +kernel) h0).trans ?_
  refine (go_iadd (m := 145) (pc := 182) (by decide +kernel)).trans ?_
  exact go_sta (m := 145) (pc := 183) (o := 8) (x := 113) (y := 128) (kd := 4) (as := [.null, .int ((nI 1) + (x_l2 - x_l2 / (nI 40) * (nI 40)))]) (rs := []) (by decide +kernel) rfl rfl c_8_113 (Or.inr (Or.inr rfl)) rfl rfl rfl (by decide +kernel) (by simp only [List.length_cons, List.length_nil]; decide) (Nat.le_of_ble_eq_true rfl)
theorem Law_acts_176_1 (a_l0 : Nat) (l1 : Value) (x_l2 : Int32) (l3 : Value) (l4 : Value) (w : Wd) (I : MI) (L : ML) (P : MP) (h0 : ¬ (nI 40) = 0) : go 145 176 [.ref a_l0, l1, .int x_l2, l3, l4] [] w I L P = kC (call 128 [.ref a_l0, .int ((nI 1) + (x_l2 - x_l2 / (nI 40) * (nI 40)))] w I L P) (fun v w1 I1 L1 P1 => go 145 186 [.ref a_l0, l1, .int x_l2, l3, l4] (v.toList ++ []) w1 I1 L1 P1) := by
  refine (go_aload_n (m := 145) (pc := 176) (k := 0) (by decide +kernel) rfl).trans ?_
  refine (go_ic (m := 145) (pc := 177) (n := 1) (by decide +kernel) ic_1).trans ?_
  refine (go_iload_n (m := 145) (pc := 178) (k := 2) (by decide +kernel) rfl).trans ?_
  refine (go_bi (m := 145) (pc := 179) (n := 40) (by decide +kernel) bi_40).trans ?_
  refine (go_irem (m := 145) (pc := 181) (by decide +kernel) h0).trans ?_
  refine (go_iadd (m := 145) (pc := 182) (by decide +kernel)).trans ?_
  exact go_sta (m := 145) (pc := 183) (o := 8) (x := 113) (y := 128) (kd := 4) (as := [.ref a_l0, .int ((nI 1) + (x_l2 - x_l2 / (nI 40) * (nI 40)))]) (rs := []) (by decide +kernel) rfl rfl c_8_113 (Or.inr (Or.inr rfl)) rfl rfl rfl (by decide +kernel) (by simp only [List.length_cons, List.length_nil]; decide) (Nat.le_of_ble_eq_true rfl)
theorem Law_acts_186 (l0 : Value) (l1 : Value) (l2 : Value) (l3 : Value) (l4 : Value) (y0 : Int32) (w : Wd) (I : MI) (L : ML) (P : MP)  : go 145 186 [l0, l1, l2, l3, l4] [.int y0] w I L P = if y0 < (nI 1) then go 145 194 [l0, l1, l2, l3, l4] [] w I L P else go 145 190 [l0, l1, l2, l3, l4] [] w I L P := by
  refine (go_ic (m := 145) (pc := 186) (n := 1) (by decide +kernel) ic_1).trans ?_
  exact go_icmplt (m := 145) (pc := 187) (off := 7) (t := 194) (by decide +kernel) (by decide)
theorem Law_acts_190 (l0 : Value) (l1 : Value) (l2 : Value) (l3 : Value) (l4 : Value) (w : Wd) (I : MI) (L : ML) (P : MP)  : go 145 190 [l0, l1, l2, l3, l4] [] w I L P = go 145 195 [l0, l1, l2, l3, l4] [.int (nI 1)] w I L P := by
  refine (go_ic (m := 145) (pc := 190) (n := 1) (by decide +kernel) ic_1).trans ?_
  refine (go_goto (m := 145) (pc := 191) (off := 4) (t := 195) (by decide +kernel) (by decide)).trans ?_
  rfl
theorem Law_acts_194 (l0 : Value) (l1 : Value) (l2 : Value) (l3 : Value) (l4 : Value) (w : Wd) (I : MI) (L : ML) (P : MP)  : go 145 194 [l0, l1, l2, l3, l4] [] w I L P = go 145 195 [l0, l1, l2, l3, l4] [.int (nI 0)] w I L P := by
  refine (go_ic (m := 145) (pc := 194) (n := 0) (by decide +kernel) ic_0).trans ?_
  rfl
theorem Law_acts_195 (l0 : Value) (l1 : Value) (l2 : Value) (l3 : Value) (l4 : Value) (y0 : Int32) (w : Wd) (I : MI) (L : ML) (P : MP) (h0 : y0 &&& 1 = y0) : go 145 195 [l0, l1, l2, l3, l4] [.int y0] w I L P = some (.inl (some (.int y0)), w, I, L, P) := by
  exact go_retZ (m := 145) (pc := 195) (by decide +kernel) rfl h0
theorem Law_acts_196_0 (l1 : Value) (l2 : Value) (x_l3 : Int32) (l4 : Value) (w : Wd) (I : MI) (L : ML) (P : MP)  : go 145 196 [.null, l1, l2, .int x_l3, l4] [] w I L P = kC (call 133 [.null, .int (nI 1)] w I L P) (fun v w1 I1 L1 P1 => go 145 203 [.null, l1, l2, .int x_l3, l4] (v.toList ++ [.int x_l3, .null]) w1 I1 L1 P1) := by
  refine (go_aload_nN (m := 145) (pc := 196) (k := 0) (by decide +kernel) rfl).trans ?_
  refine (go_iload_n (m := 145) (pc := 197) (k := 3) (by decide +kernel) rfl).trans ?_
  refine (go_aload_nN (m := 145) (pc := 198) (k := 0) (by decide +kernel) rfl).trans ?_
  refine (go_ic (m := 145) (pc := 199) (n := 1) (by decide +kernel) ic_1).trans ?_
  exact go_sta (m := 145) (pc := 200) (o := 8) (x := 80) (y := 133) (kd := 4) (as := [.null, .int (nI 1)]) (rs := [.int x_l3, .null]) (by decide +kernel) rfl rfl c_8_80 (Or.inr (Or.inr rfl)) rfl rfl rfl (by decide +kernel) (by simp only [List.length_cons, List.length_nil]; decide) (Nat.le_of_ble_eq_true rfl)
theorem Law_acts_196_1 (a_l0 : Nat) (l1 : Value) (l2 : Value) (x_l3 : Int32) (l4 : Value) (w : Wd) (I : MI) (L : ML) (P : MP)  : go 145 196 [.ref a_l0, l1, l2, .int x_l3, l4] [] w I L P = kC (call 133 [.ref a_l0, .int (nI 1)] w I L P) (fun v w1 I1 L1 P1 => go 145 203 [.ref a_l0, l1, l2, .int x_l3, l4] (v.toList ++ [.int x_l3, .ref a_l0]) w1 I1 L1 P1) := by
  refine (go_aload_n (m := 145) (pc := 196) (k := 0) (by decide +kernel) rfl).trans ?_
  refine (go_iload_n (m := 145) (pc := 197) (k := 3) (by decide +kernel) rfl).trans ?_
  refine (go_aload_n (m := 145) (pc := 198) (k := 0) (by decide +kernel) rfl).trans ?_
  refine (go_ic (m := 145) (pc := 199) (n := 1) (by decide +kernel) ic_1).trans ?_
  exact go_sta (m := 145) (pc := 200) (o := 8) (x := 80) (y := 133) (kd := 4) (as := [.ref a_l0, .int (nI 1)]) (rs := [.int x_l3, .ref a_l0]) (by decide +kernel) rfl rfl c_8_80 (Or.inr (Or.inr rfl)) rfl rfl rfl (by decide +kernel) (by simp only [List.length_cons, List.length_nil]; decide) (Nat.le_of_ble_eq_true rfl)
theorem Law_acts_203_0 (l0 : Value) (l1 : Value) (x_l2 : Int32) (l3 : Value) (l4 : Value) (y1 : Int32) (y2 : Int32) (w : Wd) (I : MI) (L : ML) (P : MP) (h0 : ¬ y2 = 0) (h1 : ¬ (nI 16) = 0) (h2 : ¬ (nI 30) = 0) : go 145 203 [l0, l1, .int x_l2, l3, l4] [.int y2, .int y1, .null] w I L P = kC (call 141 [.null, .int (y1 - y1 / y2 * y2), .int ((nI 1) + ((x_l2 / (nI 16)) - (x_l2 / (nI 16)) / (nI 30) * (nI 30)))] w I L P) (fun v w1 I1 L1 P1 => go 145 216 [l0, l1, .int x_l2, l3, l4] (v.toList ++ []) w1 I1 L1 P1) := by
  refine (go_irem (m := 145) (pc := 203) (by decide +kernel) h0).trans ?_
  refine (go_ic (m := 145) (pc := 204) (n := 1) (by decide +kernel) ic_1).trans ?_
  refine (go_iload_n (m := 145) (pc := 205) (k := 2) (by decide +kernel) rfl).trans ?_
  refine (go_bi (m := 145) (pc := 206) (n := 16) (by decide +kernel) bi_16).trans ?_
  refine (go_idiv (m := 145) (pc := 208) (by decide +kernel) h1).trans ?_
  refine (go_bi (m := 145) (pc := 209) (n := 30) (by decide +kernel) bi_30).trans ?_
  refine (go_irem (m := 145) (pc := 211) (by decide +kernel) h2).trans ?_
  refine (go_iadd (m := 145) (pc := 212) (by decide +kernel)).trans ?_
  exact go_sta (m := 145) (pc := 213) (o := 8) (x := 154) (y := 141) (kd := 2) (as := [.null, .int (y1 - y1 / y2 * y2), .int ((nI 1) + ((x_l2 / (nI 16)) - (x_l2 / (nI 16)) / (nI 30) * (nI 30)))]) (rs := []) (by decide +kernel) rfl rfl c_8_154 (Or.inl rfl) rfl rfl rfl (by decide +kernel) (by simp only [List.length_cons, List.length_nil]; decide) (Nat.le_of_ble_eq_true rfl)
theorem Law_acts_203_1 (l0 : Value) (l1 : Value) (x_l2 : Int32) (l3 : Value) (l4 : Value) (a_s0 : Nat) (y1 : Int32) (y2 : Int32) (w : Wd) (I : MI) (L : ML) (P : MP) (h0 : ¬ y2 = 0) (h1 : ¬ (nI 16) = 0) (h2 : ¬ (nI 30) = 0) : go 145 203 [l0, l1, .int x_l2, l3, l4] [.int y2, .int y1, .ref a_s0] w I L P = kC (call 141 [.ref a_s0, .int (y1 - y1 / y2 * y2), .int ((nI 1) + ((x_l2 / (nI 16)) - (x_l2 / (nI 16)) / (nI 30) * (nI 30)))] w I L P) (fun v w1 I1 L1 P1 => go 145 216 [l0, l1, .int x_l2, l3, l4] (v.toList ++ []) w1 I1 L1 P1) := by
  refine (go_irem (m := 145) (pc := 203) (by decide +kernel) h0).trans ?_
  refine (go_ic (m := 145) (pc := 204) (n := 1) (by decide +kernel) ic_1).trans ?_
  refine (go_iload_n (m := 145) (pc := 205) (k := 2) (by decide +kernel) rfl).trans ?_
  refine (go_bi (m := 145) (pc := 206) (n := 16) (by decide +kernel) bi_16).trans ?_
  refine (go_idiv (m := 145) (pc := 208) (by decide +kernel) h1).trans ?_
  refine (go_bi (m := 145) (pc := 209) (n := 30) (by decide +kernel) bi_30).trans ?_
  refine (go_irem (m := 145) (pc := 211) (by decide +kernel) h2).trans ?_
  refine (go_iadd (m := 145) (pc := 212) (by decide +kernel)).trans ?_
  exact go_sta (m := 145) (pc := 213) (o := 8) (x := 154) (y := 141) (kd := 2) (as := [.ref a_s0, .int (y1 - y1 / y2 * y2), .int ((nI 1) + ((x_l2 / (nI 16)) - (x_l2 / (nI 16)) / (nI 30) * (nI 30)))]) (rs := []) (by decide +kernel) rfl rfl c_8_154 (Or.inl rfl) rfl rfl rfl (by decide +kernel) (by simp only [List.length_cons, List.length_nil]; decide) (Nat.le_of_ble_eq_true rfl)
theorem Law_acts_216 (l0 : Value) (l1 : Value) (l2 : Value) (l3 : Value) (l4 : Value) (y0 : Int32) (w : Wd) (I : MI) (L : ML) (P : MP) (h0 : y0 &&& 1 = y0) : go 145 216 [l0, l1, l2, l3, l4] [.int y0] w I L P = some (.inl (some (.int y0)), w, I, L, P) := by
  exact go_retZ (m := 145) (pc := 216) (by decide +kernel) rfl h0
theorem Law_acts_217_0 (l1 : Value) (l2 : Value) (x_l3 : Int32) (l4 : Value) (w : Wd) (I : MI) (L : ML) (P : MP)  : go 145 217 [.null, l1, l2, .int x_l3, l4] [] w I L P = kC (call 133 [.null, .int (nI 1)] w I L P) (fun v w1 I1 L1 P1 => go 145 224 [.null, l1, l2, .int x_l3, l4] (v.toList ++ [.int x_l3, .null]) w1 I1 L1 P1) := by
  refine (go_aload_nN (m := 145) (pc := 217) (k := 0) (by decide +kernel) rfl).trans ?_
  refine (go_iload_n (m := 145) (pc := 218) (k := 3) (by decide +kernel) rfl).trans ?_
  refine (go_aload_nN (m := 145) (pc := 219) (k := 0) (by decide +kernel) rfl).trans ?_
  refine (go_ic (m := 145) (pc := 220) (n := 1) (by decide +kernel) ic_1).trans ?_
  exact go_sta (m := 145) (pc := 221) (o := 8) (x := 80) (y := 133) (kd := 4) (as := [.null, .int (nI 1)]) (rs := [.int x_l3, .null]) (by decide +kernel) rfl rfl c_8_80 (Or.inr (Or.inr rfl)) rfl rfl rfl (by decide +kernel) (by simp only [List.length_cons, List.length_nil]; decide) (Nat.le_of_ble_eq_true rfl)
theorem Law_acts_217_1 (a_l0 : Nat) (l1 : Value) (l2 : Value) (x_l3 : Int32) (l4 : Value) (w : Wd) (I : MI) (L : ML) (P : MP)  : go 145 217 [.ref a_l0, l1, l2, .int x_l3, l4] [] w I L P = kC (call 133 [.ref a_l0, .int (nI 1)] w I L P) (fun v w1 I1 L1 P1 => go 145 224 [.ref a_l0, l1, l2, .int x_l3, l4] (v.toList ++ [.int x_l3, .ref a_l0]) w1 I1 L1 P1) := by
  refine (go_aload_n (m := 145) (pc := 217) (k := 0) (by decide +kernel) rfl).trans ?_
  refine (go_iload_n (m := 145) (pc := 218) (k := 3) (by decide +kernel) rfl).trans ?_
  refine (go_aload_n (m := 145) (pc := 219) (k := 0) (by decide +kernel) rfl).trans ?_
  refine (go_ic (m := 145) (pc := 220) (n := 1) (by decide +kernel) ic_1).trans ?_
  exact go_sta (m := 145) (pc := 221) (o := 8) (x := 80) (y := 133) (kd := 4) (as := [.ref a_l0, .int (nI 1)]) (rs := [.int x_l3, .ref a_l0]) (by decide +kernel) rfl rfl c_8_80 (Or.inr (Or.inr rfl)) rfl rfl rfl (by decide +kernel) (by simp only [List.length_cons, List.length_nil]; decide) (Nat.le_of_ble_eq_true rfl)
theorem Law_acts_224_0 (l0 : Value) (l1 : Value) (l2 : Value) (l3 : Value) (l4 : Value) (y1 : Int32) (y2 : Int32) (w : Wd) (I : MI) (L : ML) (P : MP) (h0 : ¬ y2 = 0) : go 145 224 [l0, l1, l2, l3, l4] [.int y2, .int y1, .null] w I L P = kC (call 142 [.null, .int (y1 - y1 / y2 * y2)] w I L P) (fun v w1 I1 L1 P1 => go 145 228 [l0, l1, l2, l3, l4] (v.toList ++ []) w1 I1 L1 P1) := by
  refine (go_irem (m := 145) (pc := 224) (by decide +kernel) h0).trans ?_
  exact go_sta (m := 145) (pc := 225) (o := 8) (x := 158) (y := 142) (kd := 2) (as := [.null, .int (y1 - y1 / y2 * y2)]) (rs := []) (by decide +kernel) rfl rfl c_8_158 (Or.inl rfl) rfl rfl rfl (by decide +kernel) (by simp only [List.length_cons, List.length_nil]; decide) (Nat.le_of_ble_eq_true rfl)
theorem Law_acts_224_1 (l0 : Value) (l1 : Value) (l2 : Value) (l3 : Value) (l4 : Value) (a_s0 : Nat) (y1 : Int32) (y2 : Int32) (w : Wd) (I : MI) (L : ML) (P : MP) (h0 : ¬ y2 = 0) : go 145 224 [l0, l1, l2, l3, l4] [.int y2, .int y1, .ref a_s0] w I L P = kC (call 142 [.ref a_s0, .int (y1 - y1 / y2 * y2)] w I L P) (fun v w1 I1 L1 P1 => go 145 228 [l0, l1, l2, l3, l4] (v.toList ++ []) w1 I1 L1 P1) := by
  refine (go_irem (m := 145) (pc := 224) (by decide +kernel) h0).trans ?_
  exact go_sta (m := 145) (pc := 225) (o := 8) (x := 158) (y := 142) (kd := 2) (as := [.ref a_s0, .int (y1 - y1 / y2 * y2)]) (rs := []) (by decide +kernel) rfl rfl c_8_158 (Or.inl rfl) rfl rfl rfl (by decide +kernel) (by simp only [List.length_cons, List.length_nil]; decide) (Nat.le_of_ble_eq_true rfl)
theorem Law_acts_228 (l0 : Value) (l1 : Value) (l2 : Value) (l3 : Value) (l4 : Value) (y0 : Int32) (w : Wd) (I : MI) (L : ML) (P : MP) (h0 : y0 &&& 1 = y0) : go 145 228 [l0, l1, l2, l3, l4] [.int y0] w I L P = some (.inl (some (.int y0)), w, I, L, P) := by
  exact go_retZ (m := 145) (pc := 228) (by decide +kernel) rfl h0
theorem Law_acts_229_0 (l1 : Value) (x_l2 : Int32) (x_l3 : Int32) (l4 : Value) (w : Wd) (I : MI) (L : ML) (P : MP) (h0 : ¬ (nI 4) = 0) (h1 : ¬ (nI 128) = 0) (h2 : ¬ (nI 512) = 0) : go 145 229 [.null, l1, .int x_l2, .int x_l3, l4] [] w I L P = kC (call 143 [.null, .int x_l3, .int ((x_l2 / (nI 4)) - (x_l2 / (nI 4)) / (nI 128) * (nI 128)), .int ((x_l2 / (nI 512)) &&& (nI 255))] w I L P) (fun v w1 I1 L1 P1 => go 145 250 [.null, l1, .int x_l2, .int x_l3, l4] (v.toList ++ []) w1 I1 L1 P1) := by
  refine (go_aload_nN (m := 145) (pc := 229) (k := 0) (by decide +kernel) rfl).trans ?_
  refine (go_iload_n (m := 145) (pc := 230) (k := 3) (by decide +kernel) rfl).trans ?_
  refine (go_iload_n (m := 145) (pc := 231) (k := 2) (by decide +kernel) rfl).trans ?_
  refine (go_ic (m := 145) (pc := 232) (n := 4) (by decide +kernel) ic_4).trans ?_
  refine (go_idiv (m := 145) (pc := 233) (by decide +kernel) h0).trans ?_
  refine (go_si (m := 145) (pc := 234) (n := 128) (by decide +kernel) si_128).trans ?_
  refine (go_irem (m := 145) (pc := 237) (by decide +kernel) h1).trans ?_
  refine (go_iload_n (m := 145) (pc := 238) (k := 2) (by decide +kernel) rfl).trans ?_
  refine (go_si (m := 145) (pc := 239) (n := 512) (by decide +kernel) si_512).trans ?_
  refine (go_idiv (m := 145) (pc := 242) (by decide +kernel) h2).trans ?_
  refine (go_si (m := 145) (pc := 243) (n := 255) (by decide +kernel) si_255).trans ?_
  refine (go_iand (m := 145) (pc := 246) (by decide +kernel)).trans ?_
  exact go_sta (m := 145) (pc := 247) (o := 8) (x := 162) (y := 143) (kd := 2) (as := [.null, .int x_l3, .int ((x_l2 / (nI 4)) - (x_l2 / (nI 4)) / (nI 128) * (nI 128)), .int ((x_l2 / (nI 512)) &&& (nI 255))]) (rs := []) (by decide +kernel) rfl rfl c_8_162 (Or.inl rfl) rfl rfl rfl (by decide +kernel) (by simp only [List.length_cons, List.length_nil]; decide) (Nat.le_of_ble_eq_true rfl)
theorem Law_acts_229_1 (a_l0 : Nat) (l1 : Value) (x_l2 : Int32) (x_l3 : Int32) (l4 : Value) (w : Wd) (I : MI) (L : ML) (P : MP) (h0 : ¬ (nI 4) = 0) (h1 : ¬ (nI 128) = 0) (h2 : ¬ (nI 512) = 0) : go 145 229 [.ref a_l0, l1, .int x_l2, .int x_l3, l4] [] w I L P = kC (call 143 [.ref a_l0, .int x_l3, .int ((x_l2 / (nI 4)) - (x_l2 / (nI 4)) / (nI 128) * (nI 128)), .int ((x_l2 / (nI 512)) &&& (nI 255))] w I L P) (fun v w1 I1 L1 P1 => go 145 250 [.ref a_l0, l1, .int x_l2, .int x_l3, l4] (v.toList ++ []) w1 I1 L1 P1) := by
  refine (go_aload_n (m := 145) (pc := 229) (k := 0) (by decide +kernel) rfl).trans ?_
  refine (go_iload_n (m := 145) (pc := 230) (k := 3) (by decide +kernel) rfl).trans ?_
  refine (go_iload_n (m := 145) (pc := 231) (k := 2) (by decide +kernel) rfl).trans ?_
  refine (go_ic (m := 145) (pc := 232) (n := 4) (by decide +kernel) ic_4).trans ?_
  refine (go_idiv (m := 145) (pc := 233) (by decide +kernel) h0).trans ?_
  refine (go_si (m := 145) (pc := 234) (n := 128) (by decide +kernel) si_128).trans ?_
  refine (go_irem (m := 145) (pc := 237) (by decide +kernel) h1).trans ?_
  refine (go_iload_n (m := 145) (pc := 238) (k := 2) (by decide +kernel) rfl).trans ?_
  refine (go_si (m := 145) (pc := 239) (n := 512) (by decide +kernel) si_512).trans ?_
  refine (go_idiv (m := 145) (pc := 242) (by decide +kernel) h2).trans ?_
  refine (go_si (m := 145) (pc := 243) (n := 255) (by decide +kernel) si_255).trans ?_
  refine (go_iand (m := 145) (pc := 246) (by decide +kernel)).trans ?_
  exact go_sta (m := 145) (pc := 247) (o := 8) (x := 162) (y := 143) (kd := 2) (as := [.ref a_l0, .int x_l3, .int ((x_l2 / (nI 4)) - (x_l2 / (nI 4)) / (nI 128) * (nI 128)), .int ((x_l2 / (nI 512)) &&& (nI 255))]) (rs := []) (by decide +kernel) rfl rfl c_8_162 (Or.inl rfl) rfl rfl rfl (by decide +kernel) (by simp only [List.length_cons, List.length_nil]; decide) (Nat.le_of_ble_eq_true rfl)
theorem Law_acts_250 (l0 : Value) (l1 : Value) (l2 : Value) (l3 : Value) (l4 : Value) (y0 : Int32) (w : Wd) (I : MI) (L : ML) (P : MP) (h0 : y0 &&& 1 = y0) : go 145 250 [l0, l1, l2, l3, l4] [.int y0] w I L P = some (.inl (some (.int y0)), w, I, L, P) := by
  exact go_retZ (m := 145) (pc := 250) (by decide +kernel) rfl h0
theorem Law_acts_251 (l0 : Value) (l1 : Value) (x_l2 : Int32) (l3 : Value) (l4 : Value) (w : Wd) (I : MI) (L : ML) (P : MP)  : go 145 251 [l0, l1, .int x_l2, l3, l4] [] w I L P = if (x_l2 &&& (nI 7)) ≠ 0 then go 145 281 [l0, l1, .int x_l2, l3, l4] [] w I L P else go 145 258 [l0, l1, .int x_l2, l3, l4] [] w I L P := by
  refine (go_iload_n (m := 145) (pc := 251) (k := 2) (by decide +kernel) rfl).trans ?_
  refine (go_bi (m := 145) (pc := 252) (n := 7) (by decide +kernel) bi_7).trans ?_
  refine (go_iand (m := 145) (pc := 254) (by decide +kernel)).trans ?_
  exact go_ifne (m := 145) (pc := 255) (off := 26) (t := 281) (by decide +kernel) (by decide)
theorem Law_acts_258_0 (l1 : Value) (x_l2 : Int32) (l3 : Value) (l4 : Value) (w : Wd) (I : MI) (L : ML) (P : MP) (h0 : ¬ (nI 8) = 0) (h1 : ¬ (nI 3) = 0) : go 145 258 [.null, l1, .int x_l2, l3, l4] [] w I L P = kC (call 120 [.null, .int ((nI 1) + ((x_l2 / (nI 8)) - (x_l2 / (nI 8)) / (nI 3) * (nI 3)))] w I L P) (fun v w1 I1 L1 P1 => go 145 270 [.null, l1, .int x_l2, l3, l4] (v.toList ++ []) w1 I1 L1 P1) := by
  refine (go_aload_nN (m := 145) (pc := 258) (k := 0) (by decide +kernel) rfl).trans ?_
  refine (go_ic (m := 145) (pc := 259) (n := 1) (by decide +kernel) ic_1).trans ?_
  refine (go_iload_n (m := 145) (pc := 260) (k := 2) (by decide +kernel) rfl).trans ?_
  refine (go_bi (m := 145) (pc := 261) (n := 8) (by decide +kernel) bi_8).trans ?_
  refine (go_idiv (m := 145) (pc := 263) (by decide +kernel) h0).trans ?_
  refine (go_ic (m := 145) (pc := 264) (n := 3) (by decide +kernel) ic_3).trans ?_
  refine (go_irem (m := 145) (pc := 265) (by decide +kernel) h1).trans ?_
  refine (go_iadd (m := 145) (pc := 266) (by decide +kernel)).trans ?_
  exact go_sta (m := 145) (pc := 267) (o := 8) (x := 132) (y := 120) (kd := 4) (as := [.null, .int ((nI 1) + ((x_l2 / (nI 8)) - (x_l2 / (nI 8)) / (nI 3) * (nI 3)))]) (rs := []) (by decide +kernel) rfl rfl c_8_132 (Or.inr (Or.inr rfl)) rfl rfl rfl (by decide +kernel) (by simp only [List.length_cons, List.length_nil]; decide) (Nat.le_of_ble_eq_true rfl)
theorem Law_acts_258_1 (a_l0 : Nat) (l1 : Value) (x_l2 : Int32) (l3 : Value) (l4 : Value) (w : Wd) (I : MI) (L : ML) (P : MP) (h0 : ¬ (nI 8) = 0) (h1 : ¬ (nI 3) = 0) : go 145 258 [.ref a_l0, l1, .int x_l2, l3, l4] [] w I L P = kC (call 120 [.ref a_l0, .int ((nI 1) + ((x_l2 / (nI 8)) - (x_l2 / (nI 8)) / (nI 3) * (nI 3)))] w I L P) (fun v w1 I1 L1 P1 => go 145 270 [.ref a_l0, l1, .int x_l2, l3, l4] (v.toList ++ []) w1 I1 L1 P1) := by
  refine (go_aload_n (m := 145) (pc := 258) (k := 0) (by decide +kernel) rfl).trans ?_
  refine (go_ic (m := 145) (pc := 259) (n := 1) (by decide +kernel) ic_1).trans ?_
  refine (go_iload_n (m := 145) (pc := 260) (k := 2) (by decide +kernel) rfl).trans ?_
  refine (go_bi (m := 145) (pc := 261) (n := 8) (by decide +kernel) bi_8).trans ?_
  refine (go_idiv (m := 145) (pc := 263) (by decide +kernel) h0).trans ?_
  refine (go_ic (m := 145) (pc := 264) (n := 3) (by decide +kernel) ic_3).trans ?_
  refine (go_irem (m := 145) (pc := 265) (by decide +kernel) h1).trans ?_
  refine (go_iadd (m := 145) (pc := 266) (by decide +kernel)).trans ?_
  exact go_sta (m := 145) (pc := 267) (o := 8) (x := 132) (y := 120) (kd := 4) (as := [.ref a_l0, .int ((nI 1) + ((x_l2 / (nI 8)) - (x_l2 / (nI 8)) / (nI 3) * (nI 3)))]) (rs := []) (by decide +kernel) rfl rfl c_8_132 (Or.inr (Or.inr rfl)) rfl rfl rfl (by decide +kernel) (by simp only [List.length_cons, List.length_nil]; decide) (Nat.le_of_ble_eq_true rfl)
theorem Law_acts_270 (l0 : Value) (l1 : Value) (l2 : Value) (l3 : Value) (l4 : Value) (y0 : Int32) (w : Wd) (I : MI) (L : ML) (P : MP)  : go 145 270 [l0, l1, l2, l3, l4] [.int y0] w I L P = if y0 < 0 then go 145 277 [l0, l1, l2, l3, l4] [] w I L P else go 145 273 [l0, l1, l2, l3, l4] [] w I L P := by
  exact go_iflt (m := 145) (pc := 270) (off := 7) (t := 277) (by decide +kernel) (by decide)
theorem Law_acts_273 (l0 : Value) (l1 : Value) (l2 : Value) (l3 : Value) (l4 : Value) (w : Wd) (I : MI) (L : ML) (P : MP)  : go 145 273 [l0, l1, l2, l3, l4] [] w I L P = go 145 296 [l0, l1, l2, l3, l4] [.int (nI 1)] w I L P := by
  refine (go_ic (m := 145) (pc := 273) (n := 1) (by decide +kernel) ic_1).trans ?_
  refine (go_goto (m := 145) (pc := 274) (off := 22) (t := 296) (by decide +kernel) (by decide)).trans ?_
  rfl
theorem Law_acts_277 (l0 : Value) (l1 : Value) (l2 : Value) (l3 : Value) (l4 : Value) (w : Wd) (I : MI) (L : ML) (P : MP)  : go 145 277 [l0, l1, l2, l3, l4] [] w I L P = go 145 296 [l0, l1, l2, l3, l4] [.int (nI 0)] w I L P := by
  refine (go_ic (m := 145) (pc := 277) (n := 0) (by decide +kernel) ic_0).trans ?_
  refine (go_goto (m := 145) (pc := 278) (off := 18) (t := 296) (by decide +kernel) (by decide)).trans ?_
  rfl
theorem Law_acts_281_0 (l1 : Value) (l2 : Value) (x_l3 : Int32) (l4 : Value) (w : Wd) (I : MI) (L : ML) (P : MP)  : go 145 281 [.null, l1, l2, .int x_l3, l4] [] w I L P = kC (call 127 [.null, .int x_l3] w I L P) (fun v w1 I1 L1 P1 => go 145 286 [.null, l1, l2, .int x_l3, l4] (v.toList ++ []) w1 I1 L1 P1) := by
  refine (go_aload_nN (m := 145) (pc := 281) (k := 0) (by decide +kernel) rfl).trans ?_
  refine (go_iload_n (m := 145) (pc := 282) (k := 3) (by decide +kernel) rfl).trans ?_
  exact go_sta (m := 145) (pc := 283) (o := 8) (x := 126) (y := 127) (kd := 4) (as := [.null, .int x_l3]) (rs := []) (by decide +kernel) rfl rfl c_8_126 (Or.inr (Or.inr rfl)) rfl rfl rfl (by decide +kernel) (by simp only [List.length_cons, List.length_nil]; decide) (Nat.le_of_ble_eq_true rfl)
theorem Law_acts_281_1 (a_l0 : Nat) (l1 : Value) (l2 : Value) (x_l3 : Int32) (l4 : Value) (w : Wd) (I : MI) (L : ML) (P : MP)  : go 145 281 [.ref a_l0, l1, l2, .int x_l3, l4] [] w I L P = kC (call 127 [.ref a_l0, .int x_l3] w I L P) (fun v w1 I1 L1 P1 => go 145 286 [.ref a_l0, l1, l2, .int x_l3, l4] (v.toList ++ []) w1 I1 L1 P1) := by
  refine (go_aload_n (m := 145) (pc := 281) (k := 0) (by decide +kernel) rfl).trans ?_
  refine (go_iload_n (m := 145) (pc := 282) (k := 3) (by decide +kernel) rfl).trans ?_
  exact go_sta (m := 145) (pc := 283) (o := 8) (x := 126) (y := 127) (kd := 4) (as := [.ref a_l0, .int x_l3]) (rs := []) (by decide +kernel) rfl rfl c_8_126 (Or.inr (Or.inr rfl)) rfl rfl rfl (by decide +kernel) (by simp only [List.length_cons, List.length_nil]; decide) (Nat.le_of_ble_eq_true rfl)
theorem Law_acts_286 (l0 : Value) (l1 : Value) (l2 : Value) (l3 : Value) (l4 : Value) (y0 : Int32) (w : Wd) (I : MI) (L : ML) (P : MP)  : go 145 286 [l0, l1, l2, l3, l4] [.int y0] w I L P = if y0 < (-12) then go 145 295 [l0, l1, l2, l3, l4] [] w I L P else go 145 291 [l0, l1, l2, l3, l4] [] w I L P := by
  refine (go_bi (m := 145) (pc := 286) (n := -12) (by decide +kernel) bi_m12).trans ?_
  exact go_icmplt (m := 145) (pc := 288) (off := 7) (t := 295) (by decide +kernel) (by decide)
theorem Law_acts_291 (l0 : Value) (l1 : Value) (l2 : Value) (l3 : Value) (l4 : Value) (w : Wd) (I : MI) (L : ML) (P : MP)  : go 145 291 [l0, l1, l2, l3, l4] [] w I L P = go 145 296 [l0, l1, l2, l3, l4] [.int (nI 1)] w I L P := by
  refine (go_ic (m := 145) (pc := 291) (n := 1) (by decide +kernel) ic_1).trans ?_
  refine (go_goto (m := 145) (pc := 292) (off := 4) (t := 296) (by decide +kernel) (by decide)).trans ?_
  rfl
theorem Law_acts_295 (l0 : Value) (l1 : Value) (l2 : Value) (l3 : Value) (l4 : Value) (w : Wd) (I : MI) (L : ML) (P : MP)  : go 145 295 [l0, l1, l2, l3, l4] [] w I L P = go 145 296 [l0, l1, l2, l3, l4] [.int (nI 0)] w I L P := by
  refine (go_ic (m := 145) (pc := 295) (n := 0) (by decide +kernel) ic_0).trans ?_
  rfl
theorem Law_acts_296 (l0 : Value) (l1 : Value) (l2 : Value) (l3 : Value) (l4 : Value) (y0 : Int32) (w : Wd) (I : MI) (L : ML) (P : MP) (h0 : y0 &&& 1 = y0) : go 145 296 [l0, l1, l2, l3, l4] [.int y0] w I L P = some (.inl (some (.int y0)), w, I, L, P) := by
  exact go_retZ (m := 145) (pc := 296) (by decide +kernel) rfl h0
theorem Law_acts_297_0 (l1 : Value) (l2 : Value) (l3 : Value) (l4 : Value) (w : Wd) (I : MI) (L : ML) (P : MP)  : go 145 297 [.null, l1, l2, l3, l4] [] w I L P = kC (call 133 [.null, .int (nI 2)] w I L P) (fun v w1 I1 L1 P1 => go 145 302 [.null, l1, l2, l3, l4] (v.toList ++ []) w1 I1 L1 P1) := by
  refine (go_aload_nN (m := 145) (pc := 297) (k := 0) (by decide +kernel) rfl).trans ?_
  refine (go_ic (m := 145) (pc := 298) (n := 2) (by decide +kernel) ic_2).trans ?_
  exact go_sta (m := 145) (pc := 299) (o := 8) (x := 80) (y := 133) (kd := 4) (as := [.null, .int (nI 2)]) (rs := []) (by decide +kernel) rfl rfl c_8_80 (Or.inr (Or.inr rfl)) rfl rfl rfl (by decide +kernel) (by simp only [List.length_cons, List.length_nil]; decide) (Nat.le_of_ble_eq_true rfl)
theorem Law_acts_297_1 (a_l0 : Nat) (l1 : Value) (l2 : Value) (l3 : Value) (l4 : Value) (w : Wd) (I : MI) (L : ML) (P : MP)  : go 145 297 [.ref a_l0, l1, l2, l3, l4] [] w I L P = kC (call 133 [.ref a_l0, .int (nI 2)] w I L P) (fun v w1 I1 L1 P1 => go 145 302 [.ref a_l0, l1, l2, l3, l4] (v.toList ++ []) w1 I1 L1 P1) := by
  refine (go_aload_n (m := 145) (pc := 297) (k := 0) (by decide +kernel) rfl).trans ?_
  refine (go_ic (m := 145) (pc := 298) (n := 2) (by decide +kernel) ic_2).trans ?_
  exact go_sta (m := 145) (pc := 299) (o := 8) (x := 80) (y := 133) (kd := 4) (as := [.ref a_l0, .int (nI 2)]) (rs := []) (by decide +kernel) rfl rfl c_8_80 (Or.inr (Or.inr rfl)) rfl rfl rfl (by decide +kernel) (by simp only [List.length_cons, List.length_nil]; decide) (Nat.le_of_ble_eq_true rfl)
theorem Law_acts_302 (l0 : Value) (l1 : Value) (l2 : Value) (l3 : Value) (l4 : Value) (y0 : Int32) (w : Wd) (I : MI) (L : ML) (P : MP)  : go 145 302 [l0, l1, l2, l3, l4] [.int y0] w I L P = if y0 = 0 then go 145 359 [l0, l1, l2, l3, l4] [] w I L P else go 145 305 [l0, l1, l2, l3, l4] [] w I L P := by
  exact go_ifeq (m := 145) (pc := 302) (off := 57) (t := 359) (by decide +kernel) (by decide)
theorem Law_acts_305_0 (l1 : Value) (x_l2 : Int32) (l3 : Value) (l4 : Value) (w : Wd) (I : MI) (L : ML) (P : MP)  : go 145 305 [.null, l1, .int x_l2, l3, l4] [] w I L P = kC (call 133 [.null, .int (nI 2)] w I L P) (fun v w1 I1 L1 P1 => go 145 312 [.null, l1, .int x_l2, l3, l4] (v.toList ++ [.int x_l2, .null]) w1 I1 L1 P1) := by
  refine (go_aload_nN (m := 145) (pc := 305) (k := 0) (by decide +kernel) rfl).trans ?_
  refine (go_iload_n (m := 145) (pc := 306) (k := 2) (by decide +kernel) rfl).trans ?_
  refine (go_aload_nN (m := 145) (pc := 307) (k := 0) (by decide +kernel) rfl).trans ?_
  refine (go_ic (m := 145) (pc := 308) (n := 2) (by decide +kernel) ic_2).trans ?_
  exact go_sta (m := 145) (pc := 309) (o := 8) (x := 80) (y := 133) (kd := 4) (as := [.null, .int (nI 2)]) (rs := [.int x_l2, .null]) (by decide +kernel) rfl rfl c_8_80 (Or.inr (Or.inr rfl)) rfl rfl rfl (by decide +kernel) (by simp only [List.length_cons, List.length_nil]; decide) (Nat.le_of_ble_eq_true rfl)
theorem Law_acts_305_1 (a_l0 : Nat) (l1 : Value) (x_l2 : Int32) (l3 : Value) (l4 : Value) (w : Wd) (I : MI) (L : ML) (P : MP)  : go 145 305 [.ref a_l0, l1, .int x_l2, l3, l4] [] w I L P = kC (call 133 [.ref a_l0, .int (nI 2)] w I L P) (fun v w1 I1 L1 P1 => go 145 312 [.ref a_l0, l1, .int x_l2, l3, l4] (v.toList ++ [.int x_l2, .ref a_l0]) w1 I1 L1 P1) := by
  refine (go_aload_n (m := 145) (pc := 305) (k := 0) (by decide +kernel) rfl).trans ?_
  refine (go_iload_n (m := 145) (pc := 306) (k := 2) (by decide +kernel) rfl).trans ?_
  refine (go_aload_n (m := 145) (pc := 307) (k := 0) (by decide +kernel) rfl).trans ?_
  refine (go_ic (m := 145) (pc := 308) (n := 2) (by decide +kernel) ic_2).trans ?_
  exact go_sta (m := 145) (pc := 309) (o := 8) (x := 80) (y := 133) (kd := 4) (as := [.ref a_l0, .int (nI 2)]) (rs := [.int x_l2, .ref a_l0]) (by decide +kernel) rfl rfl c_8_80 (Or.inr (Or.inr rfl)) rfl rfl rfl (by decide +kernel) (by simp only [List.length_cons, List.length_nil]; decide) (Nat.le_of_ble_eq_true rfl)
theorem Law_acts_312 (l0 : Value) (l1 : Value) (x_l2 : Int32) (l3 : Value) (l4 : Value) (v0 : Value) (y1 : Int32) (y2 : Int32) (w : Wd) (I : MI) (L : ML) (P : MP) (h0 : ¬ y2 = 0) (h1 : ¬ (nI 16) = 0) : go 145 312 [l0, l1, .int x_l2, l3, l4] [.int y2, .int y1, v0] w I L P = if ((x_l2 / (nI 16)) &&& (nI 1)) ≠ (nI 1) then go 145 327 [l0, l1, .int x_l2, l3, l4] [.int (y1 - y1 / y2 * y2), v0] w I L P else go 145 323 [l0, l1, .int x_l2, l3, l4] [.int (y1 - y1 / y2 * y2), v0] w I L P := by
  refine (go_irem (m := 145) (pc := 312) (by decide +kernel) h0).trans ?_
  refine (go_iload_n (m := 145) (pc := 313) (k := 2) (by decide +kernel) rfl).trans ?_
  refine (go_bi (m := 145) (pc := 314) (n := 16) (by decide +kernel) bi_16).trans ?_
  refine (go_idiv (m := 145) (pc := 316) (by decide +kernel) h1).trans ?_
  refine (go_ic (m := 145) (pc := 317) (n := 1) (by decide +kernel) ic_1).trans ?_
  refine (go_iand (m := 145) (pc := 318) (by decide +kernel)).trans ?_
  refine (go_ic (m := 145) (pc := 319) (n := 1) (by decide +kernel) ic_1).trans ?_
  exact go_icmpne (m := 145) (pc := 320) (off := 7) (t := 327) (by decide +kernel) (by decide)
theorem Law_acts_323 (l0 : Value) (l1 : Value) (l2 : Value) (l3 : Value) (l4 : Value) (v0 : Value) (y1 : Int32) (w : Wd) (I : MI) (L : ML) (P : MP)  : go 145 323 [l0, l1, l2, l3, l4] [.int y1, v0] w I L P = go 145 328 [l0, l1, l2, l3, l4] [.int (nI 1), .int y1, v0] w I L P := by
  refine (go_ic (m := 145) (pc := 323) (n := 1) (by decide +kernel) ic_1).trans ?_
  refine (go_goto (m := 145) (pc := 324) (off := 4) (t := 328) (by decide +kernel) (by decide)).trans ?_
  rfl
theorem Law_acts_327 (l0 : Value) (l1 : Value) (l2 : Value) (l3 : Value) (l4 : Value) (v0 : Value) (y1 : Int32) (w : Wd) (I : MI) (L : ML) (P : MP)  : go 145 327 [l0, l1, l2, l3, l4] [.int y1, v0] w I L P = go 145 328 [l0, l1, l2, l3, l4] [.int (nI 0), .int y1, v0] w I L P := by
  refine (go_ic (m := 145) (pc := 327) (n := 0) (by decide +kernel) ic_0).trans ?_
  rfl
theorem Law_acts_328_0 (l0 : Value) (l1 : Value) (l2 : Value) (l3 : Value) (l4 : Value) (y1 : Int32) (y2 : Int32) (w : Wd) (I : MI) (L : ML) (P : MP)  : go 145 328 [l0, l1, l2, l3, l4] [.int y2, .int y1, .null] w I L P = kC (call 122 [.null, .int y1, .int y2] w I L P) (fun v w1 I1 L1 P1 => go 145 331 [l0, l1, l2, l3, l4] (v.toList ++ []) w1 I1 L1 P1) := by
  exact go_sta (m := 145) (pc := 328) (o := 8) (x := 136) (y := 122) (kd := 4) (as := [.null, .int y1, .int y2]) (rs := []) (by decide +kernel) rfl rfl c_8_136 (Or.inr (Or.inr rfl)) rfl rfl rfl (by decide +kernel) (by simp only [List.length_cons, List.length_nil]; decide) (Nat.le_of_ble_eq_true rfl)
theorem Law_acts_328_1 (l0 : Value) (l1 : Value) (l2 : Value) (l3 : Value) (l4 : Value) (a_s0 : Nat) (y1 : Int32) (y2 : Int32) (w : Wd) (I : MI) (L : ML) (P : MP)  : go 145 328 [l0, l1, l2, l3, l4] [.int y2, .int y1, .ref a_s0] w I L P = kC (call 122 [.ref a_s0, .int y1, .int y2] w I L P) (fun v w1 I1 L1 P1 => go 145 331 [l0, l1, l2, l3, l4] (v.toList ++ []) w1 I1 L1 P1) := by
  exact go_sta (m := 145) (pc := 328) (o := 8) (x := 136) (y := 122) (kd := 4) (as := [.ref a_s0, .int y1, .int y2]) (rs := []) (by decide +kernel) rfl rfl c_8_136 (Or.inr (Or.inr rfl)) rfl rfl rfl (by decide +kernel) (by simp only [List.length_cons, List.length_nil]; decide) (Nat.le_of_ble_eq_true rfl)
theorem Law_acts_331 (l0 : Value) (l1 : Value) (l2 : Value) (l3 : Value) (l4 : Value) (y0 : Int32) (w : Wd) (I : MI) (L : ML) (P : MP)  : go 145 331 [l0, l1, l2, l3, l4] [.int y0] w I L P = if y0 < (-12) then go 145 363 [l0, l1, l2, l3, l4] [] w I L P else go 145 336 [l0, l1, l2, l3, l4] [] w I L P := by
  refine (go_bi (m := 145) (pc := 331) (n := -12) (by decide +kernel) bi_m12).trans ?_
  exact go_icmplt (m := 145) (pc := 333) (off := 30) (t := 363) (by decide +kernel) (by decide)
theorem Law_acts_336 (l0 : Value) (l1 : Value) (x_l2 : Int32) (l3 : Value) (l4 : Value) (w : Wd) (I : MI) (L : ML) (P : MP) (h0 : ¬ (nI 32) = 0) : go 145 336 [l0, l1, .int x_l2, l3, l4] [] w I L P = if 0 < ((x_l2 / (nI 32)) &&& (nI 3)) then go 145 359 [l0, l1, .int x_l2, l3, l4] [] w I L P else go 145 345 [l0, l1, .int x_l2, l3, l4] [] w I L P := by
  refine (go_iload_n (m := 145) (pc := 336) (k := 2) (by decide +kernel) rfl).trans ?_
  refine (go_bi (m := 145) (pc := 337) (n := 32) (by decide +kernel) bi_32).trans ?_
  refine (go_idiv (m := 145) (pc := 339) (by decide +kernel) h0).trans ?_
  refine (go_ic (m := 145) (pc := 340) (n := 3) (by decide +kernel) ic_3).trans ?_
  refine (go_iand (m := 145) (pc := 341) (by decide +kernel)).trans ?_
  exact go_ifgt (m := 145) (pc := 342) (off := 17) (t := 359) (by decide +kernel) (by decide)
theorem Law_acts_345_0 (l1 : Value) (x_l2 : Int32) (l3 : Value) (l4 : Value) (w : Wd) (I : MI) (L : ML) (P : MP)  : go 145 345 [.null, l1, .int x_l2, l3, l4] [] w I L P = kC (call 133 [.null, .int (nI 2)] w I L P) (fun v w1 I1 L1 P1 => go 145 352 [.null, l1, .int x_l2, l3, l4] (v.toList ++ [.int x_l2, .null]) w1 I1 L1 P1) := by
  refine (go_aload_nN (m := 145) (pc := 345) (k := 0) (by decide +kernel) rfl).trans ?_
  refine (go_iload_n (m := 145) (pc := 346) (k := 2) (by decide +kernel) rfl).trans ?_
  refine (go_aload_nN (m := 145) (pc := 347) (k := 0) (by decide +kernel) rfl).trans ?_
  refine (go_ic (m := 145) (pc := 348) (n := 2) (by decide +kernel) ic_2).trans ?_
  exact go_sta (m := 145) (pc := 349) (o := 8) (x := 80) (y := 133) (kd := 4) (as := [.null, .int (nI 2)]) (rs := [.int x_l2, .null]) (by decide +kernel) rfl rfl c_8_80 (Or.inr (Or.inr rfl)) rfl rfl rfl (by decide +kernel) (by simp only [List.length_cons, List.length_nil]; decide) (Nat.le_of_ble_eq_true rfl)
theorem Law_acts_345_1 (a_l0 : Nat) (l1 : Value) (x_l2 : Int32) (l3 : Value) (l4 : Value) (w : Wd) (I : MI) (L : ML) (P : MP)  : go 145 345 [.ref a_l0, l1, .int x_l2, l3, l4] [] w I L P = kC (call 133 [.ref a_l0, .int (nI 2)] w I L P) (fun v w1 I1 L1 P1 => go 145 352 [.ref a_l0, l1, .int x_l2, l3, l4] (v.toList ++ [.int x_l2, .ref a_l0]) w1 I1 L1 P1) := by
  refine (go_aload_n (m := 145) (pc := 345) (k := 0) (by decide +kernel) rfl).trans ?_
  refine (go_iload_n (m := 145) (pc := 346) (k := 2) (by decide +kernel) rfl).trans ?_
  refine (go_aload_n (m := 145) (pc := 347) (k := 0) (by decide +kernel) rfl).trans ?_
  refine (go_ic (m := 145) (pc := 348) (n := 2) (by decide +kernel) ic_2).trans ?_
  exact go_sta (m := 145) (pc := 349) (o := 8) (x := 80) (y := 133) (kd := 4) (as := [.ref a_l0, .int (nI 2)]) (rs := [.int x_l2, .ref a_l0]) (by decide +kernel) rfl rfl c_8_80 (Or.inr (Or.inr rfl)) rfl rfl rfl (by decide +kernel) (by simp only [List.length_cons, List.length_nil]; decide) (Nat.le_of_ble_eq_true rfl)
theorem Law_acts_352_0 (l0 : Value) (l1 : Value) (l2 : Value) (l3 : Value) (l4 : Value) (y1 : Int32) (y2 : Int32) (w : Wd) (I : MI) (L : ML) (P : MP) (h0 : ¬ y2 = 0) : go 145 352 [l0, l1, l2, l3, l4] [.int y2, .int y1, .null] w I L P = kC (call 123 [.null, .int (y1 - y1 / y2 * y2)] w I L P) (fun v w1 I1 L1 P1 => go 145 356 [l0, l1, l2, l3, l4] (v.toList ++ []) w1 I1 L1 P1) := by
  refine (go_irem (m := 145) (pc := 352) (by decide +kernel) h0).trans ?_
  exact go_sta (m := 145) (pc := 353) (o := 8) (x := 139) (y := 123) (kd := 4) (as := [.null, .int (y1 - y1 / y2 * y2)]) (rs := []) (by decide +kernel) rfl rfl c_8_139 (Or.inr (Or.inr rfl)) rfl rfl rfl (by decide +kernel) (by simp only [List.length_cons, List.length_nil]; decide) (Nat.le_of_ble_eq_true rfl)
theorem Law_acts_352_1 (l0 : Value) (l1 : Value) (l2 : Value) (l3 : Value) (l4 : Value) (a_s0 : Nat) (y1 : Int32) (y2 : Int32) (w : Wd) (I : MI) (L : ML) (P : MP) (h0 : ¬ y2 = 0) : go 145 352 [l0, l1, l2, l3, l4] [.int y2, .int y1, .ref a_s0] w I L P = kC (call 123 [.ref a_s0, .int (y1 - y1 / y2 * y2)] w I L P) (fun v w1 I1 L1 P1 => go 145 356 [l0, l1, l2, l3, l4] (v.toList ++ []) w1 I1 L1 P1) := by
  refine (go_irem (m := 145) (pc := 352) (by decide +kernel) h0).trans ?_
  exact go_sta (m := 145) (pc := 353) (o := 8) (x := 139) (y := 123) (kd := 4) (as := [.ref a_s0, .int (y1 - y1 / y2 * y2)]) (rs := []) (by decide +kernel) rfl rfl c_8_139 (Or.inr (Or.inr rfl)) rfl rfl rfl (by decide +kernel) (by simp only [List.length_cons, List.length_nil]; decide) (Nat.le_of_ble_eq_true rfl)
theorem Law_acts_356 (l0 : Value) (l1 : Value) (l2 : Value) (l3 : Value) (l4 : Value) (y0 : Int32) (w : Wd) (I : MI) (L : ML) (P : MP)  : go 145 356 [l0, l1, l2, l3, l4] [.int y0] w I L P = if y0 < 0 then go 145 363 [l0, l1, l2, l3, l4] [] w I L P else go 145 359 [l0, l1, l2, l3, l4] [] w I L P := by
  exact go_iflt (m := 145) (pc := 356) (off := 7) (t := 363) (by decide +kernel) (by decide)
theorem Law_acts_359 (l0 : Value) (l1 : Value) (l2 : Value) (l3 : Value) (l4 : Value) (w : Wd) (I : MI) (L : ML) (P : MP)  : go 145 359 [l0, l1, l2, l3, l4] [] w I L P = go 145 364 [l0, l1, l2, l3, l4] [.int (nI 1)] w I L P := by
  refine (go_ic (m := 145) (pc := 359) (n := 1) (by decide +kernel) ic_1).trans ?_
  refine (go_goto (m := 145) (pc := 360) (off := 4) (t := 364) (by decide +kernel) (by decide)).trans ?_
  rfl
theorem Law_acts_363 (l0 : Value) (l1 : Value) (l2 : Value) (l3 : Value) (l4 : Value) (w : Wd) (I : MI) (L : ML) (P : MP)  : go 145 363 [l0, l1, l2, l3, l4] [] w I L P = go 145 364 [l0, l1, l2, l3, l4] [.int (nI 0)] w I L P := by
  refine (go_ic (m := 145) (pc := 363) (n := 0) (by decide +kernel) ic_0).trans ?_
  rfl
theorem Law_acts_364 (l0 : Value) (l1 : Value) (l2 : Value) (l3 : Value) (l4 : Value) (y0 : Int32) (w : Wd) (I : MI) (L : ML) (P : MP) (h0 : y0 &&& 1 = y0) : go 145 364 [l0, l1, l2, l3, l4] [.int y0] w I L P = some (.inl (some (.int y0)), w, I, L, P) := by
  exact go_retZ (m := 145) (pc := 364) (by decide +kernel) rfl h0
theorem Law_acts_365_0 (l1 : Value) (x_l2 : Int32) (l3 : Value) (l4 : Value) (w : Wd) (I : MI) (L : ML) (P : MP) (h0 : ¬ (nI 9) = 0) : go 145 365 [.null, l1, .int x_l2, l3, l4] [] w I L P = kC (call 124 [.null, .int ((nI 1) + (x_l2 - x_l2 / (nI 9) * (nI 9)))] w I L P) (fun v w1 I1 L1 P1 => go 145 375 [.null, l1, .int x_l2, l3, l4] (v.toList ++ []) w1 I1 L1 P1) := by
  refine (go_aload_nN (m := 145) (pc := 365) (k := 0) (by decide +kernel) rfl).trans ?_
  refine (go_ic (m := 145) (pc := 366) (n := 1) (by decide +kernel) ic_1).trans ?_
  refine (go_iload_n (m := 145) (pc := 367) (k := 2) (by decide +kernel) rfl).trans ?_
  refine (go_bi (m := 145) (pc := 368) (n := 9) (by decide +kernel) bi_9).trans ?_
  refine (go_irem (m := 145) (pc := 370) (by decide +kernel) h0).trans ?_
  refine (go_iadd (m := 145) (pc := 371) (by decide +kernel)).trans ?_
  exact go_sta (m := 145) (pc := 372) (o := 8) (x := 141) (y := 124) (kd := 4) (as := [.null, .int ((nI 1) + (x_l2 - x_l2 / (nI 9) * (nI 9)))]) (rs := []) (by decide +kernel) rfl rfl c_8_141 (Or.inr (Or.inr rfl)) rfl rfl rfl (by decide +kernel) (by simp only [List.length_cons, List.length_nil]; decide) (Nat.le_of_ble_eq_true rfl)
theorem Law_acts_365_1 (a_l0 : Nat) (l1 : Value) (x_l2 : Int32) (l3 : Value) (l4 : Value) (w : Wd) (I : MI) (L : ML) (P : MP) (h0 : ¬ (nI 9) = 0) : go 145 365 [.ref a_l0, l1, .int x_l2, l3, l4] [] w I L P = kC (call 124 [.ref a_l0, .int ((nI 1) + (x_l2 - x_l2 / (nI 9) * (nI 9)))] w I L P) (fun v w1 I1 L1 P1 => go 145 375 [.ref a_l0, l1, .int x_l2, l3, l4] (v.toList ++ []) w1 I1 L1 P1) := by
  refine (go_aload_n (m := 145) (pc := 365) (k := 0) (by decide +kernel) rfl).trans ?_
  refine (go_ic (m := 145) (pc := 366) (n := 1) (by decide +kernel) ic_1).trans ?_
  refine (go_iload_n (m := 145) (pc := 367) (k := 2) (by decide +kernel) rfl).trans ?_
  refine (go_bi (m := 145) (pc := 368) (n := 9) (by decide +kernel) bi_9).trans ?_
  refine (go_irem (m := 145) (pc := 370) (by decide +kernel) h0).trans ?_
  refine (go_iadd (m := 145) (pc := 371) (by decide +kernel)).trans ?_
  exact go_sta (m := 145) (pc := 372) (o := 8) (x := 141) (y := 124) (kd := 4) (as := [.ref a_l0, .int ((nI 1) + (x_l2 - x_l2 / (nI 9) * (nI 9)))]) (rs := []) (by decide +kernel) rfl rfl c_8_141 (Or.inr (Or.inr rfl)) rfl rfl rfl (by decide +kernel) (by simp only [List.length_cons, List.length_nil]; decide) (Nat.le_of_ble_eq_true rfl)
theorem Law_acts_375 (l0 : Value) (l1 : Value) (l2 : Value) (l3 : Value) (l4 : Value) (y0 : Int32) (w : Wd) (I : MI) (L : ML) (P : MP)  : go 145 375 [l0, l1, l2, l3, l4] [.int y0] w I L P = if y0 < (nI 1) then go 145 383 [l0, l1, l2, l3, l4] [] w I L P else go 145 379 [l0, l1, l2, l3, l4] [] w I L P := by
  refine (go_ic (m := 145) (pc := 375) (n := 1) (by decide +kernel) ic_1).trans ?_
  exact go_icmplt (m := 145) (pc := 376) (off := 7) (t := 383) (by decide +kernel) (by decide)
theorem Law_acts_379 (l0 : Value) (l1 : Value) (l2 : Value) (l3 : Value) (l4 : Value) (w : Wd) (I : MI) (L : ML) (P : MP)  : go 145 379 [l0, l1, l2, l3, l4] [] w I L P = go 145 384 [l0, l1, l2, l3, l4] [.int (nI 1)] w I L P := by
  refine (go_ic (m := 145) (pc := 379) (n := 1) (by decide +kernel) ic_1).trans ?_
  refine (go_goto (m := 145) (pc := 380) (off := 4) (t := 384) (by decide +kernel) (by decide)).trans ?_
  rfl
theorem Law_acts_383 (l0 : Value) (l1 : Value) (l2 : Value) (l3 : Value) (l4 : Value) (w : Wd) (I : MI) (L : ML) (P : MP)  : go 145 383 [l0, l1, l2, l3, l4] [] w I L P = go 145 384 [l0, l1, l2, l3, l4] [.int (nI 0)] w I L P := by
  refine (go_ic (m := 145) (pc := 383) (n := 0) (by decide +kernel) ic_0).trans ?_
  rfl
theorem Law_acts_384 (l0 : Value) (l1 : Value) (l2 : Value) (l3 : Value) (l4 : Value) (y0 : Int32) (w : Wd) (I : MI) (L : ML) (P : MP) (h0 : y0 &&& 1 = y0) : go 145 384 [l0, l1, l2, l3, l4] [.int y0] w I L P = some (.inl (some (.int y0)), w, I, L, P) := by
  exact go_retZ (m := 145) (pc := 384) (by decide +kernel) rfl h0
theorem Law_acts_E (p0 : Nat) (p1 : Int32) (w : Wd) (I : MI) (L : ML) (P : MP) : call 145 [.ref p0, .int p1] w I L P = go 145 0 [.ref p0, .int p1, unk, unk, unk] [] w I L P := rfl
theorem Law_acts_E1 (p1 : Int32) (w : Wd) (I : MI) (L : ML) (P : MP) : call 145 [.null, .int p1] w I L P = go 145 0 [.null, .int p1, unk, unk, unk] [] w I L P := rfl
theorem Law_law_0 (l0 : Value) (l1 : Value) (l2 : Value) (l3 : Value) (T : Nat → Option (Nat × Nat)) (q0 kc ks : Nat) (I : MI) (L : ML) (P : MP)  : go 146 0 [l0, l1, l2, l3] [] (T, some q0, kc, ks) I L P = kC (call 79 [.ref q0] ((tagU T q0 6 0), some (q0 + 1), (kc + 1), (ks + 6)) (rowI I q0) (rowL L q0) (rowP P q0)) (fun v w1 I1 L1 P1 => go 146 7 [l0, l1, l2, l3] (v.toList ++ [.ref q0]) w1 I1 L1 P1) := by
  refine (go_new (m := 146) (pc := 0) (o := 8) (x := 10) (ci := 6) (nf := 6) (by decide +kernel) rfl (by decide +kernel) (by decide) rfl).trans ?_
  refine (go_dup (m := 146) (pc := 3) (by decide +kernel) rfl).trans ?_
  exact go_spc (m := 146) (pc := 4) (o := 8) (x := 166) (y := 79) (kd := 5) (b := q0) (bs := []) (rs := [.ref q0]) (by decide +kernel) rfl rfl c_8_166 (Or.inl rfl) rfl rfl rfl (by decide +kernel) (by simp only [List.length_cons, List.length_nil]; decide) (Nat.le_of_ble_eq_true rfl)
theorem Law_law_7_0 (l0 : Value) (l1 : Value) (l2 : Value) (l3 : Value) (w : Wd) (I : MI) (L : ML) (P : MP)  : go 146 7 [l0, l1, l2, l3] [.null] w I L P = kC (call 138 [.null] w I L P) (fun v w1 I1 L1 P1 => go 146 12 [(fix1 l0), .null, l2, l3] (v.toList ++ []) w1 I1 L1 P1) := by
  refine (go_astore_nN (m := 146) (pc := 7) (k := 1) (ls' := [(fix1 l0), .null, l2, l3]) (by decide +kernel) (by simp only [List.length_cons, List.length_nil]; decide) rfl).trans ?_
  refine (go_aload_nN (m := 146) (pc := 8) (k := 1) (by decide +kernel) rfl).trans ?_
  exact go_sta (m := 146) (pc := 9) (o := 8) (x := 111) (y := 138) (kd := 4) (as := [.null]) (rs := []) (by decide +kernel) rfl rfl c_8_111 (Or.inr (Or.inr rfl)) rfl rfl rfl (by decide +kernel) (by simp only [List.length_cons, List.length_nil]; decide) (Nat.le_of_ble_eq_true rfl)
theorem Law_law_7_1 (l0 : Value) (l1 : Value) (l2 : Value) (l3 : Value) (a_s0 : Nat) (w : Wd) (I : MI) (L : ML) (P : MP)  : go 146 7 [l0, l1, l2, l3] [.ref a_s0] w I L P = kC (call 138 [.ref a_s0] w I L P) (fun v w1 I1 L1 P1 => go 146 12 [(fix1 l0), .ref a_s0, l2, l3] (v.toList ++ []) w1 I1 L1 P1) := by
  refine (go_astore_n (m := 146) (pc := 7) (k := 1) (ls' := [(fix1 l0), .ref a_s0, l2, l3]) (by decide +kernel) (by simp only [List.length_cons, List.length_nil]; decide) rfl).trans ?_
  refine (go_aload_n (m := 146) (pc := 8) (k := 1) (by decide +kernel) rfl).trans ?_
  exact go_sta (m := 146) (pc := 9) (o := 8) (x := 111) (y := 138) (kd := 4) (as := [.ref a_s0]) (rs := []) (by decide +kernel) rfl rfl c_8_111 (Or.inr (Or.inr rfl)) rfl rfl rfl (by decide +kernel) (by simp only [List.length_cons, List.length_nil]; decide) (Nat.le_of_ble_eq_true rfl)
theorem Law_law_12 (l0 : Value) (l1 : Value) (l2 : Value) (l3 : Value) (y0 : Int32) (w : Wd) (I : MI) (L : ML) (P : MP)  : go 146 12 [l0, l1, l2, l3] [.int y0] w I L P = if y0 ≠ (-11) then go 146 70 [l0, l1, l2, l3] [] w I L P else go 146 17 [l0, l1, l2, l3] [] w I L P := by
  refine (go_bi (m := 146) (pc := 12) (n := -11) (by decide +kernel) bi_m11).trans ?_
  exact go_icmpne (m := 146) (pc := 14) (off := 56) (t := 70) (by decide +kernel) (by decide)
theorem Law_law_17_0 (l0 : Value) (l2 : Value) (l3 : Value) (w : Wd) (I : MI) (L : ML) (P : MP)  : go 146 17 [l0, .null, l2, l3] [] w I L P = kC (call 133 [.null, .int (nI 1)] w I L P) (fun v w1 I1 L1 P1 => go 146 22 [l0, .null, l2, l3] (v.toList ++ []) w1 I1 L1 P1) := by
  refine (go_aload_nN (m := 146) (pc := 17) (k := 1) (by decide +kernel) rfl).trans ?_
  refine (go_ic (m := 146) (pc := 18) (n := 1) (by decide +kernel) ic_1).trans ?_
  exact go_sta (m := 146) (pc := 19) (o := 8) (x := 80) (y := 133) (kd := 4) (as := [.null, .int (nI 1)]) (rs := []) (by decide +kernel) rfl rfl c_8_80 (Or.inr (Or.inr rfl)) rfl rfl rfl (by decide +kernel) (by simp only [List.length_cons, List.length_nil]; decide) (Nat.le_of_ble_eq_true rfl)
theorem Law_law_17_1 (l0 : Value) (a_l1 : Nat) (l2 : Value) (l3 : Value) (w : Wd) (I : MI) (L : ML) (P : MP)  : go 146 17 [l0, .ref a_l1, l2, l3] [] w I L P = kC (call 133 [.ref a_l1, .int (nI 1)] w I L P) (fun v w1 I1 L1 P1 => go 146 22 [l0, .ref a_l1, l2, l3] (v.toList ++ []) w1 I1 L1 P1) := by
  refine (go_aload_n (m := 146) (pc := 17) (k := 1) (by decide +kernel) rfl).trans ?_
  refine (go_ic (m := 146) (pc := 18) (n := 1) (by decide +kernel) ic_1).trans ?_
  exact go_sta (m := 146) (pc := 19) (o := 8) (x := 80) (y := 133) (kd := 4) (as := [.ref a_l1, .int (nI 1)]) (rs := []) (by decide +kernel) rfl rfl c_8_80 (Or.inr (Or.inr rfl)) rfl rfl rfl (by decide +kernel) (by simp only [List.length_cons, List.length_nil]; decide) (Nat.le_of_ble_eq_true rfl)
theorem Law_law_22 (l0 : Value) (l1 : Value) (l2 : Value) (l3 : Value) (y0 : Int32) (w : Wd) (I : MI) (L : ML) (P : MP)  : go 146 22 [l0, l1, l2, l3] [.int y0] w I L P = if y0 ≠ (nI 2) then go 146 70 [l0, l1, l2, l3] [] w I L P else go 146 26 [l0, l1, l2, l3] [] w I L P := by
  refine (go_ic (m := 146) (pc := 22) (n := 2) (by decide +kernel) ic_2).trans ?_
  exact go_icmpne (m := 146) (pc := 23) (off := 47) (t := 70) (by decide +kernel) (by decide)
theorem Law_law_26_0 (l0 : Value) (l2 : Value) (l3 : Value) (w : Wd) (I : MI) (L : ML) (P : MP)  : go 146 26 [l0, .null, l2, l3] [] w I L P = kC (call 133 [.null, .int (nI 9)] w I L P) (fun v w1 I1 L1 P1 => go 146 32 [l0, .null, l2, l3] (v.toList ++ []) w1 I1 L1 P1) := by
  refine (go_aload_nN (m := 146) (pc := 26) (k := 1) (by decide +kernel) rfl).trans ?_
  refine (go_bi (m := 146) (pc := 27) (n := 9) (by decide +kernel) bi_9).trans ?_
  exact go_sta (m := 146) (pc := 29) (o := 8) (x := 80) (y := 133) (kd := 4) (as := [.null, .int (nI 9)]) (rs := []) (by decide +kernel) rfl rfl c_8_80 (Or.inr (Or.inr rfl)) rfl rfl rfl (by decide +kernel) (by simp only [List.length_cons, List.length_nil]; decide) (Nat.le_of_ble_eq_true rfl)
theorem Law_law_26_1 (l0 : Value) (a_l1 : Nat) (l2 : Value) (l3 : Value) (w : Wd) (I : MI) (L : ML) (P : MP)  : go 146 26 [l0, .ref a_l1, l2, l3] [] w I L P = kC (call 133 [.ref a_l1, .int (nI 9)] w I L P) (fun v w1 I1 L1 P1 => go 146 32 [l0, .ref a_l1, l2, l3] (v.toList ++ []) w1 I1 L1 P1) := by
  refine (go_aload_n (m := 146) (pc := 26) (k := 1) (by decide +kernel) rfl).trans ?_
  refine (go_bi (m := 146) (pc := 27) (n := 9) (by decide +kernel) bi_9).trans ?_
  exact go_sta (m := 146) (pc := 29) (o := 8) (x := 80) (y := 133) (kd := 4) (as := [.ref a_l1, .int (nI 9)]) (rs := []) (by decide +kernel) rfl rfl c_8_80 (Or.inr (Or.inr rfl)) rfl rfl rfl (by decide +kernel) (by simp only [List.length_cons, List.length_nil]; decide) (Nat.le_of_ble_eq_true rfl)
theorem Law_law_32 (l0 : Value) (l1 : Value) (l2 : Value) (l3 : Value) (y0 : Int32) (w : Wd) (I : MI) (L : ML) (P : MP)  : go 146 32 [l0, l1, l2, l3] [.int y0] w I L P = if y0 ≠ (nI 1) then go 146 70 [l0, l1, l2, l3] [] w I L P else go 146 36 [l0, l1, l2, l3] [] w I L P := by
  refine (go_ic (m := 146) (pc := 32) (n := 1) (by decide +kernel) ic_1).trans ?_
  exact go_icmpne (m := 146) (pc := 33) (off := 37) (t := 70) (by decide +kernel) (by decide)
theorem Law_law_36 (l0 : Value) (a_l1 : Nat) (l2 : Value) (l3 : Value) (w : Wd) (I : MI) (L : ML) (P : MP) (h0 : w.1 a_l1 = some (6, 0)) : go 146 36 [l0, .ref a_l1, l2, l3] [] w I L P = kC (call 89 [.ref a_l1] w I L P) (fun v w1 I1 L1 P1 => go 146 40 [l0, .ref a_l1, l2, l3] (v.toList ++ []) w1 I1 L1 P1) := by
  refine (go_aload_n (m := 146) (pc := 36) (k := 1) (by decide +kernel) rfl).trans ?_
  exact go_vir (m := 146) (pc := 37) (o := 8) (x := 108) (y := 89) (kd := 0) (b := a_l1) (bs := []) (rs := []) (by decide +kernel) rfl rfl c_8_108 (Or.inl rfl) rfl rfl rfl (by decide +kernel) (by simp only [List.length_cons, List.length_nil]; decide) (Nat.le_of_ble_eq_true rfl) h0
theorem Law_law_40 (l0 : Value) (l1 : Value) (l2 : Value) (l3 : Value) (y0 : Int32) (w : Wd) (I : MI) (L : ML) (P : MP)  : go 146 40 [l0, l1, l2, l3] [.int y0] w I L P = if y0 ≠ 0 then go 146 70 [l0, l1, l2, l3] [] w I L P else go 146 43 [l0, l1, l2, l3] [] w I L P := by
  exact go_ifne (m := 146) (pc := 40) (off := 30) (t := 70) (by decide +kernel) (by decide)
theorem Law_law_43_0 (l0 : Value) (l2 : Value) (l3 : Value) (w : Wd) (I : MI) (L : ML) (P : MP)  : go 146 43 [l0, .null, l2, l3] [] w I L P = kC (call 140 [.null] w I L P) (fun v w1 I1 L1 P1 => go 146 47 [l0, .null, l2, l3] (v.toList ++ []) w1 I1 L1 P1) := by
  refine (go_aload_nN (m := 146) (pc := 43) (k := 1) (by decide +kernel) rfl).trans ?_
  exact go_sta (m := 146) (pc := 44) (o := 8) (x := 167) (y := 140) (kd := 2) (as := [.null]) (rs := []) (by decide +kernel) rfl rfl c_8_167 (Or.inl rfl) rfl rfl rfl (by decide +kernel) (by simp only [List.length_cons, List.length_nil]; decide) (Nat.le_of_ble_eq_true rfl)
theorem Law_law_43_1 (l0 : Value) (a_l1 : Nat) (l2 : Value) (l3 : Value) (w : Wd) (I : MI) (L : ML) (P : MP)  : go 146 43 [l0, .ref a_l1, l2, l3] [] w I L P = kC (call 140 [.ref a_l1] w I L P) (fun v w1 I1 L1 P1 => go 146 47 [l0, .ref a_l1, l2, l3] (v.toList ++ []) w1 I1 L1 P1) := by
  refine (go_aload_n (m := 146) (pc := 43) (k := 1) (by decide +kernel) rfl).trans ?_
  exact go_sta (m := 146) (pc := 44) (o := 8) (x := 167) (y := 140) (kd := 2) (as := [.ref a_l1]) (rs := []) (by decide +kernel) rfl rfl c_8_167 (Or.inl rfl) rfl rfl rfl (by decide +kernel) (by simp only [List.length_cons, List.length_nil]; decide) (Nat.le_of_ble_eq_true rfl)
theorem Law_law_47 (l0 : Value) (l1 : Value) (l2 : Value) (l3 : Value) (y0 : Int32) (w : Wd) (I : MI) (L : ML) (P : MP)  : go 146 47 [l0, l1, l2, l3] [.int y0] w I L P = if y0 = 0 then go 146 70 [l0, l1, l2, l3] [] w I L P else go 146 50 [l0, l1, l2, l3] [] w I L P := by
  exact go_ifeq (m := 146) (pc := 47) (off := 23) (t := 70) (by decide +kernel) (by decide)
theorem Law_law_50_0 (l2 : Value) (l3 : Value) (w : Wd) (I : MI) (L : ML) (P : MP)  : go 146 50 [.null, .null, l2, l3] [] w I L P = kC (call 100 [.null, .int (nI 0)] w I L P) (fun v w1 I1 L1 P1 => go 146 57 [.null, .null, l2, l3] (v.toList ++ [.int (nI 1), .null]) w1 I1 L1 P1) := by
  refine (go_aload_nN (m := 146) (pc := 50) (k := 1) (by decide +kernel) rfl).trans ?_
  refine (go_ic (m := 146) (pc := 51) (n := 1) (by decide +kernel) ic_1).trans ?_
  refine (go_aload_nN (m := 146) (pc := 52) (k := 0) (by decide +kernel) rfl).trans ?_
  refine (go_ic (m := 146) (pc := 53) (n := 0) (by decide +kernel) ic_0).trans ?_
  exact go_sta (m := 146) (pc := 54) (o := 8) (x := 171) (y := 100) (kd := 2) (as := [.null, .int (nI 0)]) (rs := [.int (nI 1), .null]) (by decide +kernel) rfl rfl c_8_171 (Or.inl rfl) rfl rfl rfl (by decide +kernel) (by simp only [List.length_cons, List.length_nil]; decide) (Nat.le_of_ble_eq_true rfl)
theorem Law_law_50_1 (a_l1 : Nat) (l2 : Value) (l3 : Value) (w : Wd) (I : MI) (L : ML) (P : MP)  : go 146 50 [.null, .ref a_l1, l2, l3] [] w I L P = kC (call 100 [.null, .int (nI 0)] w I L P) (fun v w1 I1 L1 P1 => go 146 57 [.null, .ref a_l1, l2, l3] (v.toList ++ [.int (nI 1), .ref a_l1]) w1 I1 L1 P1) := by
  refine (go_aload_n (m := 146) (pc := 50) (k := 1) (by decide +kernel) rfl).trans ?_
  refine (go_ic (m := 146) (pc := 51) (n := 1) (by decide +kernel) ic_1).trans ?_
  refine (go_aload_nN (m := 146) (pc := 52) (k := 0) (by decide +kernel) rfl).trans ?_
  refine (go_ic (m := 146) (pc := 53) (n := 0) (by decide +kernel) ic_0).trans ?_
  exact go_sta (m := 146) (pc := 54) (o := 8) (x := 171) (y := 100) (kd := 2) (as := [.null, .int (nI 0)]) (rs := [.int (nI 1), .ref a_l1]) (by decide +kernel) rfl rfl c_8_171 (Or.inl rfl) rfl rfl rfl (by decide +kernel) (by simp only [List.length_cons, List.length_nil]; decide) (Nat.le_of_ble_eq_true rfl)
theorem Law_law_50_2 (a_l0 : Nat) (l2 : Value) (l3 : Value) (w : Wd) (I : MI) (L : ML) (P : MP)  : go 146 50 [.ref a_l0, .null, l2, l3] [] w I L P = kC (call 100 [.ref a_l0, .int (nI 0)] w I L P) (fun v w1 I1 L1 P1 => go 146 57 [.ref a_l0, .null, l2, l3] (v.toList ++ [.int (nI 1), .null]) w1 I1 L1 P1) := by
  refine (go_aload_nN (m := 146) (pc := 50) (k := 1) (by decide +kernel) rfl).trans ?_
  refine (go_ic (m := 146) (pc := 51) (n := 1) (by decide +kernel) ic_1).trans ?_
  refine (go_aload_n (m := 146) (pc := 52) (k := 0) (by decide +kernel) rfl).trans ?_
  refine (go_ic (m := 146) (pc := 53) (n := 0) (by decide +kernel) ic_0).trans ?_
  exact go_sta (m := 146) (pc := 54) (o := 8) (x := 171) (y := 100) (kd := 2) (as := [.ref a_l0, .int (nI 0)]) (rs := [.int (nI 1), .null]) (by decide +kernel) rfl rfl c_8_171 (Or.inl rfl) rfl rfl rfl (by decide +kernel) (by simp only [List.length_cons, List.length_nil]; decide) (Nat.le_of_ble_eq_true rfl)
theorem Law_law_50_3 (a_l0 : Nat) (a_l1 : Nat) (l2 : Value) (l3 : Value) (w : Wd) (I : MI) (L : ML) (P : MP)  : go 146 50 [.ref a_l0, .ref a_l1, l2, l3] [] w I L P = kC (call 100 [.ref a_l0, .int (nI 0)] w I L P) (fun v w1 I1 L1 P1 => go 146 57 [.ref a_l0, .ref a_l1, l2, l3] (v.toList ++ [.int (nI 1), .ref a_l1]) w1 I1 L1 P1) := by
  refine (go_aload_n (m := 146) (pc := 50) (k := 1) (by decide +kernel) rfl).trans ?_
  refine (go_ic (m := 146) (pc := 51) (n := 1) (by decide +kernel) ic_1).trans ?_
  refine (go_aload_n (m := 146) (pc := 52) (k := 0) (by decide +kernel) rfl).trans ?_
  refine (go_ic (m := 146) (pc := 53) (n := 0) (by decide +kernel) ic_0).trans ?_
  exact go_sta (m := 146) (pc := 54) (o := 8) (x := 171) (y := 100) (kd := 2) (as := [.ref a_l0, .int (nI 0)]) (rs := [.int (nI 1), .ref a_l1]) (by decide +kernel) rfl rfl c_8_171 (Or.inl rfl) rfl rfl rfl (by decide +kernel) (by simp only [List.length_cons, List.length_nil]; decide) (Nat.le_of_ble_eq_true rfl)
theorem Law_law_57_0 (l0 : Value) (l1 : Value) (l2 : Value) (l3 : Value) (y1 : Int32) (y2 : Int32) (w : Wd) (I : MI) (L : ML) (P : MP) (h0 : ¬ (nI 3) = 0) : go 146 57 [l0, l1, l2, l3] [.int y2, .int y1, .null] w I L P = kC (call 120 [.null, .int (y1 + (y2 - y2 / (nI 3) * (nI 3)))] w I L P) (fun v w1 I1 L1 P1 => go 146 63 [l0, l1, l2, l3] (v.toList ++ []) w1 I1 L1 P1) := by
  refine (go_ic (m := 146) (pc := 57) (n := 3) (by decide +kernel) ic_3).trans ?_
  refine (go_irem (m := 146) (pc := 58) (by decide +kernel) h0).trans ?_
  refine (go_iadd (m := 146) (pc := 59) (by decide +kernel)).trans ?_
  exact go_sta (m := 146) (pc := 60) (o := 8) (x := 132) (y := 120) (kd := 4) (as := [.null, .int (y1 + (y2 - y2 / (nI 3) * (nI 3)))]) (rs := []) (by decide +kernel) rfl rfl c_8_132 (Or.inr (Or.inr rfl)) rfl rfl rfl (by decide +kernel) (by simp only [List.length_cons, List.length_nil]; decide) (Nat.le_of_ble_eq_true rfl)
theorem Law_law_57_1 (l0 : Value) (l1 : Value) (l2 : Value) (l3 : Value) (a_s0 : Nat) (y1 : Int32) (y2 : Int32) (w : Wd) (I : MI) (L : ML) (P : MP) (h0 : ¬ (nI 3) = 0) : go 146 57 [l0, l1, l2, l3] [.int y2, .int y1, .ref a_s0] w I L P = kC (call 120 [.ref a_s0, .int (y1 + (y2 - y2 / (nI 3) * (nI 3)))] w I L P) (fun v w1 I1 L1 P1 => go 146 63 [l0, l1, l2, l3] (v.toList ++ []) w1 I1 L1 P1) := by
  refine (go_ic (m := 146) (pc := 57) (n := 3) (by decide +kernel) ic_3).trans ?_
  refine (go_irem (m := 146) (pc := 58) (by decide +kernel) h0).trans ?_
  refine (go_iadd (m := 146) (pc := 59) (by decide +kernel)).trans ?_
  exact go_sta (m := 146) (pc := 60) (o := 8) (x := 132) (y := 120) (kd := 4) (as := [.ref a_s0, .int (y1 + (y2 - y2 / (nI 3) * (nI 3)))]) (rs := []) (by decide +kernel) rfl rfl c_8_132 (Or.inr (Or.inr rfl)) rfl rfl rfl (by decide +kernel) (by simp only [List.length_cons, List.length_nil]; decide) (Nat.le_of_ble_eq_true rfl)
theorem Law_law_63 (l0 : Value) (l1 : Value) (l2 : Value) (l3 : Value) (y0 : Int32) (w : Wd) (I : MI) (L : ML) (P : MP)  : go 146 63 [l0, l1, l2, l3] [.int y0] w I L P = if y0 ≠ 0 then go 146 70 [l0, l1, l2, l3] [] w I L P else go 146 66 [l0, l1, l2, l3] [] w I L P := by
  exact go_ifne (m := 146) (pc := 63) (off := 7) (t := 70) (by decide +kernel) (by decide)
theorem Law_law_66 (l0 : Value) (l1 : Value) (l2 : Value) (l3 : Value) (w : Wd) (I : MI) (L : ML) (P : MP)  : go 146 66 [l0, l1, l2, l3] [] w I L P = go 146 71 [l0, l1, l2, l3] [.int (nI 1)] w I L P := by
  refine (go_ic (m := 146) (pc := 66) (n := 1) (by decide +kernel) ic_1).trans ?_
  refine (go_goto (m := 146) (pc := 67) (off := 4) (t := 71) (by decide +kernel) (by decide)).trans ?_
  rfl
theorem Law_law_70 (l0 : Value) (l1 : Value) (l2 : Value) (l3 : Value) (w : Wd) (I : MI) (L : ML) (P : MP)  : go 146 70 [l0, l1, l2, l3] [] w I L P = go 146 71 [l0, l1, l2, l3] [.int (nI 0)] w I L P := by
  refine (go_ic (m := 146) (pc := 70) (n := 0) (by decide +kernel) ic_0).trans ?_
  rfl
theorem Law_law_71 (l0 : Value) (l1 : Value) (l2 : Value) (l3 : Value) (y0 : Int32) (w : Wd) (I : MI) (L : ML) (P : MP)  : go 146 71 [l0, l1, l2, l3] [.int y0] w I L P = go 146 74 [l0, (fix1 l1), .int y0, .int (nI 1)] [] w I L P := by
  refine (go_istore_n (m := 146) (pc := 71) (k := 2) (ls' := [l0, (fix1 l1), .int y0, l3]) (by decide +kernel) (by simp only [List.length_cons, List.length_nil]; decide) rfl).trans ?_
  refine (go_ic (m := 146) (pc := 72) (n := 1) (by decide +kernel) ic_1).trans ?_
  refine (go_istore_n (m := 146) (pc := 73) (k := 3) (ls' := [l0, (fix1 l1), .int y0, .int (nI 1)]) (by decide +kernel) (by simp only [List.length_cons, List.length_nil]; decide) rfl).trans ?_
  rfl
theorem Law_law_74 (l0 : Value) (l1 : Value) (l2 : Value) (x_l3 : Int32) (w : Wd) (I : MI) (L : ML) (P : MP)  : go 146 74 [l0, l1, l2, .int x_l3] [] w I L P = if (nI 24) ≤ x_l3 then go 146 122 [l0, l1, l2, .int x_l3] [] w I L P else go 146 80 [l0, l1, l2, .int x_l3] [] w I L P := by
  refine (go_iload_n (m := 146) (pc := 74) (k := 3) (by decide +kernel) rfl).trans ?_
  refine (go_bi (m := 146) (pc := 75) (n := 24) (by decide +kernel) bi_24).trans ?_
  exact go_icmpge (m := 146) (pc := 77) (off := 45) (t := 122) (by decide +kernel) (by decide)
theorem Law_law_80 (l0 : Value) (l1 : Value) (x_l2 : Int32) (l3 : Value) (w : Wd) (I : MI) (L : ML) (P : MP)  : go 146 80 [l0, l1, .int x_l2, l3] [] w I L P = if x_l2 = 0 then go 146 122 [l0, l1, .int x_l2, l3] [] w I L P else go 146 84 [l0, l1, .int x_l2, l3] [] w I L P := by
  refine (go_iload_n (m := 146) (pc := 80) (k := 2) (by decide +kernel) rfl).trans ?_
  exact go_ifeq (m := 146) (pc := 81) (off := 41) (t := 122) (by decide +kernel) (by decide)
theorem Law_law_84_0 (l2 : Value) (x_l3 : Int32) (w : Wd) (I : MI) (L : ML) (P : MP)  : go 146 84 [.null, .null, l2, .int x_l3] [] w I L P = kC (call 100 [.null, .int x_l3] w I L P) (fun v w1 I1 L1 P1 => go 146 90 [.null, .null, l2, .int x_l3] (v.toList ++ [.null]) w1 I1 L1 P1) := by
  refine (go_aload_nN (m := 146) (pc := 84) (k := 1) (by decide +kernel) rfl).trans ?_
  refine (go_aload_nN (m := 146) (pc := 85) (k := 0) (by decide +kernel) rfl).trans ?_
  refine (go_iload_n (m := 146) (pc := 86) (k := 3) (by decide +kernel) rfl).trans ?_
  exact go_sta (m := 146) (pc := 87) (o := 8) (x := 171) (y := 100) (kd := 2) (as := [.null, .int x_l3]) (rs := [.null]) (by decide +kernel) rfl rfl c_8_171 (Or.inl rfl) rfl rfl rfl (by decide +kernel) (by simp only [List.length_cons, List.length_nil]; decide) (Nat.le_of_ble_eq_true rfl)
theorem Law_law_84_1 (a_l1 : Nat) (l2 : Value) (x_l3 : Int32) (w : Wd) (I : MI) (L : ML) (P : MP)  : go 146 84 [.null, .ref a_l1, l2, .int x_l3] [] w I L P = kC (call 100 [.null, .int x_l3] w I L P) (fun v w1 I1 L1 P1 => go 146 90 [.null, .ref a_l1, l2, .int x_l3] (v.toList ++ [.ref a_l1]) w1 I1 L1 P1) := by
  refine (go_aload_n (m := 146) (pc := 84) (k := 1) (by decide +kernel) rfl).trans ?_
  refine (go_aload_nN (m := 146) (pc := 85) (k := 0) (by decide +kernel) rfl).trans ?_
  refine (go_iload_n (m := 146) (pc := 86) (k := 3) (by decide +kernel) rfl).trans ?_
  exact go_sta (m := 146) (pc := 87) (o := 8) (x := 171) (y := 100) (kd := 2) (as := [.null, .int x_l3]) (rs := [.ref a_l1]) (by decide +kernel) rfl rfl c_8_171 (Or.inl rfl) rfl rfl rfl (by decide +kernel) (by simp only [List.length_cons, List.length_nil]; decide) (Nat.le_of_ble_eq_true rfl)
theorem Law_law_84_2 (a_l0 : Nat) (l2 : Value) (x_l3 : Int32) (w : Wd) (I : MI) (L : ML) (P : MP)  : go 146 84 [.ref a_l0, .null, l2, .int x_l3] [] w I L P = kC (call 100 [.ref a_l0, .int x_l3] w I L P) (fun v w1 I1 L1 P1 => go 146 90 [.ref a_l0, .null, l2, .int x_l3] (v.toList ++ [.null]) w1 I1 L1 P1) := by
  refine (go_aload_nN (m := 146) (pc := 84) (k := 1) (by decide +kernel) rfl).trans ?_
  refine (go_aload_n (m := 146) (pc := 85) (k := 0) (by decide +kernel) rfl).trans ?_
  refine (go_iload_n (m := 146) (pc := 86) (k := 3) (by decide +kernel) rfl).trans ?_
  exact go_sta (m := 146) (pc := 87) (o := 8) (x := 171) (y := 100) (kd := 2) (as := [.ref a_l0, .int x_l3]) (rs := [.null]) (by decide +kernel) rfl rfl c_8_171 (Or.inl rfl) rfl rfl rfl (by decide +kernel) (by simp only [List.length_cons, List.length_nil]; decide) (Nat.le_of_ble_eq_true rfl)
theorem Law_law_84_3 (a_l0 : Nat) (a_l1 : Nat) (l2 : Value) (x_l3 : Int32) (w : Wd) (I : MI) (L : ML) (P : MP)  : go 146 84 [.ref a_l0, .ref a_l1, l2, .int x_l3] [] w I L P = kC (call 100 [.ref a_l0, .int x_l3] w I L P) (fun v w1 I1 L1 P1 => go 146 90 [.ref a_l0, .ref a_l1, l2, .int x_l3] (v.toList ++ [.ref a_l1]) w1 I1 L1 P1) := by
  refine (go_aload_n (m := 146) (pc := 84) (k := 1) (by decide +kernel) rfl).trans ?_
  refine (go_aload_n (m := 146) (pc := 85) (k := 0) (by decide +kernel) rfl).trans ?_
  refine (go_iload_n (m := 146) (pc := 86) (k := 3) (by decide +kernel) rfl).trans ?_
  exact go_sta (m := 146) (pc := 87) (o := 8) (x := 171) (y := 100) (kd := 2) (as := [.ref a_l0, .int x_l3]) (rs := [.ref a_l1]) (by decide +kernel) rfl rfl c_8_171 (Or.inl rfl) rfl rfl rfl (by decide +kernel) (by simp only [List.length_cons, List.length_nil]; decide) (Nat.le_of_ble_eq_true rfl)
theorem Law_law_90_0 (l0 : Value) (l1 : Value) (l2 : Value) (l3 : Value) (y1 : Int32) (w : Wd) (I : MI) (L : ML) (P : MP)  : go 146 90 [l0, l1, l2, l3] [.int y1, .null] w I L P = kC (call 145 [.null, .int y1] w I L P) (fun v w1 I1 L1 P1 => go 146 93 [l0, l1, l2, l3] (v.toList ++ []) w1 I1 L1 P1) := by
  exact go_sta (m := 146) (pc := 90) (o := 8) (x := 175) (y := 145) (kd := 2) (as := [.null, .int y1]) (rs := []) (by decide +kernel) rfl rfl c_8_175 (Or.inl rfl) rfl rfl rfl (by decide +kernel) (by simp only [List.length_cons, List.length_nil]; decide) (Nat.le_of_ble_eq_true rfl)
theorem Law_law_90_1 (l0 : Value) (l1 : Value) (l2 : Value) (l3 : Value) (a_s0 : Nat) (y1 : Int32) (w : Wd) (I : MI) (L : ML) (P : MP)  : go 146 90 [l0, l1, l2, l3] [.int y1, .ref a_s0] w I L P = kC (call 145 [.ref a_s0, .int y1] w I L P) (fun v w1 I1 L1 P1 => go 146 93 [l0, l1, l2, l3] (v.toList ++ []) w1 I1 L1 P1) := by
  exact go_sta (m := 146) (pc := 90) (o := 8) (x := 175) (y := 145) (kd := 2) (as := [.ref a_s0, .int y1]) (rs := []) (by decide +kernel) rfl rfl c_8_175 (Or.inl rfl) rfl rfl rfl (by decide +kernel) (by simp only [List.length_cons, List.length_nil]; decide) (Nat.le_of_ble_eq_true rfl)
theorem Law_law_93 (l0 : Value) (l1 : Value) (l2 : Value) (l3 : Value) (y0 : Int32) (w : Wd) (I : MI) (L : ML) (P : MP)  : go 146 93 [l0, l1, l2, l3] [.int y0] w I L P = if y0 = 0 then go 146 114 [l0, l1, l2, l3] [] w I L P else go 146 96 [l0, l1, l2, l3] [] w I L P := by
  exact go_ifeq (m := 146) (pc := 93) (off := 21) (t := 114) (by decide +kernel) (by decide)
theorem Law_law_96 (l0 : Value) (l1 : Value) (l2 : Value) (x_l3 : Int32) (w : Wd) (I : MI) (L : ML) (P : MP) (h0 : ¬ (nI 3) = 0) : go 146 96 [l0, l1, l2, .int x_l3] [] w I L P = if (x_l3 - x_l3 / (nI 3) * (nI 3)) ≠ (nI 2) then go 146 110 [l0, l1, l2, .int x_l3] [] w I L P else go 146 103 [l0, l1, l2, .int x_l3] [] w I L P := by
  refine (go_iload_n (m := 146) (pc := 96) (k := 3) (by decide +kernel) rfl).trans ?_
  refine (go_ic (m := 146) (pc := 97) (n := 3) (by decide +kernel) ic_3).trans ?_
  refine (go_irem (m := 146) (pc := 98) (by decide +kernel) h0).trans ?_
  refine (go_ic (m := 146) (pc := 99) (n := 2) (by decide +kernel) ic_2).trans ?_
  exact go_icmpne (m := 146) (pc := 100) (off := 10) (t := 110) (by decide +kernel) (by decide)
theorem Law_law_103_0 (l0 : Value) (l2 : Value) (l3 : Value) (w : Wd) (I : MI) (L : ML) (P : MP)  : go 146 103 [l0, .null, l2, l3] [] w I L P = kC (call 140 [.null] w I L P) (fun v w1 I1 L1 P1 => go 146 107 [l0, .null, l2, l3] (v.toList ++ []) w1 I1 L1 P1) := by
  refine (go_aload_nN (m := 146) (pc := 103) (k := 1) (by decide +kernel) rfl).trans ?_
  exact go_sta (m := 146) (pc := 104) (o := 8) (x := 167) (y := 140) (kd := 2) (as := [.null]) (rs := []) (by decide +kernel) rfl rfl c_8_167 (Or.inl rfl) rfl rfl rfl (by decide +kernel) (by simp only [List.length_cons, List.length_nil]; decide) (Nat.le_of_ble_eq_true rfl)
theorem Law_law_103_1 (l0 : Value) (a_l1 : Nat) (l2 : Value) (l3 : Value) (w : Wd) (I : MI) (L : ML) (P : MP)  : go 146 103 [l0, .ref a_l1, l2, l3] [] w I L P = kC (call 140 [.ref a_l1] w I L P) (fun v w1 I1 L1 P1 => go 146 107 [l0, .ref a_l1, l2, l3] (v.toList ++ []) w1 I1 L1 P1) := by
  refine (go_aload_n (m := 146) (pc := 103) (k := 1) (by decide +kernel) rfl).trans ?_
  exact go_sta (m := 146) (pc := 104) (o := 8) (x := 167) (y := 140) (kd := 2) (as := [.ref a_l1]) (rs := []) (by decide +kernel) rfl rfl c_8_167 (Or.inl rfl) rfl rfl rfl (by decide +kernel) (by simp only [List.length_cons, List.length_nil]; decide) (Nat.le_of_ble_eq_true rfl)
theorem Law_law_107 (l0 : Value) (l1 : Value) (l2 : Value) (l3 : Value) (y0 : Int32) (w : Wd) (I : MI) (L : ML) (P : MP)  : go 146 107 [l0, l1, l2, l3] [.int y0] w I L P = if y0 = 0 then go 146 114 [l0, l1, l2, l3] [] w I L P else go 146 110 [l0, l1, l2, l3] [] w I L P := by
  exact go_ifeq (m := 146) (pc := 107) (off := 7) (t := 114) (by decide +kernel) (by decide)
theorem Law_law_110 (l0 : Value) (l1 : Value) (l2 : Value) (l3 : Value) (w : Wd) (I : MI) (L : ML) (P : MP)  : go 146 110 [l0, l1, l2, l3] [] w I L P = go 146 115 [l0, l1, l2, l3] [.int (nI 1)] w I L P := by
  refine (go_ic (m := 146) (pc := 110) (n := 1) (by decide +kernel) ic_1).trans ?_
  refine (go_goto (m := 146) (pc := 111) (off := 4) (t := 115) (by decide +kernel) (by decide)).trans ?_
  rfl
theorem Law_law_114 (l0 : Value) (l1 : Value) (l2 : Value) (l3 : Value) (w : Wd) (I : MI) (L : ML) (P : MP)  : go 146 114 [l0, l1, l2, l3] [] w I L P = go 146 115 [l0, l1, l2, l3] [.int (nI 0)] w I L P := by
  refine (go_ic (m := 146) (pc := 114) (n := 0) (by decide +kernel) ic_0).trans ?_
  rfl
theorem Law_law_115 (l0 : Value) (l1 : Value) (l2 : Value) (x_l3 : Int32) (y0 : Int32) (w : Wd) (I : MI) (L : ML) (P : MP)  : go 146 115 [l0, l1, l2, .int x_l3] [.int y0] w I L P = go 146 74 [l0, (fix1 l1), .int y0, .int (x_l3 + (nI 1))] [] w I L P := by
  refine (go_istore_n (m := 146) (pc := 115) (k := 2) (ls' := [l0, (fix1 l1), .int y0, .int x_l3]) (by decide +kernel) (by simp only [List.length_cons, List.length_nil]; decide) rfl).trans ?_
  refine (go_iinc (m := 146) (pc := 116) (k := 3) (n := 1) (x := x_l3) (v := x_l3 + (nI 1)) (ls' := [l0, (fix1 l1), .int y0, .int (x_l3 + (nI 1))]) (by decide +kernel) rfl (by rw [ic_1]) rfl).trans ?_
  refine (go_goto (m := 146) (pc := 119) (off := -45) (t := 74) (by decide +kernel) (by decide)).trans ?_
  rfl
theorem Law_law_122 (l0 : Value) (l1 : Value) (x_l2 : Int32) (l3 : Value) (w : Wd) (I : MI) (L : ML) (P : MP)  : go 146 122 [l0, l1, .int x_l2, l3] [] w I L P = if x_l2 = 0 then go 146 144 [l0, l1, .int x_l2, l3] [] w I L P else go 146 126 [l0, l1, .int x_l2, l3] [] w I L P := by
  refine (go_iload_n (m := 146) (pc := 122) (k := 2) (by decide +kernel) rfl).trans ?_
  exact go_ifeq (m := 146) (pc := 123) (off := 21) (t := 144) (by decide +kernel) (by decide)
theorem Law_law_126_0 (l0 : Value) (l2 : Value) (l3 : Value) (w : Wd) (I : MI) (L : ML) (P : MP)  : go 146 126 [l0, .null, l2, l3] [] w I L P = kC (call 140 [.null] w I L P) (fun v w1 I1 L1 P1 => go 146 130 [l0, .null, l2, l3] (v.toList ++ []) w1 I1 L1 P1) := by
  refine (go_aload_nN (m := 146) (pc := 126) (k := 1) (by decide +kernel) rfl).trans ?_
  exact go_sta (m := 146) (pc := 127) (o := 8) (x := 167) (y := 140) (kd := 2) (as := [.null]) (rs := []) (by decide +kernel) rfl rfl c_8_167 (Or.inl rfl) rfl rfl rfl (by decide +kernel) (by simp only [List.length_cons, List.length_nil]; decide) (Nat.le_of_ble_eq_true rfl)
theorem Law_law_126_1 (l0 : Value) (a_l1 : Nat) (l2 : Value) (l3 : Value) (w : Wd) (I : MI) (L : ML) (P : MP)  : go 146 126 [l0, .ref a_l1, l2, l3] [] w I L P = kC (call 140 [.ref a_l1] w I L P) (fun v w1 I1 L1 P1 => go 146 130 [l0, .ref a_l1, l2, l3] (v.toList ++ []) w1 I1 L1 P1) := by
  refine (go_aload_n (m := 146) (pc := 126) (k := 1) (by decide +kernel) rfl).trans ?_
  exact go_sta (m := 146) (pc := 127) (o := 8) (x := 167) (y := 140) (kd := 2) (as := [.ref a_l1]) (rs := []) (by decide +kernel) rfl rfl c_8_167 (Or.inl rfl) rfl rfl rfl (by decide +kernel) (by simp only [List.length_cons, List.length_nil]; decide) (Nat.le_of_ble_eq_true rfl)
theorem Law_law_130 (l0 : Value) (l1 : Value) (l2 : Value) (l3 : Value) (y0 : Int32) (w : Wd) (I : MI) (L : ML) (P : MP)  : go 146 130 [l0, l1, l2, l3] [.int y0] w I L P = if y0 = 0 then go 146 144 [l0, l1, l2, l3] [] w I L P else go 146 133 [l0, l1, l2, l3] [] w I L P := by
  exact go_ifeq (m := 146) (pc := 130) (off := 14) (t := 144) (by decide +kernel) (by decide)
theorem Law_law_133_0 (l0 : Value) (l2 : Value) (l3 : Value) (w : Wd) (I : MI) (L : ML) (P : MP)  : go 146 133 [l0, .null, l2, l3] [] w I L P = kC (call 144 [.null] w I L P) (fun v w1 I1 L1 P1 => go 146 137 [l0, .null, l2, l3] (v.toList ++ []) w1 I1 L1 P1) := by
  refine (go_aload_nN (m := 146) (pc := 133) (k := 1) (by decide +kernel) rfl).trans ?_
  exact go_sta (m := 146) (pc := 134) (o := 8) (x := 178) (y := 144) (kd := 2) (as := [.null]) (rs := []) (by decide +kernel) rfl rfl c_8_178 (Or.inl rfl) rfl rfl rfl (by decide +kernel) (by simp only [List.length_cons, List.length_nil]; decide) (Nat.le_of_ble_eq_true rfl)
theorem Law_law_133_1 (l0 : Value) (a_l1 : Nat) (l2 : Value) (l3 : Value) (w : Wd) (I : MI) (L : ML) (P : MP)  : go 146 133 [l0, .ref a_l1, l2, l3] [] w I L P = kC (call 144 [.ref a_l1] w I L P) (fun v w1 I1 L1 P1 => go 146 137 [l0, .ref a_l1, l2, l3] (v.toList ++ []) w1 I1 L1 P1) := by
  refine (go_aload_n (m := 146) (pc := 133) (k := 1) (by decide +kernel) rfl).trans ?_
  exact go_sta (m := 146) (pc := 134) (o := 8) (x := 178) (y := 144) (kd := 2) (as := [.ref a_l1]) (rs := []) (by decide +kernel) rfl rfl c_8_178 (Or.inl rfl) rfl rfl rfl (by decide +kernel) (by simp only [List.length_cons, List.length_nil]; decide) (Nat.le_of_ble_eq_true rfl)
theorem Law_law_137 (l0 : Value) (l1 : Value) (l2 : Value) (l3 : Value) (y0 : Int32) (w : Wd) (I : MI) (L : ML) (P : MP)  : go 146 137 [l0, l1, l2, l3] [.int y0] w I L P = if y0 = 0 then go 146 144 [l0, l1, l2, l3] [] w I L P else go 146 140 [l0, l1, l2, l3] [] w I L P := by
  exact go_ifeq (m := 146) (pc := 137) (off := 7) (t := 144) (by decide +kernel) (by decide)
theorem Law_law_140 (l0 : Value) (l1 : Value) (l2 : Value) (l3 : Value) (w : Wd) (I : MI) (L : ML) (P : MP)  : go 146 140 [l0, l1, l2, l3] [] w I L P = go 146 145 [l0, l1, l2, l3] [.int (nI 1)] w I L P := by
  refine (go_ic (m := 146) (pc := 140) (n := 1) (by decide +kernel) ic_1).trans ?_
  refine (go_goto (m := 146) (pc := 141) (off := 4) (t := 145) (by decide +kernel) (by decide)).trans ?_
  rfl
theorem Law_law_144 (l0 : Value) (l1 : Value) (l2 : Value) (l3 : Value) (w : Wd) (I : MI) (L : ML) (P : MP)  : go 146 144 [l0, l1, l2, l3] [] w I L P = go 146 145 [l0, l1, l2, l3] [.int (nI 0)] w I L P := by
  refine (go_ic (m := 146) (pc := 144) (n := 0) (by decide +kernel) ic_0).trans ?_
  rfl
theorem Law_law_145 (l0 : Value) (l1 : Value) (l2 : Value) (l3 : Value) (y0 : Int32) (w : Wd) (I : MI) (L : ML) (P : MP) (h0 : y0 &&& 1 = y0) : go 146 145 [l0, l1, l2, l3] [.int y0] w I L P = some (.inl (some (.int y0)), w, I, L, P) := by
  exact go_retZ (m := 146) (pc := 145) (by decide +kernel) rfl h0
theorem Law_law_E (p0 : Nat) (w : Wd) (I : MI) (L : ML) (P : MP) : call 146 [.ref p0] w I L P = go 146 0 [.ref p0, unk, unk, unk] [] w I L P := rfl
theorem Law_law_E1  (w : Wd) (I : MI) (L : ML) (P : MP) : call 146 [.null] w I L P = go 146 0 [.null, unk, unk, unk] [] w I L P := rfl
