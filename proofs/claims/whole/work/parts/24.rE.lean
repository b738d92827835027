theorem Model_init_0 (a_l0 : Nat) (T : Nat → Option (Nat × Nat)) (q0 kc ks : Nat) (I : MI) (L : ML) (P : MP) (h0 : ¬ (nI 459) < 0 ∧ Int32.toNatClampNeg (nI 459) ≤ 65536) (h1 : (tagU T q0 8 (Int32.toNatClampNeg (nI 459))) a_l0 = some (7, 0)) (h2 : ¬ (nI 1836) < 0 ∧ Int32.toNatClampNeg (nI 1836) ≤ 65536) (h3 : (tagU (tagU T q0 8 (Int32.toNatClampNeg (nI 459))) (q0 + 1) 8 (Int32.toNatClampNeg (nI 1836))) a_l0 = some (7, 0)) (h4 : (tagU (tagU (tagU T q0 8 (Int32.toNatClampNeg (nI 459))) (q0 + 1) 8 (Int32.toNatClampNeg (nI 1836))) ((q0 + 1) + 1) 8 (Int32.toNatClampNeg (nI 459))) a_l0 = some (7, 0)) (h5 : ¬ (nI 100) < 0 ∧ Int32.toNatClampNeg (nI 100) ≤ 65536) (h6 : (tagU (tagU (tagU (tagU T q0 8 (Int32.toNatClampNeg (nI 459))) (q0 + 1) 8 (Int32.toNatClampNeg (nI 1836))) ((q0 + 1) + 1) 8 (Int32.toNatClampNeg (nI 459))) (((q0 + 1) + 1) + 1) 8 (Int32.toNatClampNeg (nI 100))) a_l0 = some (7, 0)) : go 120 0 [.ref a_l0] [] (T, some q0, kc, ks) I L P = kC (call 125 [.ref a_l0, .int (nI 2)] ((tagU (tagU (tagU (tagU T q0 8 (Int32.toNatClampNeg (nI 459))) (q0 + 1) 8 (Int32.toNatClampNeg (nI 1836))) ((q0 + 1) + 1) 8 (Int32.toNatClampNeg (nI 459))) (((q0 + 1) + 1) + 1) 8 (Int32.toNatClampNeg (nI 100))), some ((((q0 + 1) + 1) + 1) + 1), ((((kc + 1) + 1) + 1) + 1), ((((ks + Int32.toNatClampNeg (nI 459)) + Int32.toNatClampNeg (nI 1836)) + Int32.toNatClampNeg (nI 459)) + Int32.toNatClampNeg (nI 100))) (rowI (rowI (rowI (rowI I q0) (q0 + 1)) ((q0 + 1) + 1)) (((q0 + 1) + 1) + 1)) L (updP (updP (updP (updP P a_l0 0 (some q0)) a_l0 1 (some (q0 + 1))) a_l0 3 (some ((q0 + 1) + 1))) a_l0 4 (some (((q0 + 1) + 1) + 1)))) (fun v w1 I1 L1 P1 => go 120 44 [.ref a_l0] (v.toList ++ []) w1 I1 L1 P1) := by
  refine (go_aload_n (m := 120) (pc := 0) (k := 0) (by decide +kernel) rfl).trans ?_
  refine (go_obj (m := 120) (pc := 1) (o := 7) (x := 1) (y := 999) (by decide +kernel) rfl (by decide +kernel) (by decide +kernel)).trans ?_
  refine (go_aload_n (m := 120) (pc := 4) (k := 0) (by decide +kernel) rfl).trans ?_
  refine (go_si (m := 120) (pc := 5) (n := 459) (by decide +kernel) si_459).trans ?_
  refine (go_newI (m := 120) (pc := 8) (by decide +kernel) h0).trans ?_
  refine (go_putR (m := 120) (pc := 10) (o := 7) (x := 7) (ci := 7) (k := 0) (by decide +kernel) rfl f_7_7 rfl (by decide +kernel) h1).trans ?_
  refine (go_aload_n (m := 120) (pc := 13) (k := 0) (by decide +kernel) rfl).trans ?_
  refine (go_si (m := 120) (pc := 14) (n := 1836) (by decide +kernel) si_1836).trans ?_
  refine (go_newI (m := 120) (pc := 17) (by decide +kernel) h2).trans ?_
  refine (go_putR (m := 120) (pc := 19) (o := 7) (x := 13) (ci := 7) (k := 1) (by decide +kernel) rfl f_7_13 rfl (by decide +kernel) h3).trans ?_
  refine (go_aload_n (m := 120) (pc := 22) (k := 0) (by decide +kernel) rfl).trans ?_
  refine (go_si (m := 120) (pc := 23) (n := 459) (by decide +kernel) si_459).trans ?_
  refine (go_newI (m := 120) (pc := 26) (by decide +kernel) h0).trans ?_
  refine (go_putR (m := 120) (pc := 28) (o := 7) (x := 16) (ci := 7) (k := 3) (by decide +kernel) rfl f_7_16 rfl (by decide +kernel) h4).trans ?_
  refine (go_aload_n (m := 120) (pc := 31) (k := 0) (by decide +kernel) rfl).trans ?_
  refine (go_bi (m := 120) (pc := 32) (n := 100) (by decide +kernel) bi_100).trans ?_
  refine (go_newI (m := 120) (pc := 34) (by decide +kernel) h5).trans ?_
  refine (go_putR (m := 120) (pc := 36) (o := 7) (x := 19) (ci := 7) (k := 4) (by decide +kernel) rfl f_7_19 rfl (by decide +kernel) h6).trans ?_
  refine (go_aload_n (m := 120) (pc := 39) (k := 0) (by decide +kernel) rfl).trans ?_
  refine (go_ic (m := 120) (pc := 40) (n := 2) (by decide +kernel) ic_2).trans ?_
  exact go_vir (m := 120) (pc := 41) (o := 7) (x := 22) (y := 125) (kd := 0) (b := a_l0) (bs := [.int (nI 2)]) (rs := []) (by decide +kernel) rfl rfl c_7_22 (Or.inl rfl) rfl rfl rfl (by decide +kernel) (by simp only [List.length_cons, List.length_nil]; decide) (Nat.le_of_ble_eq_true rfl) h6
theorem Model_init_44 (l0 : Value) (w : Wd) (I : MI) (L : ML) (P : MP)  : go 120 44 [l0] [] w I L P = some (.inl none, w, I, L, P) := by
  exact go_retV (m := 120) (pc := 44) (by decide +kernel) rfl
theorem Model_init_E (this : Nat) (w : Wd) (I : MI) (L : ML) (P : MP) : call 120 [.ref this] w I L P = go 120 0 [.ref this] [] w I L P := rfl
theorem Model_thrown_0 (a_l0 : Nat) (w : Wd) (I : MI) (L : ML) (P : MP) (h0 : w.1 a_l0 = some (7, 0)) : go 121 0 [.ref a_l0] [] w I L P = some (.inl (some (.int (I a_l0 6))), w, I, L, P) := by
  refine (go_aload_n (m := 121) (pc := 0) (k := 0) (by decide +kernel) rfl).trans ?_
  refine (go_getI (m := 121) (pc := 1) (o := 7) (x := 26) (ci := 7) (k := 6) (by decide +kernel) rfl f_7_26 rfl h0).trans ?_
  exact go_retI (m := 121) (pc := 4) (by decide +kernel) rfl
theorem Model_thrown_E (this : Nat) (w : Wd) (I : MI) (L : ML) (P : MP) : call 121 [.ref this] w I L P = go 121 0 [.ref this] [] w I L P := rfl
theorem Model_fails_0 (a_l0 : Nat) (x_l1 : Int32) (w : Wd) (I : MI) (L : ML) (P : MP) (h0 : w.1 a_l0 = some (7, 0)) : go 122 0 [.ref a_l0, .int x_l1] [] w I L P = some (.inl (some (.int (nI 0))), w, (updI I a_l0 6 x_l1), L, P) := by
  refine (go_aload_n (m := 122) (pc := 0) (k := 0) (by decide +kernel) rfl).trans ?_
  refine (go_iload_n (m := 122) (pc := 1) (k := 1) (by decide +kernel) rfl).trans ?_
  refine (go_putI (m := 122) (pc := 2) (o := 7) (x := 26) (ci := 7) (k := 6) (by decide +kernel) rfl f_7_26 rfl (by decide +kernel) h0).trans ?_
  refine (go_ic (m := 122) (pc := 5) (n := 0) (by decide +kernel) ic_0).trans ?_
  exact go_retI (m := 122) (pc := 6) (by decide +kernel) rfl
theorem Model_fails_E (this : Nat) (p0 : Int32) (w : Wd) (I : MI) (L : ML) (P : MP) : call 122 [.ref this, .int p0] w I L P = go 122 0 [.ref this, .int p0] [] w I L P := rfl
theorem Model_well_0 (a_l0 : Nat) (x_l1 : Int32) (w : Wd) (I : MI) (L : ML) (P : MP) (h0 : w.1 a_l0 = some (7, 0)) : go 123 0 [.ref a_l0, .int x_l1] [] w I L P = some (.inl (some (.int x_l1)), w, (updI I a_l0 6 (nI 0)), L, P) := by
  refine (go_aload_n (m := 123) (pc := 0) (k := 0) (by decide +kernel) rfl).trans ?_
  refine (go_ic (m := 123) (pc := 1) (n := 0) (by decide +kernel) ic_0).trans ?_
  refine (go_putI (m := 123) (pc := 2) (o := 7) (x := 26) (ci := 7) (k := 6) (by decide +kernel) rfl f_7_26 rfl (by decide +kernel) h0).trans ?_
  refine (go_iload_n (m := 123) (pc := 5) (k := 1) (by decide +kernel) rfl).trans ?_
  exact go_retI (m := 123) (pc := 6) (by decide +kernel) rfl
theorem Model_well_E (this : Nat) (p0 : Int32) (w : Wd) (I : MI) (L : ML) (P : MP) : call 123 [.ref this, .int p0] w I L P = go 123 0 [.ref this, .int p0] [] w I L P := rfl
theorem Model_in_0 (x_l0 : Int64) (l1 : Value) (x_l2 : Int64) (l3 : Value) (l4 : Value) (l5 : Value) (w : Wd) (I : MI) (L : ML) (P : MP)  : go 124 0 [.long x_l0, l1, .long x_l2, l3, l4, l5] [] w I L P = if (lg_cmp x_l0 x_l2) < 0 then go 124 17 [.long x_l0, l1, .long x_l2, l3, l4, l5] [] w I L P else go 124 6 [.long x_l0, l1, .long x_l2, l3, l4, l5] [] w I L P := by
  refine (go_lload_n (m := 124) (pc := 0) (k := 0) (by decide +kernel) rfl).trans ?_
  refine (go_lload_n (m := 124) (pc := 1) (k := 2) (by decide +kernel) rfl).trans ?_
  refine (go_lcmp (m := 124) (pc := 2) (by decide +kernel)).trans ?_
  exact go_iflt (m := 124) (pc := 3) (off := 14) (t := 17) (by decide +kernel) (by decide)
theorem Model_in_6 (x_l0 : Int64) (l1 : Value) (l2 : Value) (l3 : Value) (x_l4 : Int64) (l5 : Value) (w : Wd) (I : MI) (L : ML) (P : MP)  : go 124 6 [.long x_l0, l1, l2, l3, .long x_l4, l5] [] w I L P = if 0 < (lg_cmp x_l0 x_l4) then go 124 17 [.long x_l0, l1, l2, l3, .long x_l4, l5] [] w I L P else go 124 13 [.long x_l0, l1, l2, l3, .long x_l4, l5] [] w I L P := by
  refine (go_lload_n (m := 124) (pc := 6) (k := 0) (by decide +kernel) rfl).trans ?_
  refine (go_lload (m := 124) (pc := 7) (k := 4) (by decide +kernel) rfl).trans ?_
  refine (go_lcmp (m := 124) (pc := 9) (by decide +kernel)).trans ?_
  exact go_ifgt (m := 124) (pc := 10) (off := 7) (t := 17) (by decide +kernel) (by decide)
theorem Model_in_13 (l0 : Value) (l1 : Value) (l2 : Value) (l3 : Value) (l4 : Value) (l5 : Value) (w : Wd) (I : MI) (L : ML) (P : MP)  : go 124 13 [l0, l1, l2, l3, l4, l5] [] w I L P = go 124 18 [l0, l1, l2, l3, l4, l5] [.int (nI 1)] w I L P := by
  refine (go_ic (m := 124) (pc := 13) (n := 1) (by decide +kernel) ic_1).trans ?_
  refine (go_goto (m := 124) (pc := 14) (off := 4) (t := 18) (by decide +kernel) (by decide)).trans ?_
  rfl
theorem Model_in_17 (l0 : Value) (l1 : Value) (l2 : Value) (l3 : Value) (l4 : Value) (l5 : Value) (w : Wd) (I : MI) (L : ML) (P : MP)  : go 124 17 [l0, l1, l2, l3, l4, l5] [] w I L P = go 124 18 [l0, l1, l2, l3, l4, l5] [.int (nI 0)] w I L P := by
  refine (go_ic (m := 124) (pc := 17) (n := 0) (by decide +kernel) ic_0).trans ?_
  rfl
theorem Model_in_18 (l0 : Value) (l1 : Value) (l2 : Value) (l3 : Value) (l4 : Value) (l5 : Value) (y0 : Int32) (w : Wd) (I : MI) (L : ML) (P : MP) (h0 : y0 &&& 1 = y0) : go 124 18 [l0, l1, l2, l3, l4, l5] [.int y0] w I L P = some (.inl (some (.int y0)), w, I, L, P) := by
  exact go_retZ (m := 124) (pc := 18) (by decide +kernel) rfl h0
theorem Model_in_E (p0 : Int64) (p1 : Int64) (p2 : Int64) (w : Wd) (I : MI) (L : ML) (P : MP) : call 124 [.long p0, .long p1, .long p2] w I L P = go 124 0 [.long p0, unk, .long p1, unk, .long p2, unk] [] w I L P := rfl
theorem Model_fresh_0 (l0 : Value) (l1 : Value) (l2 : Value) (w : Wd) (I : MI) (L : ML) (P : MP)  : go 125 0 [l0, l1, l2] [] w I L P = go 125 2 [l0, (fix1 l1), .int (nI 0)] [] w I L P := by
  refine (go_ic (m := 125) (pc := 0) (n := 0) (by decide +kernel) ic_0).trans ?_
  refine (go_istore_n (m := 125) (pc := 1) (k := 2) (ls' := [l0, (fix1 l1), .int (nI 0)]) (by decide +kernel) (by simp only [List.length_cons, List.length_nil]; decide) rfl).trans ?_
  rfl
theorem Model_fresh_2 (l0 : Value) (l1 : Value) (x_l2 : Int32) (w : Wd) (I : MI) (L : ML) (P : MP)  : go 125 2 [l0, l1, .int x_l2] [] w I L P = if (nI 459) ≤ x_l2 then go 125 22 [l0, l1, .int x_l2] [] w I L P else go 125 9 [l0, l1, .int x_l2] [] w I L P := by
  refine (go_iload_n (m := 125) (pc := 2) (k := 2) (by decide +kernel) rfl).trans ?_
  refine (go_si (m := 125) (pc := 3) (n := 459) (by decide +kernel) si_459).trans ?_
  exact go_icmpge (m := 125) (pc := 6) (off := 16) (t := 22) (by decide +kernel) (by decide)
theorem Model_fresh_9 (a_l0 : Nat) (l1 : Value) (l2 : Value) (w : Wd) (I : MI) (L : ML) (P : MP) (h0 : w.1 a_l0 = some (7, 0)) : go 125 9 [.ref a_l0, l1, l2] [] w I L P = go 125 13 [.ref a_l0, l1, l2] [(va_rf (P a_l0 0))] w I L P := by
  refine (go_aload_n (m := 125) (pc := 9) (k := 0) (by decide +kernel) rfl).trans ?_
  refine (go_getR (m := 125) (pc := 10) (o := 7) (x := 7) (ci := 7) (k := 0) (by decide +kernel) rfl f_7_7 rfl h0).trans ?_
  rfl
theorem Model_fresh_13 (l0 : Value) (l1 : Value) (x_l2 : Int32) (a_s0 : Nat) (w : Wd) (I : MI) (L : ML) (P : MP) (h0 : inA w a_s0 8 x_l2) : go 125 13 [l0, l1, .int x_l2] [.ref a_s0] w I L P = go 125 2 [l0, (fix1 l1), .int (x_l2 + (nI 1))] [] w (updI I a_s0 (Int32.toNatClampNeg x_l2) (nI 0)) L P := by
  refine (go_iload_n (m := 125) (pc := 13) (k := 2) (by decide +kernel) rfl).trans ?_
  refine (go_ic (m := 125) (pc := 14) (n := 0) (by decide +kernel) ic_0).trans ?_
  refine (go_iast (m := 125) (pc := 15) (by decide +kernel) h0).trans ?_
  refine (go_iinc (m := 125) (pc := 16) (k := 2) (n := 1) (x := x_l2) (v := x_l2 + (nI 1)) (ls' := [l0, (fix1 l1), .int (x_l2 + (nI 1))]) (by decide +kernel) rfl (by rw [ic_1]) rfl).trans ?_
  refine (go_goto (m := 125) (pc := 19) (off := -17) (t := 2) (by decide +kernel) (by decide)).trans ?_
  rfl
theorem Model_fresh_22 (a_l0 : Nat) (l1 : Value) (l2 : Value) (w : Wd) (I : MI) (L : ML) (P : MP) (h0 : w.1 a_l0 = some (7, 0)) : go 125 22 [.ref a_l0, l1, l2] [] w I L P = go 125 26 [.ref a_l0, l1, l2] [(va_rf (P a_l0 0))] w I L P := by
  refine (go_aload_n (m := 125) (pc := 22) (k := 0) (by decide +kernel) rfl).trans ?_
  refine (go_getR (m := 125) (pc := 23) (o := 7) (x := 7) (ci := 7) (k := 0) (by decide +kernel) rfl f_7_7 rfl h0).trans ?_
  rfl
theorem Model_fresh_26 (a_l0 : Nat) (x_l1 : Int32) (l2 : Value) (a_s0 : Nat) (w : Wd) (I : MI) (L : ML) (P : MP) (h0 : inA w a_s0 8 (nI 1)) (h1 : w.1 a_l0 = some (7, 0)) : go 125 26 [.ref a_l0, .int x_l1, l2] [.ref a_s0] w I L P = go 125 33 [.ref a_l0, .int x_l1, l2] [(va_rf (P a_l0 0))] w (updI I a_s0 (Int32.toNatClampNeg (nI 1)) x_l1) L P := by
  refine (go_ic (m := 125) (pc := 26) (n := 1) (by decide +kernel) ic_1).trans ?_
  refine (go_iload_n (m := 125) (pc := 27) (k := 1) (by decide +kernel) rfl).trans ?_
  refine (go_iast (m := 125) (pc := 28) (by decide +kernel) h0).trans ?_
  refine (go_aload_n (m := 125) (pc := 29) (k := 0) (by decide +kernel) rfl).trans ?_
  refine (go_getR (m := 125) (pc := 30) (o := 7) (x := 7) (ci := 7) (k := 0) (by decide +kernel) rfl f_7_7 rfl h1).trans ?_
  rfl
theorem Model_fresh_33 (a_l0 : Nat) (l1 : Value) (l2 : Value) (a_s0 : Nat) (w : Wd) (I : MI) (L : ML) (P : MP) (h0 : inA w a_s0 8 (nI 3)) (h1 : w.1 a_l0 = some (7, 0)) : go 125 33 [.ref a_l0, l1, l2] [.ref a_s0] w I L P = go 125 40 [.ref a_l0, l1, l2] [(va_rf (P a_l0 0))] w (updI I a_s0 (Int32.toNatClampNeg (nI 3)) (nI 4)) L P := by
  refine (go_ic (m := 125) (pc := 33) (n := 3) (by decide +kernel) ic_3).trans ?_
  refine (go_ic (m := 125) (pc := 34) (n := 4) (by decide +kernel) ic_4).trans ?_
  refine (go_iast (m := 125) (pc := 35) (by decide +kernel) h0).trans ?_
  refine (go_aload_n (m := 125) (pc := 36) (k := 0) (by decide +kernel) rfl).trans ?_
  refine (go_getR (m := 125) (pc := 37) (o := 7) (x := 7) (ci := 7) (k := 0) (by decide +kernel) rfl f_7_7 rfl h1).trans ?_
  rfl
theorem Model_fresh_40 (a_l0 : Nat) (l1 : Value) (l2 : Value) (a_s0 : Nat) (w : Wd) (I : MI) (L : ML) (P : MP) (h0 : inA w a_s0 8 (nI 8)) (h1 : w.1 a_l0 = some (7, 0)) : go 125 40 [.ref a_l0, l1, l2] [.ref a_s0] w I L P = go 125 48 [.ref a_l0, l1, l2] [(va_rf (P a_l0 0))] w (updI I a_s0 (Int32.toNatClampNeg (nI 8)) (-1)) L P := by
  refine (go_bi (m := 125) (pc := 40) (n := 8) (by decide +kernel) bi_8).trans ?_
  refine (go_ic (m := 125) (pc := 42) (n := -1) (by decide +kernel) ic_m1).trans ?_
  refine (go_iast (m := 125) (pc := 43) (by decide +kernel) h0).trans ?_
  refine (go_aload_n (m := 125) (pc := 44) (k := 0) (by decide +kernel) rfl).trans ?_
  refine (go_getR (m := 125) (pc := 45) (o := 7) (x := 7) (ci := 7) (k := 0) (by decide +kernel) rfl f_7_7 rfl h1).trans ?_
  rfl
theorem Model_fresh_48 (l0 : Value) (l1 : Value) (l2 : Value) (a_s0 : Nat) (w : Wd) (I : MI) (L : ML) (P : MP) (h0 : inA w a_s0 8 (nI 12)) : go 125 48 [l0, l1, l2] [.ref a_s0] w I L P = go 125 54 [l0, (fix1 l1), .int (nI 0)] [] w (updI I a_s0 (Int32.toNatClampNeg (nI 12)) (nI 1)) L P := by
  refine (go_bi (m := 125) (pc := 48) (n := 12) (by decide +kernel) bi_12).trans ?_
  refine (go_ic (m := 125) (pc := 50) (n := 1) (by decide +kernel) ic_1).trans ?_
  refine (go_iast (m := 125) (pc := 51) (by decide +kernel) h0).trans ?_
  refine (go_ic (m := 125) (pc := 52) (n := 0) (by decide +kernel) ic_0).trans ?_
  refine (go_istore_n (m := 125) (pc := 53) (k := 2) (ls' := [l0, (fix1 l1), .int (nI 0)]) (by decide +kernel) (by simp only [List.length_cons, List.length_nil]; decide) rfl).trans ?_
  rfl
theorem Model_fresh_54 (l0 : Value) (l1 : Value) (x_l2 : Int32) (w : Wd) (I : MI) (L : ML) (P : MP)  : go 125 54 [l0, l1, .int x_l2] [] w I L P = if (nI 3) ≤ x_l2 then go 125 82 [l0, l1, .int x_l2] [] w I L P else go 125 59 [l0, l1, .int x_l2] [] w I L P := by
  refine (go_iload_n (m := 125) (pc := 54) (k := 2) (by decide +kernel) rfl).trans ?_
  refine (go_ic (m := 125) (pc := 55) (n := 3) (by decide +kernel) ic_3).trans ?_
  exact go_icmpge (m := 125) (pc := 56) (off := 26) (t := 82) (by decide +kernel) (by decide)
theorem Model_fresh_59 (a_l0 : Nat) (l1 : Value) (l2 : Value) (w : Wd) (I : MI) (L : ML) (P : MP) (h0 : w.1 a_l0 = some (7, 0)) : go 125 59 [.ref a_l0, l1, l2] [] w I L P = go 125 63 [.ref a_l0, l1, l2] [(va_rf (P a_l0 0))] w I L P := by
  refine (go_aload_n (m := 125) (pc := 59) (k := 0) (by decide +kernel) rfl).trans ?_
  refine (go_getR (m := 125) (pc := 60) (o := 7) (x := 7) (ci := 7) (k := 0) (by decide +kernel) rfl f_7_7 rfl h0).trans ?_
  rfl
theorem Model_fresh_63 (l0 : Value) (l1 : Value) (x_l2 : Int32) (a_s0 : Nat) (w : Wd) (I : MI) (L : ML) (P : MP) (h0 : inA w a_s0 8 (((nI 207) + ((nI 40) * x_l2)) + (nI 7))) : go 125 63 [l0, l1, .int x_l2] [.ref a_s0] w I L P = go 125 54 [l0, (fix1 l1), .int (x_l2 + (nI 1))] [] w (updI I a_s0 (Int32.toNatClampNeg (((nI 207) + ((nI 40) * x_l2)) + (nI 7))) (-1)) L P := by
  refine (go_si (m := 125) (pc := 63) (n := 207) (by decide +kernel) si_207).trans ?_
  refine (go_bi (m := 125) (pc := 66) (n := 40) (by decide +kernel) bi_40).trans ?_
  refine (go_iload_n (m := 125) (pc := 68) (k := 2) (by decide +kernel) rfl).trans ?_
  refine (go_imul (m := 125) (pc := 69) (by decide +kernel)).trans ?_
  refine (go_iadd (m := 125) (pc := 70) (by decide +kernel)).trans ?_
  refine (go_bi (m := 125) (pc := 71) (n := 7) (by decide +kernel) bi_7).trans ?_
  refine (go_iadd (m := 125) (pc := 73) (by decide +kernel)).trans ?_
  refine (go_ic (m := 125) (pc := 74) (n := -1) (by decide +kernel) ic_m1).trans ?_
  refine (go_iast (m := 125) (pc := 75) (by decide +kernel) h0).trans ?_
  refine (go_iinc (m := 125) (pc := 76) (k := 2) (n := 1) (x := x_l2) (v := x_l2 + (nI 1)) (ls' := [l0, (fix1 l1), .int (x_l2 + (nI 1))]) (by decide +kernel) rfl (by rw [ic_1]) rfl).trans ?_
  refine (go_goto (m := 125) (pc := 79) (off := -25) (t := 54) (by decide +kernel) (by decide)).trans ?_
  rfl
theorem Model_fresh_82 (l0 : Value) (l1 : Value) (l2 : Value) (w : Wd) (I : MI) (L : ML) (P : MP)  : go 125 82 [l0, l1, l2] [] w I L P = some (.inl none, w, I, L, P) := by
  exact go_retV (m := 125) (pc := 82) (by decide +kernel) rfl
theorem Model_fresh_E (this : Nat) (p0 : Int32) (w : Wd) (I : MI) (L : ML) (P : MP) : call 125 [.ref this, .int p0] w I L P = go 125 0 [.ref this, .int p0, unk] [] w I L P := rfl
theorem Model_of_0 (a_l0 : Nat) (l1 : Value) (l2 : Value) (w : Wd) (I : MI) (L : ML) (P : MP) (h0 : w.1 a_l0 = some (7, 0)) : go 126 0 [.ref a_l0, l1, l2] [] w I L P = go 126 4 [.ref a_l0, l1, l2] [(va_rf (P a_l0 0))] w I L P := by
  refine (go_aload_n (m := 126) (pc := 0) (k := 0) (by decide +kernel) rfl).trans ?_
  refine (go_getR (m := 126) (pc := 1) (o := 7) (x := 7) (ci := 7) (k := 0) (by decide +kernel) rfl f_7_7 rfl h0).trans ?_
  rfl
theorem Model_of_4 (l0 : Value) (x_l1 : Int32) (x_l2 : Int32) (a_s0 : Nat) (w : Wd) (I : MI) (L : ML) (P : MP) (h0 : inA w a_s0 8 (((nI 207) + ((nI 40) * x_l1)) + x_l2)) : go 126 4 [l0, .int x_l1, .int x_l2] [.ref a_s0] w I L P = some (.inl (some (.int (I a_s0 (Int32.toNatClampNeg (((nI 207) + ((nI 40) * x_l1)) + x_l2))))), w, I, L, P) := by
  refine (go_si (m := 126) (pc := 4) (n := 207) (by decide +kernel) si_207).trans ?_
  refine (go_bi (m := 126) (pc := 7) (n := 40) (by decide +kernel) bi_40).trans ?_
  refine (go_iload_n (m := 126) (pc := 9) (k := 1) (by decide +kernel) rfl).trans ?_
  refine (go_imul (m := 126) (pc := 10) (by decide +kernel)).trans ?_
  refine (go_iadd (m := 126) (pc := 11) (by decide +kernel)).trans ?_
  refine (go_iload_n (m := 126) (pc := 12) (k := 2) (by decide +kernel) rfl).trans ?_
  refine (go_iadd (m := 126) (pc := 13) (by decide +kernel)).trans ?_
  refine (go_iald (m := 126) (pc := 14) (by decide +kernel) h0).trans ?_
  exact go_retI (m := 126) (pc := 15) (by decide +kernel) rfl
theorem Model_of_E (this : Nat) (p0 : Int32) (p1 : Int32) (w : Wd) (I : MI) (L : ML) (P : MP) : call 126 [.ref this, .int p0, .int p1] w I L P = go 126 0 [.ref this, .int p0, .int p1] [] w I L P := rfl
theorem Model_adds_0 (a_l0 : Nat) (l1 : Value) (l2 : Value) (l3 : Value) (w : Wd) (I : MI) (L : ML) (P : MP) (h0 : w.1 a_l0 = some (7, 0)) : go 127 0 [.ref a_l0, l1, l2, l3] [] w I L P = go 127 4 [.ref a_l0, l1, l2, l3] [(va_rf (P a_l0 0))] w I L P := by
  refine (go_aload_n (m := 127) (pc := 0) (k := 0) (by decide +kernel) rfl).trans ?_
  refine (go_getR (m := 127) (pc := 1) (o := 7) (x := 7) (ci := 7) (k := 0) (by decide +kernel) rfl f_7_7 rfl h0).trans ?_
  rfl
theorem Model_adds_4 (l0 : Value) (x_l1 : Int32) (x_l2 : Int32) (x_l3 : Int32) (a_s0 : Nat) (w : Wd) (I : MI) (L : ML) (P : MP) (h0 : inA w a_s0 8 (((nI 207) + ((nI 40) * x_l1)) + x_l2)) : go 127 4 [l0, .int x_l1, .int x_l2, .int x_l3] [.ref a_s0] w I L P = some (.inl none, w, (updI I a_s0 (Int32.toNatClampNeg (((nI 207) + ((nI 40) * x_l1)) + x_l2)) ((I a_s0 (Int32.toNatClampNeg (((nI 207) + ((nI 40) * x_l1)) + x_l2))) + x_l3)), L, P) := by
  refine (go_si (m := 127) (pc := 4) (n := 207) (by decide +kernel) si_207).trans ?_
  refine (go_bi (m := 127) (pc := 7) (n := 40) (by decide +kernel) bi_40).trans ?_
  refine (go_iload_n (m := 127) (pc := 9) (k := 1) (by decide +kernel) rfl).trans ?_
  refine (go_imul (m := 127) (pc := 10) (by decide +kernel)).trans ?_
  refine (go_iadd (m := 127) (pc := 11) (by decide +kernel)).trans ?_
  refine (go_iload_n (m := 127) (pc := 12) (k := 2) (by decide +kernel) rfl).trans ?_
  refine (go_iadd (m := 127) (pc := 13) (by decide +kernel)).trans ?_
  refine (go_dup2 (m := 127) (pc := 14) (by decide +kernel) rfl rfl).trans ?_
  refine (go_iald (m := 127) (pc := 15) (by decide +kernel) h0).trans ?_
  refine (go_iload_n (m := 127) (pc := 16) (k := 3) (by decide +kernel) rfl).trans ?_
  refine (go_iadd (m := 127) (pc := 17) (by decide +kernel)).trans ?_
  refine (go_iast (m := 127) (pc := 18) (by decide +kernel) h0).trans ?_
  exact go_retV (m := 127) (pc := 19) (by decide +kernel) rfl
theorem Model_adds_E (this : Nat) (p0 : Int32) (p1 : Int32) (p2 : Int32) (w : Wd) (I : MI) (L : ML) (P : MP) : call 127 [.ref this, .int p0, .int p1, .int p2] w I L P = go 127 0 [.ref this, .int p0, .int p1, .int p2] [] w I L P := rfl
theorem Model_told_0 (a_l0 : Nat) (l1 : Value) (l2 : Value) (l3 : Value) (w : Wd) (I : MI) (L : ML) (P : MP) (h0 : w.1 a_l0 = some (7, 0)) : go 128 0 [.ref a_l0, l1, l2, l3] [] w I L P = go 128 4 [.ref a_l0, l1, l2, l3] [(va_rf (P a_l0 0))] w I L P := by
  refine (go_aload_n (m := 128) (pc := 0) (k := 0) (by decide +kernel) rfl).trans ?_
  refine (go_getR (m := 128) (pc := 1) (o := 7) (x := 7) (ci := 7) (k := 0) (by decide +kernel) rfl f_7_7 rfl h0).trans ?_
  rfl
theorem Model_told_4 (l0 : Value) (x_l1 : Int32) (x_l2 : Int32) (x_l3 : Int32) (a_s0 : Nat) (w : Wd) (I : MI) (L : ML) (P : MP) (h0 : inA w a_s0 8 (((((nI 207) + ((nI 40) * x_l1)) + (nI 8)) + ((nI 8) * x_l2)) + x_l3)) : go 128 4 [l0, .int x_l1, .int x_l2, .int x_l3] [.ref a_s0] w I L P = some (.inl (some (.int (I a_s0 (Int32.toNatClampNeg (((((nI 207) + ((nI 40) * x_l1)) + (nI 8)) + ((nI 8) * x_l2)) + x_l3))))), w, I, L, P) := by
  refine (go_si (m := 128) (pc := 4) (n := 207) (by decide +kernel) si_207).trans ?_
  refine (go_bi (m := 128) (pc := 7) (n := 40) (by decide +kernel) bi_40).trans ?_
  refine (go_iload_n (m := 128) (pc := 9) (k := 1) (by decide +kernel) rfl).trans ?_
  refine (go_imul (m := 128) (pc := 10) (by decide +kernel)).trans ?_
  refine (go_iadd (m := 128) (pc := 11) (by decide +kernel)).trans ?_
  refine (go_bi (m := 128) (pc := 12) (n := 8) (by decide +kernel) bi_8).trans ?_
  refine (go_iadd (m := 128) (pc := 14) (by decide +kernel)).trans ?_
  refine (go_bi (m := 128) (pc := 15) (n := 8) (by decide +kernel) bi_8).trans ?_
  refine (go_iload_n (m := 128) (pc := 17) (k := 2) (by decide +kernel) rfl).trans ?_
  refine (go_imul (m := 128) (pc := 18) (by decide +kernel)).trans ?_
  refine (go_iadd (m := 128) (pc := 19) (by decide +kernel)).trans ?_
  refine (go_iload_n (m := 128) (pc := 20) (k := 3) (by decide +kernel) rfl).trans ?_
  refine (go_iadd (m := 128) (pc := 21) (by decide +kernel)).trans ?_
  refine (go_iald (m := 128) (pc := 22) (by decide +kernel) h0).trans ?_
  exact go_retI (m := 128) (pc := 23) (by decide +kernel) rfl
theorem Model_told_E (this : Nat) (p0 : Int32) (p1 : Int32) (p2 : Int32) (w : Wd) (I : MI) (L : ML) (P : MP) : call 128 [.ref this, .int p0, .int p1, .int p2] w I L P = go 128 0 [.ref this, .int p0, .int p1, .int p2] [] w I L P := rfl
theorem Model_part_0 (a_l0 : Nat) (l1 : Value) (l2 : Value) (w : Wd) (I : MI) (L : ML) (P : MP) (h0 : w.1 a_l0 = some (7, 0)) : go 129 0 [.ref a_l0, l1, l2] [] w I L P = go 129 4 [.ref a_l0, l1, l2] [(va_rf (P a_l0 0))] w I L P := by
  refine (go_aload_n (m := 129) (pc := 0) (k := 0) (by decide +kernel) rfl).trans ?_
  refine (go_getR (m := 129) (pc := 1) (o := 7) (x := 7) (ci := 7) (k := 0) (by decide +kernel) rfl f_7_7 rfl h0).trans ?_
  rfl
theorem Model_part_4 (l0 : Value) (x_l1 : Int32) (x_l2 : Int32) (a_s0 : Nat) (w : Wd) (I : MI) (L : ML) (P : MP) (h0 : inA w a_s0 8 (((nI 327) + ((nI 22) * x_l1)) + x_l2)) : go 129 4 [l0, .int x_l1, .int x_l2] [.ref a_s0] w I L P = some (.inl (some (.int (I a_s0 (Int32.toNatClampNeg (((nI 327) + ((nI 22) * x_l1)) + x_l2))))), w, I, L, P) := by
  refine (go_si (m := 129) (pc := 4) (n := 327) (by decide +kernel) si_327).trans ?_
  refine (go_bi (m := 129) (pc := 7) (n := 22) (by decide +kernel) bi_22).trans ?_
  refine (go_iload_n (m := 129) (pc := 9) (k := 1) (by decide +kernel) rfl).trans ?_
  refine (go_imul (m := 129) (pc := 10) (by decide +kernel)).trans ?_
  refine (go_iadd (m := 129) (pc := 11) (by decide +kernel)).trans ?_
  refine (go_iload_n (m := 129) (pc := 12) (k := 2) (by decide +kernel) rfl).trans ?_
  refine (go_iadd (m := 129) (pc := 13) (by decide +kernel)).trans ?_
  refine (go_iald (m := 129) (pc := 14) (by decide +kernel) h0).trans ?_
  exact go_retI (m := 129) (pc := 15) (by decide +kernel) rfl
theorem Model_part_E (this : Nat) (p0 : Int32) (p1 : Int32) (w : Wd) (I : MI) (L : ML) (P : MP) : call 129 [.ref this, .int p0, .int p1] w I L P = go 129 0 [.ref this, .int p0, .int p1] [] w I L P := rfl
theorem Model_sets_0 (a_l0 : Nat) (l1 : Value) (l2 : Value) (l3 : Value) (w : Wd) (I : MI) (L : ML) (P : MP) (h0 : w.1 a_l0 = some (7, 0)) : go 130 0 [.ref a_l0, l1, l2, l3] [] w I L P = go 130 4 [.ref a_l0, l1, l2, l3] [(va_rf (P a_l0 0))] w I L P := by
  refine (go_aload_n (m := 130) (pc := 0) (k := 0) (by decide +kernel) rfl).trans ?_
  refine (go_getR (m := 130) (pc := 1) (o := 7) (x := 7) (ci := 7) (k := 0) (by decide +kernel) rfl f_7_7 rfl h0).trans ?_
  rfl
theorem Model_sets_4 (l0 : Value) (x_l1 : Int32) (x_l2 : Int32) (x_l3 : Int32) (a_s0 : Nat) (w : Wd) (I : MI) (L : ML) (P : MP) (h0 : inA w a_s0 8 (((nI 327) + ((nI 22) * x_l1)) + x_l2)) : go 130 4 [l0, .int x_l1, .int x_l2, .int x_l3] [.ref a_s0] w I L P = some (.inl none, w, (updI I a_s0 (Int32.toNatClampNeg (((nI 327) + ((nI 22) * x_l1)) + x_l2)) x_l3), L, P) := by
  refine (go_si (m := 130) (pc := 4) (n := 327) (by decide +kernel) si_327).trans ?_
  refine (go_bi (m := 130) (pc := 7) (n := 22) (by decide +kernel) bi_22).trans ?_
  refine (go_iload_n (m := 130) (pc := 9) (k := 1) (by decide +kernel) rfl).trans ?_
  refine (go_imul (m := 130) (pc := 10) (by decide +kernel)).trans ?_
  refine (go_iadd (m := 130) (pc := 11) (by decide +kernel)).trans ?_
  refine (go_iload_n (m := 130) (pc := 12) (k := 2) (by decide +kernel) rfl).trans ?_
  refine (go_iadd (m := 130) (pc := 13) (by decide +kernel)).trans ?_
  refine (go_iload_n (m := 130) (pc := 14) (k := 3) (by decide +kernel) rfl).trans ?_
  refine (go_iast (m := 130) (pc := 15) (by decide +kernel) h0).trans ?_
  exact go_retV (m := 130) (pc := 16) (by decide +kernel) rfl
theorem Model_sets_E (this : Nat) (p0 : Int32) (p1 : Int32) (p2 : Int32) (w : Wd) (I : MI) (L : ML) (P : MP) : call 130 [.ref this, .int p0, .int p1, .int p2] w I L P = go 130 0 [.ref this, .int p0, .int p1, .int p2] [] w I L P := rfl
theorem Model_isCaller_0 (a_l0 : Nat) (x_l1 : Int32) (w : Wd) (I : MI) (L : ML) (P : MP) (h0 : w.1 a_l0 = some (7, 0)) : go 131 0 [.ref a_l0, .int x_l1] [] w I L P = go 131 7 [.ref a_l0, .int x_l1] [(va_rf (P a_l0 0)), .long 0, .long (Int32.toInt64 x_l1)] w I L P := by
  refine (go_iload_n (m := 131) (pc := 0) (k := 1) (by decide +kernel) rfl).trans ?_
  refine (go_i2l (m := 131) (pc := 1) (by decide +kernel)).trans ?_
  refine (go_lc (m := 131) (pc := 2) (n := 0) (v := 0) (by decide +kernel) rfl).trans ?_
  refine (go_aload_n (m := 131) (pc := 3) (k := 0) (by decide +kernel) rfl).trans ?_
  refine (go_getR (m := 131) (pc := 4) (o := 7) (x := 7) (ci := 7) (k := 0) (by decide +kernel) rfl f_7_7 rfl h0).trans ?_
  rfl
theorem Model_isCaller_7 (l0 : Value) (l1 : Value) (y0 : Int64) (y1 : Int64) (a_s2 : Nat) (w : Wd) (I : MI) (L : ML) (P : MP) (h0 : inA w a_s2 8 (nI 1)) : go 131 7 [l0, l1] [.ref a_s2, .long y1, .long y0] w I L P = kC (call 124 [.long y0, .long y1, .long (Int32.toInt64 ((I a_s2 (Int32.toNatClampNeg (nI 1))) - (nI 1)))] w I L P) (fun v w1 I1 L1 P1 => go 131 15 [l0, l1] (v.toList ++ []) w1 I1 L1 P1) := by
  refine (go_ic (m := 131) (pc := 7) (n := 1) (by decide +kernel) ic_1).trans ?_
  refine (go_iald (m := 131) (pc := 8) (by decide +kernel) h0).trans ?_
  refine (go_ic (m := 131) (pc := 9) (n := 1) (by decide +kernel) ic_1).trans ?_
  refine (go_isub (m := 131) (pc := 10) (by decide +kernel)).trans ?_
  refine (go_i2l (m := 131) (pc := 11) (by decide +kernel)).trans ?_
  exact go_sta (m := 131) (pc := 12) (o := 7) (x := 30) (y := 124) (kd := 2) (as := [.long y0, .long y1, .long (Int32.toInt64 ((I a_s2 (Int32.toNatClampNeg (nI 1))) - (nI 1)))]) (rs := []) (by decide +kernel) rfl rfl c_7_30 (Or.inl rfl) rfl rfl rfl (by decide +kernel) (by simp only [List.length_cons, List.length_nil]; decide) (Nat.le_of_ble_eq_true rfl)
theorem Model_isCaller_15 (l0 : Value) (l1 : Value) (y0 : Int32) (w : Wd) (I : MI) (L : ML) (P : MP) (h0 : y0 &&& 1 = y0) : go 131 15 [l0, l1] [.int y0] w I L P = some (.inl (some (.int y0)), w, I, L, P) := by
  exact go_retZ (m := 131) (pc := 15) (by decide +kernel) rfl h0
theorem Model_isCaller_E (this : Nat) (p0 : Int32) (w : Wd) (I : MI) (L : ML) (P : MP) : call 131 [.ref this, .int p0] w I L P = go 131 0 [.ref this, .int p0] [] w I L P := rfl
theorem Model_isListener_0 (a_l0 : Nat) (x_l1 : Int32) (w : Wd) (I : MI) (L : ML) (P : MP) (h0 : w.1 a_l0 = some (7, 0)) : go 132 0 [.ref a_l0, .int x_l1] [] w I L P = go 132 7 [.ref a_l0, .int x_l1] [(va_rf (P a_l0 0)), .long 0, .long (Int32.toInt64 x_l1)] w I L P := by
  refine (go_iload_n (m := 132) (pc := 0) (k := 1) (by decide +kernel) rfl).trans ?_
  refine (go_i2l (m := 132) (pc := 1) (by decide +kernel)).trans ?_
  refine (go_lc (m := 132) (pc := 2) (n := 0) (v := 0) (by decide +kernel) rfl).trans ?_
  refine (go_aload_n (m := 132) (pc := 3) (k := 0) (by decide +kernel) rfl).trans ?_
  refine (go_getR (m := 132) (pc := 4) (o := 7) (x := 7) (ci := 7) (k := 0) (by decide +kernel) rfl f_7_7 rfl h0).trans ?_
  rfl
theorem Model_isListener_7 (l0 : Value) (l1 : Value) (y0 : Int64) (y1 : Int64) (a_s2 : Nat) (w : Wd) (I : MI) (L : ML) (P : MP) (h0 : inA w a_s2 8 (nI 2)) : go 132 7 [l0, l1] [.ref a_s2, .long y1, .long y0] w I L P = kC (call 124 [.long y0, .long y1, .long (Int32.toInt64 ((I a_s2 (Int32.toNatClampNeg (nI 2))) - (nI 1)))] w I L P) (fun v w1 I1 L1 P1 => go 132 15 [l0, l1] (v.toList ++ []) w1 I1 L1 P1) := by
  refine (go_ic (m := 132) (pc := 7) (n := 2) (by decide +kernel) ic_2).trans ?_
  refine (go_iald (m := 132) (pc := 8) (by decide +kernel) h0).trans ?_
  refine (go_ic (m := 132) (pc := 9) (n := 1) (by decide +kernel) ic_1).trans ?_
  refine (go_isub (m := 132) (pc := 10) (by decide +kernel)).trans ?_
  refine (go_i2l (m := 132) (pc := 11) (by decide +kernel)).trans ?_
  exact go_sta (m := 132) (pc := 12) (o := 7) (x := 30) (y := 124) (kd := 2) (as := [.long y0, .long y1, .long (Int32.toInt64 ((I a_s2 (Int32.toNatClampNeg (nI 2))) - (nI 1)))]) (rs := []) (by decide +kernel) rfl rfl c_7_30 (Or.inl rfl) rfl rfl rfl (by decide +kernel) (by simp only [List.length_cons, List.length_nil]; decide) (Nat.le_of_ble_eq_true rfl)
theorem Model_isListener_15 (l0 : Value) (l1 : Value) (y0 : Int32) (w : Wd) (I : MI) (L : ML) (P : MP) (h0 : y0 &&& 1 = y0) : go 132 15 [l0, l1] [.int y0] w I L P = some (.inl (some (.int y0)), w, I, L, P) := by
  exact go_retZ (m := 132) (pc := 15) (by decide +kernel) rfl h0
theorem Model_isListener_E (this : Nat) (p0 : Int32) (w : Wd) (I : MI) (L : ML) (P : MP) : call 132 [.ref this, .int p0] w I L P = go 132 0 [.ref this, .int p0] [] w I L P := rfl
theorem Model_isContender_0 (a_l0 : Nat) (l1 : Value) (w : Wd) (I : MI) (L : ML) (P : MP) (h0 : w.1 a_l0 = some (7, 0)) : go 133 0 [.ref a_l0, l1] [] w I L P = go 133 4 [.ref a_l0, l1] [(va_rf (P a_l0 0))] w I L P := by
  refine (go_aload_n (m := 133) (pc := 0) (k := 0) (by decide +kernel) rfl).trans ?_
  refine (go_getR (m := 133) (pc := 1) (o := 7) (x := 7) (ci := 7) (k := 0) (by decide +kernel) rfl f_7_7 rfl h0).trans ?_
  rfl
theorem Model_isContender_4 (l0 : Value) (x_l1 : Int32) (a_s0 : Nat) (w : Wd) (I : MI) (L : ML) (P : MP) (h0 : inA w a_s0 8 (nI 5)) : go 133 4 [l0, .int x_l1] [.ref a_s0] w I L P = if (((I a_s0 (Int32.toNatClampNeg (nI 5))) >>> (x_l1 &&& 31)) &&& (nI 1)) ≠ (nI 1) then go 133 18 [l0, .int x_l1] [] w I L P else go 133 14 [l0, .int x_l1] [] w I L P := by
  refine (go_ic (m := 133) (pc := 4) (n := 5) (by decide +kernel) ic_5).trans ?_
  refine (go_iald (m := 133) (pc := 5) (by decide +kernel) h0).trans ?_
  refine (go_iload_n (m := 133) (pc := 6) (k := 1) (by decide +kernel) rfl).trans ?_
  refine (go_ishr (m := 133) (pc := 7) (by decide +kernel)).trans ?_
  refine (go_ic (m := 133) (pc := 8) (n := 1) (by decide +kernel) ic_1).trans ?_
  refine (go_iand (m := 133) (pc := 9) (by decide +kernel)).trans ?_
  refine (go_ic (m := 133) (pc := 10) (n := 1) (by decide +kernel) ic_1).trans ?_
  exact go_icmpne (m := 133) (pc := 11) (off := 7) (t := 18) (by decide +kernel) (by decide)
theorem Model_isContender_14 (l0 : Value) (l1 : Value) (w : Wd) (I : MI) (L : ML) (P : MP)  : go 133 14 [l0, l1] [] w I L P = go 133 19 [l0, l1] [.int (nI 1)] w I L P := by
  refine (go_ic (m := 133) (pc := 14) (n := 1) (by decide +kernel) ic_1).trans ?_
  refine (go_goto (m := 133) (pc := 15) (off := 4) (t := 19) (by decide +kernel) (by decide)).trans ?_
  rfl
theorem Model_isContender_18 (l0 : Value) (l1 : Value) (w : Wd) (I : MI) (L : ML) (P : MP)  : go 133 18 [l0, l1] [] w I L P = go 133 19 [l0, l1] [.int (nI 0)] w I L P := by
  refine (go_ic (m := 133) (pc := 18) (n := 0) (by decide +kernel) ic_0).trans ?_
  rfl
theorem Model_isContender_19 (l0 : Value) (l1 : Value) (y0 : Int32) (w : Wd) (I : MI) (L : ML) (P : MP) (h0 : y0 &&& 1 = y0) : go 133 19 [l0, l1] [.int y0] w I L P = some (.inl (some (.int y0)), w, I, L, P) := by
  exact go_retZ (m := 133) (pc := 19) (by decide +kernel) rfl h0
theorem Model_isContender_E (this : Nat) (p0 : Int32) (w : Wd) (I : MI) (L : ML) (P : MP) : call 133 [.ref this, .int p0] w I L P = go 133 0 [.ref this, .int p0] [] w I L P := rfl
theorem Model_asides_0 (l0 : Value) (l1 : Value) (w : Wd) (I : MI) (L : ML) (P : MP)  : go 134 0 [l0, l1] [] w I L P = go 134 2 [(fix1 l0), .int (nI 0)] [] w I L P := by
  refine (go_ic (m := 134) (pc := 0) (n := 0) (by decide +kernel) ic_0).trans ?_
  refine (go_istore_n (m := 134) (pc := 1) (k := 1) (ls' := [(fix1 l0), .int (nI 0)]) (by decide +kernel) (by simp only [List.length_cons, List.length_nil]; decide) rfl).trans ?_
  rfl
theorem Model_asides_2 (l0 : Value) (x_l1 : Int32) (w : Wd) (I : MI) (L : ML) (P : MP)  : go 134 2 [l0, .int x_l1] [] w I L P = if (nI 459) ≤ x_l1 then go 134 27 [l0, .int x_l1] [] w I L P else go 134 9 [l0, .int x_l1] [] w I L P := by
  refine (go_iload_n (m := 134) (pc := 2) (k := 1) (by decide +kernel) rfl).trans ?_
  refine (go_si (m := 134) (pc := 3) (n := 459) (by decide +kernel) si_459).trans ?_
  exact go_icmpge (m := 134) (pc := 6) (off := 21) (t := 27) (by decide +kernel) (by decide)
theorem Model_asides_9 (a_l0 : Nat) (l1 : Value) (w : Wd) (I : MI) (L : ML) (P : MP) (h0 : w.1 a_l0 = some (7, 0)) : go 134 9 [.ref a_l0, l1] [] w I L P = go 134 13 [.ref a_l0, l1] [(va_rf (P a_l0 3))] w I L P := by
  refine (go_aload_n (m := 134) (pc := 9) (k := 0) (by decide +kernel) rfl).trans ?_
  refine (go_getR (m := 134) (pc := 10) (o := 7) (x := 16) (ci := 7) (k := 3) (by decide +kernel) rfl f_7_16 rfl h0).trans ?_
  rfl
theorem Model_asides_13 (a_l0 : Nat) (x_l1 : Int32) (v0 : Value) (w : Wd) (I : MI) (L : ML) (P : MP) (h0 : w.1 a_l0 = some (7, 0)) : go 134 13 [.ref a_l0, .int x_l1] [v0] w I L P = go 134 18 [.ref a_l0, .int x_l1] [(va_rf (P a_l0 0)), .int x_l1, v0] w I L P := by
  refine (go_iload_n (m := 134) (pc := 13) (k := 1) (by decide +kernel) rfl).trans ?_
  refine (go_aload_n (m := 134) (pc := 14) (k := 0) (by decide +kernel) rfl).trans ?_
  refine (go_getR (m := 134) (pc := 15) (o := 7) (x := 7) (ci := 7) (k := 0) (by decide +kernel) rfl f_7_7 rfl h0).trans ?_
  rfl
theorem Model_asides_18 (l0 : Value) (x_l1 : Int32) (a_s0 : Nat) (y1 : Int32) (a_s2 : Nat) (w : Wd) (I : MI) (L : ML) (P : MP) (h0 : inA w a_s2 8 x_l1) (h1 : inA w a_s0 8 y1) : go 134 18 [l0, .int x_l1] [.ref a_s2, .int y1, .ref a_s0] w I L P = go 134 2 [(fix1 l0), .int (x_l1 + (nI 1))] [] w (updI I a_s0 (Int32.toNatClampNeg y1) (I a_s2 (Int32.toNatClampNeg x_l1))) L P := by
  refine (go_iload_n (m := 134) (pc := 18) (k := 1) (by decide +kernel) rfl).trans ?_
  refine (go_iald (m := 134) (pc := 19) (by decide +kernel) h0).trans ?_
  refine (go_iast (m := 134) (pc := 20) (by decide +kernel) h1).trans ?_
  refine (go_iinc (m := 134) (pc := 21) (k := 1) (n := 1) (x := x_l1) (v := x_l1 + (nI 1)) (ls' := [(fix1 l0), .int (x_l1 + (nI 1))]) (by decide +kernel) rfl (by rw [ic_1]) rfl).trans ?_
  refine (go_goto (m := 134) (pc := 24) (off := -22) (t := 2) (by decide +kernel) (by decide)).trans ?_
  rfl
theorem Model_asides_27 (l0 : Value) (l1 : Value) (w : Wd) (I : MI) (L : ML) (P : MP)  : go 134 27 [l0, l1] [] w I L P = some (.inl none, w, I, L, P) := by
  exact go_retV (m := 134) (pc := 27) (by decide +kernel) rfl
theorem Model_asides_E (this : Nat) (w : Wd) (I : MI) (L : ML) (P : MP) : call 134 [.ref this] w I L P = go 134 0 [.ref this, unk] [] w I L P := rfl
theorem Model_backs_0 (l0 : Value) (l1 : Value) (w : Wd) (I : MI) (L : ML) (P : MP)  : go 135 0 [l0, l1] [] w I L P = go 135 2 [(fix1 l0), .int (nI 0)] [] w I L P := by
  refine (go_ic (m := 135) (pc := 0) (n := 0) (by decide +kernel) ic_0).trans ?_
  refine (go_istore_n (m := 135) (pc := 1) (k := 1) (ls' := [(fix1 l0), .int (nI 0)]) (by decide +kernel) (by simp only [List.length_cons, List.length_nil]; decide) rfl).trans ?_
  rfl
theorem Model_backs_2 (l0 : Value) (x_l1 : Int32) (w : Wd) (I : MI) (L : ML) (P : MP)  : go 135 2 [l0, .int x_l1] [] w I L P = if (nI 459) ≤ x_l1 then go 135 27 [l0, .int x_l1] [] w I L P else go 135 9 [l0, .int x_l1] [] w I L P := by
  refine (go_iload_n (m := 135) (pc := 2) (k := 1) (by decide +kernel) rfl).trans ?_
  refine (go_si (m := 135) (pc := 3) (n := 459) (by decide +kernel) si_459).trans ?_
  exact go_icmpge (m := 135) (pc := 6) (off := 21) (t := 27) (by decide +kernel) (by decide)
theorem Model_backs_9 (a_l0 : Nat) (l1 : Value) (w : Wd) (I : MI) (L : ML) (P : MP) (h0 : w.1 a_l0 = some (7, 0)) : go 135 9 [.ref a_l0, l1] [] w I L P = go 135 13 [.ref a_l0, l1] [(va_rf (P a_l0 0))] w I L P := by
  refine (go_aload_n (m := 135) (pc := 9) (k := 0) (by decide +kernel) rfl).trans ?_
  refine (go_getR (m := 135) (pc := 10) (o := 7) (x := 7) (ci := 7) (k := 0) (by decide +kernel) rfl f_7_7 rfl h0).trans ?_
  rfl
theorem Model_backs_13 (a_l0 : Nat) (x_l1 : Int32) (v0 : Value) (w : Wd) (I : MI) (L : ML) (P : MP) (h0 : w.1 a_l0 = some (7, 0)) : go 135 13 [.ref a_l0, .int x_l1] [v0] w I L P = go 135 18 [.ref a_l0, .int x_l1] [(va_rf (P a_l0 3)), .int x_l1, v0] w I L P := by
  refine (go_iload_n (m := 135) (pc := 13) (k := 1) (by decide +kernel) rfl).trans ?_
  refine (go_aload_n (m := 135) (pc := 14) (k := 0) (by decide +kernel) rfl).trans ?_
  refine (go_getR (m := 135) (pc := 15) (o := 7) (x := 16) (ci := 7) (k := 3) (by decide +kernel) rfl f_7_16 rfl h0).trans ?_
  rfl
theorem Model_backs_18 (l0 : Value) (x_l1 : Int32) (a_s0 : Nat) (y1 : Int32) (a_s2 : Nat) (w : Wd) (I : MI) (L : ML) (P : MP) (h0 : inA w a_s2 8 x_l1) (h1 : inA w a_s0 8 y1) : go 135 18 [l0, .int x_l1] [.ref a_s2, .int y1, .ref a_s0] w I L P = go 135 2 [(fix1 l0), .int (x_l1 + (nI 1))] [] w (updI I a_s0 (Int32.toNatClampNeg y1) (I a_s2 (Int32.toNatClampNeg x_l1))) L P := by
  refine (go_iload_n (m := 135) (pc := 18) (k := 1) (by decide +kernel) rfl).trans ?_
  refine (go_iald (m := 135) (pc := 19) (by decide +kernel) h0).trans ?_
  refine (go_iast (m := 135) (pc := 20) (by decide +kernel) h1).trans ?_
  refine (go_iinc (m := 135) (pc := 21) (k := 1) (n := 1) (x := x_l1) (v := x_l1 + (nI 1)) (ls' := [(fix1 l0), .int (x_l1 + (nI 1))]) (by decide +kernel) rfl (by rw [ic_1]) rfl).trans ?_
  refine (go_goto (m := 135) (pc := 24) (off := -22) (t := 2) (by decide +kernel) (by decide)).trans ?_
  rfl
theorem Model_backs_27 (l0 : Value) (l1 : Value) (w : Wd) (I : MI) (L : ML) (P : MP)  : go 135 27 [l0, l1] [] w I L P = some (.inl none, w, I, L, P) := by
  exact go_retV (m := 135) (pc := 27) (by decide +kernel) rfl
theorem Model_backs_E (this : Nat) (w : Wd) (I : MI) (L : ML) (P : MP) : call 135 [.ref this] w I L P = go 135 0 [.ref this, unk] [] w I L P := rfl
theorem Model_saves_0 (a_l0 : Nat) (l1 : Value) (w : Wd) (I : MI) (L : ML) (P : MP) (h0 : w.1 a_l0 = some (7, 0)) : go 136 0 [.ref a_l0, l1] [] w I L P = if (I a_l0 2) ≠ (nI 4) then go 136 46 [.ref a_l0, l1] [] w I L P else go 136 8 [.ref a_l0, l1] [] w I L P := by
  refine (go_aload_n (m := 136) (pc := 0) (k := 0) (by decide +kernel) rfl).trans ?_
  refine (go_getI (m := 136) (pc := 1) (o := 7) (x := 34) (ci := 7) (k := 2) (by decide +kernel) rfl f_7_34 rfl h0).trans ?_
  refine (go_ic (m := 136) (pc := 4) (n := 4) (by decide +kernel) ic_4).trans ?_
  exact go_icmpne (m := 136) (pc := 5) (off := 41) (t := 46) (by decide +kernel) (by decide)
theorem Model_saves_8 (l0 : Value) (l1 : Value) (w : Wd) (I : MI) (L : ML) (P : MP)  : go 136 8 [l0, l1] [] w I L P = go 136 12 [(fix1 l0), .int (nI 459)] [] w I L P := by
  refine (go_si (m := 136) (pc := 8) (n := 459) (by decide +kernel) si_459).trans ?_
  refine (go_istore_n (m := 136) (pc := 11) (k := 1) (ls' := [(fix1 l0), .int (nI 459)]) (by decide +kernel) (by simp only [List.length_cons, List.length_nil]; decide) rfl).trans ?_
  rfl
theorem Model_saves_12 (l0 : Value) (x_l1 : Int32) (w : Wd) (I : MI) (L : ML) (P : MP)  : go 136 12 [l0, .int x_l1] [] w I L P = if (nI 1836) ≤ x_l1 then go 136 41 [l0, .int x_l1] [] w I L P else go 136 19 [l0, .int x_l1] [] w I L P := by
  refine (go_iload_n (m := 136) (pc := 12) (k := 1) (by decide +kernel) rfl).trans ?_
  refine (go_si (m := 136) (pc := 13) (n := 1836) (by decide +kernel) si_1836).trans ?_
  exact go_icmpge (m := 136) (pc := 16) (off := 25) (t := 41) (by decide +kernel) (by decide)
theorem Model_saves_19 (a_l0 : Nat) (l1 : Value) (w : Wd) (I : MI) (L : ML) (P : MP) (h0 : w.1 a_l0 = some (7, 0)) : go 136 19 [.ref a_l0, l1] [] w I L P = go 136 23 [.ref a_l0, l1] [(va_rf (P a_l0 1))] w I L P := by
  refine (go_aload_n (m := 136) (pc := 19) (k := 0) (by decide +kernel) rfl).trans ?_
  refine (go_getR (m := 136) (pc := 20) (o := 7) (x := 13) (ci := 7) (k := 1) (by decide +kernel) rfl f_7_13 rfl h0).trans ?_
  rfl
theorem Model_saves_23 (a_l0 : Nat) (x_l1 : Int32) (v0 : Value) (w : Wd) (I : MI) (L : ML) (P : MP) (h0 : w.1 a_l0 = some (7, 0)) : go 136 23 [.ref a_l0, .int x_l1] [v0] w I L P = go 136 32 [.ref a_l0, .int x_l1] [(va_rf (P a_l0 1)), .int (x_l1 - (nI 459)), v0] w I L P := by
  refine (go_iload_n (m := 136) (pc := 23) (k := 1) (by decide +kernel) rfl).trans ?_
  refine (go_si (m := 136) (pc := 24) (n := 459) (by decide +kernel) si_459).trans ?_
  refine (go_isub (m := 136) (pc := 27) (by decide +kernel)).trans ?_
  refine (go_aload_n (m := 136) (pc := 28) (k := 0) (by decide +kernel) rfl).trans ?_
  refine (go_getR (m := 136) (pc := 29) (o := 7) (x := 13) (ci := 7) (k := 1) (by decide +kernel) rfl f_7_13 rfl h0).trans ?_
  rfl
theorem Model_saves_32 (l0 : Value) (x_l1 : Int32) (a_s0 : Nat) (y1 : Int32) (a_s2 : Nat) (w : Wd) (I : MI) (L : ML) (P : MP) (h0 : inA w a_s2 8 x_l1) (h1 : inA w a_s0 8 y1) : go 136 32 [l0, .int x_l1] [.ref a_s2, .int y1, .ref a_s0] w I L P = go 136 12 [(fix1 l0), .int (x_l1 + (nI 1))] [] w (updI I a_s0 (Int32.toNatClampNeg y1) (I a_s2 (Int32.toNatClampNeg x_l1))) L P := by
  refine (go_iload_n (m := 136) (pc := 32) (k := 1) (by decide +kernel) rfl).trans ?_
  refine (go_iald (m := 136) (pc := 33) (by decide +kernel) h0).trans ?_
  refine (go_iast (m := 136) (pc := 34) (by decide +kernel) h1).trans ?_
  refine (go_iinc (m := 136) (pc := 35) (k := 1) (n := 1) (x := x_l1) (v := x_l1 + (nI 1)) (ls' := [(fix1 l0), .int (x_l1 + (nI 1))]) (by decide +kernel) rfl (by rw [ic_1]) rfl).trans ?_
  refine (go_goto (m := 136) (pc := 38) (off := -26) (t := 12) (by decide +kernel) (by decide)).trans ?_
  rfl
theorem Model_saves_41 (a_l0 : Nat) (l1 : Value) (w : Wd) (I : MI) (L : ML) (P : MP) (h0 : w.1 a_l0 = some (7, 0)) : go 136 41 [.ref a_l0, l1] [] w I L P = go 136 46 [.ref a_l0, l1] [] w (updI I a_l0 2 (nI 3)) L P := by
  refine (go_aload_n (m := 136) (pc := 41) (k := 0) (by decide +kernel) rfl).trans ?_
  refine (go_ic (m := 136) (pc := 42) (n := 3) (by decide +kernel) ic_3).trans ?_
  refine (go_putI (m := 136) (pc := 43) (o := 7) (x := 34) (ci := 7) (k := 2) (by decide +kernel) rfl f_7_34 rfl (by decide +kernel) h0).trans ?_
  rfl
theorem Model_saves_46 (l0 : Value) (l1 : Value) (w : Wd) (I : MI) (L : ML) (P : MP)  : go 136 46 [l0, l1] [] w I L P = go 136 48 [(fix1 l0), .int (nI 0)] [] w I L P := by
  refine (go_ic (m := 136) (pc := 46) (n := 0) (by decide +kernel) ic_0).trans ?_
  refine (go_istore_n (m := 136) (pc := 47) (k := 1) (ls' := [(fix1 l0), .int (nI 0)]) (by decide +kernel) (by simp only [List.length_cons, List.length_nil]; decide) rfl).trans ?_
  rfl
theorem Model_saves_48 (l0 : Value) (x_l1 : Int32) (w : Wd) (I : MI) (L : ML) (P : MP)  : go 136 48 [l0, .int x_l1] [] w I L P = if (nI 459) ≤ x_l1 then go 136 82 [l0, .int x_l1] [] w I L P else go 136 55 [l0, .int x_l1] [] w I L P := by
  refine (go_iload_n (m := 136) (pc := 48) (k := 1) (by decide +kernel) rfl).trans ?_
  refine (go_si (m := 136) (pc := 49) (n := 459) (by decide +kernel) si_459).trans ?_
  exact go_icmpge (m := 136) (pc := 52) (off := 30) (t := 82) (by decide +kernel) (by decide)
theorem Model_saves_55 (a_l0 : Nat) (l1 : Value) (w : Wd) (I : MI) (L : ML) (P : MP) (h0 : w.1 a_l0 = some (7, 0)) : go 136 55 [.ref a_l0, l1] [] w I L P = go 136 59 [.ref a_l0, l1] [(va_rf (P a_l0 1))] w I L P := by
  refine (go_aload_n (m := 136) (pc := 55) (k := 0) (by decide +kernel) rfl).trans ?_
  refine (go_getR (m := 136) (pc := 56) (o := 7) (x := 13) (ci := 7) (k := 1) (by decide +kernel) rfl f_7_13 rfl h0).trans ?_
  rfl
theorem Model_saves_59 (a_l0 : Nat) (x_l1 : Int32) (v0 : Value) (w : Wd) (I : MI) (L : ML) (P : MP) (h0 : w.1 a_l0 = some (7, 0)) : go 136 59 [.ref a_l0, .int x_l1] [v0] w I L P = go 136 73 [.ref a_l0, .int x_l1] [(va_rf (P a_l0 3)), .int (((nI 459) * (I a_l0 2)) + x_l1), v0] w I L P := by
  refine (go_si (m := 136) (pc := 59) (n := 459) (by decide +kernel) si_459).trans ?_
  refine (go_aload_n (m := 136) (pc := 62) (k := 0) (by decide +kernel) rfl).trans ?_
  refine (go_getI (m := 136) (pc := 63) (o := 7) (x := 34) (ci := 7) (k := 2) (by decide +kernel) rfl f_7_34 rfl h0).trans ?_
  refine (go_imul (m := 136) (pc := 66) (by decide +kernel)).trans ?_
  refine (go_iload_n (m := 136) (pc := 67) (k := 1) (by decide +kernel) rfl).trans ?_
  refine (go_iadd (m := 136) (pc := 68) (by decide +kernel)).trans ?_
  refine (go_aload_n (m := 136) (pc := 69) (k := 0) (by decide +kernel) rfl).trans ?_
  refine (go_getR (m := 136) (pc := 70) (o := 7) (x := 16) (ci := 7) (k := 3) (by decide +kernel) rfl f_7_16 rfl h0).trans ?_
  rfl
theorem Model_saves_73 (l0 : Value) (x_l1 : Int32) (a_s0 : Nat) (y1 : Int32) (a_s2 : Nat) (w : Wd) (I : MI) (L : ML) (P : MP) (h0 : inA w a_s2 8 x_l1) (h1 : inA w a_s0 8 y1) : go 136 73 [l0, .int x_l1] [.ref a_s2, .int y1, .ref a_s0] w I L P = go 136 48 [(fix1 l0), .int (x_l1 + (nI 1))] [] w (updI I a_s0 (Int32.toNatClampNeg y1) (I a_s2 (Int32.toNatClampNeg x_l1))) L P := by
  refine (go_iload_n (m := 136) (pc := 73) (k := 1) (by decide +kernel) rfl).trans ?_
  refine (go_iald (m := 136) (pc := 74) (by decide +kernel) h0).trans ?_
  refine (go_iast (m := 136) (pc := 75) (by decide +kernel) h1).trans ?_
  refine (go_iinc (m := 136) (pc := 76) (k := 1) (n := 1) (x := x_l1) (v := x_l1 + (nI 1)) (ls' := [(fix1 l0), .int (x_l1 + (nI 1))]) (by decide +kernel) rfl (by rw [ic_1]) rfl).trans ?_
  refine (go_goto (m := 136) (pc := 79) (off := -31) (t := 48) (by decide +kernel) (by decide)).trans ?_
  rfl
theorem Model_saves_82 (a_l0 : Nat) (l1 : Value) (w : Wd) (I : MI) (L : ML) (P : MP) (h0 : w.1 a_l0 = some (7, 0)) : go 136 82 [.ref a_l0, l1] [] w I L P = some (.inl none, w, (updI I a_l0 2 ((I a_l0 2) + (nI 1))), L, P) := by
  refine (go_aload_n (m := 136) (pc := 82) (k := 0) (by decide +kernel) rfl).trans ?_
  refine (go_dup (m := 136) (pc := 83) (by decide +kernel) rfl).trans ?_
  refine (go_getI (m := 136) (pc := 84) (o := 7) (x := 34) (ci := 7) (k := 2) (by decide +kernel) rfl f_7_34 rfl h0).trans ?_
  refine (go_ic (m := 136) (pc := 87) (n := 1) (by decide +kernel) ic_1).trans ?_
  refine (go_iadd (m := 136) (pc := 88) (by decide +kernel)).trans ?_
  refine (go_putI (m := 136) (pc := 89) (o := 7) (x := 34) (ci := 7) (k := 2) (by decide +kernel) rfl f_7_34 rfl (by decide +kernel) h0).trans ?_
  exact go_retV (m := 136) (pc := 92) (by decide +kernel) rfl
theorem Model_saves_E (this : Nat) (w : Wd) (I : MI) (L : ML) (P : MP) : call 136 [.ref this] w I L P = go 136 0 [.ref this, unk] [] w I L P := rfl
theorem Model_ends_0 (l0 : Value) (x_l1 : Int32) (w : Wd) (I : MI) (L : ML) (P : MP)  : go 137 0 [l0, .int x_l1] [] w I L P = if x_l1 ≤ 0 then go 137 10 [l0, .int x_l1] [] w I L P else go 137 4 [l0, .int x_l1] [] w I L P := by
  refine (go_iload_n (m := 137) (pc := 0) (k := 1) (by decide +kernel) rfl).trans ?_
  exact go_ifle (m := 137) (pc := 1) (off := 9) (t := 10) (by decide +kernel) (by decide)
theorem Model_ends_4 (a_l0 : Nat) (x_l1 : Int32) (w : Wd) (I : MI) (L : ML) (P : MP) (h0 : w.1 a_l0 = some (7, 0)) : go 137 4 [.ref a_l0, .int x_l1] [] w I L P = kC (call 122 [.ref a_l0, .int x_l1] w I L P) (fun v w1 I1 L1 P1 => go 137 9 [.ref a_l0, .int x_l1] (v.toList ++ []) w1 I1 L1 P1) := by
  refine (go_aload_n (m := 137) (pc := 4) (k := 0) (by decide +kernel) rfl).trans ?_
  refine (go_iload_n (m := 137) (pc := 5) (k := 1) (by decide +kernel) rfl).trans ?_
  exact go_vir (m := 137) (pc := 6) (o := 7) (x := 37) (y := 122) (kd := 0) (b := a_l0) (bs := [.int x_l1]) (rs := []) (by decide +kernel) rfl rfl c_7_37 (Or.inl rfl) rfl rfl rfl (by decide +kernel) (by simp only [List.length_cons, List.length_nil]; decide) (Nat.le_of_ble_eq_true rfl) h0
theorem Model_ends_9 (l0 : Value) (l1 : Value) (y0 : Int32) (w : Wd) (I : MI) (L : ML) (P : MP)  : go 137 9 [l0, l1] [.int y0] w I L P = some (.inl (some (.int y0)), w, I, L, P) := by
  exact go_retI (m := 137) (pc := 9) (by decide +kernel) rfl
theorem Model_ends_10 (a_l0 : Nat) (l1 : Value) (w : Wd) (I : MI) (L : ML) (P : MP) (h0 : w.1 a_l0 = some (7, 0)) : go 137 10 [.ref a_l0, l1] [] w I L P = kC (call 136 [.ref a_l0] w I L P) (fun v w1 I1 L1 P1 => go 137 14 [.ref a_l0, l1] (v.toList ++ []) w1 I1 L1 P1) := by
  refine (go_aload_n (m := 137) (pc := 10) (k := 0) (by decide +kernel) rfl).trans ?_
  exact go_vir (m := 137) (pc := 11) (o := 7) (x := 41) (y := 136) (kd := 0) (b := a_l0) (bs := []) (rs := []) (by decide +kernel) rfl rfl c_7_41 (Or.inl rfl) rfl rfl rfl (by decide +kernel) (by simp only [List.length_cons, List.length_nil]; decide) (Nat.le_of_ble_eq_true rfl) h0
theorem Model_ends_14 (a_l0 : Nat) (l1 : Value) (w : Wd) (I : MI) (L : ML) (P : MP) (h0 : w.1 a_l0 = some (7, 0)) : go 137 14 [.ref a_l0, l1] [] w I L P = kC (call 123 [.ref a_l0, .int (I a_l0 7)] w I L P) (fun v w1 I1 L1 P1 => go 137 22 [.ref a_l0, l1] (v.toList ++ []) w1 I1 L1 P1) := by
  refine (go_aload_n (m := 137) (pc := 14) (k := 0) (by decide +kernel) rfl).trans ?_
  refine (go_aload_n (m := 137) (pc := 15) (k := 0) (by decide +kernel) rfl).trans ?_
  refine (go_getI (m := 137) (pc := 16) (o := 7) (x := 44) (ci := 7) (k := 7) (by decide +kernel) rfl f_7_44 rfl h0).trans ?_
  exact go_vir (m := 137) (pc := 19) (o := 7) (x := 47) (y := 123) (kd := 0) (b := a_l0) (bs := [.int (I a_l0 7)]) (rs := []) (by decide +kernel) rfl rfl c_7_47 (Or.inl rfl) rfl rfl rfl (by decide +kernel) (by simp only [List.length_cons, List.length_nil]; decide) (Nat.le_of_ble_eq_true rfl) h0
theorem Model_ends_22 (l0 : Value) (l1 : Value) (y0 : Int32) (w : Wd) (I : MI) (L : ML) (P : MP)  : go 137 22 [l0, l1] [.int y0] w I L P = some (.inl (some (.int y0)), w, I, L, P) := by
  exact go_retI (m := 137) (pc := 22) (by decide +kernel) rfl
theorem Model_ends_E (this : Nat) (p0 : Int32) (w : Wd) (I : MI) (L : ML) (P : MP) : call 137 [.ref this, .int p0] w I L P = go 137 0 [.ref this, .int p0] [] w I L P := rfl
theorem Model_undo_0 (a_l0 : Nat) (l1 : Value) (w : Wd) (I : MI) (L : ML) (P : MP) (h0 : w.1 a_l0 = some (7, 0)) : go 138 0 [.ref a_l0, l1] [] w I L P = if (I a_l0 2) ≠ 0 then go 138 13 [.ref a_l0, l1] [] w I L P else go 138 7 [.ref a_l0, l1] [] w I L P := by
  refine (go_aload_n (m := 138) (pc := 0) (k := 0) (by decide +kernel) rfl).trans ?_
  refine (go_getI (m := 138) (pc := 1) (o := 7) (x := 34) (ci := 7) (k := 2) (by decide +kernel) rfl f_7_34 rfl h0).trans ?_
  exact go_ifne (m := 138) (pc := 4) (off := 9) (t := 13) (by decide +kernel) (by decide)
theorem Model_undo_7 (a_l0 : Nat) (l1 : Value) (w : Wd) (I : MI) (L : ML) (P : MP) (h0 : w.1 a_l0 = some (7, 0)) : go 138 7 [.ref a_l0, l1] [] w I L P = kC (call 122 [.ref a_l0, .int (nI 1)] w I L P) (fun v w1 I1 L1 P1 => go 138 12 [.ref a_l0, l1] (v.toList ++ []) w1 I1 L1 P1) := by
  refine (go_aload_n (m := 138) (pc := 7) (k := 0) (by decide +kernel) rfl).trans ?_
  refine (go_ic (m := 138) (pc := 8) (n := 1) (by decide +kernel) ic_1).trans ?_
  exact go_vir (m := 138) (pc := 9) (o := 7) (x := 37) (y := 122) (kd := 0) (b := a_l0) (bs := [.int (nI 1)]) (rs := []) (by decide +kernel) rfl rfl c_7_37 (Or.inl rfl) rfl rfl rfl (by decide +kernel) (by simp only [List.length_cons, List.length_nil]; decide) (Nat.le_of_ble_eq_true rfl) h0
theorem Model_undo_12 (l0 : Value) (l1 : Value) (y0 : Int32) (w : Wd) (I : MI) (L : ML) (P : MP)  : go 138 12 [l0, l1] [.int y0] w I L P = some (.inl (some (.int y0)), w, I, L, P) := by
  exact go_retI (m := 138) (pc := 12) (by decide +kernel) rfl
theorem Model_undo_13 (a_l0 : Nat) (l1 : Value) (w : Wd) (I : MI) (L : ML) (P : MP) (h0 : w.1 a_l0 = some (7, 0)) : go 138 13 [.ref a_l0, l1] [] w I L P = go 138 25 [.ref a_l0, .int (nI 0)] [] w (updI I a_l0 2 ((I a_l0 2) - (nI 1))) L P := by
  refine (go_aload_n (m := 138) (pc := 13) (k := 0) (by decide +kernel) rfl).trans ?_
  refine (go_dup (m := 138) (pc := 14) (by decide +kernel) rfl).trans ?_
  refine (go_getI (m := 138) (pc := 15) (o := 7) (x := 34) (ci := 7) (k := 2) (by decide +kernel) rfl f_7_34 rfl h0).trans ?_
  refine (go_ic (m := 138) (pc := 18) (n := 1) (by decide +kernel) ic_1).trans ?_
  refine (go_isub (m := 138) (pc := 19) (by decide +kernel)).trans ?_
  refine (go_putI (m := 138) (pc := 20) (o := 7) (x := 34) (ci := 7) (k := 2) (by decide +kernel) rfl f_7_34 rfl (by decide +kernel) h0).trans ?_
  refine (go_ic (m := 138) (pc := 23) (n := 0) (by decide +kernel) ic_0).trans ?_
  refine (go_istore_n (m := 138) (pc := 24) (k := 1) (ls' := [.ref a_l0, .int (nI 0)]) (by decide +kernel) (by simp only [List.length_cons, List.length_nil]; decide) rfl).trans ?_
  rfl
theorem Model_undo_25 (l0 : Value) (x_l1 : Int32) (w : Wd) (I : MI) (L : ML) (P : MP)  : go 138 25 [l0, .int x_l1] [] w I L P = if (nI 459) ≤ x_l1 then go 138 59 [l0, .int x_l1] [] w I L P else go 138 32 [l0, .int x_l1] [] w I L P := by
  refine (go_iload_n (m := 138) (pc := 25) (k := 1) (by decide +kernel) rfl).trans ?_
  refine (go_si (m := 138) (pc := 26) (n := 459) (by decide +kernel) si_459).trans ?_
  exact go_icmpge (m := 138) (pc := 29) (off := 30) (t := 59) (by decide +kernel) (by decide)
theorem Model_undo_32 (a_l0 : Nat) (l1 : Value) (w : Wd) (I : MI) (L : ML) (P : MP) (h0 : w.1 a_l0 = some (7, 0)) : go 138 32 [.ref a_l0, l1] [] w I L P = go 138 36 [.ref a_l0, l1] [(va_rf (P a_l0 0))] w I L P := by
  refine (go_aload_n (m := 138) (pc := 32) (k := 0) (by decide +kernel) rfl).trans ?_
  refine (go_getR (m := 138) (pc := 33) (o := 7) (x := 7) (ci := 7) (k := 0) (by decide +kernel) rfl f_7_7 rfl h0).trans ?_
  rfl
theorem Model_undo_36 (a_l0 : Nat) (x_l1 : Int32) (v0 : Value) (w : Wd) (I : MI) (L : ML) (P : MP) (h0 : w.1 a_l0 = some (7, 0)) : go 138 36 [.ref a_l0, .int x_l1] [v0] w I L P = go 138 41 [.ref a_l0, .int x_l1] [(va_rf (P a_l0 1)), .int x_l1, v0] w I L P := by
  refine (go_iload_n (m := 138) (pc := 36) (k := 1) (by decide +kernel) rfl).trans ?_
  refine (go_aload_n (m := 138) (pc := 37) (k := 0) (by decide +kernel) rfl).trans ?_
  refine (go_getR (m := 138) (pc := 38) (o := 7) (x := 13) (ci := 7) (k := 1) (by decide +kernel) rfl f_7_13 rfl h0).trans ?_
  rfl
theorem Model_undo_41 (a_l0 : Nat) (x_l1 : Int32) (a_s0 : Nat) (y1 : Int32) (a_s2 : Nat) (w : Wd) (I : MI) (L : ML) (P : MP) (h0 : w.1 a_l0 = some (7, 0)) (h1 : inA w a_s2 8 (((nI 459) * (I a_l0 2)) + x_l1)) (h2 : inA w a_s0 8 y1) : go 138 41 [.ref a_l0, .int x_l1] [.ref a_s2, .int y1, .ref a_s0] w I L P = go 138 25 [.ref a_l0, .int (x_l1 + (nI 1))] [] w (updI I a_s0 (Int32.toNatClampNeg y1) (I a_s2 (Int32.toNatClampNeg (((nI 459) * (I a_l0 2)) + x_l1)))) L P := by
  refine (go_si (m := 138) (pc := 41) (n := 459) (by decide +kernel) si_459).trans ?_
  refine (go_aload_n (m := 138) (pc := 44) (k := 0) (by decide +kernel) rfl).trans ?_
  refine (go_getI (m := 138) (pc := 45) (o := 7) (x := 34) (ci := 7) (k := 2) (by decide +kernel) rfl f_7_34 rfl h0).trans ?_
  refine (go_imul (m := 138) (pc := 48) (by decide +kernel)).trans ?_
  refine (go_iload_n (m := 138) (pc := 49) (k := 1) (by decide +kernel) rfl).trans ?_
  refine (go_iadd (m := 138) (pc := 50) (by decide +kernel)).trans ?_
  refine (go_iald (m := 138) (pc := 51) (by decide +kernel) h1).trans ?_
  refine (go_iast (m := 138) (pc := 52) (by decide +kernel) h2).trans ?_
  refine (go_iinc (m := 138) (pc := 53) (k := 1) (n := 1) (x := x_l1) (v := x_l1 + (nI 1)) (ls' := [.ref a_l0, .int (x_l1 + (nI 1))]) (by decide +kernel) rfl (by rw [ic_1]) rfl).trans ?_
  refine (go_goto (m := 138) (pc := 56) (off := -31) (t := 25) (by decide +kernel) (by decide)).trans ?_
  rfl
theorem Model_undo_59 (a_l0 : Nat) (l1 : Value) (w : Wd) (I : MI) (L : ML) (P : MP) (h0 : w.1 a_l0 = some (7, 0)) : go 138 59 [.ref a_l0, l1] [] w I L P = kC (call 123 [.ref a_l0, .int (I a_l0 2)] w I L P) (fun v w1 I1 L1 P1 => go 138 67 [.ref a_l0, l1] (v.toList ++ []) w1 I1 L1 P1) := by
  refine (go_aload_n (m := 138) (pc := 59) (k := 0) (by decide +kernel) rfl).trans ?_
  refine (go_aload_n (m := 138) (pc := 60) (k := 0) (by decide +kernel) rfl).trans ?_
  refine (go_getI (m := 138) (pc := 61) (o := 7) (x := 34) (ci := 7) (k := 2) (by decide +kernel) rfl f_7_34 rfl h0).trans ?_
  exact go_vir (m := 138) (pc := 64) (o := 7) (x := 47) (y := 123) (kd := 0) (b := a_l0) (bs := [.int (I a_l0 2)]) (rs := []) (by decide +kernel) rfl rfl c_7_47 (Or.inl rfl) rfl rfl rfl (by decide +kernel) (by simp only [List.length_cons, List.length_nil]; decide) (Nat.le_of_ble_eq_true rfl) h0
theorem Model_undo_67 (l0 : Value) (l1 : Value) (y0 : Int32) (w : Wd) (I : MI) (L : ML) (P : MP)  : go 138 67 [l0, l1] [.int y0] w I L P = some (.inl (some (.int y0)), w, I, L, P) := by
  exact go_retI (m := 138) (pc := 67) (by decide +kernel) rfl
theorem Model_undo_E (this : Nat) (w : Wd) (I : MI) (L : ML) (P : MP) : call 138 [.ref this] w I L P = go 138 0 [.ref this, unk] [] w I L P := rfl
theorem Model_header_0 (a_l0 : Nat) (x_l1 : Int32) (w : Wd) (I : MI) (L : ML) (P : MP) (h0 : w.1 a_l0 = some (7, 0)) : go 139 0 [.ref a_l0, .int x_l1] [] w I L P = kC (call 128 [.ref a_l0, .int x_l1, .int (nI 0), .int (nI 0)] w I L P) (fun v w1 I1 L1 P1 => go 139 8 [.ref a_l0, .int x_l1] (v.toList ++ [.int (nI 2)]) w1 I1 L1 P1) := by
  refine (go_ic (m := 139) (pc := 0) (n := 2) (by decide +kernel) ic_2).trans ?_
  refine (go_aload_n (m := 139) (pc := 1) (k := 0) (by decide +kernel) rfl).trans ?_
  refine (go_iload_n (m := 139) (pc := 2) (k := 1) (by decide +kernel) rfl).trans ?_
  refine (go_ic (m := 139) (pc := 3) (n := 0) (by decide +kernel) ic_0).trans ?_
  refine (go_ic (m := 139) (pc := 4) (n := 0) (by decide +kernel) ic_0).trans ?_
  exact go_vir (m := 139) (pc := 5) (o := 7) (x := 50) (y := 128) (kd := 0) (b := a_l0) (bs := [.int x_l1, .int (nI 0), .int (nI 0)]) (rs := [.int (nI 2)]) (by decide +kernel) rfl rfl c_7_50 (Or.inl rfl) rfl rfl rfl (by decide +kernel) (by simp only [List.length_cons, List.length_nil]; decide) (Nat.le_of_ble_eq_true rfl) h0
theorem Model_header_8 (a_l0 : Nat) (x_l1 : Int32) (y0 : Int32) (y1 : Int32) (w : Wd) (I : MI) (L : ML) (P : MP) (h0 : w.1 a_l0 = some (7, 0)) : go 139 8 [.ref a_l0, .int x_l1] [.int y1, .int y0] w I L P = kC (call 128 [.ref a_l0, .int x_l1, .int (nI 0), .int (nI 1)] w I L P) (fun v w1 I1 L1 P1 => go 139 16 [.ref a_l0, .int x_l1] (v.toList ++ [.int (y0 * y1)]) w1 I1 L1 P1) := by
  refine (go_imul (m := 139) (pc := 8) (by decide +kernel)).trans ?_
  refine (go_aload_n (m := 139) (pc := 9) (k := 0) (by decide +kernel) rfl).trans ?_
  refine (go_iload_n (m := 139) (pc := 10) (k := 1) (by decide +kernel) rfl).trans ?_
  refine (go_ic (m := 139) (pc := 11) (n := 0) (by decide +kernel) ic_0).trans ?_
  refine (go_ic (m := 139) (pc := 12) (n := 1) (by decide +kernel) ic_1).trans ?_
  exact go_vir (m := 139) (pc := 13) (o := 7) (x := 50) (y := 128) (kd := 0) (b := a_l0) (bs := [.int x_l1, .int (nI 0), .int (nI 1)]) (rs := [.int (y0 * y1)]) (by decide +kernel) rfl rfl c_7_50 (Or.inl rfl) rfl rfl rfl (by decide +kernel) (by simp only [List.length_cons, List.length_nil]; decide) (Nat.le_of_ble_eq_true rfl) h0
theorem Model_header_16 (l0 : Value) (l1 : Value) (y0 : Int32) (y1 : Int32) (w : Wd) (I : MI) (L : ML) (P : MP)  : go 139 16 [l0, l1] [.int y1, .int y0] w I L P = some (.inl (some (.int (y0 + y1))), w, I, L, P) := by
  refine (go_iadd (m := 139) (pc := 16) (by decide +kernel)).trans ?_
  exact go_retI (m := 139) (pc := 17) (by decide +kernel) rfl
theorem Model_header_E (this : Nat) (p0 : Int32) (w : Wd) (I : MI) (L : ML) (P : MP) : call 139 [.ref this, .int p0] w I L P = go 139 0 [.ref this, .int p0] [] w I L P := rfl
theorem Model_leaves_0 (l0 : Value) (x_l1 : Int32) (l2 : Value) (l3 : Value) (l4 : Value) (w : Wd) (I : MI) (L : ML) (P : MP)  : go 140 0 [l0, .int x_l1, l2, l3, l4] [] w I L P = go 140 15 [l0, .int x_l1, (fix1 l2), .int (((nI 207) + ((nI 40) * x_l1)) + (nI 8)), .int (((nI 207) + ((nI 40) * x_l1)) + (nI 8))] [] w I L P := by
  refine (go_si (m := 140) (pc := 0) (n := 207) (by decide +kernel) si_207).trans ?_
  refine (go_bi (m := 140) (pc := 3) (n := 40) (by decide +kernel) bi_40).trans ?_
  refine (go_iload_n (m := 140) (pc := 5) (k := 1) (by decide +kernel) rfl).trans ?_
  refine (go_imul (m := 140) (pc := 6) (by decide +kernel)).trans ?_
  refine (go_iadd (m := 140) (pc := 7) (by decide +kernel)).trans ?_
  refine (go_bi (m := 140) (pc := 8) (n := 8) (by decide +kernel) bi_8).trans ?_
  refine (go_iadd (m := 140) (pc := 10) (by decide +kernel)).trans ?_
  refine (go_istore_n (m := 140) (pc := 11) (k := 3) (ls' := [l0, .int x_l1, (fix1 l2), .int (((nI 207) + ((nI 40) * x_l1)) + (nI 8)), l4]) (by decide +kernel) (by simp only [List.length_cons, List.length_nil]; decide) rfl).trans ?_
  refine (go_iload_n (m := 140) (pc := 12) (k := 3) (by decide +kernel) rfl).trans ?_
  refine (go_istore (m := 140) (pc := 13) (k := 4) (ls' := [l0, .int x_l1, (fix1 l2), .int (((nI 207) + ((nI 40) * x_l1)) + (nI 8)), .int (((nI 207) + ((nI 40) * x_l1)) + (nI 8))]) (by decide +kernel) (by simp only [List.length_cons, List.length_nil]; decide) rfl).trans ?_
  rfl
theorem Model_leaves_15 (l0 : Value) (l1 : Value) (l2 : Value) (x_l3 : Int32) (x_l4 : Int32) (w : Wd) (I : MI) (L : ML) (P : MP)  : go 140 15 [l0, l1, l2, .int x_l3, .int x_l4] [] w I L P = if (x_l3 + (nI 24)) ≤ x_l4 then go 140 47 [l0, l1, l2, .int x_l3, .int x_l4] [] w I L P else go 140 24 [l0, l1, l2, .int x_l3, .int x_l4] [] w I L P := by
  refine (go_iload (m := 140) (pc := 15) (k := 4) (by decide +kernel) rfl).trans ?_
  refine (go_iload_n (m := 140) (pc := 17) (k := 3) (by decide +kernel) rfl).trans ?_
  refine (go_bi (m := 140) (pc := 18) (n := 24) (by decide +kernel) bi_24).trans ?_
  refine (go_iadd (m := 140) (pc := 20) (by decide +kernel)).trans ?_
  exact go_icmpge (m := 140) (pc := 21) (off := 26) (t := 47) (by decide +kernel) (by decide)
theorem Model_leaves_24 (a_l0 : Nat) (l1 : Value) (l2 : Value) (l3 : Value) (l4 : Value) (w : Wd) (I : MI) (L : ML) (P : MP) (h0 : w.1 a_l0 = some (7, 0)) : go 140 24 [.ref a_l0, l1, l2, l3, l4] [] w I L P = go 140 28 [.ref a_l0, l1, l2, l3, l4] [(va_rf (P a_l0 0))] w I L P := by
  refine (go_aload_n (m := 140) (pc := 24) (k := 0) (by decide +kernel) rfl).trans ?_
  refine (go_getR (m := 140) (pc := 25) (o := 7) (x := 7) (ci := 7) (k := 0) (by decide +kernel) rfl f_7_7 rfl h0).trans ?_
  rfl
theorem Model_leaves_28 (a_l0 : Nat) (l1 : Value) (l2 : Value) (l3 : Value) (x_l4 : Int32) (v0 : Value) (w : Wd) (I : MI) (L : ML) (P : MP) (h0 : w.1 a_l0 = some (7, 0)) : go 140 28 [.ref a_l0, l1, l2, l3, .int x_l4] [v0] w I L P = go 140 34 [.ref a_l0, l1, l2, l3, .int x_l4] [(va_rf (P a_l0 0)), .int x_l4, v0] w I L P := by
  refine (go_iload (m := 140) (pc := 28) (k := 4) (by decide +kernel) rfl).trans ?_
  refine (go_aload_n (m := 140) (pc := 30) (k := 0) (by decide +kernel) rfl).trans ?_
  refine (go_getR (m := 140) (pc := 31) (o := 7) (x := 7) (ci := 7) (k := 0) (by decide +kernel) rfl f_7_7 rfl h0).trans ?_
  rfl
theorem Model_leaves_34 (l0 : Value) (l1 : Value) (l2 : Value) (l3 : Value) (x_l4 : Int32) (a_s0 : Nat) (y1 : Int32) (a_s2 : Nat) (w : Wd) (I : MI) (L : ML) (P : MP) (h0 : inA w a_s2 8 (x_l4 + (nI 8))) (h1 : inA w a_s0 8 y1) : go 140 34 [l0, l1, l2, l3, .int x_l4] [.ref a_s2, .int y1, .ref a_s0] w I L P = go 140 15 [l0, l1, l2, (fix1 l3), .int (x_l4 + (nI 1))] [] w (updI I a_s0 (Int32.toNatClampNeg y1) (I a_s2 (Int32.toNatClampNeg (x_l4 + (nI 8))))) L P := by
  refine (go_iload (m := 140) (pc := 34) (k := 4) (by decide +kernel) rfl).trans ?_
  refine (go_bi (m := 140) (pc := 36) (n := 8) (by decide +kernel) bi_8).trans ?_
  refine (go_iadd (m := 140) (pc := 38) (by decide +kernel)).trans ?_
  refine (go_iald (m := 140) (pc := 39) (by decide +kernel) h0).trans ?_
  refine (go_iast (m := 140) (pc := 40) (by decide +kernel) h1).trans ?_
  refine (go_iinc (m := 140) (pc := 41) (k := 4) (n := 1) (x := x_l4) (v := x_l4 + (nI 1)) (ls' := [l0, l1, l2, (fix1 l3), .int (x_l4 + (nI 1))]) (by decide +kernel) rfl (by rw [ic_1]) rfl).trans ?_
  refine (go_goto (m := 140) (pc := 44) (off := -29) (t := 15) (by decide +kernel) (by decide)).trans ?_
  rfl
theorem Model_leaves_47 (a_l0 : Nat) (x_l1 : Int32) (l2 : Value) (l3 : Value) (l4 : Value) (w : Wd) (I : MI) (L : ML) (P : MP) (h0 : w.1 a_l0 = some (7, 0)) : go 140 47 [.ref a_l0, .int x_l1, l2, l3, l4] [] w I L P = kC (call 127 [.ref a_l0, .int x_l1, .int (nI 0), .int (-1)] w I L P) (fun v w1 I1 L1 P1 => go 140 54 [.ref a_l0, .int x_l1, l2, l3, l4] (v.toList ++ []) w1 I1 L1 P1) := by
  refine (go_aload_n (m := 140) (pc := 47) (k := 0) (by decide +kernel) rfl).trans ?_
  refine (go_iload_n (m := 140) (pc := 48) (k := 1) (by decide +kernel) rfl).trans ?_
  refine (go_ic (m := 140) (pc := 49) (n := 0) (by decide +kernel) ic_0).trans ?_
  refine (go_ic (m := 140) (pc := 50) (n := -1) (by decide +kernel) ic_m1).trans ?_
  exact go_vir (m := 140) (pc := 51) (o := 7) (x := 54) (y := 127) (kd := 0) (b := a_l0) (bs := [.int x_l1, .int (nI 0), .int (-1)]) (rs := []) (by decide +kernel) rfl rfl c_7_54 (Or.inl rfl) rfl rfl rfl (by decide +kernel) (by simp only [List.length_cons, List.length_nil]; decide) (Nat.le_of_ble_eq_true rfl) h0
theorem Model_leaves_54 (a_l0 : Nat) (x_l1 : Int32) (x_l2 : Int32) (l3 : Value) (l4 : Value) (w : Wd) (I : MI) (L : ML) (P : MP) (h0 : w.1 a_l0 = some (7, 0)) : go 140 54 [.ref a_l0, .int x_l1, .int x_l2, l3, l4] [] w I L P = kC (call 127 [.ref a_l0, .int x_l1, .int x_l2, .int (nI 1)] w I L P) (fun v w1 I1 L1 P1 => go 140 61 [.ref a_l0, .int x_l1, .int x_l2, l3, l4] (v.toList ++ []) w1 I1 L1 P1) := by
  refine (go_aload_n (m := 140) (pc := 54) (k := 0) (by decide +kernel) rfl).trans ?_
  refine (go_iload_n (m := 140) (pc := 55) (k := 1) (by decide +kernel) rfl).trans ?_
  refine (go_iload_n (m := 140) (pc := 56) (k := 2) (by decide +kernel) rfl).trans ?_
  refine (go_ic (m := 140) (pc := 57) (n := 1) (by decide +kernel) ic_1).trans ?_
  exact go_vir (m := 140) (pc := 58) (o := 7) (x := 54) (y := 127) (kd := 0) (b := a_l0) (bs := [.int x_l1, .int x_l2, .int (nI 1)]) (rs := []) (by decide +kernel) rfl rfl c_7_54 (Or.inl rfl) rfl rfl rfl (by decide +kernel) (by simp only [List.length_cons, List.length_nil]; decide) (Nat.le_of_ble_eq_true rfl) h0
theorem Model_leaves_61 (l0 : Value) (l1 : Value) (l2 : Value) (l3 : Value) (l4 : Value) (w : Wd) (I : MI) (L : ML) (P : MP)  : go 140 61 [l0, l1, l2, l3, l4] [] w I L P = some (.inl none, w, I, L, P) := by
  exact go_retV (m := 140) (pc := 61) (by decide +kernel) rfl
theorem Model_leaves_E (this : Nat) (p0 : Int32) (p1 : Int32) (w : Wd) (I : MI) (L : ML) (P : MP) : call 140 [.ref this, .int p0, .int p1] w I L P = go 140 0 [.ref this, .int p0, .int p1, unk, unk] [] w I L P := rfl
theorem Model_loses_0 (a_l0 : Nat) (l1 : Value) (w : Wd) (I : MI) (L : ML) (P : MP) (h0 : w.1 a_l0 = some (7, 0)) : go 141 0 [.ref a_l0, l1] [] w I L P = go 141 4 [.ref a_l0, l1] [(va_rf (P a_l0 0))] w I L P := by
  refine (go_aload_n (m := 141) (pc := 0) (k := 0) (by decide +kernel) rfl).trans ?_
  refine (go_getR (m := 141) (pc := 1) (o := 7) (x := 7) (ci := 7) (k := 0) (by decide +kernel) rfl f_7_7 rfl h0).trans ?_
  rfl
theorem Model_loses_4 (a_l0 : Nat) (x_l1 : Int32) (a_s0 : Nat) (w : Wd) (I : MI) (L : ML) (P : MP) (h0 : inA w a_s0 8 (nI 5)) (h1 : w.1 a_l0 = some (7, 0)) : go 141 4 [.ref a_l0, .int x_l1] [.ref a_s0] w I L P = go 141 18 [.ref a_l0, .int x_l1] [(va_rf (P a_l0 0))] w (updI I a_s0 (Int32.toNatClampNeg (nI 5)) ((I a_s0 (Int32.toNatClampNeg (nI 5))) &&& (((nI 1) <<< (x_l1 &&& 31)) ^^^ (-1)))) L P := by
  refine (go_ic (m := 141) (pc := 4) (n := 5) (by decide +kernel) ic_5).trans ?_
  refine (go_dup2 (m := 141) (pc := 5) (by decide +kernel) rfl rfl).trans ?_
  refine (go_iald (m := 141) (pc := 6) (by decide +kernel) h0).trans ?_
  refine (go_ic (m := 141) (pc := 7) (n := 1) (by decide +kernel) ic_1).trans ?_
  refine (go_iload_n (m := 141) (pc := 8) (k := 1) (by decide +kernel) rfl).trans ?_
  refine (go_ishl (m := 141) (pc := 9) (by decide +kernel)).trans ?_
  refine (go_ic (m := 141) (pc := 10) (n := -1) (by decide +kernel) ic_m1).trans ?_
  refine (go_ixor (m := 141) (pc := 11) (by decide +kernel)).trans ?_
  refine (go_iand (m := 141) (pc := 12) (by decide +kernel)).trans ?_
  refine (go_iast (m := 141) (pc := 13) (by decide +kernel) h0).trans ?_
  refine (go_aload_n (m := 141) (pc := 14) (k := 0) (by decide +kernel) rfl).trans ?_
  refine (go_getR (m := 141) (pc := 15) (o := 7) (x := 7) (ci := 7) (k := 0) (by decide +kernel) rfl f_7_7 rfl h1).trans ?_
  rfl
theorem Model_loses_18 (a_l0 : Nat) (x_l1 : Int32) (a_s0 : Nat) (w : Wd) (I : MI) (L : ML) (P : MP) (h0 : inA w a_s0 8 ((((nI 207) + ((nI 40) * x_l1)) + (nI 8)) + (nI 3))) (h1 : w.1 a_l0 = some (7, 0)) : go 141 18 [.ref a_l0, .int x_l1] [.ref a_s0] w I L P = kC (call 127 [.ref a_l0, .int x_l1, .int (nI 5), .int (nI 1)] w (updI I a_s0 (Int32.toNatClampNeg ((((nI 207) + ((nI 40) * x_l1)) + (nI 8)) + (nI 3))) ((I a_s0 (Int32.toNatClampNeg ((((nI 207) + ((nI 40) * x_l1)) + (nI 8)) + (nI 3)))) + (nI 1))) L P) (fun v w1 I1 L1 P1 => go 141 43 [.ref a_l0, .int x_l1] (v.toList ++ []) w1 I1 L1 P1) := by
  refine (go_si (m := 141) (pc := 18) (n := 207) (by decide +kernel) si_207).trans ?_
  refine (go_bi (m := 141) (pc := 21) (n := 40) (by decide +kernel) bi_40).trans ?_
  refine (go_iload_n (m := 141) (pc := 23) (k := 1) (by decide +kernel) rfl).trans ?_
  refine (go_imul (m := 141) (pc := 24) (by decide +kernel)).trans ?_
  refine (go_iadd (m := 141) (pc := 25) (by decide +kernel)).trans ?_
  refine (go_bi (m := 141) (pc := 26) (n := 8) (by decide +kernel) bi_8).trans ?_
  refine (go_iadd (m := 141) (pc := 28) (by decide +kernel)).trans ?_
  refine (go_ic (m := 141) (pc := 29) (n := 3) (by decide +kernel) ic_3).trans ?_
  refine (go_iadd (m := 141) (pc := 30) (by decide +kernel)).trans ?_
  refine (go_dup2 (m := 141) (pc := 31) (by decide +kernel) rfl rfl).trans ?_
  refine (go_iald (m := 141) (pc := 32) (by decide +kernel) h0).trans ?_
  refine (go_ic (m := 141) (pc := 33) (n := 1) (by decide +kernel) ic_1).trans ?_
  refine (go_iadd (m := 141) (pc := 34) (by decide +kernel)).trans ?_
  refine (go_iast (m := 141) (pc := 35) (by decide +kernel) h0).trans ?_
  refine (go_aload_n (m := 141) (pc := 36) (k := 0) (by decide +kernel) rfl).trans ?_
  refine (go_iload_n (m := 141) (pc := 37) (k := 1) (by decide +kernel) rfl).trans ?_
  refine (go_ic (m := 141) (pc := 38) (n := 5) (by decide +kernel) ic_5).trans ?_
  refine (go_ic (m := 141) (pc := 39) (n := 1) (by decide +kernel) ic_1).trans ?_
  exact go_vir (m := 141) (pc := 40) (o := 7) (x := 54) (y := 127) (kd := 0) (b := a_l0) (bs := [.int x_l1, .int (nI 5), .int (nI 1)]) (rs := []) (by decide +kernel) rfl rfl c_7_54 (Or.inl rfl) rfl rfl rfl (by decide +kernel) (by simp only [List.length_cons, List.length_nil]; decide) (Nat.le_of_ble_eq_true rfl) h1
theorem Model_loses_43 (a_l0 : Nat) (x_l1 : Int32) (w : Wd) (I : MI) (L : ML) (P : MP) (h0 : w.1 a_l0 = some (7, 0)) : go 141 43 [.ref a_l0, .int x_l1] [] w I L P = kC (call 128 [.ref a_l0, .int x_l1, .int (nI 0), .int (nI 3)] w I L P) (fun v w1 I1 L1 P1 => go 141 50 [.ref a_l0, .int x_l1] (v.toList ++ []) w1 I1 L1 P1) := by
  refine (go_aload_n (m := 141) (pc := 43) (k := 0) (by decide +kernel) rfl).trans ?_
  refine (go_iload_n (m := 141) (pc := 44) (k := 1) (by decide +kernel) rfl).trans ?_
  refine (go_ic (m := 141) (pc := 45) (n := 0) (by decide +kernel) ic_0).trans ?_
  refine (go_ic (m := 141) (pc := 46) (n := 3) (by decide +kernel) ic_3).trans ?_
  exact go_vir (m := 141) (pc := 47) (o := 7) (x := 50) (y := 128) (kd := 0) (b := a_l0) (bs := [.int x_l1, .int (nI 0), .int (nI 3)]) (rs := []) (by decide +kernel) rfl rfl c_7_50 (Or.inl rfl) rfl rfl rfl (by decide +kernel) (by simp only [List.length_cons, List.length_nil]; decide) (Nat.le_of_ble_eq_true rfl) h0
theorem Model_loses_50 (a_l0 : Nat) (l1 : Value) (y0 : Int32) (w : Wd) (I : MI) (L : ML) (P : MP) (h0 : w.1 a_l0 = some (7, 0)) : go 141 50 [.ref a_l0, l1] [.int y0] w I L P = go 141 54 [.ref a_l0, l1] [(va_rf (P a_l0 0)), .int y0] w I L P := by
  refine (go_aload_n (m := 141) (pc := 50) (k := 0) (by decide +kernel) rfl).trans ?_
  refine (go_getR (m := 141) (pc := 51) (o := 7) (x := 7) (ci := 7) (k := 0) (by decide +kernel) rfl f_7_7 rfl h0).trans ?_
  rfl
theorem Model_loses_54 (l0 : Value) (l1 : Value) (y0 : Int32) (a_s1 : Nat) (w : Wd) (I : MI) (L : ML) (P : MP) (h0 : inA w a_s1 8 (nI 3)) : go 141 54 [l0, l1] [.ref a_s1, .int y0] w I L P = if y0 < (I a_s1 (Int32.toNatClampNeg (nI 3))) then go 141 65 [l0, l1] [] w I L P else go 141 59 [l0, l1] [] w I L P := by
  refine (go_ic (m := 141) (pc := 54) (n := 3) (by decide +kernel) ic_3).trans ?_
  refine (go_iald (m := 141) (pc := 55) (by decide +kernel) h0).trans ?_
  exact go_icmplt (m := 141) (pc := 56) (off := 9) (t := 65) (by decide +kernel) (by decide)
theorem Model_loses_59 (a_l0 : Nat) (x_l1 : Int32) (w : Wd) (I : MI) (L : ML) (P : MP) (h0 : w.1 a_l0 = some (7, 0)) : go 141 59 [.ref a_l0, .int x_l1] [] w I L P = kC (call 140 [.ref a_l0, .int x_l1, .int (nI 4)] w I L P) (fun v w1 I1 L1 P1 => go 141 65 [.ref a_l0, .int x_l1] (v.toList ++ []) w1 I1 L1 P1) := by
  refine (go_aload_n (m := 141) (pc := 59) (k := 0) (by decide +kernel) rfl).trans ?_
  refine (go_iload_n (m := 141) (pc := 60) (k := 1) (by decide +kernel) rfl).trans ?_
  refine (go_ic (m := 141) (pc := 61) (n := 4) (by decide +kernel) ic_4).trans ?_
  exact go_vir (m := 141) (pc := 62) (o := 7) (x := 58) (y := 140) (kd := 0) (b := a_l0) (bs := [.int x_l1, .int (nI 4)]) (rs := []) (by decide +kernel) rfl rfl c_7_58 (Or.inl rfl) rfl rfl rfl (by decide +kernel) (by simp only [List.length_cons, List.length_nil]; decide) (Nat.le_of_ble_eq_true rfl) h0
theorem Model_loses_65 (l0 : Value) (l1 : Value) (w : Wd) (I : MI) (L : ML) (P : MP)  : go 141 65 [l0, l1] [] w I L P = some (.inl none, w, I, L, P) := by
  exact go_retV (m := 141) (pc := 65) (by decide +kernel) rfl
theorem Model_loses_E (this : Nat) (p0 : Int32) (w : Wd) (I : MI) (L : ML) (P : MP) : call 141 [.ref this, .int p0] w I L P = go 141 0 [.ref this, .int p0] [] w I L P := rfl
theorem Model_sent_0 (l0 : Value) (l1 : Value) (x_l2 : Int32) (w : Wd) (I : MI) (L : ML) (P : MP)  : go 142 0 [l0, l1, .int x_l2] [] w I L P = if x_l2 = 0 then go 142 12 [l0, l1, .int x_l2] [] w I L P else go 142 4 [l0, l1, .int x_l2] [] w I L P := by
  refine (go_iload_n (m := 142) (pc := 0) (k := 2) (by decide +kernel) rfl).trans ?_
  exact go_ifeq (m := 142) (pc := 1) (off := 11) (t := 12) (by decide +kernel) (by decide)
theorem Model_sent_4 (a_l0 : Nat) (x_l1 : Int32) (l2 : Value) (w : Wd) (I : MI) (L : ML) (P : MP) (h0 : w.1 a_l0 = some (7, 0)) : go 142 4 [.ref a_l0, .int x_l1, l2] [] w I L P = kC (call 139 [.ref a_l0, .int x_l1] w I L P) (fun v w1 I1 L1 P1 => go 142 9 [.ref a_l0, .int x_l1, l2] (v.toList ++ []) w1 I1 L1 P1) := by
  refine (go_aload_n (m := 142) (pc := 4) (k := 0) (by decide +kernel) rfl).trans ?_
  refine (go_iload_n (m := 142) (pc := 5) (k := 1) (by decide +kernel) rfl).trans ?_
  exact go_vir (m := 142) (pc := 6) (o := 7) (x := 62) (y := 139) (kd := 0) (b := a_l0) (bs := [.int x_l1]) (rs := []) (by decide +kernel) rfl rfl c_7_62 (Or.inl rfl) rfl rfl rfl (by decide +kernel) (by simp only [List.length_cons, List.length_nil]; decide) (Nat.le_of_ble_eq_true rfl) h0
theorem Model_sent_9 (l0 : Value) (l1 : Value) (l2 : Value) (y0 : Int32) (w : Wd) (I : MI) (L : ML) (P : MP)  : go 142 9 [l0, l1, l2] [.int y0] w I L P = go 142 27 [l0, l1, l2] [.int y0] w I L P := by
  refine (go_goto (m := 142) (pc := 9) (off := 18) (t := 27) (by decide +kernel) (by decide)).trans ?_
  rfl
theorem Model_sent_12 (a_l0 : Nat) (x_l1 : Int32) (l2 : Value) (w : Wd) (I : MI) (L : ML) (P : MP) (h0 : w.1 a_l0 = some (7, 0)) : go 142 12 [.ref a_l0, .int x_l1, l2] [] w I L P = go 142 20 [.ref a_l0, .int x_l1, l2] [(va_rf (P a_l0 0)), .int (nI 4), .int (nI 0), .int x_l1, .ref a_l0] w I L P := by
  refine (go_aload_n (m := 142) (pc := 12) (k := 0) (by decide +kernel) rfl).trans ?_
  refine (go_iload_n (m := 142) (pc := 13) (k := 1) (by decide +kernel) rfl).trans ?_
  refine (go_ic (m := 142) (pc := 14) (n := 0) (by decide +kernel) ic_0).trans ?_
  refine (go_ic (m := 142) (pc := 15) (n := 4) (by decide +kernel) ic_4).trans ?_
  refine (go_aload_n (m := 142) (pc := 16) (k := 0) (by decide +kernel) rfl).trans ?_
  refine (go_getR (m := 142) (pc := 17) (o := 7) (x := 7) (ci := 7) (k := 0) (by decide +kernel) rfl f_7_7 rfl h0).trans ?_
  rfl
theorem Model_sent_20 (l0 : Value) (l1 : Value) (l2 : Value) (a_s0 : Nat) (y1 : Int32) (y2 : Int32) (y3 : Int32) (a_s4 : Nat) (w : Wd) (I : MI) (L : ML) (P : MP) (h0 : inA w a_s4 8 (nI 7)) (h1 : w.1 a_s0 = some (7, 0)) : go 142 20 [l0, l1, l2] [.ref a_s4, .int y3, .int y2, .int y1, .ref a_s0] w I L P = kC (call 128 [.ref a_s0, .int y1, .int y2, .int (y3 + (I a_s4 (Int32.toNatClampNeg (nI 7))))] w I L P) (fun v w1 I1 L1 P1 => go 142 27 [l0, l1, l2] (v.toList ++ []) w1 I1 L1 P1) := by
  refine (go_bi (m := 142) (pc := 20) (n := 7) (by decide +kernel) bi_7).trans ?_
  refine (go_iald (m := 142) (pc := 22) (by decide +kernel) h0).trans ?_
  refine (go_iadd (m := 142) (pc := 23) (by decide +kernel)).trans ?_
  exact go_vir (m := 142) (pc := 24) (o := 7) (x := 50) (y := 128) (kd := 0) (b := a_s0) (bs := [.int y1, .int y2, .int (y3 + (I a_s4 (Int32.toNatClampNeg (nI 7))))]) (rs := []) (by decide +kernel) rfl rfl c_7_50 (Or.inl rfl) rfl rfl rfl (by decide +kernel) (by simp only [List.length_cons, List.length_nil]; decide) (Nat.le_of_ble_eq_true rfl) h1
theorem Model_sent_27 (l0 : Value) (l1 : Value) (l2 : Value) (y0 : Int32) (w : Wd) (I : MI) (L : ML) (P : MP)  : go 142 27 [l0, l1, l2] [.int y0] w I L P = some (.inl (some (.int y0)), w, I, L, P) := by
  exact go_retI (m := 142) (pc := 27) (by decide +kernel) rfl
theorem Model_sent_E (this : Nat) (p0 : Int32) (p1 : Int32) (w : Wd) (I : MI) (L : ML) (P : MP) : call 142 [.ref this, .int p0, .int p1] w I L P = go 142 0 [.ref this, .int p0, .int p1] [] w I L P := rfl
theorem Model_bitOf_0 (l0 : Value) (l1 : Value) (l2 : Value) (l3 : Value) (w : Wd) (I : MI) (L : ML) (P : MP)  : go 143 0 [l0, l1, l2, l3] [] w I L P = go 143 4 [l0, (fix1 l1), .int (nI 1), .int (nI 0)] [] w I L P := by
  refine (go_ic (m := 143) (pc := 0) (n := 1) (by decide +kernel) ic_1).trans ?_
  refine (go_istore_n (m := 143) (pc := 1) (k := 2) (ls' := [l0, (fix1 l1), .int (nI 1), l3]) (by decide +kernel) (by simp only [List.length_cons, List.length_nil]; decide) rfl).trans ?_
  refine (go_ic (m := 143) (pc := 2) (n := 0) (by decide +kernel) ic_0).trans ?_
  refine (go_istore_n (m := 143) (pc := 3) (k := 3) (ls' := [l0, (fix1 l1), .int (nI 1), .int (nI 0)]) (by decide +kernel) (by simp only [List.length_cons, List.length_nil]; decide) rfl).trans ?_
  rfl
theorem Model_bitOf_4 (l0 : Value) (l1 : Value) (l2 : Value) (x_l3 : Int32) (w : Wd) (I : MI) (L : ML) (P : MP)  : go 143 4 [l0, l1, l2, .int x_l3] [] w I L P = if (nI 3) ≤ x_l3 then go 143 49 [l0, l1, l2, .int x_l3] [] w I L P else go 143 9 [l0, l1, l2, .int x_l3] [] w I L P := by
  refine (go_iload_n (m := 143) (pc := 4) (k := 3) (by decide +kernel) rfl).trans ?_
  refine (go_ic (m := 143) (pc := 5) (n := 3) (by decide +kernel) ic_3).trans ?_
  exact go_icmpge (m := 143) (pc := 6) (off := 43) (t := 49) (by decide +kernel) (by decide)
theorem Model_bitOf_9 (a_l0 : Nat) (l1 : Value) (x_l2 : Int32) (x_l3 : Int32) (w : Wd) (I : MI) (L : ML) (P : MP) (h0 : w.1 a_l0 = some (7, 0)) : go 143 9 [.ref a_l0, l1, .int x_l2, .int x_l3] [] w I L P = kC (call 133 [.ref a_l0, .int x_l3] w I L P) (fun v w1 I1 L1 P1 => go 143 15 [.ref a_l0, l1, .int x_l2, .int x_l3] (v.toList ++ [.int x_l2]) w1 I1 L1 P1) := by
  refine (go_iload_n (m := 143) (pc := 9) (k := 2) (by decide +kernel) rfl).trans ?_
  refine (go_aload_n (m := 143) (pc := 10) (k := 0) (by decide +kernel) rfl).trans ?_
  refine (go_iload_n (m := 143) (pc := 11) (k := 3) (by decide +kernel) rfl).trans ?_
  exact go_vir (m := 143) (pc := 12) (o := 7) (x := 65) (y := 133) (kd := 0) (b := a_l0) (bs := [.int x_l3]) (rs := [.int x_l2]) (by decide +kernel) rfl rfl c_7_65 (Or.inl rfl) rfl rfl rfl (by decide +kernel) (by simp only [List.length_cons, List.length_nil]; decide) (Nat.le_of_ble_eq_true rfl) h0
theorem Model_bitOf_15 (l0 : Value) (l1 : Value) (l2 : Value) (l3 : Value) (y0 : Int32) (y1 : Int32) (w : Wd) (I : MI) (L : ML) (P : MP)  : go 143 15 [l0, l1, l2, l3] [.int y1, .int y0] w I L P = if y1 = 0 then go 143 40 [l0, l1, l2, l3] [.int y0] w I L P else go 143 18 [l0, l1, l2, l3] [.int y0] w I L P := by
  exact go_ifeq (m := 143) (pc := 15) (off := 25) (t := 40) (by decide +kernel) (by decide)
theorem Model_bitOf_18 (a_l0 : Nat) (x_l1 : Int32) (l2 : Value) (x_l3 : Int32) (y0 : Int32) (w : Wd) (I : MI) (L : ML) (P : MP) (h0 : w.1 a_l0 = some (7, 0)) : go 143 18 [.ref a_l0, .int x_l1, l2, .int x_l3] [.int y0] w I L P = kC (call 142 [.ref a_l0, .int x_l3, .int x_l1] w I L P) (fun v w1 I1 L1 P1 => go 143 24 [.ref a_l0, .int x_l1, l2, .int x_l3] (v.toList ++ [.int y0]) w1 I1 L1 P1) := by
  refine (go_aload_n (m := 143) (pc := 18) (k := 0) (by decide +kernel) rfl).trans ?_
  refine (go_iload_n (m := 143) (pc := 19) (k := 3) (by decide +kernel) rfl).trans ?_
  refine (go_iload_n (m := 143) (pc := 20) (k := 1) (by decide +kernel) rfl).trans ?_
  exact go_vir (m := 143) (pc := 21) (o := 7) (x := 69) (y := 142) (kd := 0) (b := a_l0) (bs := [.int x_l3, .int x_l1]) (rs := [.int y0]) (by decide +kernel) rfl rfl c_7_69 (Or.inl rfl) rfl rfl rfl (by decide +kernel) (by simp only [List.length_cons, List.length_nil]; decide) (Nat.le_of_ble_eq_true rfl) h0
theorem Model_bitOf_24 (a_l0 : Nat) (l1 : Value) (l2 : Value) (l3 : Value) (y0 : Int32) (y1 : Int32) (w : Wd) (I : MI) (L : ML) (P : MP) (h0 : w.1 a_l0 = some (7, 0)) : go 143 24 [.ref a_l0, l1, l2, l3] [.int y1, .int y0] w I L P = go 143 30 [.ref a_l0, l1, l2, l3] [(va_rf (P a_l0 0)), .int (nI 7), .int y1, .int y0] w I L P := by
  refine (go_bi (m := 143) (pc := 24) (n := 7) (by decide +kernel) bi_7).trans ?_
  refine (go_aload_n (m := 143) (pc := 26) (k := 0) (by decide +kernel) rfl).trans ?_
  refine (go_getR (m := 143) (pc := 27) (o := 7) (x := 7) (ci := 7) (k := 0) (by decide +kernel) rfl f_7_7 rfl h0).trans ?_
  rfl
theorem Model_bitOf_30 (l0 : Value) (l1 : Value) (l2 : Value) (l3 : Value) (y0 : Int32) (y1 : Int32) (y2 : Int32) (a_s3 : Nat) (w : Wd) (I : MI) (L : ML) (P : MP) (h0 : inA w a_s3 8 (nI 6)) : go 143 30 [l0, l1, l2, l3] [.ref a_s3, .int y2, .int y1, .int y0] w I L P = go 143 41 [l0, l1, l2, l3] [.int ((y1 >>> ((y2 - (I a_s3 (Int32.toNatClampNeg (nI 6)))) &&& 31)) &&& (nI 1)), .int y0] w I L P := by
  refine (go_bi (m := 143) (pc := 30) (n := 6) (by decide +kernel) bi_6).trans ?_
  refine (go_iald (m := 143) (pc := 32) (by decide +kernel) h0).trans ?_
  refine (go_isub (m := 143) (pc := 33) (by decide +kernel)).trans ?_
  refine (go_ishr (m := 143) (pc := 34) (by decide +kernel)).trans ?_
  refine (go_ic (m := 143) (pc := 35) (n := 1) (by decide +kernel) ic_1).trans ?_
  refine (go_iand (m := 143) (pc := 36) (by decide +kernel)).trans ?_
  refine (go_goto (m := 143) (pc := 37) (off := 4) (t := 41) (by decide +kernel) (by decide)).trans ?_
  rfl
theorem Model_bitOf_40 (l0 : Value) (l1 : Value) (l2 : Value) (l3 : Value) (y0 : Int32) (w : Wd) (I : MI) (L : ML) (P : MP)  : go 143 40 [l0, l1, l2, l3] [.int y0] w I L P = go 143 41 [l0, l1, l2, l3] [.int (nI 1), .int y0] w I L P := by
  refine (go_ic (m := 143) (pc := 40) (n := 1) (by decide +kernel) ic_1).trans ?_
  rfl
theorem Model_bitOf_41 (l0 : Value) (l1 : Value) (l2 : Value) (x_l3 : Int32) (y0 : Int32) (y1 : Int32) (w : Wd) (I : MI) (L : ML) (P : MP)  : go 143 41 [l0, l1, l2, .int x_l3] [.int y1, .int y0] w I L P = go 143 4 [l0, (fix1 l1), .int (y0 &&& y1), .int (x_l3 + (nI 1))] [] w I L P := by
  refine (go_iand (m := 143) (pc := 41) (by decide +kernel)).trans ?_
  refine (go_istore_n (m := 143) (pc := 42) (k := 2) (ls' := [l0, (fix1 l1), .int (y0 &&& y1), .int x_l3]) (by decide +kernel) (by simp only [List.length_cons, List.length_nil]; decide) rfl).trans ?_
  refine (go_iinc (m := 143) (pc := 43) (k := 3) (n := 1) (x := x_l3) (v := x_l3 + (nI 1)) (ls' := [l0, (fix1 l1), .int (y0 &&& y1), .int (x_l3 + (nI 1))]) (by decide +kernel) rfl (by rw [ic_1]) rfl).trans ?_
  refine (go_goto (m := 143) (pc := 46) (off := -42) (t := 4) (by decide +kernel) (by decide)).trans ?_
  rfl
theorem Model_bitOf_49 (l0 : Value) (l1 : Value) (l2 : Value) (l3 : Value) (w : Wd) (I : MI) (L : ML) (P : MP)  : go 143 49 [l0, l1, l2, l3] [] w I L P = go 143 51 [l0, l1, (fix1 l2), .int (nI 0)] [] w I L P := by
  refine (go_ic (m := 143) (pc := 49) (n := 0) (by decide +kernel) ic_0).trans ?_
  refine (go_istore_n (m := 143) (pc := 50) (k := 3) (ls' := [l0, l1, (fix1 l2), .int (nI 0)]) (by decide +kernel) (by simp only [List.length_cons, List.length_nil]; decide) rfl).trans ?_
  rfl
theorem Model_bitOf_51 (l0 : Value) (l1 : Value) (l2 : Value) (x_l3 : Int32) (w : Wd) (I : MI) (L : ML) (P : MP)  : go 143 51 [l0, l1, l2, .int x_l3] [] w I L P = if (nI 3) ≤ x_l3 then go 143 98 [l0, l1, l2, .int x_l3] [] w I L P else go 143 56 [l0, l1, l2, .int x_l3] [] w I L P := by
  refine (go_iload_n (m := 143) (pc := 51) (k := 3) (by decide +kernel) rfl).trans ?_
  refine (go_ic (m := 143) (pc := 52) (n := 3) (by decide +kernel) ic_3).trans ?_
  exact go_icmpge (m := 143) (pc := 53) (off := 45) (t := 98) (by decide +kernel) (by decide)
theorem Model_bitOf_56 (a_l0 : Nat) (l1 : Value) (l2 : Value) (x_l3 : Int32) (w : Wd) (I : MI) (L : ML) (P : MP) (h0 : w.1 a_l0 = some (7, 0)) : go 143 56 [.ref a_l0, l1, l2, .int x_l3] [] w I L P = kC (call 133 [.ref a_l0, .int x_l3] w I L P) (fun v w1 I1 L1 P1 => go 143 61 [.ref a_l0, l1, l2, .int x_l3] (v.toList ++ []) w1 I1 L1 P1) := by
  refine (go_aload_n (m := 143) (pc := 56) (k := 0) (by decide +kernel) rfl).trans ?_
  refine (go_iload_n (m := 143) (pc := 57) (k := 3) (by decide +kernel) rfl).trans ?_
  exact go_vir (m := 143) (pc := 58) (o := 7) (x := 65) (y := 133) (kd := 0) (b := a_l0) (bs := [.int x_l3]) (rs := []) (by decide +kernel) rfl rfl c_7_65 (Or.inl rfl) rfl rfl rfl (by decide +kernel) (by simp only [List.length_cons, List.length_nil]; decide) (Nat.le_of_ble_eq_true rfl) h0
theorem Model_bitOf_61 (l0 : Value) (l1 : Value) (l2 : Value) (l3 : Value) (y0 : Int32) (w : Wd) (I : MI) (L : ML) (P : MP)  : go 143 61 [l0, l1, l2, l3] [.int y0] w I L P = if y0 = 0 then go 143 92 [l0, l1, l2, l3] [] w I L P else go 143 64 [l0, l1, l2, l3] [] w I L P := by
  exact go_ifeq (m := 143) (pc := 61) (off := 31) (t := 92) (by decide +kernel) (by decide)
theorem Model_bitOf_64 (a_l0 : Nat) (x_l1 : Int32) (l2 : Value) (x_l3 : Int32) (w : Wd) (I : MI) (L : ML) (P : MP) (h0 : w.1 a_l0 = some (7, 0)) : go 143 64 [.ref a_l0, .int x_l1, l2, .int x_l3] [] w I L P = kC (call 142 [.ref a_l0, .int x_l3, .int x_l1] w I L P) (fun v w1 I1 L1 P1 => go 143 70 [.ref a_l0, .int x_l1, l2, .int x_l3] (v.toList ++ []) w1 I1 L1 P1) := by
  refine (go_aload_n (m := 143) (pc := 64) (k := 0) (by decide +kernel) rfl).trans ?_
  refine (go_iload_n (m := 143) (pc := 65) (k := 3) (by decide +kernel) rfl).trans ?_
  refine (go_iload_n (m := 143) (pc := 66) (k := 1) (by decide +kernel) rfl).trans ?_
  exact go_vir (m := 143) (pc := 67) (o := 7) (x := 69) (y := 142) (kd := 0) (b := a_l0) (bs := [.int x_l3, .int x_l1]) (rs := []) (by decide +kernel) rfl rfl c_7_69 (Or.inl rfl) rfl rfl rfl (by decide +kernel) (by simp only [List.length_cons, List.length_nil]; decide) (Nat.le_of_ble_eq_true rfl) h0
theorem Model_bitOf_70 (a_l0 : Nat) (l1 : Value) (l2 : Value) (l3 : Value) (y0 : Int32) (w : Wd) (I : MI) (L : ML) (P : MP) (h0 : w.1 a_l0 = some (7, 0)) : go 143 70 [.ref a_l0, l1, l2, l3] [.int y0] w I L P = go 143 76 [.ref a_l0, l1, l2, l3] [(va_rf (P a_l0 0)), .int (nI 7), .int y0] w I L P := by
  refine (go_bi (m := 143) (pc := 70) (n := 7) (by decide +kernel) bi_7).trans ?_
  refine (go_aload_n (m := 143) (pc := 72) (k := 0) (by decide +kernel) rfl).trans ?_
  refine (go_getR (m := 143) (pc := 73) (o := 7) (x := 7) (ci := 7) (k := 0) (by decide +kernel) rfl f_7_7 rfl h0).trans ?_
  rfl
theorem Model_bitOf_76 (l0 : Value) (l1 : Value) (x_l2 : Int32) (l3 : Value) (y0 : Int32) (y1 : Int32) (a_s2 : Nat) (w : Wd) (I : MI) (L : ML) (P : MP) (h0 : inA w a_s2 8 (nI 6)) : go 143 76 [l0, l1, .int x_l2, l3] [.ref a_s2, .int y1, .int y0] w I L P = if ((y0 >>> ((y1 - (I a_s2 (Int32.toNatClampNeg (nI 6)))) &&& 31)) &&& (nI 1)) = x_l2 then go 143 92 [l0, l1, .int x_l2, l3] [] w I L P else go 143 87 [l0, l1, .int x_l2, l3] [] w I L P := by
  refine (go_bi (m := 143) (pc := 76) (n := 6) (by decide +kernel) bi_6).trans ?_
  refine (go_iald (m := 143) (pc := 78) (by decide +kernel) h0).trans ?_
  refine (go_isub (m := 143) (pc := 79) (by decide +kernel)).trans ?_
  refine (go_ishr (m := 143) (pc := 80) (by decide +kernel)).trans ?_
  refine (go_ic (m := 143) (pc := 81) (n := 1) (by decide +kernel) ic_1).trans ?_
  refine (go_iand (m := 143) (pc := 82) (by decide +kernel)).trans ?_
  refine (go_iload_n (m := 143) (pc := 83) (k := 2) (by decide +kernel) rfl).trans ?_
  exact go_icmpeq (m := 143) (pc := 84) (off := 8) (t := 92) (by decide +kernel) (by decide)
theorem Model_bitOf_87 (a_l0 : Nat) (l1 : Value) (l2 : Value) (x_l3 : Int32) (w : Wd) (I : MI) (L : ML) (P : MP) (h0 : w.1 a_l0 = some (7, 0)) : go 143 87 [.ref a_l0, l1, l2, .int x_l3] [] w I L P = kC (call 141 [.ref a_l0, .int x_l3] w I L P) (fun v w1 I1 L1 P1 => go 143 92 [.ref a_l0, l1, l2, .int x_l3] (v.toList ++ []) w1 I1 L1 P1) := by
  refine (go_aload_n (m := 143) (pc := 87) (k := 0) (by decide +kernel) rfl).trans ?_
  refine (go_iload_n (m := 143) (pc := 88) (k := 3) (by decide +kernel) rfl).trans ?_
  exact go_vir (m := 143) (pc := 89) (o := 7) (x := 73) (y := 141) (kd := 0) (b := a_l0) (bs := [.int x_l3]) (rs := []) (by decide +kernel) rfl rfl c_7_73 (Or.inl rfl) rfl rfl rfl (by decide +kernel) (by simp only [List.length_cons, List.length_nil]; decide) (Nat.le_of_ble_eq_true rfl) h0
theorem Model_bitOf_92 (l0 : Value) (l1 : Value) (l2 : Value) (x_l3 : Int32) (w : Wd) (I : MI) (L : ML) (P : MP)  : go 143 92 [l0, l1, l2, .int x_l3] [] w I L P = go 143 51 [l0, l1, (fix1 l2), .int (x_l3 + (nI 1))] [] w I L P := by
  refine (go_iinc (m := 143) (pc := 92) (k := 3) (n := 1) (x := x_l3) (v := x_l3 + (nI 1)) (ls' := [l0, l1, (fix1 l2), .int (x_l3 + (nI 1))]) (by decide +kernel) rfl (by rw [ic_1]) rfl).trans ?_
  refine (go_goto (m := 143) (pc := 95) (off := -44) (t := 51) (by decide +kernel) (by decide)).trans ?_
  rfl
theorem Model_bitOf_98 (a_l0 : Nat) (l1 : Value) (l2 : Value) (l3 : Value) (w : Wd) (I : MI) (L : ML) (P : MP) (h0 : w.1 a_l0 = some (7, 0)) : go 143 98 [.ref a_l0, l1, l2, l3] [] w I L P = go 143 102 [.ref a_l0, l1, l2, l3] [(va_rf (P a_l0 0))] w I L P := by
  refine (go_aload_n (m := 143) (pc := 98) (k := 0) (by decide +kernel) rfl).trans ?_
  refine (go_getR (m := 143) (pc := 99) (o := 7) (x := 7) (ci := 7) (k := 0) (by decide +kernel) rfl f_7_7 rfl h0).trans ?_
  rfl
theorem Model_bitOf_102 (l0 : Value) (l1 : Value) (x_l2 : Int32) (l3 : Value) (a_s0 : Nat) (w : Wd) (I : MI) (L : ML) (P : MP) (h0 : inA w a_s0 8 (nI 6)) : go 143 102 [l0, l1, .int x_l2, l3] [.ref a_s0] w I L P = some (.inl (some (.int x_l2)), w, (updI I a_s0 (Int32.toNatClampNeg (nI 6)) ((I a_s0 (Int32.toNatClampNeg (nI 6))) + (nI 1))), L, P) := by
  refine (go_bi (m := 143) (pc := 102) (n := 6) (by decide +kernel) bi_6).trans ?_
  refine (go_dup2 (m := 143) (pc := 104) (by decide +kernel) rfl rfl).trans ?_
  refine (go_iald (m := 143) (pc := 105) (by decide +kernel) h0).trans ?_
  refine (go_ic (m := 143) (pc := 106) (n := 1) (by decide +kernel) ic_1).trans ?_
  refine (go_iadd (m := 143) (pc := 107) (by decide +kernel)).trans ?_
  refine (go_iast (m := 143) (pc := 108) (by decide +kernel) h0).trans ?_
  refine (go_iload_n (m := 143) (pc := 109) (k := 2) (by decide +kernel) rfl).trans ?_
  exact go_retI (m := 143) (pc := 110) (by decide +kernel) rfl
theorem Model_bitOf_E (this : Nat) (p0 : Int32) (w : Wd) (I : MI) (L : ML) (P : MP) : call 143 [.ref this, .int p0] w I L P = go 143 0 [.ref this, .int p0, unk, unk] [] w I L P := rfl
theorem Model_anyContender_0 (a_l0 : Nat) (w : Wd) (I : MI) (L : ML) (P : MP) (h0 : w.1 a_l0 = some (7, 0)) : go 144 0 [.ref a_l0] [] w I L P = kC (call 133 [.ref a_l0, .int (nI 0)] w I L P) (fun v w1 I1 L1 P1 => go 144 5 [.ref a_l0] (v.toList ++ []) w1 I1 L1 P1) := by
  refine (go_aload_n (m := 144) (pc := 0) (k := 0) (by decide +kernel) rfl).trans ?_
  refine (go_ic (m := 144) (pc := 1) (n := 0) (by decide +kernel) ic_0).trans ?_
  exact go_vir (m := 144) (pc := 2) (o := 7) (x := 65) (y := 133) (kd := 0) (b := a_l0) (bs := [.int (nI 0)]) (rs := []) (by decide +kernel) rfl rfl c_7_65 (Or.inl rfl) rfl rfl rfl (by decide +kernel) (by simp only [List.length_cons, List.length_nil]; decide) (Nat.le_of_ble_eq_true rfl) h0
theorem Model_anyContender_5 (l0 : Value) (y0 : Int32) (w : Wd) (I : MI) (L : ML) (P : MP)  : go 144 5 [l0] [.int y0] w I L P = if y0 = 0 then go 144 12 [l0] [] w I L P else go 144 8 [l0] [] w I L P := by
  exact go_ifeq (m := 144) (pc := 5) (off := 7) (t := 12) (by decide +kernel) (by decide)
theorem Model_anyContender_8 (l0 : Value) (w : Wd) (I : MI) (L : ML) (P : MP)  : go 144 8 [l0] [] w I L P = go 144 25 [l0] [.int (nI 0)] w I L P := by
  refine (go_ic (m := 144) (pc := 8) (n := 0) (by decide +kernel) ic_0).trans ?_
  refine (go_goto (m := 144) (pc := 9) (off := 16) (t := 25) (by decide +kernel) (by decide)).trans ?_
  rfl
theorem Model_anyContender_12 (a_l0 : Nat) (w : Wd) (I : MI) (L : ML) (P : MP) (h0 : w.1 a_l0 = some (7, 0)) : go 144 12 [.ref a_l0] [] w I L P = kC (call 133 [.ref a_l0, .int (nI 1)] w I L P) (fun v w1 I1 L1 P1 => go 144 17 [.ref a_l0] (v.toList ++ []) w1 I1 L1 P1) := by
  refine (go_aload_n (m := 144) (pc := 12) (k := 0) (by decide +kernel) rfl).trans ?_
  refine (go_ic (m := 144) (pc := 13) (n := 1) (by decide +kernel) ic_1).trans ?_
  exact go_vir (m := 144) (pc := 14) (o := 7) (x := 65) (y := 133) (kd := 0) (b := a_l0) (bs := [.int (nI 1)]) (rs := []) (by decide +kernel) rfl rfl c_7_65 (Or.inl rfl) rfl rfl rfl (by decide +kernel) (by simp only [List.length_cons, List.length_nil]; decide) (Nat.le_of_ble_eq_true rfl) h0
theorem Model_anyContender_17 (l0 : Value) (y0 : Int32) (w : Wd) (I : MI) (L : ML) (P : MP)  : go 144 17 [l0] [.int y0] w I L P = if y0 = 0 then go 144 24 [l0] [] w I L P else go 144 20 [l0] [] w I L P := by
  exact go_ifeq (m := 144) (pc := 17) (off := 7) (t := 24) (by decide +kernel) (by decide)
theorem Model_anyContender_20 (l0 : Value) (w : Wd) (I : MI) (L : ML) (P : MP)  : go 144 20 [l0] [] w I L P = go 144 25 [l0] [.int (nI 1)] w I L P := by
  refine (go_ic (m := 144) (pc := 20) (n := 1) (by decide +kernel) ic_1).trans ?_
  refine (go_goto (m := 144) (pc := 21) (off := 4) (t := 25) (by decide +kernel) (by decide)).trans ?_
  rfl
theorem Model_anyContender_24 (l0 : Value) (w : Wd) (I : MI) (L : ML) (P : MP)  : go 144 24 [l0] [] w I L P = go 144 25 [l0] [.int (nI 2)] w I L P := by
  refine (go_ic (m := 144) (pc := 24) (n := 2) (by decide +kernel) ic_2).trans ?_
  rfl
theorem Model_anyContender_25 (l0 : Value) (y0 : Int32) (w : Wd) (I : MI) (L : ML) (P : MP)  : go 144 25 [l0] [.int y0] w I L P = some (.inl (some (.int y0)), w, I, L, P) := by
  exact go_retI (m := 144) (pc := 25) (by decide +kernel) rfl
theorem Model_anyContender_E (this : Nat) (w : Wd) (I : MI) (L : ML) (P : MP) : call 144 [.ref this] w I L P = go 144 0 [.ref this] [] w I L P := rfl
theorem Model_allLeave_0 (l0 : Value) (l1 : Value) (l2 : Value) (w : Wd) (I : MI) (L : ML) (P : MP)  : go 145 0 [l0, l1, l2] [] w I L P = go 145 2 [l0, (fix1 l1), .int (nI 0)] [] w I L P := by
  refine (go_ic (m := 145) (pc := 0) (n := 0) (by decide +kernel) ic_0).trans ?_
  refine (go_istore_n (m := 145) (pc := 1) (k := 2) (ls' := [l0, (fix1 l1), .int (nI 0)]) (by decide +kernel) (by simp only [List.length_cons, List.length_nil]; decide) rfl).trans ?_
  rfl
theorem Model_allLeave_2 (l0 : Value) (l1 : Value) (x_l2 : Int32) (w : Wd) (I : MI) (L : ML) (P : MP)  : go 145 2 [l0, l1, .int x_l2] [] w I L P = if (nI 3) ≤ x_l2 then go 145 27 [l0, l1, .int x_l2] [] w I L P else go 145 7 [l0, l1, .int x_l2] [] w I L P := by
  refine (go_iload_n (m := 145) (pc := 2) (k := 2) (by decide +kernel) rfl).trans ?_
  refine (go_ic (m := 145) (pc := 3) (n := 3) (by decide +kernel) ic_3).trans ?_
  exact go_icmpge (m := 145) (pc := 4) (off := 23) (t := 27) (by decide +kernel) (by decide)
theorem Model_allLeave_7 (a_l0 : Nat) (l1 : Value) (x_l2 : Int32) (w : Wd) (I : MI) (L : ML) (P : MP) (h0 : w.1 a_l0 = some (7, 0)) : go 145 7 [.ref a_l0, l1, .int x_l2] [] w I L P = kC (call 133 [.ref a_l0, .int x_l2] w I L P) (fun v w1 I1 L1 P1 => go 145 12 [.ref a_l0, l1, .int x_l2] (v.toList ++ []) w1 I1 L1 P1) := by
  refine (go_aload_n (m := 145) (pc := 7) (k := 0) (by decide +kernel) rfl).trans ?_
  refine (go_iload_n (m := 145) (pc := 8) (k := 2) (by decide +kernel) rfl).trans ?_
  exact go_vir (m := 145) (pc := 9) (o := 7) (x := 65) (y := 133) (kd := 0) (b := a_l0) (bs := [.int x_l2]) (rs := []) (by decide +kernel) rfl rfl c_7_65 (Or.inl rfl) rfl rfl rfl (by decide +kernel) (by simp only [List.length_cons, List.length_nil]; decide) (Nat.le_of_ble_eq_true rfl) h0
theorem Model_allLeave_12 (l0 : Value) (l1 : Value) (l2 : Value) (y0 : Int32) (w : Wd) (I : MI) (L : ML) (P : MP)  : go 145 12 [l0, l1, l2] [.int y0] w I L P = if y0 = 0 then go 145 21 [l0, l1, l2] [] w I L P else go 145 15 [l0, l1, l2] [] w I L P := by
  exact go_ifeq (m := 145) (pc := 12) (off := 9) (t := 21) (by decide +kernel) (by decide)
theorem Model_allLeave_15 (a_l0 : Nat) (x_l1 : Int32) (x_l2 : Int32) (w : Wd) (I : MI) (L : ML) (P : MP) (h0 : w.1 a_l0 = some (7, 0)) : go 145 15 [.ref a_l0, .int x_l1, .int x_l2] [] w I L P = kC (call 140 [.ref a_l0, .int x_l2, .int x_l1] w I L P) (fun v w1 I1 L1 P1 => go 145 21 [.ref a_l0, .int x_l1, .int x_l2] (v.toList ++ []) w1 I1 L1 P1) := by
  refine (go_aload_n (m := 145) (pc := 15) (k := 0) (by decide +kernel) rfl).trans ?_
  refine (go_iload_n (m := 145) (pc := 16) (k := 2) (by decide +kernel) rfl).trans ?_
  refine (go_iload_n (m := 145) (pc := 17) (k := 1) (by decide +kernel) rfl).trans ?_
  exact go_vir (m := 145) (pc := 18) (o := 7) (x := 58) (y := 140) (kd := 0) (b := a_l0) (bs := [.int x_l2, .int x_l1]) (rs := []) (by decide +kernel) rfl rfl c_7_58 (Or.inl rfl) rfl rfl rfl (by decide +kernel) (by simp only [List.length_cons, List.length_nil]; decide) (Nat.le_of_ble_eq_true rfl) h0
theorem Model_allLeave_21 (l0 : Value) (l1 : Value) (x_l2 : Int32) (w : Wd) (I : MI) (L : ML) (P : MP)  : go 145 21 [l0, l1, .int x_l2] [] w I L P = go 145 2 [l0, (fix1 l1), .int (x_l2 + (nI 1))] [] w I L P := by
  refine (go_iinc (m := 145) (pc := 21) (k := 2) (n := 1) (x := x_l2) (v := x_l2 + (nI 1)) (ls' := [l0, (fix1 l1), .int (x_l2 + (nI 1))]) (by decide +kernel) rfl (by rw [ic_1]) rfl).trans ?_
  refine (go_goto (m := 145) (pc := 24) (off := -22) (t := 2) (by decide +kernel) (by decide)).trans ?_
  rfl
theorem Model_allLeave_27 (a_l0 : Nat) (l1 : Value) (l2 : Value) (w : Wd) (I : MI) (L : ML) (P : MP) (h0 : w.1 a_l0 = some (7, 0)) : go 145 27 [.ref a_l0, l1, l2] [] w I L P = go 145 31 [.ref a_l0, l1, l2] [(va_rf (P a_l0 0))] w I L P := by
  refine (go_aload_n (m := 145) (pc := 27) (k := 0) (by decide +kernel) rfl).trans ?_
  refine (go_getR (m := 145) (pc := 28) (o := 7) (x := 7) (ci := 7) (k := 0) (by decide +kernel) rfl f_7_7 rfl h0).trans ?_
  rfl
theorem Model_allLeave_31 (a_l0 : Nat) (l1 : Value) (l2 : Value) (a_s0 : Nat) (w : Wd) (I : MI) (L : ML) (P : MP) (h0 : inA w a_s0 8 (nI 5)) (h1 : w.1 a_l0 = some (7, 0)) : go 145 31 [.ref a_l0, l1, l2] [.ref a_s0] w I L P = go 145 38 [.ref a_l0, l1, l2] [(va_rf (P a_l0 0))] w (updI I a_s0 (Int32.toNatClampNeg (nI 5)) (nI 0)) L P := by
  refine (go_ic (m := 145) (pc := 31) (n := 5) (by decide +kernel) ic_5).trans ?_
  refine (go_ic (m := 145) (pc := 32) (n := 0) (by decide +kernel) ic_0).trans ?_
  refine (go_iast (m := 145) (pc := 33) (by decide +kernel) h0).trans ?_
  refine (go_aload_n (m := 145) (pc := 34) (k := 0) (by decide +kernel) rfl).trans ?_
  refine (go_getR (m := 145) (pc := 35) (o := 7) (x := 7) (ci := 7) (k := 0) (by decide +kernel) rfl f_7_7 rfl h1).trans ?_
  rfl
theorem Model_allLeave_38 (l0 : Value) (l1 : Value) (l2 : Value) (a_s0 : Nat) (w : Wd) (I : MI) (L : ML) (P : MP) (h0 : inA w a_s0 8 (nI 4)) : go 145 38 [l0, l1, l2] [.ref a_s0] w I L P = some (.inl none, w, (updI I a_s0 (Int32.toNatClampNeg (nI 4)) (nI 8)), L, P) := by
  refine (go_ic (m := 145) (pc := 38) (n := 4) (by decide +kernel) ic_4).trans ?_
  refine (go_bi (m := 145) (pc := 39) (n := 8) (by decide +kernel) bi_8).trans ?_
  refine (go_iast (m := 145) (pc := 41) (by decide +kernel) h0).trans ?_
  exact go_retV (m := 145) (pc := 42) (by decide +kernel) rfl
theorem Model_allLeave_E (this : Nat) (p0 : Int32) (w : Wd) (I : MI) (L : ML) (P : MP) : call 145 [.ref this, .int p0] w I L P = go 145 0 [.ref this, .int p0, unk] [] w I L P := rfl
theorem Model_finishes_0 (l0 : Value) (l1 : Value) (l2 : Value) (w : Wd) (I : MI) (L : ML) (P : MP)  : go 146 0 [l0, l1, l2] [] w I L P = go 146 4 [(fix1 l0), .int (nI 0), .int (nI 0)] [] w I L P := by
  refine (go_ic (m := 146) (pc := 0) (n := 0) (by decide +kernel) ic_0).trans ?_
  refine (go_istore_n (m := 146) (pc := 1) (k := 1) (ls' := [(fix1 l0), .int (nI 0), l2]) (by decide +kernel) (by simp only [List.length_cons, List.length_nil]; decide) rfl).trans ?_
  refine (go_ic (m := 146) (pc := 2) (n := 0) (by decide +kernel) ic_0).trans ?_
  refine (go_istore_n (m := 146) (pc := 3) (k := 2) (ls' := [(fix1 l0), .int (nI 0), .int (nI 0)]) (by decide +kernel) (by simp only [List.length_cons, List.length_nil]; decide) rfl).trans ?_
  rfl
theorem Model_finishes_4 (l0 : Value) (l1 : Value) (x_l2 : Int32) (w : Wd) (I : MI) (L : ML) (P : MP)  : go 146 4 [l0, l1, .int x_l2] [] w I L P = if (nI 3) ≤ x_l2 then go 146 76 [l0, l1, .int x_l2] [] w I L P else go 146 9 [l0, l1, .int x_l2] [] w I L P := by
  refine (go_iload_n (m := 146) (pc := 4) (k := 2) (by decide +kernel) rfl).trans ?_
  refine (go_ic (m := 146) (pc := 5) (n := 3) (by decide +kernel) ic_3).trans ?_
  exact go_icmpge (m := 146) (pc := 6) (off := 70) (t := 76) (by decide +kernel) (by decide)
theorem Model_finishes_9 (a_l0 : Nat) (l1 : Value) (x_l2 : Int32) (w : Wd) (I : MI) (L : ML) (P : MP) (h0 : w.1 a_l0 = some (7, 0)) : go 146 9 [.ref a_l0, l1, .int x_l2] [] w I L P = kC (call 133 [.ref a_l0, .int x_l2] w I L P) (fun v w1 I1 L1 P1 => go 146 14 [.ref a_l0, l1, .int x_l2] (v.toList ++ []) w1 I1 L1 P1) := by
  refine (go_aload_n (m := 146) (pc := 9) (k := 0) (by decide +kernel) rfl).trans ?_
  refine (go_iload_n (m := 146) (pc := 10) (k := 2) (by decide +kernel) rfl).trans ?_
  exact go_vir (m := 146) (pc := 11) (o := 7) (x := 65) (y := 133) (kd := 0) (b := a_l0) (bs := [.int x_l2]) (rs := []) (by decide +kernel) rfl rfl c_7_65 (Or.inl rfl) rfl rfl rfl (by decide +kernel) (by simp only [List.length_cons, List.length_nil]; decide) (Nat.le_of_ble_eq_true rfl) h0
theorem Model_finishes_14 (l0 : Value) (l1 : Value) (l2 : Value) (y0 : Int32) (w : Wd) (I : MI) (L : ML) (P : MP)  : go 146 14 [l0, l1, l2] [.int y0] w I L P = if y0 = 0 then go 146 54 [l0, l1, l2] [] w I L P else go 146 17 [l0, l1, l2] [] w I L P := by
  exact go_ifeq (m := 146) (pc := 14) (off := 40) (t := 54) (by decide +kernel) (by decide)
theorem Model_finishes_17 (a_l0 : Nat) (l1 : Value) (x_l2 : Int32) (w : Wd) (I : MI) (L : ML) (P : MP) (h0 : w.1 a_l0 = some (7, 0)) : go 146 17 [.ref a_l0, l1, .int x_l2] [] w I L P = kC (call 128 [.ref a_l0, .int x_l2, .int (nI 0), .int (nI 2)] w I L P) (fun v w1 I1 L1 P1 => go 146 24 [.ref a_l0, l1, .int x_l2] (v.toList ++ []) w1 I1 L1 P1) := by
  refine (go_aload_n (m := 146) (pc := 17) (k := 0) (by decide +kernel) rfl).trans ?_
  refine (go_iload_n (m := 146) (pc := 18) (k := 2) (by decide +kernel) rfl).trans ?_
  refine (go_ic (m := 146) (pc := 19) (n := 0) (by decide +kernel) ic_0).trans ?_
  refine (go_ic (m := 146) (pc := 20) (n := 2) (by decide +kernel) ic_2).trans ?_
  exact go_vir (m := 146) (pc := 21) (o := 7) (x := 50) (y := 128) (kd := 0) (b := a_l0) (bs := [.int x_l2, .int (nI 0), .int (nI 2)]) (rs := []) (by decide +kernel) rfl rfl c_7_50 (Or.inl rfl) rfl rfl rfl (by decide +kernel) (by simp only [List.length_cons, List.length_nil]; decide) (Nat.le_of_ble_eq_true rfl) h0
theorem Model_finishes_24 (a_l0 : Nat) (l1 : Value) (l2 : Value) (y0 : Int32) (w : Wd) (I : MI) (L : ML) (P : MP) (h0 : w.1 a_l0 = some (7, 0)) : go 146 24 [.ref a_l0, l1, l2] [.int y0] w I L P = go 146 28 [.ref a_l0, l1, l2] [(va_rf (P a_l0 0)), .int y0] w I L P := by
  refine (go_aload_n (m := 146) (pc := 24) (k := 0) (by decide +kernel) rfl).trans ?_
  refine (go_getR (m := 146) (pc := 25) (o := 7) (x := 7) (ci := 7) (k := 0) (by decide +kernel) rfl f_7_7 rfl h0).trans ?_
  rfl
theorem Model_finishes_28 (l0 : Value) (l1 : Value) (l2 : Value) (y0 : Int32) (a_s1 : Nat) (w : Wd) (I : MI) (L : ML) (P : MP) (h0 : inA w a_s1 8 (nI 7)) : go 146 28 [l0, l1, l2] [.ref a_s1, .int y0] w I L P = if y0 ≠ (I a_s1 (Int32.toNatClampNeg (nI 7))) then go 146 54 [l0, l1, l2] [] w I L P else go 146 34 [l0, l1, l2] [] w I L P := by
  refine (go_bi (m := 146) (pc := 28) (n := 7) (by decide +kernel) bi_7).trans ?_
  refine (go_iald (m := 146) (pc := 30) (by decide +kernel) h0).trans ?_
  exact go_icmpne (m := 146) (pc := 31) (off := 23) (t := 54) (by decide +kernel) (by decide)
theorem Model_finishes_34 (a_l0 : Nat) (l1 : Value) (x_l2 : Int32) (w : Wd) (I : MI) (L : ML) (P : MP) (h0 : w.1 a_l0 = some (7, 0)) : go 146 34 [.ref a_l0, l1, .int x_l2] [] w I L P = kC (call 140 [.ref a_l0, .int x_l2, .int (nI 1)] w I L P) (fun v w1 I1 L1 P1 => go 146 40 [.ref a_l0, l1, .int x_l2] (v.toList ++ []) w1 I1 L1 P1) := by
  refine (go_aload_n (m := 146) (pc := 34) (k := 0) (by decide +kernel) rfl).trans ?_
  refine (go_iload_n (m := 146) (pc := 35) (k := 2) (by decide +kernel) rfl).trans ?_
  refine (go_ic (m := 146) (pc := 36) (n := 1) (by decide +kernel) ic_1).trans ?_
  exact go_vir (m := 146) (pc := 37) (o := 7) (x := 58) (y := 140) (kd := 0) (b := a_l0) (bs := [.int x_l2, .int (nI 1)]) (rs := []) (by decide +kernel) rfl rfl c_7_58 (Or.inl rfl) rfl rfl rfl (by decide +kernel) (by simp only [List.length_cons, List.length_nil]; decide) (Nat.le_of_ble_eq_true rfl) h0
theorem Model_finishes_40 (a_l0 : Nat) (l1 : Value) (l2 : Value) (w : Wd) (I : MI) (L : ML) (P : MP) (h0 : w.1 a_l0 = some (7, 0)) : go 146 40 [.ref a_l0, l1, l2] [] w I L P = go 146 44 [.ref a_l0, l1, l2] [(va_rf (P a_l0 0))] w I L P := by
  refine (go_aload_n (m := 146) (pc := 40) (k := 0) (by decide +kernel) rfl).trans ?_
  refine (go_getR (m := 146) (pc := 41) (o := 7) (x := 7) (ci := 7) (k := 0) (by decide +kernel) rfl f_7_7 rfl h0).trans ?_
  rfl
theorem Model_finishes_44 (l0 : Value) (l1 : Value) (x_l2 : Int32) (a_s0 : Nat) (w : Wd) (I : MI) (L : ML) (P : MP) (h0 : inA w a_s0 8 (nI 5)) : go 146 44 [l0, l1, .int x_l2] [.ref a_s0] w I L P = go 146 54 [l0, l1, .int x_l2] [] w (updI I a_s0 (Int32.toNatClampNeg (nI 5)) ((I a_s0 (Int32.toNatClampNeg (nI 5))) &&& (((nI 1) <<< (x_l2 &&& 31)) ^^^ (-1)))) L P := by
  refine (go_ic (m := 146) (pc := 44) (n := 5) (by decide +kernel) ic_5).trans ?_
  refine (go_dup2 (m := 146) (pc := 45) (by decide +kernel) rfl rfl).trans ?_
  refine (go_iald (m := 146) (pc := 46) (by decide +kernel) h0).trans ?_
  refine (go_ic (m := 146) (pc := 47) (n := 1) (by decide +kernel) ic_1).trans ?_
  refine (go_iload_n (m := 146) (pc := 48) (k := 2) (by decide +kernel) rfl).trans ?_
  refine (go_ishl (m := 146) (pc := 49) (by decide +kernel)).trans ?_
  refine (go_ic (m := 146) (pc := 50) (n := -1) (by decide +kernel) ic_m1).trans ?_
  refine (go_ixor (m := 146) (pc := 51) (by decide +kernel)).trans ?_
  refine (go_iand (m := 146) (pc := 52) (by decide +kernel)).trans ?_
  refine (go_iast (m := 146) (pc := 53) (by decide +kernel) h0).trans ?_
  rfl
theorem Model_finishes_54 (a_l0 : Nat) (x_l1 : Int32) (x_l2 : Int32) (w : Wd) (I : MI) (L : ML) (P : MP) (h0 : w.1 a_l0 = some (7, 0)) : go 146 54 [.ref a_l0, .int x_l1, .int x_l2] [] w I L P = kC (call 133 [.ref a_l0, .int x_l2] w I L P) (fun v w1 I1 L1 P1 => go 146 60 [.ref a_l0, .int x_l1, .int x_l2] (v.toList ++ [.int x_l1]) w1 I1 L1 P1) := by
  refine (go_iload_n (m := 146) (pc := 54) (k := 1) (by decide +kernel) rfl).trans ?_
  refine (go_aload_n (m := 146) (pc := 55) (k := 0) (by decide +kernel) rfl).trans ?_
  refine (go_iload_n (m := 146) (pc := 56) (k := 2) (by decide +kernel) rfl).trans ?_
  exact go_vir (m := 146) (pc := 57) (o := 7) (x := 65) (y := 133) (kd := 0) (b := a_l0) (bs := [.int x_l2]) (rs := [.int x_l1]) (by decide +kernel) rfl rfl c_7_65 (Or.inl rfl) rfl rfl rfl (by decide +kernel) (by simp only [List.length_cons, List.length_nil]; decide) (Nat.le_of_ble_eq_true rfl) h0
theorem Model_finishes_60 (l0 : Value) (l1 : Value) (l2 : Value) (y0 : Int32) (y1 : Int32) (w : Wd) (I : MI) (L : ML) (P : MP)  : go 146 60 [l0, l1, l2] [.int y1, .int y0] w I L P = if y1 = 0 then go 146 67 [l0, l1, l2] [.int y0] w I L P else go 146 63 [l0, l1, l2] [.int y0] w I L P := by
  exact go_ifeq (m := 146) (pc := 60) (off := 7) (t := 67) (by decide +kernel) (by decide)
theorem Model_finishes_63 (l0 : Value) (l1 : Value) (l2 : Value) (y0 : Int32) (w : Wd) (I : MI) (L : ML) (P : MP)  : go 146 63 [l0, l1, l2] [.int y0] w I L P = go 146 68 [l0, l1, l2] [.int (nI 1), .int y0] w I L P := by
  refine (go_ic (m := 146) (pc := 63) (n := 1) (by decide +kernel) ic_1).trans ?_
  refine (go_goto (m := 146) (pc := 64) (off := 4) (t := 68) (by decide +kernel) (by decide)).trans ?_
  rfl
theorem Model_finishes_67 (l0 : Value) (l1 : Value) (l2 : Value) (y0 : Int32) (w : Wd) (I : MI) (L : ML) (P : MP)  : go 146 67 [l0, l1, l2] [.int y0] w I L P = go 146 68 [l0, l1, l2] [.int (nI 0), .int y0] w I L P := by
  refine (go_ic (m := 146) (pc := 67) (n := 0) (by decide +kernel) ic_0).trans ?_
  rfl
theorem Model_finishes_68 (l0 : Value) (l1 : Value) (x_l2 : Int32) (y0 : Int32) (y1 : Int32) (w : Wd) (I : MI) (L : ML) (P : MP)  : go 146 68 [l0, l1, .int x_l2] [.int y1, .int y0] w I L P = go 146 4 [(fix1 l0), .int (y0 + y1), .int (x_l2 + (nI 1))] [] w I L P := by
  refine (go_iadd (m := 146) (pc := 68) (by decide +kernel)).trans ?_
  refine (go_istore_n (m := 146) (pc := 69) (k := 1) (ls' := [(fix1 l0), .int (y0 + y1), .int x_l2]) (by decide +kernel) (by simp only [List.length_cons, List.length_nil]; decide) rfl).trans ?_
  refine (go_iinc (m := 146) (pc := 70) (k := 2) (n := 1) (x := x_l2) (v := x_l2 + (nI 1)) (ls' := [(fix1 l0), .int (y0 + y1), .int (x_l2 + (nI 1))]) (by decide +kernel) rfl (by rw [ic_1]) rfl).trans ?_
  refine (go_goto (m := 146) (pc := 73) (off := -69) (t := 4) (by decide +kernel) (by decide)).trans ?_
  rfl
theorem Model_finishes_76 (l0 : Value) (x_l1 : Int32) (l2 : Value) (w : Wd) (I : MI) (L : ML) (P : MP)  : go 146 76 [l0, .int x_l1, l2] [] w I L P = some (.inl (some (.int x_l1)), w, I, L, P) := by
  refine (go_iload_n (m := 146) (pc := 76) (k := 1) (by decide +kernel) rfl).trans ?_
  exact go_retI (m := 146) (pc := 77) (by decide +kernel) rfl
theorem Model_finishes_E (this : Nat) (w : Wd) (I : MI) (L : ML) (P : MP) : call 146 [.ref this] w I L P = go 146 0 [.ref this, unk, unk] [] w I L P := rfl
theorem Model_nextByte_0 (a_l0 : Nat) (w : Wd) (I : MI) (L : ML) (P : MP) (h0 : w.1 a_l0 = some (7, 0)) : go 147 0 [.ref a_l0] [] w I L P = go 147 4 [.ref a_l0] [(va_rf (P a_l0 0))] w I L P := by
  refine (go_aload_n (m := 147) (pc := 0) (k := 0) (by decide +kernel) rfl).trans ?_
  refine (go_getR (m := 147) (pc := 1) (o := 7) (x := 7) (ci := 7) (k := 0) (by decide +kernel) rfl f_7_7 rfl h0).trans ?_
  rfl
theorem Model_nextByte_4 (a_l0 : Nat) (a_s0 : Nat) (w : Wd) (I : MI) (L : ML) (P : MP) (h0 : inA w a_s0 8 (nI 6)) (h1 : w.1 a_l0 = some (7, 0)) : go 147 4 [.ref a_l0] [.ref a_s0] w I L P = go 147 12 [.ref a_l0] [(va_rf (P a_l0 0))] w (updI I a_s0 (Int32.toNatClampNeg (nI 6)) (nI 0)) L P := by
  refine (go_bi (m := 147) (pc := 4) (n := 6) (by decide +kernel) bi_6).trans ?_
  refine (go_ic (m := 147) (pc := 6) (n := 0) (by decide +kernel) ic_0).trans ?_
  refine (go_iast (m := 147) (pc := 7) (by decide +kernel) h0).trans ?_
  refine (go_aload_n (m := 147) (pc := 8) (k := 0) (by decide +kernel) rfl).trans ?_
  refine (go_getR (m := 147) (pc := 9) (o := 7) (x := 7) (ci := 7) (k := 0) (by decide +kernel) rfl f_7_7 rfl h1).trans ?_
  rfl
theorem Model_nextByte_12 (a_l0 : Nat) (a_s0 : Nat) (w : Wd) (I : MI) (L : ML) (P : MP) (h0 : inA w a_s0 8 (nI 13)) (h1 : w.1 a_l0 = some (7, 0)) : go 147 12 [.ref a_l0] [.ref a_s0] w I L P = go 147 20 [.ref a_l0] [(va_rf (P a_l0 0))] w (updI I a_s0 (Int32.toNatClampNeg (nI 13)) (nI 0)) L P := by
  refine (go_bi (m := 147) (pc := 12) (n := 13) (by decide +kernel) bi_13).trans ?_
  refine (go_ic (m := 147) (pc := 14) (n := 0) (by decide +kernel) ic_0).trans ?_
  refine (go_iast (m := 147) (pc := 15) (by decide +kernel) h0).trans ?_
  refine (go_aload_n (m := 147) (pc := 16) (k := 0) (by decide +kernel) rfl).trans ?_
  refine (go_getR (m := 147) (pc := 17) (o := 7) (x := 7) (ci := 7) (k := 0) (by decide +kernel) rfl f_7_7 rfl h1).trans ?_
  rfl
theorem Model_nextByte_20 (a_l0 : Nat) (v0 : Value) (w : Wd) (I : MI) (L : ML) (P : MP) (h0 : w.1 a_l0 = some (7, 0)) : go 147 20 [.ref a_l0] [v0] w I L P = go 147 25 [.ref a_l0] [(va_rf (P a_l0 0)), .int (nI 4), v0] w I L P := by
  refine (go_ic (m := 147) (pc := 20) (n := 4) (by decide +kernel) ic_4).trans ?_
  refine (go_aload_n (m := 147) (pc := 21) (k := 0) (by decide +kernel) rfl).trans ?_
  refine (go_getR (m := 147) (pc := 22) (o := 7) (x := 7) (ci := 7) (k := 0) (by decide +kernel) rfl f_7_7 rfl h0).trans ?_
  rfl
theorem Model_nextByte_25 (l0 : Value) (v0 : Value) (y1 : Int32) (a_s2 : Nat) (w : Wd) (I : MI) (L : ML) (P : MP) (h0 : inA w a_s2 8 (nI 9)) : go 147 25 [l0] [.ref a_s2, .int y1, v0] w I L P = if (I a_s2 (Int32.toNatClampNeg (nI 9))) ≤ 0 then go 147 36 [l0] [.int y1, v0] w I L P else go 147 31 [l0] [.int y1, v0] w I L P := by
  refine (go_bi (m := 147) (pc := 25) (n := 9) (by decide +kernel) bi_9).trans ?_
  refine (go_iald (m := 147) (pc := 27) (by decide +kernel) h0).trans ?_
  exact go_ifle (m := 147) (pc := 28) (off := 8) (t := 36) (by decide +kernel) (by decide)
theorem Model_nextByte_31 (l0 : Value) (v0 : Value) (y1 : Int32) (w : Wd) (I : MI) (L : ML) (P : MP)  : go 147 31 [l0] [.int y1, v0] w I L P = go 147 52 [l0] [.int (nI 7), .int y1, v0] w I L P := by
  refine (go_bi (m := 147) (pc := 31) (n := 7) (by decide +kernel) bi_7).trans ?_
  refine (go_goto (m := 147) (pc := 33) (off := 19) (t := 52) (by decide +kernel) (by decide)).trans ?_
  rfl
theorem Model_nextByte_36 (a_l0 : Nat) (v0 : Value) (y1 : Int32) (w : Wd) (I : MI) (L : ML) (P : MP) (h0 : w.1 a_l0 = some (7, 0)) : go 147 36 [.ref a_l0] [.int y1, v0] w I L P = go 147 40 [.ref a_l0] [(va_rf (P a_l0 0)), .int y1, v0] w I L P := by
  refine (go_aload_n (m := 147) (pc := 36) (k := 0) (by decide +kernel) rfl).trans ?_
  refine (go_getR (m := 147) (pc := 37) (o := 7) (x := 7) (ci := 7) (k := 0) (by decide +kernel) rfl f_7_7 rfl h0).trans ?_
  rfl
theorem Model_nextByte_40 (l0 : Value) (v0 : Value) (y1 : Int32) (a_s2 : Nat) (w : Wd) (I : MI) (L : ML) (P : MP) (h0 : inA w a_s2 8 (nI 14)) : go 147 40 [l0] [.ref a_s2, .int y1, v0] w I L P = if (I a_s2 (Int32.toNatClampNeg (nI 14))) ≠ (nI 1) then go 147 51 [l0] [.int y1, v0] w I L P else go 147 47 [l0] [.int y1, v0] w I L P := by
  refine (go_bi (m := 147) (pc := 40) (n := 14) (by decide +kernel) bi_14).trans ?_
  refine (go_iald (m := 147) (pc := 42) (by decide +kernel) h0).trans ?_
  refine (go_ic (m := 147) (pc := 43) (n := 1) (by decide +kernel) ic_1).trans ?_
  exact go_icmpne (m := 147) (pc := 44) (off := 7) (t := 51) (by decide +kernel) (by decide)
theorem Model_nextByte_47 (l0 : Value) (v0 : Value) (y1 : Int32) (w : Wd) (I : MI) (L : ML) (P : MP)  : go 147 47 [l0] [.int y1, v0] w I L P = go 147 52 [l0] [.int (nI 5), .int y1, v0] w I L P := by
  refine (go_ic (m := 147) (pc := 47) (n := 5) (by decide +kernel) ic_5).trans ?_
  refine (go_goto (m := 147) (pc := 48) (off := 4) (t := 52) (by decide +kernel) (by decide)).trans ?_
  rfl
theorem Model_nextByte_51 (l0 : Value) (v0 : Value) (y1 : Int32) (w : Wd) (I : MI) (L : ML) (P : MP)  : go 147 51 [l0] [.int y1, v0] w I L P = go 147 52 [l0] [.int (nI 3), .int y1, v0] w I L P := by
  refine (go_ic (m := 147) (pc := 51) (n := 3) (by decide +kernel) ic_3).trans ?_
  rfl
theorem Model_nextByte_52 (l0 : Value) (a_s0 : Nat) (y1 : Int32) (y2 : Int32) (w : Wd) (I : MI) (L : ML) (P : MP) (h0 : inA w a_s0 8 y1) : go 147 52 [l0] [.int y2, .int y1, .ref a_s0] w I L P = some (.inl none, w, (updI I a_s0 (Int32.toNatClampNeg y1) y2), L, P) := by
  refine (go_iast (m := 147) (pc := 52) (by decide +kernel) h0).trans ?_
  exact go_retV (m := 147) (pc := 53) (by decide +kernel) rfl
theorem Model_nextByte_E (this : Nat) (w : Wd) (I : MI) (L : ML) (P : MP) : call 147 [.ref this] w I L P = go 147 0 [.ref this] [] w I L P := rfl
theorem Model_holds_0 (a_l0 : Nat) (w : Wd) (I : MI) (L : ML) (P : MP) (h0 : w.1 a_l0 = some (7, 0)) : go 148 0 [.ref a_l0] [] w I L P = go 148 4 [.ref a_l0] [(va_rf (P a_l0 0))] w I L P := by
  refine (go_aload_n (m := 148) (pc := 0) (k := 0) (by decide +kernel) rfl).trans ?_
  refine (go_getR (m := 148) (pc := 1) (o := 7) (x := 7) (ci := 7) (k := 0) (by decide +kernel) rfl f_7_7 rfl h0).trans ?_
  rfl
theorem Model_holds_4 (a_l0 : Nat) (v0 : Value) (w : Wd) (I : MI) (L : ML) (P : MP) (h0 : w.1 a_l0 = some (7, 0)) : go 148 4 [.ref a_l0] [v0] w I L P = go 148 11 [.ref a_l0] [(va_rf (P a_l0 0)), .ref a_l0, .int (nI 9), v0] w I L P := by
  refine (go_bi (m := 148) (pc := 4) (n := 9) (by decide +kernel) bi_9).trans ?_
  refine (go_aload_n (m := 148) (pc := 6) (k := 0) (by decide +kernel) rfl).trans ?_
  refine (go_aload_n (m := 148) (pc := 7) (k := 0) (by decide +kernel) rfl).trans ?_
  refine (go_getR (m := 148) (pc := 8) (o := 7) (x := 7) (ci := 7) (k := 0) (by decide +kernel) rfl f_7_7 rfl h0).trans ?_
  rfl
theorem Model_holds_11 (l0 : Value) (v0 : Value) (y1 : Int32) (a_s2 : Nat) (a_s3 : Nat) (w : Wd) (I : MI) (L : ML) (P : MP) (h0 : inA w a_s3 8 (nI 8)) (h1 : w.1 a_s2 = some (7, 0)) : go 148 11 [l0] [.ref a_s3, .ref a_s2, .int y1, v0] w I L P = kC (call 129 [.ref a_s2, .int (I a_s3 (Int32.toNatClampNeg (nI 8))), .int (nI 1)] w I L P) (fun v w1 I1 L1 P1 => go 148 18 [l0] (v.toList ++ [.int y1, v0]) w1 I1 L1 P1) := by
  refine (go_bi (m := 148) (pc := 11) (n := 8) (by decide +kernel) bi_8).trans ?_
  refine (go_iald (m := 148) (pc := 13) (by decide +kernel) h0).trans ?_
  refine (go_ic (m := 148) (pc := 14) (n := 1) (by decide +kernel) ic_1).trans ?_
  exact go_vir (m := 148) (pc := 15) (o := 7) (x := 76) (y := 129) (kd := 0) (b := a_s2) (bs := [.int (I a_s3 (Int32.toNatClampNeg (nI 8))), .int (nI 1)]) (rs := [.int y1, v0]) (by decide +kernel) rfl rfl c_7_76 (Or.inl rfl) rfl rfl rfl (by decide +kernel) (by simp only [List.length_cons, List.length_nil]; decide) (Nat.le_of_ble_eq_true rfl) h1
theorem Model_holds_18 (a_l0 : Nat) (a_s0 : Nat) (y1 : Int32) (y2 : Int32) (w : Wd) (I : MI) (L : ML) (P : MP) (h0 : inA w a_s0 8 y1) (h1 : w.1 a_l0 = some (7, 0)) : go 148 18 [.ref a_l0] [.int y2, .int y1, .ref a_s0] w I L P = kC (call 147 [.ref a_l0] w (updI I a_s0 (Int32.toNatClampNeg y1) y2) L P) (fun v w1 I1 L1 P1 => go 148 23 [.ref a_l0] (v.toList ++ []) w1 I1 L1 P1) := by
  refine (go_iast (m := 148) (pc := 18) (by decide +kernel) h0).trans ?_
  refine (go_aload_n (m := 148) (pc := 19) (k := 0) (by decide +kernel) rfl).trans ?_
  exact go_vir (m := 148) (pc := 20) (o := 7) (x := 80) (y := 147) (kd := 0) (b := a_l0) (bs := []) (rs := []) (by decide +kernel) rfl rfl c_7_80 (Or.inl rfl) rfl rfl rfl (by decide +kernel) (by simp only [List.length_cons, List.length_nil]; decide) (Nat.le_of_ble_eq_true rfl) h1
theorem Model_holds_23 (l0 : Value) (w : Wd) (I : MI) (L : ML) (P : MP)  : go 148 23 [l0] [] w I L P = some (.inl none, w, I, L, P) := by
  exact go_retV (m := 148) (pc := 23) (by decide +kernel) rfl
theorem Model_holds_E (this : Nat) (w : Wd) (I : MI) (L : ML) (P : MP) : call 148 [.ref this] w I L P = go 148 0 [.ref this] [] w I L P := rfl
theorem Model_withAddress_0 (l0 : Value) (l1 : Value) (l2 : Value) (w : Wd) (I : MI) (L : ML) (P : MP)  : go 149 0 [l0, l1, l2] [] w I L P = go 149 2 [l0, (fix1 l1), .int (nI 0)] [] w I L P := by
  refine (go_ic (m := 149) (pc := 0) (n := 0) (by decide +kernel) ic_0).trans ?_
  refine (go_istore_n (m := 149) (pc := 1) (k := 2) (ls' := [l0, (fix1 l1), .int (nI 0)]) (by decide +kernel) (by simp only [List.length_cons, List.length_nil]; decide) rfl).trans ?_
  rfl
theorem Model_withAddress_2 (a_l0 : Nat) (l1 : Value) (x_l2 : Int32) (w : Wd) (I : MI) (L : ML) (P : MP) (h0 : w.1 a_l0 = some (7, 0)) : go 149 2 [.ref a_l0, l1, .int x_l2] [] w I L P = go 149 7 [.ref a_l0, l1, .int x_l2] [(va_rf (P a_l0 0)), .int x_l2] w I L P := by
  refine (go_iload_n (m := 149) (pc := 2) (k := 2) (by decide +kernel) rfl).trans ?_
  refine (go_aload_n (m := 149) (pc := 3) (k := 0) (by decide +kernel) rfl).trans ?_
  refine (go_getR (m := 149) (pc := 4) (o := 7) (x := 7) (ci := 7) (k := 0) (by decide +kernel) rfl f_7_7 rfl h0).trans ?_
  rfl
theorem Model_withAddress_7 (l0 : Value) (l1 : Value) (l2 : Value) (y0 : Int32) (a_s1 : Nat) (w : Wd) (I : MI) (L : ML) (P : MP) (h0 : inA w a_s1 8 (nI 2)) : go 149 7 [l0, l1, l2] [.ref a_s1, .int y0] w I L P = if (I a_s1 (Int32.toNatClampNeg (nI 2))) ≤ y0 then go 149 30 [l0, l1, l2] [] w I L P else go 149 12 [l0, l1, l2] [] w I L P := by
  refine (go_ic (m := 149) (pc := 7) (n := 2) (by decide +kernel) ic_2).trans ?_
  refine (go_iald (m := 149) (pc := 8) (by decide +kernel) h0).trans ?_
  exact go_icmpge (m := 149) (pc := 9) (off := 21) (t := 30) (by decide +kernel) (by decide)
theorem Model_withAddress_12 (a_l0 : Nat) (l1 : Value) (x_l2 : Int32) (w : Wd) (I : MI) (L : ML) (P : MP) (h0 : w.1 a_l0 = some (7, 0)) : go 149 12 [.ref a_l0, l1, .int x_l2] [] w I L P = kC (call 129 [.ref a_l0, .int x_l2, .int (nI 0)] w I L P) (fun v w1 I1 L1 P1 => go 149 18 [.ref a_l0, l1, .int x_l2] (v.toList ++ []) w1 I1 L1 P1) := by
  refine (go_aload_n (m := 149) (pc := 12) (k := 0) (by decide +kernel) rfl).trans ?_
  refine (go_iload_n (m := 149) (pc := 13) (k := 2) (by decide +kernel) rfl).trans ?_
  refine (go_ic (m := 149) (pc := 14) (n := 0) (by decide +kernel) ic_0).trans ?_
  exact go_vir (m := 149) (pc := 15) (o := 7) (x := 76) (y := 129) (kd := 0) (b := a_l0) (bs := [.int x_l2, .int (nI 0)]) (rs := []) (by decide +kernel) rfl rfl c_7_76 (Or.inl rfl) rfl rfl rfl (by decide +kernel) (by simp only [List.length_cons, List.length_nil]; decide) (Nat.le_of_ble_eq_true rfl) h0
theorem Model_withAddress_18 (l0 : Value) (x_l1 : Int32) (l2 : Value) (y0 : Int32) (w : Wd) (I : MI) (L : ML) (P : MP)  : go 149 18 [l0, .int x_l1, l2] [.int y0] w I L P = if y0 ≠ x_l1 then go 149 24 [l0, .int x_l1, l2] [] w I L P else go 149 22 [l0, .int x_l1, l2] [] w I L P := by
  refine (go_iload_n (m := 149) (pc := 18) (k := 1) (by decide +kernel) rfl).trans ?_
  exact go_icmpne (m := 149) (pc := 19) (off := 5) (t := 24) (by decide +kernel) (by decide)
theorem Model_withAddress_22 (l0 : Value) (l1 : Value) (x_l2 : Int32) (w : Wd) (I : MI) (L : ML) (P : MP)  : go 149 22 [l0, l1, .int x_l2] [] w I L P = some (.inl (some (.int x_l2)), w, I, L, P) := by
  refine (go_iload_n (m := 149) (pc := 22) (k := 2) (by decide +kernel) rfl).trans ?_
  exact go_retI (m := 149) (pc := 23) (by decide +kernel) rfl
theorem Model_withAddress_24 (l0 : Value) (l1 : Value) (x_l2 : Int32) (w : Wd) (I : MI) (L : ML) (P : MP)  : go 149 24 [l0, l1, .int x_l2] [] w I L P = go 149 2 [l0, (fix1 l1), .int (x_l2 + (nI 1))] [] w I L P := by
  refine (go_iinc (m := 149) (pc := 24) (k := 2) (n := 1) (x := x_l2) (v := x_l2 + (nI 1)) (ls' := [l0, (fix1 l1), .int (x_l2 + (nI 1))]) (by decide +kernel) rfl (by rw [ic_1]) rfl).trans ?_
  refine (go_goto (m := 149) (pc := 27) (off := -25) (t := 2) (by decide +kernel) (by decide)).trans ?_
  rfl
theorem Model_withAddress_30 (l0 : Value) (l1 : Value) (l2 : Value) (w : Wd) (I : MI) (L : ML) (P : MP)  : go 149 30 [l0, l1, l2] [] w I L P = some (.inl (some (.int (-1))), w, I, L, P) := by
  refine (go_ic (m := 149) (pc := 30) (n := -1) (by decide +kernel) ic_m1).trans ?_
  exact go_retI (m := 149) (pc := 31) (by decide +kernel) rfl
theorem Model_withAddress_E (this : Nat) (p0 : Int32) (w : Wd) (I : MI) (L : ML) (P : MP) : call 149 [.ref this, .int p0] w I L P = go 149 0 [.ref this, .int p0, unk] [] w I L P := rfl
theorem Model_headerAnswer_0 (a_l0 : Nat) (l1 : Value) (l2 : Value) (w : Wd) (I : MI) (L : ML) (P : MP) (h0 : w.1 a_l0 = some (7, 0)) : go 150 0 [.ref a_l0, l1, l2] [] w I L P = kC (call 144 [.ref a_l0] w I L P) (fun v w1 I1 L1 P1 => go 150 5 [.ref a_l0, l1, l2] (v.toList ++ [.ref a_l0]) w1 I1 L1 P1) := by
  refine (go_aload_n (m := 150) (pc := 0) (k := 0) (by decide +kernel) rfl).trans ?_
  refine (go_aload_n (m := 150) (pc := 1) (k := 0) (by decide +kernel) rfl).trans ?_
  exact go_vir (m := 150) (pc := 2) (o := 7) (x := 83) (y := 144) (kd := 0) (b := a_l0) (bs := []) (rs := [.ref a_l0]) (by decide +kernel) rfl rfl c_7_83 (Or.inl rfl) rfl rfl rfl (by decide +kernel) (by simp only [List.length_cons, List.length_nil]; decide) (Nat.le_of_ble_eq_true rfl) h0
theorem Model_headerAnswer_5 (l0 : Value) (l1 : Value) (l2 : Value) (a_s0 : Nat) (y1 : Int32) (w : Wd) (I : MI) (L : ML) (P : MP) (h0 : w.1 a_s0 = some (7, 0)) : go 150 5 [l0, l1, l2] [.int y1, .ref a_s0] w I L P = kC (call 139 [.ref a_s0, .int y1] w I L P) (fun v w1 I1 L1 P1 => go 150 8 [l0, l1, l2] (v.toList ++ []) w1 I1 L1 P1) := by
  exact go_vir (m := 150) (pc := 5) (o := 7) (x := 62) (y := 139) (kd := 0) (b := a_s0) (bs := [.int y1]) (rs := []) (by decide +kernel) rfl rfl c_7_62 (Or.inl rfl) rfl rfl rfl (by decide +kernel) (by simp only [List.length_cons, List.length_nil]; decide) (Nat.le_of_ble_eq_true rfl) h0
theorem Model_headerAnswer_8 (a_l0 : Nat) (l1 : Value) (l2 : Value) (y0 : Int32) (w : Wd) (I : MI) (L : ML) (P : MP) (h0 : ¬ (nI 2) = 0) (h1 : w.1 a_l0 = some (7, 0)) : go 150 8 [.ref a_l0, l1, l2] [.int y0] w I L P = kC (call 149 [.ref a_l0, .int (y0 / (nI 2))] w I L P) (fun v w1 I1 L1 P1 => go 150 16 [.ref a_l0, .int y0, l2] (v.toList ++ []) w1 I1 L1 P1) := by
  refine (go_istore_n (m := 150) (pc := 8) (k := 1) (ls' := [.ref a_l0, .int y0, l2]) (by decide +kernel) (by simp only [List.length_cons, List.length_nil]; decide) rfl).trans ?_
  refine (go_aload_n (m := 150) (pc := 9) (k := 0) (by decide +kernel) rfl).trans ?_
  refine (go_iload_n (m := 150) (pc := 10) (k := 1) (by decide +kernel) rfl).trans ?_
  refine (go_ic (m := 150) (pc := 11) (n := 2) (by decide +kernel) ic_2).trans ?_
  refine (go_idiv (m := 150) (pc := 12) (by decide +kernel) h0).trans ?_
  exact go_vir (m := 150) (pc := 13) (o := 7) (x := 87) (y := 149) (kd := 0) (b := a_l0) (bs := [.int (y0 / (nI 2))]) (rs := []) (by decide +kernel) rfl rfl c_7_87 (Or.inl rfl) rfl rfl rfl (by decide +kernel) (by simp only [List.length_cons, List.length_nil]; decide) (Nat.le_of_ble_eq_true rfl) h1
theorem Model_headerAnswer_16 (l0 : Value) (l1 : Value) (l2 : Value) (y0 : Int32) (w : Wd) (I : MI) (L : ML) (P : MP)  : go 150 16 [l0, l1, l2] [.int y0] w I L P = if y0 = (-1) then go 150 31 [l0, (fix1 l1), .int y0] [] w I L P else go 150 22 [l0, (fix1 l1), .int y0] [] w I L P := by
  refine (go_istore_n (m := 150) (pc := 16) (k := 2) (ls' := [l0, (fix1 l1), .int y0]) (by decide +kernel) (by simp only [List.length_cons, List.length_nil]; decide) rfl).trans ?_
  refine (go_iload_n (m := 150) (pc := 17) (k := 2) (by decide +kernel) rfl).trans ?_
  refine (go_ic (m := 150) (pc := 18) (n := -1) (by decide +kernel) ic_m1).trans ?_
  exact go_icmpeq (m := 150) (pc := 19) (off := 12) (t := 31) (by decide +kernel) (by decide)
theorem Model_headerAnswer_22 (a_l0 : Nat) (l1 : Value) (x_l2 : Int32) (w : Wd) (I : MI) (L : ML) (P : MP) (h0 : w.1 a_l0 = some (7, 0)) : go 150 22 [.ref a_l0, l1, .int x_l2] [] w I L P = kC (call 129 [.ref a_l0, .int x_l2, .int (nI 4)] w I L P) (fun v w1 I1 L1 P1 => go 150 28 [.ref a_l0, l1, .int x_l2] (v.toList ++ []) w1 I1 L1 P1) := by
  refine (go_aload_n (m := 150) (pc := 22) (k := 0) (by decide +kernel) rfl).trans ?_
  refine (go_iload_n (m := 150) (pc := 23) (k := 2) (by decide +kernel) rfl).trans ?_
  refine (go_ic (m := 150) (pc := 24) (n := 4) (by decide +kernel) ic_4).trans ?_
  exact go_vir (m := 150) (pc := 25) (o := 7) (x := 76) (y := 129) (kd := 0) (b := a_l0) (bs := [.int x_l2, .int (nI 4)]) (rs := []) (by decide +kernel) rfl rfl c_7_76 (Or.inl rfl) rfl rfl rfl (by decide +kernel) (by simp only [List.length_cons, List.length_nil]; decide) (Nat.le_of_ble_eq_true rfl) h0
theorem Model_headerAnswer_28 (l0 : Value) (l1 : Value) (l2 : Value) (y0 : Int32) (w : Wd) (I : MI) (L : ML) (P : MP)  : go 150 28 [l0, l1, l2] [.int y0] w I L P = if y0 ≠ 0 then go 150 38 [l0, l1, l2] [] w I L P else go 150 31 [l0, l1, l2] [] w I L P := by
  exact go_ifne (m := 150) (pc := 28) (off := 10) (t := 38) (by decide +kernel) (by decide)
theorem Model_headerAnswer_31 (a_l0 : Nat) (l1 : Value) (l2 : Value) (w : Wd) (I : MI) (L : ML) (P : MP) (h0 : w.1 a_l0 = some (7, 0)) : go 150 31 [.ref a_l0, l1, l2] [] w I L P = kC (call 145 [.ref a_l0, .int (nI 2)] w I L P) (fun v w1 I1 L1 P1 => go 150 36 [.ref a_l0, l1, l2] (v.toList ++ []) w1 I1 L1 P1) := by
  refine (go_aload_n (m := 150) (pc := 31) (k := 0) (by decide +kernel) rfl).trans ?_
  refine (go_ic (m := 150) (pc := 32) (n := 2) (by decide +kernel) ic_2).trans ?_
  exact go_vir (m := 150) (pc := 33) (o := 7) (x := 90) (y := 145) (kd := 0) (b := a_l0) (bs := [.int (nI 2)]) (rs := []) (by decide +kernel) rfl rfl c_7_90 (Or.inl rfl) rfl rfl rfl (by decide +kernel) (by simp only [List.length_cons, List.length_nil]; decide) (Nat.le_of_ble_eq_true rfl) h0
theorem Model_headerAnswer_36 (l0 : Value) (l1 : Value) (l2 : Value) (w : Wd) (I : MI) (L : ML) (P : MP)  : go 150 36 [l0, l1, l2] [] w I L P = some (.inl (some (.int (nI 1))), w, I, L, P) := by
  refine (go_ic (m := 150) (pc := 36) (n := 1) (by decide +kernel) ic_1).trans ?_
  exact go_retI (m := 150) (pc := 37) (by decide +kernel) rfl
theorem Model_headerAnswer_38 (a_l0 : Nat) (l1 : Value) (l2 : Value) (w : Wd) (I : MI) (L : ML) (P : MP) (h0 : w.1 a_l0 = some (7, 0)) : go 150 38 [.ref a_l0, l1, l2] [] w I L P = go 150 42 [.ref a_l0, l1, l2] [(va_rf (P a_l0 0))] w I L P := by
  refine (go_aload_n (m := 150) (pc := 38) (k := 0) (by decide +kernel) rfl).trans ?_
  refine (go_getR (m := 150) (pc := 39) (o := 7) (x := 7) (ci := 7) (k := 0) (by decide +kernel) rfl f_7_7 rfl h0).trans ?_
  rfl
theorem Model_headerAnswer_42 (a_l0 : Nat) (l1 : Value) (x_l2 : Int32) (a_s0 : Nat) (w : Wd) (I : MI) (L : ML) (P : MP) (h0 : inA w a_s0 8 (nI 8)) (h1 : w.1 a_l0 = some (7, 0)) : go 150 42 [.ref a_l0, l1, .int x_l2] [.ref a_s0] w I L P = go 150 50 [.ref a_l0, l1, .int x_l2] [(va_rf (P a_l0 0))] w (updI I a_s0 (Int32.toNatClampNeg (nI 8)) x_l2) L P := by
  refine (go_bi (m := 150) (pc := 42) (n := 8) (by decide +kernel) bi_8).trans ?_
  refine (go_iload_n (m := 150) (pc := 44) (k := 2) (by decide +kernel) rfl).trans ?_
  refine (go_iast (m := 150) (pc := 45) (by decide +kernel) h0).trans ?_
  refine (go_aload_n (m := 150) (pc := 46) (k := 0) (by decide +kernel) rfl).trans ?_
  refine (go_getR (m := 150) (pc := 47) (o := 7) (x := 7) (ci := 7) (k := 0) (by decide +kernel) rfl f_7_7 rfl h1).trans ?_
  rfl
theorem Model_headerAnswer_50 (a_l0 : Nat) (x_l1 : Int32) (l2 : Value) (a_s0 : Nat) (w : Wd) (I : MI) (L : ML) (P : MP) (h0 : ¬ (nI 2) = 0) (h1 : inA w a_s0 8 (nI 14)) (h2 : w.1 a_l0 = some (7, 0)) : go 150 50 [.ref a_l0, .int x_l1, l2] [.ref a_s0] w I L P = go 150 60 [.ref a_l0, .int x_l1, l2] [(va_rf (P a_l0 0))] w (updI I a_s0 (Int32.toNatClampNeg (nI 14)) (x_l1 - x_l1 / (nI 2) * (nI 2))) L P := by
  refine (go_bi (m := 150) (pc := 50) (n := 14) (by decide +kernel) bi_14).trans ?_
  refine (go_iload_n (m := 150) (pc := 52) (k := 1) (by decide +kernel) rfl).trans ?_
  refine (go_ic (m := 150) (pc := 53) (n := 2) (by decide +kernel) ic_2).trans ?_
  refine (go_irem (m := 150) (pc := 54) (by decide +kernel) h0).trans ?_
  refine (go_iast (m := 150) (pc := 55) (by decide +kernel) h1).trans ?_
  refine (go_aload_n (m := 150) (pc := 56) (k := 0) (by decide +kernel) rfl).trans ?_
  refine (go_getR (m := 150) (pc := 57) (o := 7) (x := 7) (ci := 7) (k := 0) (by decide +kernel) rfl f_7_7 rfl h2).trans ?_
  rfl
theorem Model_headerAnswer_60 (a_l0 : Nat) (l1 : Value) (l2 : Value) (a_s0 : Nat) (w : Wd) (I : MI) (L : ML) (P : MP) (h0 : inA w a_s0 8 (nI 7)) (h1 : w.1 a_l0 = some (7, 0)) : go 150 60 [.ref a_l0, l1, l2] [.ref a_s0] w I L P = kC (call 148 [.ref a_l0] w (updI I a_s0 (Int32.toNatClampNeg (nI 7)) (nI 0)) L P) (fun v w1 I1 L1 P1 => go 150 68 [.ref a_l0, l1, l2] (v.toList ++ []) w1 I1 L1 P1) := by
  refine (go_bi (m := 150) (pc := 60) (n := 7) (by decide +kernel) bi_7).trans ?_
  refine (go_ic (m := 150) (pc := 62) (n := 0) (by decide +kernel) ic_0).trans ?_
  refine (go_iast (m := 150) (pc := 63) (by decide +kernel) h0).trans ?_
  refine (go_aload_n (m := 150) (pc := 64) (k := 0) (by decide +kernel) rfl).trans ?_
  exact go_vir (m := 150) (pc := 65) (o := 7) (x := 93) (y := 148) (kd := 0) (b := a_l0) (bs := []) (rs := []) (by decide +kernel) rfl rfl c_7_93 (Or.inl rfl) rfl rfl rfl (by decide +kernel) (by simp only [List.length_cons, List.length_nil]; decide) (Nat.le_of_ble_eq_true rfl) h1
theorem Model_headerAnswer_68 (l0 : Value) (l1 : Value) (l2 : Value) (w : Wd) (I : MI) (L : ML) (P : MP)  : go 150 68 [l0, l1, l2] [] w I L P = some (.inl (some (.int (nI 0))), w, I, L, P) := by
  refine (go_ic (m := 150) (pc := 68) (n := 0) (by decide +kernel) ic_0).trans ?_
  exact go_retI (m := 150) (pc := 69) (by decide +kernel) rfl
theorem Model_headerAnswer_E (this : Nat) (w : Wd) (I : MI) (L : ML) (P : MP) : call 150 [.ref this] w I L P = go 150 0 [.ref this, unk, unk] [] w I L P := rfl
theorem Model_writeAnswer_0 (a_l0 : Nat) (l1 : Value) (l2 : Value) (w : Wd) (I : MI) (L : ML) (P : MP) (h0 : w.1 a_l0 = some (7, 0)) : go 151 0 [.ref a_l0, l1, l2] [] w I L P = go 151 4 [.ref a_l0, l1, l2] [(va_rf (P a_l0 0))] w I L P := by
  refine (go_aload_n (m := 151) (pc := 0) (k := 0) (by decide +kernel) rfl).trans ?_
  refine (go_getR (m := 151) (pc := 1) (o := 7) (x := 7) (ci := 7) (k := 0) (by decide +kernel) rfl f_7_7 rfl h0).trans ?_
  rfl
theorem Model_writeAnswer_4 (a_l0 : Nat) (l1 : Value) (l2 : Value) (a_s0 : Nat) (w : Wd) (I : MI) (L : ML) (P : MP) (h0 : inA w a_s0 8 (nI 8)) (h1 : w.1 a_l0 = some (7, 0)) : go 151 4 [.ref a_l0, l1, l2] [.ref a_s0] w I L P = kC (call 129 [.ref a_l0, .int (I a_s0 (Int32.toNatClampNeg (nI 8))), .int (nI 2)] w I L P) (fun v w1 I1 L1 P1 => go 151 14 [.ref a_l0, .int (I a_s0 (Int32.toNatClampNeg (nI 8))), l2] (v.toList ++ []) w1 I1 L1 P1) := by
  refine (go_bi (m := 151) (pc := 4) (n := 8) (by decide +kernel) bi_8).trans ?_
  refine (go_iald (m := 151) (pc := 6) (by decide +kernel) h0).trans ?_
  refine (go_istore_n (m := 151) (pc := 7) (k := 1) (ls' := [.ref a_l0, .int (I a_s0 (Int32.toNatClampNeg (nI 8))), l2]) (by decide +kernel) (by simp only [List.length_cons, List.length_nil]; decide) rfl).trans ?_
  refine (go_aload_n (m := 151) (pc := 8) (k := 0) (by decide +kernel) rfl).trans ?_
  refine (go_iload_n (m := 151) (pc := 9) (k := 1) (by decide +kernel) rfl).trans ?_
  refine (go_ic (m := 151) (pc := 10) (n := 2) (by decide +kernel) ic_2).trans ?_
  exact go_vir (m := 151) (pc := 11) (o := 7) (x := 76) (y := 129) (kd := 0) (b := a_l0) (bs := [.int (I a_s0 (Int32.toNatClampNeg (nI 8))), .int (nI 2)]) (rs := []) (by decide +kernel) rfl rfl c_7_76 (Or.inl rfl) rfl rfl rfl (by decide +kernel) (by simp only [List.length_cons, List.length_nil]; decide) (Nat.le_of_ble_eq_true rfl) h1
theorem Model_writeAnswer_14 (l0 : Value) (l1 : Value) (l2 : Value) (y0 : Int32) (w : Wd) (I : MI) (L : ML) (P : MP)  : go 151 14 [l0, l1, l2] [.int y0] w I L P = if y0 ≠ (nI 16) then go 151 28 [l0, (fix1 l1), .int y0] [] w I L P else go 151 21 [l0, (fix1 l1), .int y0] [] w I L P := by
  refine (go_istore_n (m := 151) (pc := 14) (k := 2) (ls' := [l0, (fix1 l1), .int y0]) (by decide +kernel) (by simp only [List.length_cons, List.length_nil]; decide) rfl).trans ?_
  refine (go_iload_n (m := 151) (pc := 15) (k := 2) (by decide +kernel) rfl).trans ?_
  refine (go_bi (m := 151) (pc := 16) (n := 16) (by decide +kernel) bi_16).trans ?_
  exact go_icmpne (m := 151) (pc := 18) (off := 10) (t := 28) (by decide +kernel) (by decide)
theorem Model_writeAnswer_21 (a_l0 : Nat) (l1 : Value) (l2 : Value) (w : Wd) (I : MI) (L : ML) (P : MP) (h0 : w.1 a_l0 = some (7, 0)) : go 151 21 [.ref a_l0, l1, l2] [] w I L P = kC (call 145 [.ref a_l0, .int (nI 3)] w I L P) (fun v w1 I1 L1 P1 => go 151 26 [.ref a_l0, l1, l2] (v.toList ++ []) w1 I1 L1 P1) := by
  refine (go_aload_n (m := 151) (pc := 21) (k := 0) (by decide +kernel) rfl).trans ?_
  refine (go_ic (m := 151) (pc := 22) (n := 3) (by decide +kernel) ic_3).trans ?_
  exact go_vir (m := 151) (pc := 23) (o := 7) (x := 90) (y := 145) (kd := 0) (b := a_l0) (bs := [.int (nI 3)]) (rs := []) (by decide +kernel) rfl rfl c_7_90 (Or.inl rfl) rfl rfl rfl (by decide +kernel) (by simp only [List.length_cons, List.length_nil]; decide) (Nat.le_of_ble_eq_true rfl) h0
theorem Model_writeAnswer_26 (l0 : Value) (l1 : Value) (l2 : Value) (w : Wd) (I : MI) (L : ML) (P : MP)  : go 151 26 [l0, l1, l2] [] w I L P = some (.inl (some (.int (nI 1))), w, I, L, P) := by
  refine (go_ic (m := 151) (pc := 26) (n := 1) (by decide +kernel) ic_1).trans ?_
  exact go_retI (m := 151) (pc := 27) (by decide +kernel) rfl
theorem Model_writeAnswer_28 (a_l0 : Nat) (x_l1 : Int32) (x_l2 : Int32) (w : Wd) (I : MI) (L : ML) (P : MP) (h0 : w.1 a_l0 = some (7, 0)) : go 151 28 [.ref a_l0, .int x_l1, .int x_l2] [] w I L P = kC (call 144 [.ref a_l0] w I L P) (fun v w1 I1 L1 P1 => go 151 39 [.ref a_l0, .int x_l1, .int x_l2] (v.toList ++ [.ref a_l0, .int ((nI 6) + x_l2), .int x_l1, .ref a_l0]) w1 I1 L1 P1) := by
  refine (go_aload_n (m := 151) (pc := 28) (k := 0) (by decide +kernel) rfl).trans ?_
  refine (go_iload_n (m := 151) (pc := 29) (k := 1) (by decide +kernel) rfl).trans ?_
  refine (go_bi (m := 151) (pc := 30) (n := 6) (by decide +kernel) bi_6).trans ?_
  refine (go_iload_n (m := 151) (pc := 32) (k := 2) (by decide +kernel) rfl).trans ?_
  refine (go_iadd (m := 151) (pc := 33) (by decide +kernel)).trans ?_
  refine (go_aload_n (m := 151) (pc := 34) (k := 0) (by decide +kernel) rfl).trans ?_
  refine (go_aload_n (m := 151) (pc := 35) (k := 0) (by decide +kernel) rfl).trans ?_
  exact go_vir (m := 151) (pc := 36) (o := 7) (x := 83) (y := 144) (kd := 0) (b := a_l0) (bs := []) (rs := [.ref a_l0, .int ((nI 6) + x_l2), .int x_l1, .ref a_l0]) (by decide +kernel) rfl rfl c_7_83 (Or.inl rfl) rfl rfl rfl (by decide +kernel) (by simp only [List.length_cons, List.length_nil]; decide) (Nat.le_of_ble_eq_true rfl) h0
theorem Model_writeAnswer_39 (l0 : Value) (l1 : Value) (l2 : Value) (v0 : Value) (y1 : Int32) (y2 : Int32) (a_s3 : Nat) (y4 : Int32) (w : Wd) (I : MI) (L : ML) (P : MP) (h0 : w.1 a_s3 = some (7, 0)) : go 151 39 [l0, l1, l2] [.int y4, .ref a_s3, .int y2, .int y1, v0] w I L P = kC (call 142 [.ref a_s3, .int y4, .int (nI 0)] w I L P) (fun v w1 I1 L1 P1 => go 151 43 [l0, l1, l2] (v.toList ++ [.int y2, .int y1, v0]) w1 I1 L1 P1) := by
  refine (go_ic (m := 151) (pc := 39) (n := 0) (by decide +kernel) ic_0).trans ?_
  exact go_vir (m := 151) (pc := 40) (o := 7) (x := 69) (y := 142) (kd := 0) (b := a_s3) (bs := [.int y4, .int (nI 0)]) (rs := [.int y2, .int y1, v0]) (by decide +kernel) rfl rfl c_7_69 (Or.inl rfl) rfl rfl rfl (by decide +kernel) (by simp only [List.length_cons, List.length_nil]; decide) (Nat.le_of_ble_eq_true rfl) h0
theorem Model_writeAnswer_43 (l0 : Value) (l1 : Value) (l2 : Value) (a_s0 : Nat) (y1 : Int32) (y2 : Int32) (y3 : Int32) (w : Wd) (I : MI) (L : ML) (P : MP) (h0 : w.1 a_s0 = some (7, 0)) : go 151 43 [l0, l1, l2] [.int y3, .int y2, .int y1, .ref a_s0] w I L P = kC (call 130 [.ref a_s0, .int y1, .int y2, .int y3] w I L P) (fun v w1 I1 L1 P1 => go 151 46 [l0, l1, l2] (v.toList ++ []) w1 I1 L1 P1) := by
  exact go_vir (m := 151) (pc := 43) (o := 7) (x := 96) (y := 130) (kd := 0) (b := a_s0) (bs := [.int y1, .int y2, .int y3]) (rs := []) (by decide +kernel) rfl rfl c_7_96 (Or.inl rfl) rfl rfl rfl (by decide +kernel) (by simp only [List.length_cons, List.length_nil]; decide) (Nat.le_of_ble_eq_true rfl) h0
theorem Model_writeAnswer_46 (a_l0 : Nat) (x_l1 : Int32) (x_l2 : Int32) (w : Wd) (I : MI) (L : ML) (P : MP) (h0 : w.1 a_l0 = some (7, 0)) : go 151 46 [.ref a_l0, .int x_l1, .int x_l2] [] w I L P = kC (call 130 [.ref a_l0, .int x_l1, .int (nI 2), .int (x_l2 + (nI 1))] w I L P) (fun v w1 I1 L1 P1 => go 151 55 [.ref a_l0, .int x_l1, .int x_l2] (v.toList ++ []) w1 I1 L1 P1) := by
  refine (go_aload_n (m := 151) (pc := 46) (k := 0) (by decide +kernel) rfl).trans ?_
  refine (go_iload_n (m := 151) (pc := 47) (k := 1) (by decide +kernel) rfl).trans ?_
  refine (go_ic (m := 151) (pc := 48) (n := 2) (by decide +kernel) ic_2).trans ?_
  refine (go_iload_n (m := 151) (pc := 49) (k := 2) (by decide +kernel) rfl).trans ?_
  refine (go_ic (m := 151) (pc := 50) (n := 1) (by decide +kernel) ic_1).trans ?_
  refine (go_iadd (m := 151) (pc := 51) (by decide +kernel)).trans ?_
  exact go_vir (m := 151) (pc := 52) (o := 7) (x := 96) (y := 130) (kd := 0) (b := a_l0) (bs := [.int x_l1, .int (nI 2), .int (x_l2 + (nI 1))]) (rs := []) (by decide +kernel) rfl rfl c_7_96 (Or.inl rfl) rfl rfl rfl (by decide +kernel) (by simp only [List.length_cons, List.length_nil]; decide) (Nat.le_of_ble_eq_true rfl) h0
theorem Model_writeAnswer_55 (a_l0 : Nat) (l1 : Value) (l2 : Value) (w : Wd) (I : MI) (L : ML) (P : MP) (h0 : w.1 a_l0 = some (7, 0)) : go 151 55 [.ref a_l0, l1, l2] [] w I L P = go 151 59 [.ref a_l0, l1, l2] [(va_rf (P a_l0 0))] w I L P := by
  refine (go_aload_n (m := 151) (pc := 55) (k := 0) (by decide +kernel) rfl).trans ?_
  refine (go_getR (m := 151) (pc := 56) (o := 7) (x := 7) (ci := 7) (k := 0) (by decide +kernel) rfl f_7_7 rfl h0).trans ?_
  rfl
theorem Model_writeAnswer_59 (a_l0 : Nat) (l1 : Value) (l2 : Value) (a_s0 : Nat) (w : Wd) (I : MI) (L : ML) (P : MP) (h0 : inA w a_s0 8 (nI 7)) (h1 : w.1 a_l0 = some (7, 0)) : go 151 59 [.ref a_l0, l1, l2] [.ref a_s0] w I L P = kC (call 146 [.ref a_l0] w (updI I a_s0 (Int32.toNatClampNeg (nI 7)) ((I a_s0 (Int32.toNatClampNeg (nI 7))) + (nI 1))) L P) (fun v w1 I1 L1 P1 => go 151 70 [.ref a_l0, l1, l2] (v.toList ++ []) w1 I1 L1 P1) := by
  refine (go_bi (m := 151) (pc := 59) (n := 7) (by decide +kernel) bi_7).trans ?_
  refine (go_dup2 (m := 151) (pc := 61) (by decide +kernel) rfl rfl).trans ?_
  refine (go_iald (m := 151) (pc := 62) (by decide +kernel) h0).trans ?_
  refine (go_ic (m := 151) (pc := 63) (n := 1) (by decide +kernel) ic_1).trans ?_
  refine (go_iadd (m := 151) (pc := 64) (by decide +kernel)).trans ?_
  refine (go_iast (m := 151) (pc := 65) (by decide +kernel) h0).trans ?_
  refine (go_aload_n (m := 151) (pc := 66) (k := 0) (by decide +kernel) rfl).trans ?_
  exact go_vir (m := 151) (pc := 67) (o := 7) (x := 99) (y := 146) (kd := 0) (b := a_l0) (bs := []) (rs := []) (by decide +kernel) rfl rfl c_7_99 (Or.inl rfl) rfl rfl rfl (by decide +kernel) (by simp only [List.length_cons, List.length_nil]; decide) (Nat.le_of_ble_eq_true rfl) h1
theorem Model_writeAnswer_70 (l0 : Value) (l1 : Value) (l2 : Value) (y0 : Int32) (w : Wd) (I : MI) (L : ML) (P : MP)  : go 151 70 [l0, l1, l2] [.int y0] w I L P = if y0 ≠ 0 then go 151 84 [l0, l1, l2] [] w I L P else go 151 73 [l0, l1, l2] [] w I L P := by
  exact go_ifne (m := 151) (pc := 70) (off := 14) (t := 84) (by decide +kernel) (by decide)
theorem Model_writeAnswer_73 (a_l0 : Nat) (l1 : Value) (l2 : Value) (w : Wd) (I : MI) (L : ML) (P : MP) (h0 : w.1 a_l0 = some (7, 0)) : go 151 73 [.ref a_l0, l1, l2] [] w I L P = go 151 77 [.ref a_l0, l1, l2] [(va_rf (P a_l0 0))] w I L P := by
  refine (go_aload_n (m := 151) (pc := 73) (k := 0) (by decide +kernel) rfl).trans ?_
  refine (go_getR (m := 151) (pc := 74) (o := 7) (x := 7) (ci := 7) (k := 0) (by decide +kernel) rfl f_7_7 rfl h0).trans ?_
  rfl
theorem Model_writeAnswer_77 (l0 : Value) (l1 : Value) (l2 : Value) (a_s0 : Nat) (w : Wd) (I : MI) (L : ML) (P : MP) (h0 : inA w a_s0 8 (nI 4)) : go 151 77 [l0, l1, l2] [.ref a_s0] w I L P = go 151 88 [l0, l1, l2] [] w (updI I a_s0 (Int32.toNatClampNeg (nI 4)) (nI 8)) L P := by
  refine (go_ic (m := 151) (pc := 77) (n := 4) (by decide +kernel) ic_4).trans ?_
  refine (go_bi (m := 151) (pc := 78) (n := 8) (by decide +kernel) bi_8).trans ?_
  refine (go_iast (m := 151) (pc := 80) (by decide +kernel) h0).trans ?_
  refine (go_goto (m := 151) (pc := 81) (off := 7) (t := 88) (by decide +kernel) (by decide)).trans ?_
  rfl
theorem Model_writeAnswer_84 (a_l0 : Nat) (l1 : Value) (l2 : Value) (w : Wd) (I : MI) (L : ML) (P : MP) (h0 : w.1 a_l0 = some (7, 0)) : go 151 84 [.ref a_l0, l1, l2] [] w I L P = kC (call 148 [.ref a_l0] w I L P) (fun v w1 I1 L1 P1 => go 151 88 [.ref a_l0, l1, l2] (v.toList ++ []) w1 I1 L1 P1) := by
  refine (go_aload_n (m := 151) (pc := 84) (k := 0) (by decide +kernel) rfl).trans ?_
  exact go_vir (m := 151) (pc := 85) (o := 7) (x := 93) (y := 148) (kd := 0) (b := a_l0) (bs := []) (rs := []) (by decide +kernel) rfl rfl c_7_93 (Or.inl rfl) rfl rfl rfl (by decide +kernel) (by simp only [List.length_cons, List.length_nil]; decide) (Nat.le_of_ble_eq_true rfl) h0
theorem Model_writeAnswer_88 (l0 : Value) (l1 : Value) (l2 : Value) (w : Wd) (I : MI) (L : ML) (P : MP)  : go 151 88 [l0, l1, l2] [] w I L P = some (.inl (some (.int (nI 0))), w, I, L, P) := by
  refine (go_ic (m := 151) (pc := 88) (n := 0) (by decide +kernel) ic_0).trans ?_
  exact go_retI (m := 151) (pc := 89) (by decide +kernel) rfl
theorem Model_writeAnswer_E (this : Nat) (w : Wd) (I : MI) (L : ML) (P : MP) : call 151 [.ref this] w I L P = go 151 0 [.ref this, unk, unk] [] w I L P := rfl
theorem Model_readBit_0 (a_l0 : Nat) (l1 : Value) (l2 : Value) (l3 : Value) (l4 : Value) (l5 : Value) (w : Wd) (I : MI) (L : ML) (P : MP) (h0 : w.1 a_l0 = some (7, 0)) : go 152 0 [.ref a_l0, l1, l2, l3, l4, l5] [] w I L P = go 152 4 [.ref a_l0, l1, l2, l3, l4, l5] [(va_rf (P a_l0 0))] w I L P := by
  refine (go_aload_n (m := 152) (pc := 0) (k := 0) (by decide +kernel) rfl).trans ?_
  refine (go_getR (m := 152) (pc := 1) (o := 7) (x := 7) (ci := 7) (k := 0) (by decide +kernel) rfl f_7_7 rfl h0).trans ?_
  rfl
theorem Model_readBit_4 (a_l0 : Nat) (l1 : Value) (l2 : Value) (l3 : Value) (l4 : Value) (l5 : Value) (a_s0 : Nat) (w : Wd) (I : MI) (L : ML) (P : MP) (h0 : inA w a_s0 8 (nI 8)) (h1 : w.1 a_l0 = some (7, 0)) : go 152 4 [.ref a_l0, l1, l2, l3, l4, l5] [.ref a_s0] w I L P = kC (call 129 [.ref a_l0, .int (I a_s0 (Int32.toNatClampNeg (nI 8))), .int (nI 2)] w I L P) (fun v w1 I1 L1 P1 => go 152 14 [.ref a_l0, .int (I a_s0 (Int32.toNatClampNeg (nI 8))), l2, l3, l4, l5] (v.toList ++ []) w1 I1 L1 P1) := by
  refine (go_bi (m := 152) (pc := 4) (n := 8) (by decide +kernel) bi_8).trans ?_
  refine (go_iald (m := 152) (pc := 6) (by decide +kernel) h0).trans ?_
  refine (go_istore_n (m := 152) (pc := 7) (k := 1) (ls' := [.ref a_l0, .int (I a_s0 (Int32.toNatClampNeg (nI 8))), l2, l3, l4, l5]) (by decide +kernel) (by simp only [List.length_cons, List.length_nil]; decide) rfl).trans ?_
  refine (go_aload_n (m := 152) (pc := 8) (k := 0) (by decide +kernel) rfl).trans ?_
  refine (go_iload_n (m := 152) (pc := 9) (k := 1) (by decide +kernel) rfl).trans ?_
  refine (go_ic (m := 152) (pc := 10) (n := 2) (by decide +kernel) ic_2).trans ?_
  exact go_vir (m := 152) (pc := 11) (o := 7) (x := 76) (y := 129) (kd := 0) (b := a_l0) (bs := [.int (I a_s0 (Int32.toNatClampNeg (nI 8))), .int (nI 2)]) (rs := []) (by decide +kernel) rfl rfl c_7_76 (Or.inl rfl) rfl rfl rfl (by decide +kernel) (by simp only [List.length_cons, List.length_nil]; decide) (Nat.le_of_ble_eq_true rfl) h1
theorem Model_readBit_14 (l0 : Value) (l1 : Value) (l2 : Value) (l3 : Value) (l4 : Value) (l5 : Value) (y0 : Int32) (w : Wd) (I : MI) (L : ML) (P : MP)  : go 152 14 [l0, l1, l2, l3, l4, l5] [.int y0] w I L P = if y0 ≠ 0 then go 152 25 [l0, (fix1 l1), .int y0, l3, l4, l5] [] w I L P else go 152 19 [l0, (fix1 l1), .int y0, l3, l4, l5] [] w I L P := by
  refine (go_istore_n (m := 152) (pc := 14) (k := 2) (ls' := [l0, (fix1 l1), .int y0, l3, l4, l5]) (by decide +kernel) (by simp only [List.length_cons, List.length_nil]; decide) rfl).trans ?_
  refine (go_iload_n (m := 152) (pc := 15) (k := 2) (by decide +kernel) rfl).trans ?_
  exact go_ifne (m := 152) (pc := 16) (off := 9) (t := 25) (by decide +kernel) (by decide)
theorem Model_readBit_19 (l0 : Value) (l1 : Value) (l2 : Value) (l3 : Value) (l4 : Value) (l5 : Value) (w : Wd) (I : MI) (L : ML) (P : MP)  : go 152 19 [l0, l1, l2, l3, l4, l5] [] w I L P = go 152 39 [l0, l1, l2, l3, l4, l5] [.int (nI 255)] w I L P := by
  refine (go_si (m := 152) (pc := 19) (n := 255) (by decide +kernel) si_255).trans ?_
  refine (go_goto (m := 152) (pc := 22) (off := 17) (t := 39) (by decide +kernel) (by decide)).trans ?_
  rfl
theorem Model_readBit_25 (a_l0 : Nat) (x_l1 : Int32) (l2 : Value) (l3 : Value) (l4 : Value) (l5 : Value) (w : Wd) (I : MI) (L : ML) (P : MP) (h0 : w.1 a_l0 = some (7, 0)) : go 152 25 [.ref a_l0, .int x_l1, l2, l3, l4, l5] [] w I L P = kC (call 129 [.ref a_l0, .int x_l1, .int (nI 3)] w I L P) (fun v w1 I1 L1 P1 => go 152 35 [.ref a_l0, .int x_l1, l2, l3, l4, l5] (v.toList ++ [.int (nI 6), .int x_l1, .ref a_l0]) w1 I1 L1 P1) := by
  refine (go_aload_n (m := 152) (pc := 25) (k := 0) (by decide +kernel) rfl).trans ?_
  refine (go_iload_n (m := 152) (pc := 26) (k := 1) (by decide +kernel) rfl).trans ?_
  refine (go_bi (m := 152) (pc := 27) (n := 6) (by decide +kernel) bi_6).trans ?_
  refine (go_aload_n (m := 152) (pc := 29) (k := 0) (by decide +kernel) rfl).trans ?_
  refine (go_iload_n (m := 152) (pc := 30) (k := 1) (by decide +kernel) rfl).trans ?_
  refine (go_ic (m := 152) (pc := 31) (n := 3) (by decide +kernel) ic_3).trans ?_
  exact go_vir (m := 152) (pc := 32) (o := 7) (x := 76) (y := 129) (kd := 0) (b := a_l0) (bs := [.int x_l1, .int (nI 3)]) (rs := [.int (nI 6), .int x_l1, .ref a_l0]) (by decide +kernel) rfl rfl c_7_76 (Or.inl rfl) rfl rfl rfl (by decide +kernel) (by simp only [List.length_cons, List.length_nil]; decide) (Nat.le_of_ble_eq_true rfl) h0
theorem Model_readBit_35 (l0 : Value) (l1 : Value) (l2 : Value) (l3 : Value) (l4 : Value) (l5 : Value) (a_s0 : Nat) (y1 : Int32) (y2 : Int32) (y3 : Int32) (w : Wd) (I : MI) (L : ML) (P : MP) (h0 : w.1 a_s0 = some (7, 0)) : go 152 35 [l0, l1, l2, l3, l4, l5] [.int y3, .int y2, .int y1, .ref a_s0] w I L P = kC (call 129 [.ref a_s0, .int y1, .int (y2 + y3)] w I L P) (fun v w1 I1 L1 P1 => go 152 39 [l0, l1, l2, l3, l4, l5] (v.toList ++ []) w1 I1 L1 P1) := by
  refine (go_iadd (m := 152) (pc := 35) (by decide +kernel)).trans ?_
  exact go_vir (m := 152) (pc := 36) (o := 7) (x := 76) (y := 129) (kd := 0) (b := a_s0) (bs := [.int y1, .int (y2 + y3)]) (rs := []) (by decide +kernel) rfl rfl c_7_76 (Or.inl rfl) rfl rfl rfl (by decide +kernel) (by simp only [List.length_cons, List.length_nil]; decide) (Nat.le_of_ble_eq_true rfl) h0
theorem Model_readBit_39 (a_l0 : Nat) (l1 : Value) (l2 : Value) (l3 : Value) (l4 : Value) (l5 : Value) (y0 : Int32) (w : Wd) (I : MI) (L : ML) (P : MP) (h0 : w.1 a_l0 = some (7, 0)) : go 152 39 [.ref a_l0, l1, l2, l3, l4, l5] [.int y0] w I L P = go 152 47 [.ref a_l0, l1, (fix1 l2), .int y0, l4, l5] [(va_rf (P a_l0 0)), .int (nI 7), .int y0] w I L P := by
  refine (go_istore_n (m := 152) (pc := 39) (k := 3) (ls' := [.ref a_l0, l1, (fix1 l2), .int y0, l4, l5]) (by decide +kernel) (by simp only [List.length_cons, List.length_nil]; decide) rfl).trans ?_
  refine (go_iload_n (m := 152) (pc := 40) (k := 3) (by decide +kernel) rfl).trans ?_
  refine (go_bi (m := 152) (pc := 41) (n := 7) (by decide +kernel) bi_7).trans ?_
  refine (go_aload_n (m := 152) (pc := 43) (k := 0) (by decide +kernel) rfl).trans ?_
  refine (go_getR (m := 152) (pc := 44) (o := 7) (x := 7) (ci := 7) (k := 0) (by decide +kernel) rfl f_7_7 rfl h0).trans ?_
  rfl
theorem Model_readBit_47 (a_l0 : Nat) (l1 : Value) (l2 : Value) (l3 : Value) (l4 : Value) (l5 : Value) (y0 : Int32) (y1 : Int32) (a_s2 : Nat) (w : Wd) (I : MI) (L : ML) (P : MP) (h0 : inA w a_s2 8 (nI 6)) (h1 : w.1 a_l0 = some (7, 0)) : go 152 47 [.ref a_l0, l1, l2, l3, l4, l5] [.ref a_s2, .int y1, .int y0] w I L P = go 152 60 [.ref a_l0, l1, l2, (fix1 l3), .int ((y0 >>> ((y1 - (I a_s2 (Int32.toNatClampNeg (nI 6)))) &&& 31)) &&& (nI 1)), l5] [(va_rf (P a_l0 0))] w I L P := by
  refine (go_bi (m := 152) (pc := 47) (n := 6) (by decide +kernel) bi_6).trans ?_
  refine (go_iald (m := 152) (pc := 49) (by decide +kernel) h0).trans ?_
  refine (go_isub (m := 152) (pc := 50) (by decide +kernel)).trans ?_
  refine (go_ishr (m := 152) (pc := 51) (by decide +kernel)).trans ?_
  refine (go_ic (m := 152) (pc := 52) (n := 1) (by decide +kernel) ic_1).trans ?_
  refine (go_iand (m := 152) (pc := 53) (by decide +kernel)).trans ?_
  refine (go_istore (m := 152) (pc := 54) (k := 4) (ls' := [.ref a_l0, l1, l2, (fix1 l3), .int ((y0 >>> ((y1 - (I a_s2 (Int32.toNatClampNeg (nI 6)))) &&& 31)) &&& (nI 1)), l5]) (by decide +kernel) (by simp only [List.length_cons, List.length_nil]; decide) rfl).trans ?_
  refine (go_aload_n (m := 152) (pc := 56) (k := 0) (by decide +kernel) rfl).trans ?_
  refine (go_getR (m := 152) (pc := 57) (o := 7) (x := 7) (ci := 7) (k := 0) (by decide +kernel) rfl f_7_7 rfl h1).trans ?_
  rfl
theorem Model_readBit_60 (a_l0 : Nat) (l1 : Value) (l2 : Value) (l3 : Value) (l4 : Value) (l5 : Value) (v0 : Value) (w : Wd) (I : MI) (L : ML) (P : MP) (h0 : w.1 a_l0 = some (7, 0)) : go 152 60 [.ref a_l0, l1, l2, l3, l4, l5] [v0] w I L P = go 152 67 [.ref a_l0, l1, l2, l3, l4, l5] [(va_rf (P a_l0 0)), .int (nI 2), .int (nI 13), v0] w I L P := by
  refine (go_bi (m := 152) (pc := 60) (n := 13) (by decide +kernel) bi_13).trans ?_
  refine (go_ic (m := 152) (pc := 62) (n := 2) (by decide +kernel) ic_2).trans ?_
  refine (go_aload_n (m := 152) (pc := 63) (k := 0) (by decide +kernel) rfl).trans ?_
  refine (go_getR (m := 152) (pc := 64) (o := 7) (x := 7) (ci := 7) (k := 0) (by decide +kernel) rfl f_7_7 rfl h0).trans ?_
  rfl
theorem Model_readBit_67 (a_l0 : Nat) (l1 : Value) (l2 : Value) (l3 : Value) (x_l4 : Int32) (l5 : Value) (a_s0 : Nat) (y1 : Int32) (y2 : Int32) (a_s3 : Nat) (w : Wd) (I : MI) (L : ML) (P : MP) (h0 : inA w a_s3 8 (nI 13)) (h1 : inA w a_s0 8 y1) (h2 : w.1 a_l0 = some (7, 0)) : go 152 67 [.ref a_l0, l1, l2, l3, .int x_l4, l5] [.ref a_s3, .int y2, .int y1, .ref a_s0] w I L P = go 152 79 [.ref a_l0, l1, l2, l3, .int x_l4, l5] [(va_rf (P a_l0 0))] w (updI I a_s0 (Int32.toNatClampNeg y1) ((y2 * (I a_s3 (Int32.toNatClampNeg (nI 13)))) + x_l4)) L P := by
  refine (go_bi (m := 152) (pc := 67) (n := 13) (by decide +kernel) bi_13).trans ?_
  refine (go_iald (m := 152) (pc := 69) (by decide +kernel) h0).trans ?_
  refine (go_imul (m := 152) (pc := 70) (by decide +kernel)).trans ?_
  refine (go_iload (m := 152) (pc := 71) (k := 4) (by decide +kernel) rfl).trans ?_
  refine (go_iadd (m := 152) (pc := 73) (by decide +kernel)).trans ?_
  refine (go_iast (m := 152) (pc := 74) (by decide +kernel) h1).trans ?_
  refine (go_aload_n (m := 152) (pc := 75) (k := 0) (by decide +kernel) rfl).trans ?_
  refine (go_getR (m := 152) (pc := 76) (o := 7) (x := 7) (ci := 7) (k := 0) (by decide +kernel) rfl f_7_7 rfl h2).trans ?_
  rfl
theorem Model_readBit_79 (a_l0 : Nat) (l1 : Value) (l2 : Value) (l3 : Value) (l4 : Value) (l5 : Value) (a_s0 : Nat) (w : Wd) (I : MI) (L : ML) (P : MP) (h0 : inA w a_s0 8 (nI 6)) (h1 : w.1 a_l0 = some (7, 0)) : go 152 79 [.ref a_l0, l1, l2, l3, l4, l5] [.ref a_s0] w I L P = go 152 90 [.ref a_l0, l1, l2, l3, l4, l5] [(va_rf (P a_l0 0))] w (updI I a_s0 (Int32.toNatClampNeg (nI 6)) ((I a_s0 (Int32.toNatClampNeg (nI 6))) + (nI 1))) L P := by
  refine (go_bi (m := 152) (pc := 79) (n := 6) (by decide +kernel) bi_6).trans ?_
  refine (go_dup2 (m := 152) (pc := 81) (by decide +kernel) rfl rfl).trans ?_
  refine (go_iald (m := 152) (pc := 82) (by decide +kernel) h0).trans ?_
  refine (go_ic (m := 152) (pc := 83) (n := 1) (by decide +kernel) ic_1).trans ?_
  refine (go_iadd (m := 152) (pc := 84) (by decide +kernel)).trans ?_
  refine (go_iast (m := 152) (pc := 85) (by decide +kernel) h0).trans ?_
  refine (go_aload_n (m := 152) (pc := 86) (k := 0) (by decide +kernel) rfl).trans ?_
  refine (go_getR (m := 152) (pc := 87) (o := 7) (x := 7) (ci := 7) (k := 0) (by decide +kernel) rfl f_7_7 rfl h1).trans ?_
  rfl
theorem Model_readBit_90 (l0 : Value) (l1 : Value) (l2 : Value) (l3 : Value) (l4 : Value) (l5 : Value) (a_s0 : Nat) (w : Wd) (I : MI) (L : ML) (P : MP) (h0 : inA w a_s0 8 (nI 6)) : go 152 90 [l0, l1, l2, l3, l4, l5] [.ref a_s0] w I L P = if (I a_s0 (Int32.toNatClampNeg (nI 6))) ≠ (nI 8) then go 152 193 [l0, l1, l2, l3, l4, l5] [] w I L P else go 152 98 [l0, l1, l2, l3, l4, l5] [] w I L P := by
  refine (go_bi (m := 152) (pc := 90) (n := 6) (by decide +kernel) bi_6).trans ?_
  refine (go_iald (m := 152) (pc := 92) (by decide +kernel) h0).trans ?_
  refine (go_bi (m := 152) (pc := 93) (n := 8) (by decide +kernel) bi_8).trans ?_
  exact go_icmpne (m := 152) (pc := 95) (off := 98) (t := 193) (by decide +kernel) (by decide)
theorem Model_readBit_98 (a_l0 : Nat) (x_l1 : Int32) (l2 : Value) (l3 : Value) (l4 : Value) (l5 : Value) (w : Wd) (I : MI) (L : ML) (P : MP) (h0 : w.1 a_l0 = some (7, 0)) : go 152 98 [.ref a_l0, .int x_l1, l2, l3, l4, l5] [] w I L P = kC (call 129 [.ref a_l0, .int x_l1, .int (nI 3)] w I L P) (fun v w1 I1 L1 P1 => go 152 107 [.ref a_l0, .int x_l1, l2, l3, l4, l5] (v.toList ++ [.int (nI 3), .int x_l1, .ref a_l0]) w1 I1 L1 P1) := by
  refine (go_aload_n (m := 152) (pc := 98) (k := 0) (by decide +kernel) rfl).trans ?_
  refine (go_iload_n (m := 152) (pc := 99) (k := 1) (by decide +kernel) rfl).trans ?_
  refine (go_ic (m := 152) (pc := 100) (n := 3) (by decide +kernel) ic_3).trans ?_
  refine (go_aload_n (m := 152) (pc := 101) (k := 0) (by decide +kernel) rfl).trans ?_
  refine (go_iload_n (m := 152) (pc := 102) (k := 1) (by decide +kernel) rfl).trans ?_
  refine (go_ic (m := 152) (pc := 103) (n := 3) (by decide +kernel) ic_3).trans ?_
  exact go_vir (m := 152) (pc := 104) (o := 7) (x := 76) (y := 129) (kd := 0) (b := a_l0) (bs := [.int x_l1, .int (nI 3)]) (rs := [.int (nI 3), .int x_l1, .ref a_l0]) (by decide +kernel) rfl rfl c_7_76 (Or.inl rfl) rfl rfl rfl (by decide +kernel) (by simp only [List.length_cons, List.length_nil]; decide) (Nat.le_of_ble_eq_true rfl) h0
theorem Model_readBit_107 (l0 : Value) (l1 : Value) (x_l2 : Int32) (l3 : Value) (l4 : Value) (l5 : Value) (v0 : Value) (y1 : Int32) (y2 : Int32) (y3 : Int32) (w : Wd) (I : MI) (L : ML) (P : MP)  : go 152 107 [l0, l1, .int x_l2, l3, l4, l5] [.int y3, .int y2, .int y1, v0] w I L P = if x_l2 ≤ (y3 + (nI 1)) then go 152 124 [l0, l1, .int x_l2, l3, l4, l5] [.int y2, .int y1, v0] w I L P else go 152 113 [l0, l1, .int x_l2, l3, l4, l5] [.int y2, .int y1, v0] w I L P := by
  refine (go_ic (m := 152) (pc := 107) (n := 1) (by decide +kernel) ic_1).trans ?_
  refine (go_iadd (m := 152) (pc := 108) (by decide +kernel)).trans ?_
  refine (go_iload_n (m := 152) (pc := 109) (k := 2) (by decide +kernel) rfl).trans ?_
  exact go_icmpge (m := 152) (pc := 110) (off := 14) (t := 124) (by decide +kernel) (by decide)
theorem Model_readBit_113 (a_l0 : Nat) (x_l1 : Int32) (l2 : Value) (l3 : Value) (l4 : Value) (l5 : Value) (v0 : Value) (y1 : Int32) (y2 : Int32) (w : Wd) (I : MI) (L : ML) (P : MP) (h0 : w.1 a_l0 = some (7, 0)) : go 152 113 [.ref a_l0, .int x_l1, l2, l3, l4, l5] [.int y2, .int y1, v0] w I L P = kC (call 129 [.ref a_l0, .int x_l1, .int (nI 3)] w I L P) (fun v w1 I1 L1 P1 => go 152 119 [.ref a_l0, .int x_l1, l2, l3, l4, l5] (v.toList ++ [.int y2, .int y1, v0]) w1 I1 L1 P1) := by
  refine (go_aload_n (m := 152) (pc := 113) (k := 0) (by decide +kernel) rfl).trans ?_
  refine (go_iload_n (m := 152) (pc := 114) (k := 1) (by decide +kernel) rfl).trans ?_
  refine (go_ic (m := 152) (pc := 115) (n := 3) (by decide +kernel) ic_3).trans ?_
  exact go_vir (m := 152) (pc := 116) (o := 7) (x := 76) (y := 129) (kd := 0) (b := a_l0) (bs := [.int x_l1, .int (nI 3)]) (rs := [.int y2, .int y1, v0]) (by decide +kernel) rfl rfl c_7_76 (Or.inl rfl) rfl rfl rfl (by decide +kernel) (by simp only [List.length_cons, List.length_nil]; decide) (Nat.le_of_ble_eq_true rfl) h0
theorem Model_readBit_119 (l0 : Value) (l1 : Value) (l2 : Value) (l3 : Value) (l4 : Value) (l5 : Value) (v0 : Value) (y1 : Int32) (y2 : Int32) (y3 : Int32) (w : Wd) (I : MI) (L : ML) (P : MP)  : go 152 119 [l0, l1, l2, l3, l4, l5] [.int y3, .int y2, .int y1, v0] w I L P = go 152 125 [l0, l1, l2, l3, l4, l5] [.int (y3 + (nI 1)), .int y2, .int y1, v0] w I L P := by
  refine (go_ic (m := 152) (pc := 119) (n := 1) (by decide +kernel) ic_1).trans ?_
  refine (go_iadd (m := 152) (pc := 120) (by decide +kernel)).trans ?_
  refine (go_goto (m := 152) (pc := 121) (off := 4) (t := 125) (by decide +kernel) (by decide)).trans ?_
  rfl
theorem Model_readBit_124 (l0 : Value) (l1 : Value) (l2 : Value) (l3 : Value) (l4 : Value) (l5 : Value) (v0 : Value) (y1 : Int32) (y2 : Int32) (w : Wd) (I : MI) (L : ML) (P : MP)  : go 152 124 [l0, l1, l2, l3, l4, l5] [.int y2, .int y1, v0] w I L P = go 152 125 [l0, l1, l2, l3, l4, l5] [.int (nI 0), .int y2, .int y1, v0] w I L P := by
  refine (go_ic (m := 152) (pc := 124) (n := 0) (by decide +kernel) ic_0).trans ?_
  rfl
theorem Model_readBit_125 (l0 : Value) (l1 : Value) (l2 : Value) (l3 : Value) (l4 : Value) (l5 : Value) (a_s0 : Nat) (y1 : Int32) (y2 : Int32) (y3 : Int32) (w : Wd) (I : MI) (L : ML) (P : MP) (h0 : w.1 a_s0 = some (7, 0)) : go 152 125 [l0, l1, l2, l3, l4, l5] [.int y3, .int y2, .int y1, .ref a_s0] w I L P = kC (call 130 [.ref a_s0, .int y1, .int y2, .int y3] w I L P) (fun v w1 I1 L1 P1 => go 152 128 [l0, l1, l2, l3, l4, l5] (v.toList ++ []) w1 I1 L1 P1) := by
  exact go_vir (m := 152) (pc := 125) (o := 7) (x := 96) (y := 130) (kd := 0) (b := a_s0) (bs := [.int y1, .int y2, .int y3]) (rs := []) (by decide +kernel) rfl rfl c_7_96 (Or.inl rfl) rfl rfl rfl (by decide +kernel) (by simp only [List.length_cons, List.length_nil]; decide) (Nat.le_of_ble_eq_true rfl) h0
theorem Model_readBit_128 (l0 : Value) (l1 : Value) (l2 : Value) (l3 : Value) (l4 : Value) (l5 : Value) (w : Wd) (I : MI) (L : ML) (P : MP)  : go 152 128 [l0, l1, l2, l3, l4, l5] [] w I L P = go 152 131 [l0, l1, l2, l3, (fix1 l4), .int (nI 0)] [] w I L P := by
  refine (go_ic (m := 152) (pc := 128) (n := 0) (by decide +kernel) ic_0).trans ?_
  refine (go_istore (m := 152) (pc := 129) (k := 5) (ls' := [l0, l1, l2, l3, (fix1 l4), .int (nI 0)]) (by decide +kernel) (by simp only [List.length_cons, List.length_nil]; decide) rfl).trans ?_
  rfl
theorem Model_readBit_131 (l0 : Value) (l1 : Value) (l2 : Value) (l3 : Value) (l4 : Value) (x_l5 : Int32) (w : Wd) (I : MI) (L : ML) (P : MP)  : go 152 131 [l0, l1, l2, l3, l4, .int x_l5] [] w I L P = if (nI 3) ≤ x_l5 then go 152 185 [l0, l1, l2, l3, l4, .int x_l5] [] w I L P else go 152 137 [l0, l1, l2, l3, l4, .int x_l5] [] w I L P := by
  refine (go_iload (m := 152) (pc := 131) (k := 5) (by decide +kernel) rfl).trans ?_
  refine (go_ic (m := 152) (pc := 133) (n := 3) (by decide +kernel) ic_3).trans ?_
  exact go_icmpge (m := 152) (pc := 134) (off := 51) (t := 185) (by decide +kernel) (by decide)
theorem Model_readBit_137 (a_l0 : Nat) (l1 : Value) (l2 : Value) (l3 : Value) (l4 : Value) (x_l5 : Int32) (w : Wd) (I : MI) (L : ML) (P : MP) (h0 : w.1 a_l0 = some (7, 0)) : go 152 137 [.ref a_l0, l1, l2, l3, l4, .int x_l5] [] w I L P = kC (call 133 [.ref a_l0, .int x_l5] w I L P) (fun v w1 I1 L1 P1 => go 152 143 [.ref a_l0, l1, l2, l3, l4, .int x_l5] (v.toList ++ []) w1 I1 L1 P1) := by
  refine (go_aload_n (m := 152) (pc := 137) (k := 0) (by decide +kernel) rfl).trans ?_
  refine (go_iload (m := 152) (pc := 138) (k := 5) (by decide +kernel) rfl).trans ?_
  exact go_vir (m := 152) (pc := 140) (o := 7) (x := 65) (y := 133) (kd := 0) (b := a_l0) (bs := [.int x_l5]) (rs := []) (by decide +kernel) rfl rfl c_7_65 (Or.inl rfl) rfl rfl rfl (by decide +kernel) (by simp only [List.length_cons, List.length_nil]; decide) (Nat.le_of_ble_eq_true rfl) h0
theorem Model_readBit_143 (l0 : Value) (l1 : Value) (l2 : Value) (l3 : Value) (l4 : Value) (l5 : Value) (y0 : Int32) (w : Wd) (I : MI) (L : ML) (P : MP)  : go 152 143 [l0, l1, l2, l3, l4, l5] [.int y0] w I L P = if y0 = 0 then go 152 179 [l0, l1, l2, l3, l4, l5] [] w I L P else go 152 146 [l0, l1, l2, l3, l4, l5] [] w I L P := by
  exact go_ifeq (m := 152) (pc := 143) (off := 36) (t := 179) (by decide +kernel) (by decide)
theorem Model_readBit_146 (a_l0 : Nat) (l1 : Value) (l2 : Value) (l3 : Value) (l4 : Value) (x_l5 : Int32) (w : Wd) (I : MI) (L : ML) (P : MP) (h0 : w.1 a_l0 = some (7, 0)) : go 152 146 [.ref a_l0, l1, l2, l3, l4, .int x_l5] [] w I L P = kC (call 127 [.ref a_l0, .int x_l5, .int (nI 6), .int (nI 1)] w I L P) (fun v w1 I1 L1 P1 => go 152 155 [.ref a_l0, l1, l2, l3, l4, .int x_l5] (v.toList ++ []) w1 I1 L1 P1) := by
  refine (go_aload_n (m := 152) (pc := 146) (k := 0) (by decide +kernel) rfl).trans ?_
  refine (go_iload (m := 152) (pc := 147) (k := 5) (by decide +kernel) rfl).trans ?_
  refine (go_bi (m := 152) (pc := 149) (n := 6) (by decide +kernel) bi_6).trans ?_
  refine (go_ic (m := 152) (pc := 151) (n := 1) (by decide +kernel) ic_1).trans ?_
  exact go_vir (m := 152) (pc := 152) (o := 7) (x := 54) (y := 127) (kd := 0) (b := a_l0) (bs := [.int x_l5, .int (nI 6), .int (nI 1)]) (rs := []) (by decide +kernel) rfl rfl c_7_54 (Or.inl rfl) rfl rfl rfl (by decide +kernel) (by simp only [List.length_cons, List.length_nil]; decide) (Nat.le_of_ble_eq_true rfl) h0
theorem Model_readBit_155 (a_l0 : Nat) (l1 : Value) (l2 : Value) (l3 : Value) (l4 : Value) (l5 : Value) (w : Wd) (I : MI) (L : ML) (P : MP) (h0 : w.1 a_l0 = some (7, 0)) : go 152 155 [.ref a_l0, l1, l2, l3, l4, l5] [] w I L P = go 152 159 [.ref a_l0, l1, l2, l3, l4, l5] [(va_rf (P a_l0 0))] w I L P := by
  refine (go_aload_n (m := 152) (pc := 155) (k := 0) (by decide +kernel) rfl).trans ?_
  refine (go_getR (m := 152) (pc := 156) (o := 7) (x := 7) (ci := 7) (k := 0) (by decide +kernel) rfl f_7_7 rfl h0).trans ?_
  rfl
theorem Model_readBit_159 (a_l0 : Nat) (l1 : Value) (l2 : Value) (l3 : Value) (l4 : Value) (x_l5 : Int32) (v0 : Value) (w : Wd) (I : MI) (L : ML) (P : MP) (h0 : w.1 a_l0 = some (7, 0)) : go 152 159 [.ref a_l0, l1, l2, l3, l4, .int x_l5] [v0] w I L P = go 152 175 [.ref a_l0, l1, l2, l3, l4, .int x_l5] [(va_rf (P a_l0 0)), .int (((nI 207) + ((nI 40) * x_l5)) + (nI 7)), v0] w I L P := by
  refine (go_si (m := 152) (pc := 159) (n := 207) (by decide +kernel) si_207).trans ?_
  refine (go_bi (m := 152) (pc := 162) (n := 40) (by decide +kernel) bi_40).trans ?_
  refine (go_iload (m := 152) (pc := 164) (k := 5) (by decide +kernel) rfl).trans ?_
  refine (go_imul (m := 152) (pc := 166) (by decide +kernel)).trans ?_
  refine (go_iadd (m := 152) (pc := 167) (by decide +kernel)).trans ?_
  refine (go_bi (m := 152) (pc := 168) (n := 7) (by decide +kernel) bi_7).trans ?_
  refine (go_iadd (m := 152) (pc := 170) (by decide +kernel)).trans ?_
  refine (go_aload_n (m := 152) (pc := 171) (k := 0) (by decide +kernel) rfl).trans ?_
  refine (go_getR (m := 152) (pc := 172) (o := 7) (x := 7) (ci := 7) (k := 0) (by decide +kernel) rfl f_7_7 rfl h0).trans ?_
  rfl
theorem Model_readBit_175 (l0 : Value) (l1 : Value) (l2 : Value) (l3 : Value) (l4 : Value) (l5 : Value) (a_s0 : Nat) (y1 : Int32) (a_s2 : Nat) (w : Wd) (I : MI) (L : ML) (P : MP) (h0 : inA w a_s2 8 (nI 13)) (h1 : inA w a_s0 8 y1) : go 152 175 [l0, l1, l2, l3, l4, l5] [.ref a_s2, .int y1, .ref a_s0] w I L P = go 152 179 [l0, l1, l2, l3, l4, l5] [] w (updI I a_s0 (Int32.toNatClampNeg y1) (I a_s2 (Int32.toNatClampNeg (nI 13)))) L P := by
  refine (go_bi (m := 152) (pc := 175) (n := 13) (by decide +kernel) bi_13).trans ?_
  refine (go_iald (m := 152) (pc := 177) (by decide +kernel) h0).trans ?_
  refine (go_iast (m := 152) (pc := 178) (by decide +kernel) h1).trans ?_
  rfl
theorem Model_readBit_179 (l0 : Value) (l1 : Value) (l2 : Value) (l3 : Value) (l4 : Value) (x_l5 : Int32) (w : Wd) (I : MI) (L : ML) (P : MP)  : go 152 179 [l0, l1, l2, l3, l4, .int x_l5] [] w I L P = go 152 131 [l0, l1, l2, l3, (fix1 l4), .int (x_l5 + (nI 1))] [] w I L P := by
  refine (go_iinc (m := 152) (pc := 179) (k := 5) (n := 1) (x := x_l5) (v := x_l5 + (nI 1)) (ls' := [l0, l1, l2, l3, (fix1 l4), .int (x_l5 + (nI 1))]) (by decide +kernel) rfl (by rw [ic_1]) rfl).trans ?_
  refine (go_goto (m := 152) (pc := 182) (off := -51) (t := 131) (by decide +kernel) (by decide)).trans ?_
  rfl
theorem Model_readBit_185 (a_l0 : Nat) (l1 : Value) (l2 : Value) (l3 : Value) (l4 : Value) (l5 : Value) (w : Wd) (I : MI) (L : ML) (P : MP) (h0 : w.1 a_l0 = some (7, 0)) : go 152 185 [.ref a_l0, l1, l2, l3, l4, l5] [] w I L P = go 152 189 [.ref a_l0, l1, l2, l3, l4, l5] [(va_rf (P a_l0 0))] w I L P := by
  refine (go_aload_n (m := 152) (pc := 185) (k := 0) (by decide +kernel) rfl).trans ?_
  refine (go_getR (m := 152) (pc := 186) (o := 7) (x := 7) (ci := 7) (k := 0) (by decide +kernel) rfl f_7_7 rfl h0).trans ?_
  rfl
theorem Model_readBit_189 (l0 : Value) (l1 : Value) (l2 : Value) (l3 : Value) (l4 : Value) (l5 : Value) (a_s0 : Nat) (w : Wd) (I : MI) (L : ML) (P : MP) (h0 : inA w a_s0 8 (nI 4)) : go 152 189 [l0, l1, l2, l3, l4, l5] [.ref a_s0] w I L P = go 152 193 [l0, l1, l2, l3, l4, l5] [] w (updI I a_s0 (Int32.toNatClampNeg (nI 4)) (nI 6)) L P := by
  refine (go_ic (m := 152) (pc := 189) (n := 4) (by decide +kernel) ic_4).trans ?_
  refine (go_bi (m := 152) (pc := 190) (n := 6) (by decide +kernel) bi_6).trans ?_
  refine (go_iast (m := 152) (pc := 192) (by decide +kernel) h0).trans ?_
  rfl
theorem Model_readBit_193 (l0 : Value) (l1 : Value) (l2 : Value) (l3 : Value) (x_l4 : Int32) (l5 : Value) (w : Wd) (I : MI) (L : ML) (P : MP)  : go 152 193 [l0, l1, l2, l3, .int x_l4, l5] [] w I L P = some (.inl (some (.int x_l4)), w, I, L, P) := by
  refine (go_iload (m := 152) (pc := 193) (k := 4) (by decide +kernel) rfl).trans ?_
  exact go_retI (m := 152) (pc := 195) (by decide +kernel) rfl
theorem Model_readBit_E (this : Nat) (w : Wd) (I : MI) (L : ML) (P : MP) : call 152 [.ref this] w I L P = go 152 0 [.ref this, unk, unk, unk, unk, unk] [] w I L P := rfl
theorem Model_readAnswer_0 (a_l0 : Nat) (w : Wd) (I : MI) (L : ML) (P : MP) (h0 : w.1 a_l0 = some (7, 0)) : go 153 0 [.ref a_l0] [] w I L P = go 153 4 [.ref a_l0] [(va_rf (P a_l0 0))] w I L P := by
  refine (go_aload_n (m := 153) (pc := 0) (k := 0) (by decide +kernel) rfl).trans ?_
  refine (go_getR (m := 153) (pc := 1) (o := 7) (x := 7) (ci := 7) (k := 0) (by decide +kernel) rfl f_7_7 rfl h0).trans ?_
  rfl
theorem Model_readAnswer_4 (a_l0 : Nat) (a_s0 : Nat) (w : Wd) (I : MI) (L : ML) (P : MP) (h0 : inA w a_s0 8 (nI 7)) (h1 : w.1 a_l0 = some (7, 0)) : go 153 4 [.ref a_l0] [.ref a_s0] w I L P = kC (call 146 [.ref a_l0] w (updI I a_s0 (Int32.toNatClampNeg (nI 7)) ((I a_s0 (Int32.toNatClampNeg (nI 7))) + (nI 1))) L P) (fun v w1 I1 L1 P1 => go 153 15 [.ref a_l0] (v.toList ++ []) w1 I1 L1 P1) := by
  refine (go_bi (m := 153) (pc := 4) (n := 7) (by decide +kernel) bi_7).trans ?_
  refine (go_dup2 (m := 153) (pc := 6) (by decide +kernel) rfl rfl).trans ?_
  refine (go_iald (m := 153) (pc := 7) (by decide +kernel) h0).trans ?_
  refine (go_ic (m := 153) (pc := 8) (n := 1) (by decide +kernel) ic_1).trans ?_
  refine (go_iadd (m := 153) (pc := 9) (by decide +kernel)).trans ?_
  refine (go_iast (m := 153) (pc := 10) (by decide +kernel) h0).trans ?_
  refine (go_aload_n (m := 153) (pc := 11) (k := 0) (by decide +kernel) rfl).trans ?_
  exact go_vir (m := 153) (pc := 12) (o := 7) (x := 99) (y := 146) (kd := 0) (b := a_l0) (bs := []) (rs := []) (by decide +kernel) rfl rfl c_7_99 (Or.inl rfl) rfl rfl rfl (by decide +kernel) (by simp only [List.length_cons, List.length_nil]; decide) (Nat.le_of_ble_eq_true rfl) h1
theorem Model_readAnswer_15 (l0 : Value) (y0 : Int32) (w : Wd) (I : MI) (L : ML) (P : MP)  : go 153 15 [l0] [.int y0] w I L P = if y0 ≠ 0 then go 153 28 [l0] [] w I L P else go 153 18 [l0] [] w I L P := by
  exact go_ifne (m := 153) (pc := 15) (off := 13) (t := 28) (by decide +kernel) (by decide)
theorem Model_readAnswer_18 (a_l0 : Nat) (w : Wd) (I : MI) (L : ML) (P : MP) (h0 : w.1 a_l0 = some (7, 0)) : go 153 18 [.ref a_l0] [] w I L P = go 153 22 [.ref a_l0] [(va_rf (P a_l0 0))] w I L P := by
  refine (go_aload_n (m := 153) (pc := 18) (k := 0) (by decide +kernel) rfl).trans ?_
  refine (go_getR (m := 153) (pc := 19) (o := 7) (x := 7) (ci := 7) (k := 0) (by decide +kernel) rfl f_7_7 rfl h0).trans ?_
  rfl
theorem Model_readAnswer_22 (l0 : Value) (a_s0 : Nat) (w : Wd) (I : MI) (L : ML) (P : MP) (h0 : inA w a_s0 8 (nI 4)) : go 153 22 [l0] [.ref a_s0] w I L P = some (.inl (some (.int (nI 1))), w, (updI I a_s0 (Int32.toNatClampNeg (nI 4)) (nI 8)), L, P) := by
  refine (go_ic (m := 153) (pc := 22) (n := 4) (by decide +kernel) ic_4).trans ?_
  refine (go_bi (m := 153) (pc := 23) (n := 8) (by decide +kernel) bi_8).trans ?_
  refine (go_iast (m := 153) (pc := 25) (by decide +kernel) h0).trans ?_
  refine (go_ic (m := 153) (pc := 26) (n := 1) (by decide +kernel) ic_1).trans ?_
  exact go_retI (m := 153) (pc := 27) (by decide +kernel) rfl
theorem Model_readAnswer_28 (a_l0 : Nat) (w : Wd) (I : MI) (L : ML) (P : MP) (h0 : w.1 a_l0 = some (7, 0)) : go 153 28 [.ref a_l0] [] w I L P = kC (call 148 [.ref a_l0] w I L P) (fun v w1 I1 L1 P1 => go 153 32 [.ref a_l0] (v.toList ++ []) w1 I1 L1 P1) := by
  refine (go_aload_n (m := 153) (pc := 28) (k := 0) (by decide +kernel) rfl).trans ?_
  exact go_vir (m := 153) (pc := 29) (o := 7) (x := 93) (y := 148) (kd := 0) (b := a_l0) (bs := []) (rs := []) (by decide +kernel) rfl rfl c_7_93 (Or.inl rfl) rfl rfl rfl (by decide +kernel) (by simp only [List.length_cons, List.length_nil]; decide) (Nat.le_of_ble_eq_true rfl) h0
theorem Model_readAnswer_32 (l0 : Value) (w : Wd) (I : MI) (L : ML) (P : MP)  : go 153 32 [l0] [] w I L P = some (.inl (some (.int (nI 0))), w, I, L, P) := by
  refine (go_ic (m := 153) (pc := 32) (n := 0) (by decide +kernel) ic_0).trans ?_
  exact go_retI (m := 153) (pc := 33) (by decide +kernel) rfl
theorem Model_readAnswer_E (this : Nat) (w : Wd) (I : MI) (L : ML) (P : MP) : call 153 [.ref this] w I L P = go 153 0 [.ref this] [] w I L P := rfl
theorem Model_begins_0 (l0 : Value) (l1 : Value) (l2 : Value) (w : Wd) (I : MI) (L : ML) (P : MP)  : go 154 0 [l0, l1, l2] [] w I L P = go 154 4 [(fix1 l0), .int (nI 0), .int (nI 0)] [] w I L P := by
  refine (go_ic (m := 154) (pc := 0) (n := 0) (by decide +kernel) ic_0).trans ?_
  refine (go_istore_n (m := 154) (pc := 1) (k := 1) (ls' := [(fix1 l0), .int (nI 0), l2]) (by decide +kernel) (by simp only [List.length_cons, List.length_nil]; decide) rfl).trans ?_
  refine (go_ic (m := 154) (pc := 2) (n := 0) (by decide +kernel) ic_0).trans ?_
  refine (go_istore_n (m := 154) (pc := 3) (k := 2) (ls' := [(fix1 l0), .int (nI 0), .int (nI 0)]) (by decide +kernel) (by simp only [List.length_cons, List.length_nil]; decide) rfl).trans ?_
  rfl
theorem Model_begins_4 (a_l0 : Nat) (l1 : Value) (x_l2 : Int32) (w : Wd) (I : MI) (L : ML) (P : MP) (h0 : w.1 a_l0 = some (7, 0)) : go 154 4 [.ref a_l0, l1, .int x_l2] [] w I L P = go 154 9 [.ref a_l0, l1, .int x_l2] [(va_rf (P a_l0 0)), .int x_l2] w I L P := by
  refine (go_iload_n (m := 154) (pc := 4) (k := 2) (by decide +kernel) rfl).trans ?_
  refine (go_aload_n (m := 154) (pc := 5) (k := 0) (by decide +kernel) rfl).trans ?_
  refine (go_getR (m := 154) (pc := 6) (o := 7) (x := 7) (ci := 7) (k := 0) (by decide +kernel) rfl f_7_7 rfl h0).trans ?_
  rfl
theorem Model_begins_9 (l0 : Value) (l1 : Value) (l2 : Value) (y0 : Int32) (a_s1 : Nat) (w : Wd) (I : MI) (L : ML) (P : MP) (h0 : inA w a_s1 8 (nI 1)) : go 154 9 [l0, l1, l2] [.ref a_s1, .int y0] w I L P = if (I a_s1 (Int32.toNatClampNeg (nI 1))) ≤ y0 then go 154 39 [l0, l1, l2] [] w I L P else go 154 14 [l0, l1, l2] [] w I L P := by
  refine (go_ic (m := 154) (pc := 9) (n := 1) (by decide +kernel) ic_1).trans ?_
  refine (go_iald (m := 154) (pc := 10) (by decide +kernel) h0).trans ?_
  exact go_icmpge (m := 154) (pc := 11) (off := 28) (t := 39) (by decide +kernel) (by decide)
theorem Model_begins_14 (a_l0 : Nat) (x_l1 : Int32) (x_l2 : Int32) (w : Wd) (I : MI) (L : ML) (P : MP) (h0 : w.1 a_l0 = some (7, 0)) : go 154 14 [.ref a_l0, .int x_l1, .int x_l2] [] w I L P = kC (call 126 [.ref a_l0, .int x_l2, .int (nI 0)] w I L P) (fun v w1 I1 L1 P1 => go 154 21 [.ref a_l0, .int x_l1, .int x_l2] (v.toList ++ [.int x_l1]) w1 I1 L1 P1) := by
  refine (go_iload_n (m := 154) (pc := 14) (k := 1) (by decide +kernel) rfl).trans ?_
  refine (go_aload_n (m := 154) (pc := 15) (k := 0) (by decide +kernel) rfl).trans ?_
  refine (go_iload_n (m := 154) (pc := 16) (k := 2) (by decide +kernel) rfl).trans ?_
  refine (go_ic (m := 154) (pc := 17) (n := 0) (by decide +kernel) ic_0).trans ?_
  exact go_vir (m := 154) (pc := 18) (o := 7) (x := 102) (y := 126) (kd := 0) (b := a_l0) (bs := [.int x_l2, .int (nI 0)]) (rs := [.int x_l1]) (by decide +kernel) rfl rfl c_7_102 (Or.inl rfl) rfl rfl rfl (by decide +kernel) (by simp only [List.length_cons, List.length_nil]; decide) (Nat.le_of_ble_eq_true rfl) h0
theorem Model_begins_21 (l0 : Value) (l1 : Value) (l2 : Value) (y0 : Int32) (y1 : Int32) (w : Wd) (I : MI) (L : ML) (P : MP)  : go 154 21 [l0, l1, l2] [.int y1, .int y0] w I L P = if y1 ≤ 0 then go 154 30 [l0, l1, l2] [.int y0] w I L P else go 154 24 [l0, l1, l2] [.int y0] w I L P := by
  exact go_ifle (m := 154) (pc := 21) (off := 9) (t := 30) (by decide +kernel) (by decide)
theorem Model_begins_24 (l0 : Value) (l1 : Value) (x_l2 : Int32) (y0 : Int32) (w : Wd) (I : MI) (L : ML) (P : MP)  : go 154 24 [l0, l1, .int x_l2] [.int y0] w I L P = go 154 31 [l0, l1, .int x_l2] [.int ((nI 1) <<< (x_l2 &&& 31)), .int y0] w I L P := by
  refine (go_ic (m := 154) (pc := 24) (n := 1) (by decide +kernel) ic_1).trans ?_
  refine (go_iload_n (m := 154) (pc := 25) (k := 2) (by decide +kernel) rfl).trans ?_
  refine (go_ishl (m := 154) (pc := 26) (by decide +kernel)).trans ?_
  refine (go_goto (m := 154) (pc := 27) (off := 4) (t := 31) (by decide +kernel) (by decide)).trans ?_
  rfl
theorem Model_begins_30 (l0 : Value) (l1 : Value) (l2 : Value) (y0 : Int32) (w : Wd) (I : MI) (L : ML) (P : MP)  : go 154 30 [l0, l1, l2] [.int y0] w I L P = go 154 31 [l0, l1, l2] [.int (nI 0), .int y0] w I L P := by
  refine (go_ic (m := 154) (pc := 30) (n := 0) (by decide +kernel) ic_0).trans ?_
  rfl
theorem Model_begins_31 (l0 : Value) (l1 : Value) (x_l2 : Int32) (y0 : Int32) (y1 : Int32) (w : Wd) (I : MI) (L : ML) (P : MP)  : go 154 31 [l0, l1, .int x_l2] [.int y1, .int y0] w I L P = go 154 4 [(fix1 l0), .int (y0 ||| y1), .int (x_l2 + (nI 1))] [] w I L P := by
  refine (go_ior (m := 154) (pc := 31) (by decide +kernel)).trans ?_
  refine (go_istore_n (m := 154) (pc := 32) (k := 1) (ls' := [(fix1 l0), .int (y0 ||| y1), .int x_l2]) (by decide +kernel) (by simp only [List.length_cons, List.length_nil]; decide) rfl).trans ?_
  refine (go_iinc (m := 154) (pc := 33) (k := 2) (n := 1) (x := x_l2) (v := x_l2 + (nI 1)) (ls' := [(fix1 l0), .int (y0 ||| y1), .int (x_l2 + (nI 1))]) (by decide +kernel) rfl (by rw [ic_1]) rfl).trans ?_
  refine (go_goto (m := 154) (pc := 36) (off := -32) (t := 4) (by decide +kernel) (by decide)).trans ?_
  rfl
theorem Model_begins_39 (a_l0 : Nat) (l1 : Value) (l2 : Value) (w : Wd) (I : MI) (L : ML) (P : MP) (h0 : w.1 a_l0 = some (7, 0)) : go 154 39 [.ref a_l0, l1, l2] [] w I L P = go 154 43 [.ref a_l0, l1, l2] [(va_rf (P a_l0 0))] w I L P := by
  refine (go_aload_n (m := 154) (pc := 39) (k := 0) (by decide +kernel) rfl).trans ?_
  refine (go_getR (m := 154) (pc := 40) (o := 7) (x := 7) (ci := 7) (k := 0) (by decide +kernel) rfl f_7_7 rfl h0).trans ?_
  rfl
theorem Model_begins_43 (a_l0 : Nat) (x_l1 : Int32) (l2 : Value) (a_s0 : Nat) (w : Wd) (I : MI) (L : ML) (P : MP) (h0 : inA w a_s0 8 (nI 5)) (h1 : w.1 a_l0 = some (7, 0)) : go 154 43 [.ref a_l0, .int x_l1, l2] [.ref a_s0] w I L P = go 154 50 [.ref a_l0, .int x_l1, l2] [(va_rf (P a_l0 0))] w (updI I a_s0 (Int32.toNatClampNeg (nI 5)) x_l1) L P := by
  refine (go_ic (m := 154) (pc := 43) (n := 5) (by decide +kernel) ic_5).trans ?_
  refine (go_iload_n (m := 154) (pc := 44) (k := 1) (by decide +kernel) rfl).trans ?_
  refine (go_iast (m := 154) (pc := 45) (by decide +kernel) h0).trans ?_
  refine (go_aload_n (m := 154) (pc := 46) (k := 0) (by decide +kernel) rfl).trans ?_
  refine (go_getR (m := 154) (pc := 47) (o := 7) (x := 7) (ci := 7) (k := 0) (by decide +kernel) rfl f_7_7 rfl h1).trans ?_
  rfl
theorem Model_begins_50 (l0 : Value) (x_l1 : Int32) (l2 : Value) (v0 : Value) (w : Wd) (I : MI) (L : ML) (P : MP)  : go 154 50 [l0, .int x_l1, l2] [v0] w I L P = if x_l1 ≠ 0 then go 154 59 [l0, .int x_l1, l2] [.int (nI 4), v0] w I L P else go 154 55 [l0, .int x_l1, l2] [.int (nI 4), v0] w I L P := by
  refine (go_ic (m := 154) (pc := 50) (n := 4) (by decide +kernel) ic_4).trans ?_
  refine (go_iload_n (m := 154) (pc := 51) (k := 1) (by decide +kernel) rfl).trans ?_
  exact go_ifne (m := 154) (pc := 52) (off := 7) (t := 59) (by decide +kernel) (by decide)
theorem Model_begins_55 (l0 : Value) (l1 : Value) (l2 : Value) (v0 : Value) (y1 : Int32) (w : Wd) (I : MI) (L : ML) (P : MP)  : go 154 55 [l0, l1, l2] [.int y1, v0] w I L P = go 154 60 [l0, l1, l2] [.int (nI 0), .int y1, v0] w I L P := by
  refine (go_ic (m := 154) (pc := 55) (n := 0) (by decide +kernel) ic_0).trans ?_
  refine (go_goto (m := 154) (pc := 56) (off := 4) (t := 60) (by decide +kernel) (by decide)).trans ?_
  rfl
theorem Model_begins_59 (l0 : Value) (l1 : Value) (l2 : Value) (v0 : Value) (y1 : Int32) (w : Wd) (I : MI) (L : ML) (P : MP)  : go 154 59 [l0, l1, l2] [.int y1, v0] w I L P = go 154 60 [l0, l1, l2] [.int (nI 1), .int y1, v0] w I L P := by
  refine (go_ic (m := 154) (pc := 59) (n := 1) (by decide +kernel) ic_1).trans ?_
  rfl
theorem Model_begins_60 (a_l0 : Nat) (l1 : Value) (l2 : Value) (a_s0 : Nat) (y1 : Int32) (y2 : Int32) (w : Wd) (I : MI) (L : ML) (P : MP) (h0 : inA w a_s0 8 y1) (h1 : w.1 a_l0 = some (7, 0)) : go 154 60 [.ref a_l0, l1, l2] [.int y2, .int y1, .ref a_s0] w I L P = go 154 65 [.ref a_l0, l1, l2] [(va_rf (P a_l0 0))] w (updI I a_s0 (Int32.toNatClampNeg y1) y2) L P := by
  refine (go_iast (m := 154) (pc := 60) (by decide +kernel) h0).trans ?_
  refine (go_aload_n (m := 154) (pc := 61) (k := 0) (by decide +kernel) rfl).trans ?_
  refine (go_getR (m := 154) (pc := 62) (o := 7) (x := 7) (ci := 7) (k := 0) (by decide +kernel) rfl f_7_7 rfl h1).trans ?_
  rfl
theorem Model_begins_65 (l0 : Value) (x_l1 : Int32) (l2 : Value) (a_s0 : Nat) (w : Wd) (I : MI) (L : ML) (P : MP) (h0 : inA w a_s0 8 (nI 6)) : go 154 65 [l0, .int x_l1, l2] [.ref a_s0] w I L P = if x_l1 ≠ 0 then go 154 77 [l0, .int x_l1, l2] [] w (updI I a_s0 (Int32.toNatClampNeg (nI 6)) (nI 0)) L P else go 154 73 [l0, .int x_l1, l2] [] w (updI I a_s0 (Int32.toNatClampNeg (nI 6)) (nI 0)) L P := by
  refine (go_bi (m := 154) (pc := 65) (n := 6) (by decide +kernel) bi_6).trans ?_
  refine (go_ic (m := 154) (pc := 67) (n := 0) (by decide +kernel) ic_0).trans ?_
  refine (go_iast (m := 154) (pc := 68) (by decide +kernel) h0).trans ?_
  refine (go_iload_n (m := 154) (pc := 69) (k := 1) (by decide +kernel) rfl).trans ?_
  exact go_ifne (m := 154) (pc := 70) (off := 7) (t := 77) (by decide +kernel) (by decide)
theorem Model_begins_73 (l0 : Value) (l1 : Value) (l2 : Value) (w : Wd) (I : MI) (L : ML) (P : MP)  : go 154 73 [l0, l1, l2] [] w I L P = go 154 78 [l0, l1, l2] [.int (nI 1)] w I L P := by
  refine (go_ic (m := 154) (pc := 73) (n := 1) (by decide +kernel) ic_1).trans ?_
  refine (go_goto (m := 154) (pc := 74) (off := 4) (t := 78) (by decide +kernel) (by decide)).trans ?_
  rfl
theorem Model_begins_77 (l0 : Value) (l1 : Value) (l2 : Value) (w : Wd) (I : MI) (L : ML) (P : MP)  : go 154 77 [l0, l1, l2] [] w I L P = go 154 78 [l0, l1, l2] [.int (nI 0)] w I L P := by
  refine (go_ic (m := 154) (pc := 77) (n := 0) (by decide +kernel) ic_0).trans ?_
  rfl
theorem Model_begins_78 (l0 : Value) (l1 : Value) (l2 : Value) (y0 : Int32) (w : Wd) (I : MI) (L : ML) (P : MP)  : go 154 78 [l0, l1, l2] [.int y0] w I L P = some (.inl (some (.int y0)), w, I, L, P) := by
  exact go_retI (m := 154) (pc := 78) (by decide +kernel) rfl
theorem Model_begins_E (this : Nat) (w : Wd) (I : MI) (L : ML) (P : MP) : call 154 [.ref this] w I L P = go 154 0 [.ref this, unk, unk] [] w I L P := rfl
theorem Model_step_0 (a_l0 : Nat) (l1 : Value) (w : Wd) (I : MI) (L : ML) (P : MP) (h0 : w.1 a_l0 = some (7, 0)) : go 155 0 [.ref a_l0, l1] [] w I L P = go 155 6 [.ref a_l0, .int (nI 0)] [(va_rf (P a_l0 0))] w I L P := by
  refine (go_ic (m := 155) (pc := 0) (n := 0) (by decide +kernel) ic_0).trans ?_
  refine (go_istore_n (m := 155) (pc := 1) (k := 1) (ls' := [.ref a_l0, .int (nI 0)]) (by decide +kernel) (by simp only [List.length_cons, List.length_nil]; decide) rfl).trans ?_
  refine (go_aload_n (m := 155) (pc := 2) (k := 0) (by decide +kernel) rfl).trans ?_
  refine (go_getR (m := 155) (pc := 3) (o := 7) (x := 7) (ci := 7) (k := 0) (by decide +kernel) rfl f_7_7 rfl h0).trans ?_
  rfl
theorem Model_step_6 (l0 : Value) (l1 : Value) (a_s0 : Nat) (w : Wd) (I : MI) (L : ML) (P : MP) (h0 : inA w a_s0 8 (nI 4)) : go 155 6 [l0, l1] [.ref a_s0] w I L P = go 155 8 [l0, l1] [.int (I a_s0 (Int32.toNatClampNeg (nI 4)))] w I L P := by
  refine (go_ic (m := 155) (pc := 6) (n := 4) (by decide +kernel) ic_4).trans ?_
  refine (go_iald (m := 155) (pc := 7) (by decide +kernel) h0).trans ?_
  rfl
theorem Model_step_8_k0 (l0 : Value) (l1 : Value) (w : Wd) (I : MI) (L : ML) (P : MP) : go 155 8 [l0, l1] [.int (nI 0)] w I L P = go 155 56 [l0, l1] [] w I L P := go_tsI (m := 155) (pc := 8) (z := 0) (off := 48) (t := 56) (dflt := 189) (lo := 0) (hi := 7) (offs := #[48, 53, 84, 89, 120, 125, 130, 135]) (len := 48) (by decide +kernel) (by decide) (by decide) (by decide) (by decide) (by decide)
theorem Model_step_8_k1 (l0 : Value) (l1 : Value) (w : Wd) (I : MI) (L : ML) (P : MP) : go 155 8 [l0, l1] [.int (nI 1)] w I L P = go 155 61 [l0, l1] [] w I L P := go_tsI (m := 155) (pc := 8) (z := 1) (off := 53) (t := 61) (dflt := 189) (lo := 0) (hi := 7) (offs := #[48, 53, 84, 89, 120, 125, 130, 135]) (len := 48) (by decide +kernel) (by decide) (by decide) (by decide) (by decide) (by decide)
theorem Model_step_8_k2 (l0 : Value) (l1 : Value) (w : Wd) (I : MI) (L : ML) (P : MP) : go 155 8 [l0, l1] [.int (nI 2)] w I L P = go 155 92 [l0, l1] [] w I L P := go_tsI (m := 155) (pc := 8) (z := 2) (off := 84) (t := 92) (dflt := 189) (lo := 0) (hi := 7) (offs := #[48, 53, 84, 89, 120, 125, 130, 135]) (len := 48) (by decide +kernel) (by decide) (by decide) (by decide) (by decide) (by decide)
theorem Model_step_8_k3 (l0 : Value) (l1 : Value) (w : Wd) (I : MI) (L : ML) (P : MP) : go 155 8 [l0, l1] [.int (nI 3)] w I L P = go 155 97 [l0, l1] [] w I L P := go_tsI (m := 155) (pc := 8) (z := 3) (off := 89) (t := 97) (dflt := 189) (lo := 0) (hi := 7) (offs := #[48, 53, 84, 89, 120, 125, 130, 135]) (len := 48) (by decide +kernel) (by decide) (by decide) (by decide) (by decide) (by decide)
theorem Model_step_8_k4 (l0 : Value) (l1 : Value) (w : Wd) (I : MI) (L : ML) (P : MP) : go 155 8 [l0, l1] [.int (nI 4)] w I L P = go 155 128 [l0, l1] [] w I L P := go_tsI (m := 155) (pc := 8) (z := 4) (off := 120) (t := 128) (dflt := 189) (lo := 0) (hi := 7) (offs := #[48, 53, 84, 89, 120, 125, 130, 135]) (len := 48) (by decide +kernel) (by decide) (by decide) (by decide) (by decide) (by decide)
theorem Model_step_8_k5 (l0 : Value) (l1 : Value) (w : Wd) (I : MI) (L : ML) (P : MP) : go 155 8 [l0, l1] [.int (nI 5)] w I L P = go 155 133 [l0, l1] [] w I L P := go_tsI (m := 155) (pc := 8) (z := 5) (off := 125) (t := 133) (dflt := 189) (lo := 0) (hi := 7) (offs := #[48, 53, 84, 89, 120, 125, 130, 135]) (len := 48) (by decide +kernel) (by decide) (by decide) (by decide) (by decide) (by decide)
theorem Model_step_8_k6 (l0 : Value) (l1 : Value) (w : Wd) (I : MI) (L : ML) (P : MP) : go 155 8 [l0, l1] [.int (nI 6)] w I L P = go 155 138 [l0, l1] [] w I L P := go_tsI (m := 155) (pc := 8) (z := 6) (off := 130) (t := 138) (dflt := 189) (lo := 0) (hi := 7) (offs := #[48, 53, 84, 89, 120, 125, 130, 135]) (len := 48) (by decide +kernel) (by decide) (by decide) (by decide) (by decide) (by decide)
theorem Model_step_8_k7 (l0 : Value) (l1 : Value) (w : Wd) (I : MI) (L : ML) (P : MP) : go 155 8 [l0, l1] [.int (nI 7)] w I L P = go 155 143 [l0, l1] [] w I L P := go_tsI (m := 155) (pc := 8) (z := 7) (off := 135) (t := 143) (dflt := 189) (lo := 0) (hi := 7) (offs := #[48, 53, 84, 89, 120, 125, 130, 135]) (len := 48) (by decide +kernel) (by decide) (by decide) (by decide) (by decide) (by decide)
theorem Model_step_8_kd (l0 : Value) (l1 : Value) (w : Wd) (I : MI) (L : ML) (P : MP) (y : Int32) (h0 : y.toInt < 0 ∨ 7 < y.toInt) : go 155 8 [l0, l1] [.int y] w I L P = go 155 197 [l0, l1] [] w I L P := go_tsO (m := 155) (pc := 8) (t := 197) (dflt := 189) (lo := 0) (hi := 7) (offs := #[48, 53, 84, 89, 120, 125, 130, 135]) (len := 48) (by decide +kernel) h0 (by decide)
theorem Model_step_56 (a_l0 : Nat) (l1 : Value) (w : Wd) (I : MI) (L : ML) (P : MP) (h0 : w.1 a_l0 = some (7, 0)) : go 155 56 [.ref a_l0, l1] [] w I L P = kC (call 154 [.ref a_l0] w I L P) (fun v w1 I1 L1 P1 => go 155 60 [.ref a_l0, l1] (v.toList ++ []) w1 I1 L1 P1) := by
  refine (go_aload_n (m := 155) (pc := 56) (k := 0) (by decide +kernel) rfl).trans ?_
  exact go_vir (m := 155) (pc := 57) (o := 7) (x := 105) (y := 154) (kd := 0) (b := a_l0) (bs := []) (rs := []) (by decide +kernel) rfl rfl c_7_105 (Or.inl rfl) rfl rfl rfl (by decide +kernel) (by simp only [List.length_cons, List.length_nil]; decide) (Nat.le_of_ble_eq_true rfl) h0
theorem Model_step_60 (l0 : Value) (l1 : Value) (y0 : Int32) (w : Wd) (I : MI) (L : ML) (P : MP)  : go 155 60 [l0, l1] [.int y0] w I L P = some (.inl (some (.int y0)), w, I, L, P) := by
  exact go_retI (m := 155) (pc := 60) (by decide +kernel) rfl
theorem Model_step_61 (a_l0 : Nat) (l1 : Value) (w : Wd) (I : MI) (L : ML) (P : MP) (h0 : w.1 a_l0 = some (7, 0)) : go 155 61 [.ref a_l0, l1] [] w I L P = kC (call 143 [.ref a_l0, .int (nI 1)] w I L P) (fun v w1 I1 L1 P1 => go 155 66 [.ref a_l0, l1] (v.toList ++ []) w1 I1 L1 P1) := by
  refine (go_aload_n (m := 155) (pc := 61) (k := 0) (by decide +kernel) rfl).trans ?_
  refine (go_ic (m := 155) (pc := 62) (n := 1) (by decide +kernel) ic_1).trans ?_
  exact go_vir (m := 155) (pc := 63) (o := 7) (x := 108) (y := 143) (kd := 0) (b := a_l0) (bs := [.int (nI 1)]) (rs := []) (by decide +kernel) rfl rfl c_7_108 (Or.inl rfl) rfl rfl rfl (by decide +kernel) (by simp only [List.length_cons, List.length_nil]; decide) (Nat.le_of_ble_eq_true rfl) h0
theorem Model_step_66 (a_l0 : Nat) (l1 : Value) (y0 : Int32) (w : Wd) (I : MI) (L : ML) (P : MP) (h0 : w.1 a_l0 = some (7, 0)) : go 155 66 [.ref a_l0, l1] [.int y0] w I L P = go 155 71 [.ref a_l0, .int y0] [(va_rf (P a_l0 0))] w I L P := by
  refine (go_istore_n (m := 155) (pc := 66) (k := 1) (ls' := [.ref a_l0, .int y0]) (by decide +kernel) (by simp only [List.length_cons, List.length_nil]; decide) rfl).trans ?_
  refine (go_aload_n (m := 155) (pc := 67) (k := 0) (by decide +kernel) rfl).trans ?_
  refine (go_getR (m := 155) (pc := 68) (o := 7) (x := 7) (ci := 7) (k := 0) (by decide +kernel) rfl f_7_7 rfl h0).trans ?_
  rfl
theorem Model_step_71 (a_l0 : Nat) (l1 : Value) (v0 : Value) (w : Wd) (I : MI) (L : ML) (P : MP) (h0 : w.1 a_l0 = some (7, 0)) : go 155 71 [.ref a_l0, l1] [v0] w I L P = go 155 76 [.ref a_l0, l1] [(va_rf (P a_l0 0)), .int (nI 4), v0] w I L P := by
  refine (go_ic (m := 155) (pc := 71) (n := 4) (by decide +kernel) ic_4).trans ?_
  refine (go_aload_n (m := 155) (pc := 72) (k := 0) (by decide +kernel) rfl).trans ?_
  refine (go_getR (m := 155) (pc := 73) (o := 7) (x := 7) (ci := 7) (k := 0) (by decide +kernel) rfl f_7_7 rfl h0).trans ?_
  rfl
theorem Model_step_76 (l0 : Value) (l1 : Value) (v0 : Value) (y1 : Int32) (a_s2 : Nat) (w : Wd) (I : MI) (L : ML) (P : MP) (h0 : inA w a_s2 8 (nI 6)) : go 155 76 [l0, l1] [.ref a_s2, .int y1, v0] w I L P = if (I a_s2 (Int32.toNatClampNeg (nI 6))) ≠ (nI 8) then go 155 88 [l0, l1] [.int y1, v0] w I L P else go 155 84 [l0, l1] [.int y1, v0] w I L P := by
  refine (go_bi (m := 155) (pc := 76) (n := 6) (by decide +kernel) bi_6).trans ?_
  refine (go_iald (m := 155) (pc := 78) (by decide +kernel) h0).trans ?_
  refine (go_bi (m := 155) (pc := 79) (n := 8) (by decide +kernel) bi_8).trans ?_
  exact go_icmpne (m := 155) (pc := 81) (off := 7) (t := 88) (by decide +kernel) (by decide)
theorem Model_step_84 (l0 : Value) (l1 : Value) (v0 : Value) (y1 : Int32) (w : Wd) (I : MI) (L : ML) (P : MP)  : go 155 84 [l0, l1] [.int y1, v0] w I L P = go 155 89 [l0, l1] [.int (nI 2), .int y1, v0] w I L P := by
  refine (go_ic (m := 155) (pc := 84) (n := 2) (by decide +kernel) ic_2).trans ?_
  refine (go_goto (m := 155) (pc := 85) (off := 4) (t := 89) (by decide +kernel) (by decide)).trans ?_
  rfl
theorem Model_step_88 (l0 : Value) (l1 : Value) (v0 : Value) (y1 : Int32) (w : Wd) (I : MI) (L : ML) (P : MP)  : go 155 88 [l0, l1] [.int y1, v0] w I L P = go 155 89 [l0, l1] [.int (nI 1), .int y1, v0] w I L P := by
  refine (go_ic (m := 155) (pc := 88) (n := 1) (by decide +kernel) ic_1).trans ?_
  rfl
theorem Model_step_89 (l0 : Value) (x_l1 : Int32) (a_s0 : Nat) (y1 : Int32) (y2 : Int32) (w : Wd) (I : MI) (L : ML) (P : MP) (h0 : inA w a_s0 8 y1) : go 155 89 [l0, .int x_l1] [.int y2, .int y1, .ref a_s0] w I L P = some (.inl (some (.int x_l1)), w, (updI I a_s0 (Int32.toNatClampNeg y1) y2), L, P) := by
  refine (go_iast (m := 155) (pc := 89) (by decide +kernel) h0).trans ?_
  refine (go_iload_n (m := 155) (pc := 90) (k := 1) (by decide +kernel) rfl).trans ?_
  exact go_retI (m := 155) (pc := 91) (by decide +kernel) rfl
theorem Model_step_92 (a_l0 : Nat) (l1 : Value) (w : Wd) (I : MI) (L : ML) (P : MP) (h0 : w.1 a_l0 = some (7, 0)) : go 155 92 [.ref a_l0, l1] [] w I L P = kC (call 150 [.ref a_l0] w I L P) (fun v w1 I1 L1 P1 => go 155 96 [.ref a_l0, l1] (v.toList ++ []) w1 I1 L1 P1) := by
  refine (go_aload_n (m := 155) (pc := 92) (k := 0) (by decide +kernel) rfl).trans ?_
  exact go_vir (m := 155) (pc := 93) (o := 7) (x := 112) (y := 150) (kd := 0) (b := a_l0) (bs := []) (rs := []) (by decide +kernel) rfl rfl c_7_112 (Or.inl rfl) rfl rfl rfl (by decide +kernel) (by simp only [List.length_cons, List.length_nil]; decide) (Nat.le_of_ble_eq_true rfl) h0
theorem Model_step_96 (l0 : Value) (l1 : Value) (y0 : Int32) (w : Wd) (I : MI) (L : ML) (P : MP)  : go 155 96 [l0, l1] [.int y0] w I L P = some (.inl (some (.int y0)), w, I, L, P) := by
  exact go_retI (m := 155) (pc := 96) (by decide +kernel) rfl
theorem Model_step_97 (a_l0 : Nat) (l1 : Value) (w : Wd) (I : MI) (L : ML) (P : MP) (h0 : w.1 a_l0 = some (7, 0)) : go 155 97 [.ref a_l0, l1] [] w I L P = kC (call 143 [.ref a_l0, .int (nI 0)] w I L P) (fun v w1 I1 L1 P1 => go 155 102 [.ref a_l0, l1] (v.toList ++ []) w1 I1 L1 P1) := by
  refine (go_aload_n (m := 155) (pc := 97) (k := 0) (by decide +kernel) rfl).trans ?_
  refine (go_ic (m := 155) (pc := 98) (n := 0) (by decide +kernel) ic_0).trans ?_
  exact go_vir (m := 155) (pc := 99) (o := 7) (x := 108) (y := 143) (kd := 0) (b := a_l0) (bs := [.int (nI 0)]) (rs := []) (by decide +kernel) rfl rfl c_7_108 (Or.inl rfl) rfl rfl rfl (by decide +kernel) (by simp only [List.length_cons, List.length_nil]; decide) (Nat.le_of_ble_eq_true rfl) h0
theorem Model_step_102 (a_l0 : Nat) (l1 : Value) (y0 : Int32) (w : Wd) (I : MI) (L : ML) (P : MP) (h0 : w.1 a_l0 = some (7, 0)) : go 155 102 [.ref a_l0, l1] [.int y0] w I L P = go 155 107 [.ref a_l0, .int y0] [(va_rf (P a_l0 0))] w I L P := by
  refine (go_istore_n (m := 155) (pc := 102) (k := 1) (ls' := [.ref a_l0, .int y0]) (by decide +kernel) (by simp only [List.length_cons, List.length_nil]; decide) rfl).trans ?_
  refine (go_aload_n (m := 155) (pc := 103) (k := 0) (by decide +kernel) rfl).trans ?_
  refine (go_getR (m := 155) (pc := 104) (o := 7) (x := 7) (ci := 7) (k := 0) (by decide +kernel) rfl f_7_7 rfl h0).trans ?_
  rfl
theorem Model_step_107 (a_l0 : Nat) (l1 : Value) (v0 : Value) (w : Wd) (I : MI) (L : ML) (P : MP) (h0 : w.1 a_l0 = some (7, 0)) : go 155 107 [.ref a_l0, l1] [v0] w I L P = go 155 112 [.ref a_l0, l1] [(va_rf (P a_l0 0)), .int (nI 4), v0] w I L P := by
  refine (go_ic (m := 155) (pc := 107) (n := 4) (by decide +kernel) ic_4).trans ?_
  refine (go_aload_n (m := 155) (pc := 108) (k := 0) (by decide +kernel) rfl).trans ?_
  refine (go_getR (m := 155) (pc := 109) (o := 7) (x := 7) (ci := 7) (k := 0) (by decide +kernel) rfl f_7_7 rfl h0).trans ?_
  rfl
theorem Model_step_112 (l0 : Value) (l1 : Value) (v0 : Value) (y1 : Int32) (a_s2 : Nat) (w : Wd) (I : MI) (L : ML) (P : MP) (h0 : inA w a_s2 8 (nI 6)) : go 155 112 [l0, l1] [.ref a_s2, .int y1, v0] w I L P = if (I a_s2 (Int32.toNatClampNeg (nI 6))) ≠ (nI 8) then go 155 124 [l0, l1] [.int y1, v0] w I L P else go 155 120 [l0, l1] [.int y1, v0] w I L P := by
  refine (go_bi (m := 155) (pc := 112) (n := 6) (by decide +kernel) bi_6).trans ?_
  refine (go_iald (m := 155) (pc := 114) (by decide +kernel) h0).trans ?_
  refine (go_bi (m := 155) (pc := 115) (n := 8) (by decide +kernel) bi_8).trans ?_
  exact go_icmpne (m := 155) (pc := 117) (off := 7) (t := 124) (by decide +kernel) (by decide)
theorem Model_step_120 (l0 : Value) (l1 : Value) (v0 : Value) (y1 : Int32) (w : Wd) (I : MI) (L : ML) (P : MP)  : go 155 120 [l0, l1] [.int y1, v0] w I L P = go 155 125 [l0, l1] [.int (nI 4), .int y1, v0] w I L P := by
  refine (go_ic (m := 155) (pc := 120) (n := 4) (by decide +kernel) ic_4).trans ?_
  refine (go_goto (m := 155) (pc := 121) (off := 4) (t := 125) (by decide +kernel) (by decide)).trans ?_
  rfl
theorem Model_step_124 (l0 : Value) (l1 : Value) (v0 : Value) (y1 : Int32) (w : Wd) (I : MI) (L : ML) (P : MP)  : go 155 124 [l0, l1] [.int y1, v0] w I L P = go 155 125 [l0, l1] [.int (nI 3), .int y1, v0] w I L P := by
  refine (go_ic (m := 155) (pc := 124) (n := 3) (by decide +kernel) ic_3).trans ?_
  rfl
theorem Model_step_125 (l0 : Value) (x_l1 : Int32) (a_s0 : Nat) (y1 : Int32) (y2 : Int32) (w : Wd) (I : MI) (L : ML) (P : MP) (h0 : inA w a_s0 8 y1) : go 155 125 [l0, .int x_l1] [.int y2, .int y1, .ref a_s0] w I L P = some (.inl (some (.int x_l1)), w, (updI I a_s0 (Int32.toNatClampNeg y1) y2), L, P) := by
  refine (go_iast (m := 155) (pc := 125) (by decide +kernel) h0).trans ?_
  refine (go_iload_n (m := 155) (pc := 126) (k := 1) (by decide +kernel) rfl).trans ?_
  exact go_retI (m := 155) (pc := 127) (by decide +kernel) rfl
theorem Model_step_128 (a_l0 : Nat) (l1 : Value) (w : Wd) (I : MI) (L : ML) (P : MP) (h0 : w.1 a_l0 = some (7, 0)) : go 155 128 [.ref a_l0, l1] [] w I L P = kC (call 151 [.ref a_l0] w I L P) (fun v w1 I1 L1 P1 => go 155 132 [.ref a_l0, l1] (v.toList ++ []) w1 I1 L1 P1) := by
  refine (go_aload_n (m := 155) (pc := 128) (k := 0) (by decide +kernel) rfl).trans ?_
  exact go_vir (m := 155) (pc := 129) (o := 7) (x := 115) (y := 151) (kd := 0) (b := a_l0) (bs := []) (rs := []) (by decide +kernel) rfl rfl c_7_115 (Or.inl rfl) rfl rfl rfl (by decide +kernel) (by simp only [List.length_cons, List.length_nil]; decide) (Nat.le_of_ble_eq_true rfl) h0
theorem Model_step_132 (l0 : Value) (l1 : Value) (y0 : Int32) (w : Wd) (I : MI) (L : ML) (P : MP)  : go 155 132 [l0, l1] [.int y0] w I L P = some (.inl (some (.int y0)), w, I, L, P) := by
  exact go_retI (m := 155) (pc := 132) (by decide +kernel) rfl
theorem Model_step_133 (a_l0 : Nat) (l1 : Value) (w : Wd) (I : MI) (L : ML) (P : MP) (h0 : w.1 a_l0 = some (7, 0)) : go 155 133 [.ref a_l0, l1] [] w I L P = kC (call 152 [.ref a_l0] w I L P) (fun v w1 I1 L1 P1 => go 155 137 [.ref a_l0, l1] (v.toList ++ []) w1 I1 L1 P1) := by
  refine (go_aload_n (m := 155) (pc := 133) (k := 0) (by decide +kernel) rfl).trans ?_
  exact go_vir (m := 155) (pc := 134) (o := 7) (x := 118) (y := 152) (kd := 0) (b := a_l0) (bs := []) (rs := []) (by decide +kernel) rfl rfl c_7_118 (Or.inl rfl) rfl rfl rfl (by decide +kernel) (by simp only [List.length_cons, List.length_nil]; decide) (Nat.le_of_ble_eq_true rfl) h0
theorem Model_step_137 (l0 : Value) (l1 : Value) (y0 : Int32) (w : Wd) (I : MI) (L : ML) (P : MP)  : go 155 137 [l0, l1] [.int y0] w I L P = some (.inl (some (.int y0)), w, I, L, P) := by
  exact go_retI (m := 155) (pc := 137) (by decide +kernel) rfl
theorem Model_step_138 (a_l0 : Nat) (l1 : Value) (w : Wd) (I : MI) (L : ML) (P : MP) (h0 : w.1 a_l0 = some (7, 0)) : go 155 138 [.ref a_l0, l1] [] w I L P = kC (call 153 [.ref a_l0] w I L P) (fun v w1 I1 L1 P1 => go 155 142 [.ref a_l0, l1] (v.toList ++ []) w1 I1 L1 P1) := by
  refine (go_aload_n (m := 155) (pc := 138) (k := 0) (by decide +kernel) rfl).trans ?_
  exact go_vir (m := 155) (pc := 139) (o := 7) (x := 121) (y := 153) (kd := 0) (b := a_l0) (bs := []) (rs := []) (by decide +kernel) rfl rfl c_7_121 (Or.inl rfl) rfl rfl rfl (by decide +kernel) (by simp only [List.length_cons, List.length_nil]; decide) (Nat.le_of_ble_eq_true rfl) h0
theorem Model_step_142 (l0 : Value) (l1 : Value) (y0 : Int32) (w : Wd) (I : MI) (L : ML) (P : MP)  : go 155 142 [l0, l1] [.int y0] w I L P = some (.inl (some (.int y0)), w, I, L, P) := by
  exact go_retI (m := 155) (pc := 142) (by decide +kernel) rfl
theorem Model_step_143 (a_l0 : Nat) (l1 : Value) (w : Wd) (I : MI) (L : ML) (P : MP) (h0 : w.1 a_l0 = some (7, 0)) : go 155 143 [.ref a_l0, l1] [] w I L P = go 155 147 [.ref a_l0, l1] [(va_rf (P a_l0 0))] w I L P := by
  refine (go_aload_n (m := 155) (pc := 143) (k := 0) (by decide +kernel) rfl).trans ?_
  refine (go_getR (m := 155) (pc := 144) (o := 7) (x := 7) (ci := 7) (k := 0) (by decide +kernel) rfl f_7_7 rfl h0).trans ?_
  rfl
theorem Model_step_147 (a_l0 : Nat) (l1 : Value) (a_s0 : Nat) (w : Wd) (I : MI) (L : ML) (P : MP) (h0 : inA w a_s0 8 (nI 9)) (h1 : w.1 a_l0 = some (7, 0)) : go 155 147 [.ref a_l0, l1] [.ref a_s0] w I L P = go 155 158 [.ref a_l0, l1] [(va_rf (P a_l0 0))] w (updI I a_s0 (Int32.toNatClampNeg (nI 9)) ((I a_s0 (Int32.toNatClampNeg (nI 9))) - (nI 1))) L P := by
  refine (go_bi (m := 155) (pc := 147) (n := 9) (by decide +kernel) bi_9).trans ?_
  refine (go_dup2 (m := 155) (pc := 149) (by decide +kernel) rfl rfl).trans ?_
  refine (go_iald (m := 155) (pc := 150) (by decide +kernel) h0).trans ?_
  refine (go_ic (m := 155) (pc := 151) (n := 1) (by decide +kernel) ic_1).trans ?_
  refine (go_isub (m := 155) (pc := 152) (by decide +kernel)).trans ?_
  refine (go_iast (m := 155) (pc := 153) (by decide +kernel) h0).trans ?_
  refine (go_aload_n (m := 155) (pc := 154) (k := 0) (by decide +kernel) rfl).trans ?_
  refine (go_getR (m := 155) (pc := 155) (o := 7) (x := 7) (ci := 7) (k := 0) (by decide +kernel) rfl f_7_7 rfl h1).trans ?_
  rfl
theorem Model_step_158 (a_l0 : Nat) (l1 : Value) (a_s0 : Nat) (w : Wd) (I : MI) (L : ML) (P : MP) (h0 : inA w a_s0 8 (nI 11)) (h1 : w.1 a_l0 = some (7, 0)) : go 155 158 [.ref a_l0, l1] [.ref a_s0] w I L P = go 155 170 [.ref a_l0, l1] [(va_rf (P a_l0 0)), .ref a_l0] w (updI I a_s0 (Int32.toNatClampNeg (nI 11)) ((I a_s0 (Int32.toNatClampNeg (nI 11))) + (nI 1))) L P := by
  refine (go_bi (m := 155) (pc := 158) (n := 11) (by decide +kernel) bi_11).trans ?_
  refine (go_dup2 (m := 155) (pc := 160) (by decide +kernel) rfl rfl).trans ?_
  refine (go_iald (m := 155) (pc := 161) (by decide +kernel) h0).trans ?_
  refine (go_ic (m := 155) (pc := 162) (n := 1) (by decide +kernel) ic_1).trans ?_
  refine (go_iadd (m := 155) (pc := 163) (by decide +kernel)).trans ?_
  refine (go_iast (m := 155) (pc := 164) (by decide +kernel) h0).trans ?_
  refine (go_aload_n (m := 155) (pc := 165) (k := 0) (by decide +kernel) rfl).trans ?_
  refine (go_aload_n (m := 155) (pc := 166) (k := 0) (by decide +kernel) rfl).trans ?_
  refine (go_getR (m := 155) (pc := 167) (o := 7) (x := 7) (ci := 7) (k := 0) (by decide +kernel) rfl f_7_7 rfl h1).trans ?_
  rfl
theorem Model_step_170 (a_l0 : Nat) (l1 : Value) (v0 : Value) (a_s1 : Nat) (w : Wd) (I : MI) (L : ML) (P : MP) (h0 : inA w a_s1 8 (nI 8)) (h1 : w.1 a_l0 = some (7, 0)) : go 155 170 [.ref a_l0, l1] [.ref a_s1, v0] w I L P = go 155 179 [.ref a_l0, l1] [(va_rf (P a_l0 0)), .ref a_l0, .int (nI 5), .int (I a_s1 (Int32.toNatClampNeg (nI 8))), v0] w I L P := by
  refine (go_bi (m := 155) (pc := 170) (n := 8) (by decide +kernel) bi_8).trans ?_
  refine (go_iald (m := 155) (pc := 172) (by decide +kernel) h0).trans ?_
  refine (go_ic (m := 155) (pc := 173) (n := 5) (by decide +kernel) ic_5).trans ?_
  refine (go_aload_n (m := 155) (pc := 174) (k := 0) (by decide +kernel) rfl).trans ?_
  refine (go_aload_n (m := 155) (pc := 175) (k := 0) (by decide +kernel) rfl).trans ?_
  refine (go_getR (m := 155) (pc := 176) (o := 7) (x := 7) (ci := 7) (k := 0) (by decide +kernel) rfl f_7_7 rfl h1).trans ?_
  rfl
theorem Model_step_179 (l0 : Value) (l1 : Value) (v0 : Value) (y1 : Int32) (y2 : Int32) (a_s3 : Nat) (a_s4 : Nat) (w : Wd) (I : MI) (L : ML) (P : MP) (h0 : inA w a_s4 8 (nI 8)) (h1 : w.1 a_s3 = some (7, 0)) : go 155 179 [l0, l1] [.ref a_s4, .ref a_s3, .int y2, .int y1, v0] w I L P = kC (call 129 [.ref a_s3, .int (I a_s4 (Int32.toNatClampNeg (nI 8))), .int (nI 5)] w I L P) (fun v w1 I1 L1 P1 => go 155 186 [l0, l1] (v.toList ++ [.int y2, .int y1, v0]) w1 I1 L1 P1) := by
  refine (go_bi (m := 155) (pc := 179) (n := 8) (by decide +kernel) bi_8).trans ?_
  refine (go_iald (m := 155) (pc := 181) (by decide +kernel) h0).trans ?_
  refine (go_ic (m := 155) (pc := 182) (n := 5) (by decide +kernel) ic_5).trans ?_
  exact go_vir (m := 155) (pc := 183) (o := 7) (x := 76) (y := 129) (kd := 0) (b := a_s3) (bs := [.int (I a_s4 (Int32.toNatClampNeg (nI 8))), .int (nI 5)]) (rs := [.int y2, .int y1, v0]) (by decide +kernel) rfl rfl c_7_76 (Or.inl rfl) rfl rfl rfl (by decide +kernel) (by simp only [List.length_cons, List.length_nil]; decide) (Nat.le_of_ble_eq_true rfl) h1
theorem Model_step_186 (l0 : Value) (l1 : Value) (a_s0 : Nat) (y1 : Int32) (y2 : Int32) (y3 : Int32) (w : Wd) (I : MI) (L : ML) (P : MP) (h0 : w.1 a_s0 = some (7, 0)) : go 155 186 [l0, l1] [.int y3, .int y2, .int y1, .ref a_s0] w I L P = kC (call 130 [.ref a_s0, .int y1, .int y2, .int (y3 + (nI 1))] w I L P) (fun v w1 I1 L1 P1 => go 155 191 [l0, l1] (v.toList ++ []) w1 I1 L1 P1) := by
  refine (go_ic (m := 155) (pc := 186) (n := 1) (by decide +kernel) ic_1).trans ?_
  refine (go_iadd (m := 155) (pc := 187) (by decide +kernel)).trans ?_
  exact go_vir (m := 155) (pc := 188) (o := 7) (x := 96) (y := 130) (kd := 0) (b := a_s0) (bs := [.int y1, .int y2, .int (y3 + (nI 1))]) (rs := []) (by decide +kernel) rfl rfl c_7_96 (Or.inl rfl) rfl rfl rfl (by decide +kernel) (by simp only [List.length_cons, List.length_nil]; decide) (Nat.le_of_ble_eq_true rfl) h0
theorem Model_step_191 (a_l0 : Nat) (l1 : Value) (w : Wd) (I : MI) (L : ML) (P : MP) (h0 : w.1 a_l0 = some (7, 0)) : go 155 191 [.ref a_l0, l1] [] w I L P = kC (call 147 [.ref a_l0] w I L P) (fun v w1 I1 L1 P1 => go 155 195 [.ref a_l0, l1] (v.toList ++ []) w1 I1 L1 P1) := by
  refine (go_aload_n (m := 155) (pc := 191) (k := 0) (by decide +kernel) rfl).trans ?_
  exact go_vir (m := 155) (pc := 192) (o := 7) (x := 80) (y := 147) (kd := 0) (b := a_l0) (bs := []) (rs := []) (by decide +kernel) rfl rfl c_7_80 (Or.inl rfl) rfl rfl rfl (by decide +kernel) (by simp only [List.length_cons, List.length_nil]; decide) (Nat.le_of_ble_eq_true rfl) h0
theorem Model_step_195 (l0 : Value) (l1 : Value) (w : Wd) (I : MI) (L : ML) (P : MP)  : go 155 195 [l0, l1] [] w I L P = some (.inl (some (.int (nI 0))), w, I, L, P) := by
  refine (go_ic (m := 155) (pc := 195) (n := 0) (by decide +kernel) ic_0).trans ?_
  exact go_retI (m := 155) (pc := 196) (by decide +kernel) rfl
theorem Model_step_197 (a_l0 : Nat) (l1 : Value) (w : Wd) (I : MI) (L : ML) (P : MP) (h0 : w.1 a_l0 = some (7, 0)) : go 155 197 [.ref a_l0, l1] [] w I L P = go 155 201 [.ref a_l0, l1] [(va_rf (P a_l0 0))] w I L P := by
  refine (go_aload_n (m := 155) (pc := 197) (k := 0) (by decide +kernel) rfl).trans ?_
  refine (go_getR (m := 155) (pc := 198) (o := 7) (x := 7) (ci := 7) (k := 0) (by decide +kernel) rfl f_7_7 rfl h0).trans ?_
  rfl
theorem Model_step_201 (a_l0 : Nat) (l1 : Value) (a_s0 : Nat) (w : Wd) (I : MI) (L : ML) (P : MP) (h0 : inA w a_s0 8 (nI 4)) (h1 : w.1 a_l0 = some (7, 0)) : go 155 201 [.ref a_l0, l1] [.ref a_s0] w I L P = go 155 208 [.ref a_l0, l1] [(va_rf (P a_l0 0))] w (updI I a_s0 (Int32.toNatClampNeg (nI 4)) (nI 0)) L P := by
  refine (go_ic (m := 155) (pc := 201) (n := 4) (by decide +kernel) ic_4).trans ?_
  refine (go_ic (m := 155) (pc := 202) (n := 0) (by decide +kernel) ic_0).trans ?_
  refine (go_iast (m := 155) (pc := 203) (by decide +kernel) h0).trans ?_
  refine (go_aload_n (m := 155) (pc := 204) (k := 0) (by decide +kernel) rfl).trans ?_
  refine (go_getR (m := 155) (pc := 205) (o := 7) (x := 7) (ci := 7) (k := 0) (by decide +kernel) rfl f_7_7 rfl h1).trans ?_
  rfl
theorem Model_step_208 (l0 : Value) (l1 : Value) (a_s0 : Nat) (w : Wd) (I : MI) (L : ML) (P : MP) (h0 : inA w a_s0 8 (nI 8)) : go 155 208 [l0, l1] [.ref a_s0] w I L P = some (.inl (some (.int (nI 1))), w, (updI I a_s0 (Int32.toNatClampNeg (nI 8)) (-1)), L, P) := by
  refine (go_bi (m := 155) (pc := 208) (n := 8) (by decide +kernel) bi_8).trans ?_
  refine (go_ic (m := 155) (pc := 210) (n := -1) (by decide +kernel) ic_m1).trans ?_
  refine (go_iast (m := 155) (pc := 211) (by decide +kernel) h0).trans ?_
  refine (go_ic (m := 155) (pc := 212) (n := 1) (by decide +kernel) ic_1).trans ?_
  exact go_retI (m := 155) (pc := 213) (by decide +kernel) rfl
theorem Model_step_E (this : Nat) (w : Wd) (I : MI) (L : ML) (P : MP) : call 155 [.ref this] w I L P = go 155 0 [.ref this, unk] [] w I L P := rfl
theorem Model_kindOf_0 (x_l0 : Int32) (w : Wd) (I : MI) (L : ML) (P : MP)  : go 156 0 [.int x_l0] [] w I L P = go 156 1 [.int x_l0] [.int x_l0] w I L P := by
  refine (go_iload_n (m := 156) (pc := 0) (k := 0) (by decide +kernel) rfl).trans ?_
  rfl
theorem Model_kindOf_1_k1 (l0 : Value) (w : Wd) (I : MI) (L : ML) (P : MP) : go 156 1 [l0] [.int (nI 1)] w I L P = go 156 44 [l0] [] w I L P := go_tsI (m := 156) (pc := 1) (z := 1) (off := 43) (t := 44) (dflt := 54) (lo := 1) (hi := 7) (offs := #[43, 45, 47, 49, 47, 49, 51]) (len := 43) (by decide +kernel) (by decide) (by decide) (by decide) (by decide) (by decide)
theorem Model_kindOf_1_k2 (l0 : Value) (w : Wd) (I : MI) (L : ML) (P : MP) : go 156 1 [l0] [.int (nI 2)] w I L P = go 156 46 [l0] [] w I L P := go_tsI (m := 156) (pc := 1) (z := 2) (off := 45) (t := 46) (dflt := 54) (lo := 1) (hi := 7) (offs := #[43, 45, 47, 49, 47, 49, 51]) (len := 43) (by decide +kernel) (by decide) (by decide) (by decide) (by decide) (by decide)
theorem Model_kindOf_1_k3 (l0 : Value) (w : Wd) (I : MI) (L : ML) (P : MP) : go 156 1 [l0] [.int (nI 3)] w I L P = go 156 48 [l0] [] w I L P := go_tsI (m := 156) (pc := 1) (z := 3) (off := 47) (t := 48) (dflt := 54) (lo := 1) (hi := 7) (offs := #[43, 45, 47, 49, 47, 49, 51]) (len := 43) (by decide +kernel) (by decide) (by decide) (by decide) (by decide) (by decide)
theorem Model_kindOf_1_k4 (l0 : Value) (w : Wd) (I : MI) (L : ML) (P : MP) : go 156 1 [l0] [.int (nI 4)] w I L P = go 156 50 [l0] [] w I L P := go_tsI (m := 156) (pc := 1) (z := 4) (off := 49) (t := 50) (dflt := 54) (lo := 1) (hi := 7) (offs := #[43, 45, 47, 49, 47, 49, 51]) (len := 43) (by decide +kernel) (by decide) (by decide) (by decide) (by decide) (by decide)
theorem Model_kindOf_1_k5 (l0 : Value) (w : Wd) (I : MI) (L : ML) (P : MP) : go 156 1 [l0] [.int (nI 5)] w I L P = go 156 48 [l0] [] w I L P := go_tsI (m := 156) (pc := 1) (z := 5) (off := 47) (t := 48) (dflt := 54) (lo := 1) (hi := 7) (offs := #[43, 45, 47, 49, 47, 49, 51]) (len := 43) (by decide +kernel) (by decide) (by decide) (by decide) (by decide) (by decide)
theorem Model_kindOf_1_k6 (l0 : Value) (w : Wd) (I : MI) (L : ML) (P : MP) : go 156 1 [l0] [.int (nI 6)] w I L P = go 156 50 [l0] [] w I L P := go_tsI (m := 156) (pc := 1) (z := 6) (off := 49) (t := 50) (dflt := 54) (lo := 1) (hi := 7) (offs := #[43, 45, 47, 49, 47, 49, 51]) (len := 43) (by decide +kernel) (by decide) (by decide) (by decide) (by decide) (by decide)
theorem Model_kindOf_1_k7 (l0 : Value) (w : Wd) (I : MI) (L : ML) (P : MP) : go 156 1 [l0] [.int (nI 7)] w I L P = go 156 52 [l0] [] w I L P := go_tsI (m := 156) (pc := 1) (z := 7) (off := 51) (t := 52) (dflt := 54) (lo := 1) (hi := 7) (offs := #[43, 45, 47, 49, 47, 49, 51]) (len := 43) (by decide +kernel) (by decide) (by decide) (by decide) (by decide) (by decide)
theorem Model_kindOf_1_kd (l0 : Value) (w : Wd) (I : MI) (L : ML) (P : MP) (y : Int32) (h0 : y.toInt < 1 ∨ 7 < y.toInt) : go 156 1 [l0] [.int y] w I L P = go 156 55 [l0] [] w I L P := go_tsO (m := 156) (pc := 1) (t := 55) (dflt := 54) (lo := 1) (hi := 7) (offs := #[43, 45, 47, 49, 47, 49, 51]) (len := 43) (by decide +kernel) h0 (by decide)
theorem Model_kindOf_44 (l0 : Value) (w : Wd) (I : MI) (L : ML) (P : MP)  : go 156 44 [l0] [] w I L P = some (.inl (some (.int (nI 2))), w, I, L, P) := by
  refine (go_ic (m := 156) (pc := 44) (n := 2) (by decide +kernel) ic_2).trans ?_
  exact go_retI (m := 156) (pc := 45) (by decide +kernel) rfl
theorem Model_kindOf_46 (l0 : Value) (w : Wd) (I : MI) (L : ML) (P : MP)  : go 156 46 [l0] [] w I L P = some (.inl (some (.int (nI 3))), w, I, L, P) := by
  refine (go_ic (m := 156) (pc := 46) (n := 3) (by decide +kernel) ic_3).trans ?_
  exact go_retI (m := 156) (pc := 47) (by decide +kernel) rfl
theorem Model_kindOf_48 (l0 : Value) (w : Wd) (I : MI) (L : ML) (P : MP)  : go 156 48 [l0] [] w I L P = some (.inl (some (.int (nI 4))), w, I, L, P) := by
  refine (go_ic (m := 156) (pc := 48) (n := 4) (by decide +kernel) ic_4).trans ?_
  exact go_retI (m := 156) (pc := 49) (by decide +kernel) rfl
theorem Model_kindOf_50 (l0 : Value) (w : Wd) (I : MI) (L : ML) (P : MP)  : go 156 50 [l0] [] w I L P = some (.inl (some (.int (nI 5))), w, I, L, P) := by
  refine (go_ic (m := 156) (pc := 50) (n := 5) (by decide +kernel) ic_5).trans ?_
  exact go_retI (m := 156) (pc := 51) (by decide +kernel) rfl
theorem Model_kindOf_52 (l0 : Value) (w : Wd) (I : MI) (L : ML) (P : MP)  : go 156 52 [l0] [] w I L P = some (.inl (some (.int (nI 6))), w, I, L, P) := by
  refine (go_bi (m := 156) (pc := 52) (n := 6) (by decide +kernel) bi_6).trans ?_
  exact go_retI (m := 156) (pc := 54) (by decide +kernel) rfl
theorem Model_kindOf_55 (l0 : Value) (w : Wd) (I : MI) (L : ML) (P : MP)  : go 156 55 [l0] [] w I L P = some (.inl (some (.int (nI 7))), w, I, L, P) := by
  refine (go_bi (m := 156) (pc := 55) (n := 7) (by decide +kernel) bi_7).trans ?_
  exact go_retI (m := 156) (pc := 57) (by decide +kernel) rfl
theorem Model_kindOf_E (p0 : Int32) (w : Wd) (I : MI) (L : ML) (P : MP) : call 156 [.int p0] w I L P = go 156 0 [.int p0] [] w I L P := rfl
theorem Model_slot_0 (a_l0 : Nat) (l1 : Value) (l2 : Value) (l3 : Value) (l4 : Value) (w : Wd) (I : MI) (L : ML) (P : MP) (h0 : w.1 a_l0 = some (7, 0)) : go 157 0 [.ref a_l0, l1, l2, l3, l4] [] w I L P = go 157 4 [.ref a_l0, l1, l2, l3, l4] [(va_rf (P a_l0 0))] w I L P := by
  refine (go_aload_n (m := 157) (pc := 0) (k := 0) (by decide +kernel) rfl).trans ?_
  refine (go_getR (m := 157) (pc := 1) (o := 7) (x := 7) (ci := 7) (k := 0) (by decide +kernel) rfl f_7_7 rfl h0).trans ?_
  rfl
theorem Model_slot_4 (a_l0 : Nat) (l1 : Value) (l2 : Value) (l3 : Value) (l4 : Value) (a_s0 : Nat) (w : Wd) (I : MI) (L : ML) (P : MP) (h0 : inA w a_s0 8 (nI 4)) (h1 : w.1 a_l0 = some (7, 0)) : go 157 4 [.ref a_l0, l1, l2, l3, l4] [.ref a_s0] w I L P = kC (call 155 [.ref a_l0] w I L P) (fun v w1 I1 L1 P1 => go 157 11 [.ref a_l0, .int (I a_s0 (Int32.toNatClampNeg (nI 4))), l2, l3, l4] (v.toList ++ []) w1 I1 L1 P1) := by
  refine (go_ic (m := 157) (pc := 4) (n := 4) (by decide +kernel) ic_4).trans ?_
  refine (go_iald (m := 157) (pc := 5) (by decide +kernel) h0).trans ?_
  refine (go_istore_n (m := 157) (pc := 6) (k := 1) (ls' := [.ref a_l0, .int (I a_s0 (Int32.toNatClampNeg (nI 4))), l2, l3, l4]) (by decide +kernel) (by simp only [List.length_cons, List.length_nil]; decide) rfl).trans ?_
  refine (go_aload_n (m := 157) (pc := 7) (k := 0) (by decide +kernel) rfl).trans ?_
  exact go_vir (m := 157) (pc := 8) (o := 7) (x := 124) (y := 155) (kd := 0) (b := a_l0) (bs := []) (rs := []) (by decide +kernel) rfl rfl c_7_124 (Or.inl rfl) rfl rfl rfl (by decide +kernel) (by simp only [List.length_cons, List.length_nil]; decide) (Nat.le_of_ble_eq_true rfl) h1
theorem Model_slot_11 (l0 : Value) (x_l1 : Int32) (l2 : Value) (l3 : Value) (l4 : Value) (y0 : Int32) (w : Wd) (I : MI) (L : ML) (P : MP)  : go 157 11 [l0, .int x_l1, l2, l3, l4] [.int y0] w I L P = if x_l1 = 0 then go 157 23 [l0, .int x_l1, .int y0, l3, l4] [] w I L P else go 157 16 [l0, .int x_l1, .int y0, l3, l4] [] w I L P := by
  refine (go_istore_n (m := 157) (pc := 11) (k := 2) (ls' := [l0, .int x_l1, .int y0, l3, l4]) (by decide +kernel) (by simp only [List.length_cons, List.length_nil]; decide) rfl).trans ?_
  refine (go_iload_n (m := 157) (pc := 12) (k := 1) (by decide +kernel) rfl).trans ?_
  exact go_ifeq (m := 157) (pc := 13) (off := 10) (t := 23) (by decide +kernel) (by decide)
theorem Model_slot_16 (l0 : Value) (x_l1 : Int32) (l2 : Value) (l3 : Value) (l4 : Value) (w : Wd) (I : MI) (L : ML) (P : MP)  : go 157 16 [l0, .int x_l1, l2, l3, l4] [] w I L P = kC (call 156 [.int x_l1] w I L P) (fun v w1 I1 L1 P1 => go 157 20 [l0, .int x_l1, l2, l3, l4] (v.toList ++ []) w1 I1 L1 P1) := by
  refine (go_iload_n (m := 157) (pc := 16) (k := 1) (by decide +kernel) rfl).trans ?_
  exact go_sta (m := 157) (pc := 17) (o := 7) (x := 127) (y := 156) (kd := 2) (as := [.int x_l1]) (rs := []) (by decide +kernel) rfl rfl c_7_127 (Or.inl rfl) rfl rfl rfl (by decide +kernel) (by simp only [List.length_cons, List.length_nil]; decide) (Nat.le_of_ble_eq_true rfl)
theorem Model_slot_20 (l0 : Value) (l1 : Value) (l2 : Value) (l3 : Value) (l4 : Value) (y0 : Int32) (w : Wd) (I : MI) (L : ML) (P : MP)  : go 157 20 [l0, l1, l2, l3, l4] [.int y0] w I L P = go 157 37 [l0, l1, l2, l3, l4] [.int y0] w I L P := by
  refine (go_goto (m := 157) (pc := 20) (off := 17) (t := 37) (by decide +kernel) (by decide)).trans ?_
  rfl
theorem Model_slot_23 (a_l0 : Nat) (l1 : Value) (l2 : Value) (l3 : Value) (l4 : Value) (w : Wd) (I : MI) (L : ML) (P : MP) (h0 : w.1 a_l0 = some (7, 0)) : go 157 23 [.ref a_l0, l1, l2, l3, l4] [] w I L P = go 157 27 [.ref a_l0, l1, l2, l3, l4] [(va_rf (P a_l0 0))] w I L P := by
  refine (go_aload_n (m := 157) (pc := 23) (k := 0) (by decide +kernel) rfl).trans ?_
  refine (go_getR (m := 157) (pc := 24) (o := 7) (x := 7) (ci := 7) (k := 0) (by decide +kernel) rfl f_7_7 rfl h0).trans ?_
  rfl
theorem Model_slot_27 (l0 : Value) (l1 : Value) (l2 : Value) (l3 : Value) (l4 : Value) (a_s0 : Nat) (w : Wd) (I : MI) (L : ML) (P : MP) (h0 : inA w a_s0 8 (nI 4)) : go 157 27 [l0, l1, l2, l3, l4] [.ref a_s0] w I L P = if (I a_s0 (Int32.toNatClampNeg (nI 4))) ≠ 0 then go 157 36 [l0, l1, l2, l3, l4] [] w I L P else go 157 32 [l0, l1, l2, l3, l4] [] w I L P := by
  refine (go_ic (m := 157) (pc := 27) (n := 4) (by decide +kernel) ic_4).trans ?_
  refine (go_iald (m := 157) (pc := 28) (by decide +kernel) h0).trans ?_
  exact go_ifne (m := 157) (pc := 29) (off := 7) (t := 36) (by decide +kernel) (by decide)
theorem Model_slot_32 (l0 : Value) (l1 : Value) (l2 : Value) (l3 : Value) (l4 : Value) (w : Wd) (I : MI) (L : ML) (P : MP)  : go 157 32 [l0, l1, l2, l3, l4] [] w I L P = go 157 37 [l0, l1, l2, l3, l4] [.int (nI 0)] w I L P := by
  refine (go_ic (m := 157) (pc := 32) (n := 0) (by decide +kernel) ic_0).trans ?_
  refine (go_goto (m := 157) (pc := 33) (off := 4) (t := 37) (by decide +kernel) (by decide)).trans ?_
  rfl
theorem Model_slot_36 (l0 : Value) (l1 : Value) (l2 : Value) (l3 : Value) (l4 : Value) (w : Wd) (I : MI) (L : ML) (P : MP)  : go 157 36 [l0, l1, l2, l3, l4] [] w I L P = go 157 37 [l0, l1, l2, l3, l4] [.int (nI 1)] w I L P := by
  refine (go_ic (m := 157) (pc := 36) (n := 1) (by decide +kernel) ic_1).trans ?_
  rfl
theorem Model_slot_37 (a_l0 : Nat) (l1 : Value) (l2 : Value) (l3 : Value) (l4 : Value) (y0 : Int32) (w : Wd) (I : MI) (L : ML) (P : MP) (h0 : w.1 a_l0 = some (7, 0)) : go 157 37 [.ref a_l0, l1, l2, l3, l4] [.int y0] w I L P = go 157 45 [.ref a_l0, l1, (fix1 l2), .int y0, l4] [(va_rf (P a_l0 0)), .int (nI 3), .int (nI 15)] w I L P := by
  refine (go_istore_n (m := 157) (pc := 37) (k := 3) (ls' := [.ref a_l0, l1, (fix1 l2), .int y0, l4]) (by decide +kernel) (by simp only [List.length_cons, List.length_nil]; decide) rfl).trans ?_
  refine (go_bi (m := 157) (pc := 38) (n := 15) (by decide +kernel) bi_15).trans ?_
  refine (go_ic (m := 157) (pc := 40) (n := 3) (by decide +kernel) ic_3).trans ?_
  refine (go_aload_n (m := 157) (pc := 41) (k := 0) (by decide +kernel) rfl).trans ?_
  refine (go_getR (m := 157) (pc := 42) (o := 7) (x := 7) (ci := 7) (k := 0) (by decide +kernel) rfl f_7_7 rfl h0).trans ?_
  rfl
theorem Model_slot_45 (a_l0 : Nat) (l1 : Value) (l2 : Value) (l3 : Value) (l4 : Value) (y0 : Int32) (y1 : Int32) (a_s2 : Nat) (w : Wd) (I : MI) (L : ML) (P : MP) (h0 : inA w a_s2 8 (nI 0)) (h1 : ¬ (nI 64) = 0) (h2 : w.1 a_l0 = some (7, 0)) : go 157 45 [.ref a_l0, l1, l2, l3, l4] [.ref a_s2, .int y1, .int y0] w I L P = go 157 58 [.ref a_l0, l1, l2, (fix1 l3), .int (y0 + (y1 * ((I a_s2 (Int32.toNatClampNeg (nI 0))) - (I a_s2 (Int32.toNatClampNeg (nI 0))) / (nI 64) * (nI 64))))] [(va_rf (P a_l0 0))] w I L P := by
  refine (go_ic (m := 157) (pc := 45) (n := 0) (by decide +kernel) ic_0).trans ?_
  refine (go_iald (m := 157) (pc := 46) (by decide +kernel) h0).trans ?_
  refine (go_bi (m := 157) (pc := 47) (n := 64) (by decide +kernel) bi_64).trans ?_
  refine (go_irem (m := 157) (pc := 49) (by decide +kernel) h1).trans ?_
  refine (go_imul (m := 157) (pc := 50) (by decide +kernel)).trans ?_
  refine (go_iadd (m := 157) (pc := 51) (by decide +kernel)).trans ?_
  refine (go_istore (m := 157) (pc := 52) (k := 4) (ls' := [.ref a_l0, l1, l2, (fix1 l3), .int (y0 + (y1 * ((I a_s2 (Int32.toNatClampNeg (nI 0))) - (I a_s2 (Int32.toNatClampNeg (nI 0))) / (nI 64) * (nI 64))))]) (by decide +kernel) (by simp only [List.length_cons, List.length_nil]; decide) rfl).trans ?_
  refine (go_aload_n (m := 157) (pc := 54) (k := 0) (by decide +kernel) rfl).trans ?_
  refine (go_getR (m := 157) (pc := 55) (o := 7) (x := 7) (ci := 7) (k := 0) (by decide +kernel) rfl f_7_7 rfl h2).trans ?_
  rfl
theorem Model_slot_58 (a_l0 : Nat) (l1 : Value) (x_l2 : Int32) (l3 : Value) (x_l4 : Int32) (a_s0 : Nat) (w : Wd) (I : MI) (L : ML) (P : MP) (h0 : inA w a_s0 8 x_l4) (h1 : w.1 a_l0 = some (7, 0)) : go 157 58 [.ref a_l0, l1, .int x_l2, l3, .int x_l4] [.ref a_s0] w I L P = go 157 66 [.ref a_l0, l1, .int x_l2, l3, .int x_l4] [(va_rf (P a_l0 0))] w (updI I a_s0 (Int32.toNatClampNeg x_l4) x_l2) L P := by
  refine (go_iload (m := 157) (pc := 58) (k := 4) (by decide +kernel) rfl).trans ?_
  refine (go_iload_n (m := 157) (pc := 60) (k := 2) (by decide +kernel) rfl).trans ?_
  refine (go_iast (m := 157) (pc := 61) (by decide +kernel) h0).trans ?_
  refine (go_aload_n (m := 157) (pc := 62) (k := 0) (by decide +kernel) rfl).trans ?_
  refine (go_getR (m := 157) (pc := 63) (o := 7) (x := 7) (ci := 7) (k := 0) (by decide +kernel) rfl f_7_7 rfl h1).trans ?_
  rfl
theorem Model_slot_66 (a_l0 : Nat) (l1 : Value) (l2 : Value) (l3 : Value) (x_l4 : Int32) (v0 : Value) (w : Wd) (I : MI) (L : ML) (P : MP) (h0 : w.1 a_l0 = some (7, 0)) : go 157 66 [.ref a_l0, l1, l2, l3, .int x_l4] [v0] w I L P = go 157 74 [.ref a_l0, l1, l2, l3, .int x_l4] [(va_rf (P a_l0 0)), .int (x_l4 + (nI 1)), v0] w I L P := by
  refine (go_iload (m := 157) (pc := 66) (k := 4) (by decide +kernel) rfl).trans ?_
  refine (go_ic (m := 157) (pc := 68) (n := 1) (by decide +kernel) ic_1).trans ?_
  refine (go_iadd (m := 157) (pc := 69) (by decide +kernel)).trans ?_
  refine (go_aload_n (m := 157) (pc := 70) (k := 0) (by decide +kernel) rfl).trans ?_
  refine (go_getR (m := 157) (pc := 71) (o := 7) (x := 7) (ci := 7) (k := 0) (by decide +kernel) rfl f_7_7 rfl h0).trans ?_
  rfl
theorem Model_slot_74 (a_l0 : Nat) (l1 : Value) (l2 : Value) (l3 : Value) (l4 : Value) (a_s0 : Nat) (y1 : Int32) (a_s2 : Nat) (w : Wd) (I : MI) (L : ML) (P : MP) (h0 : inA w a_s2 8 (nI 5)) (h1 : inA w a_s0 8 y1) (h2 : w.1 a_l0 = some (7, 0)) : go 157 74 [.ref a_l0, l1, l2, l3, l4] [.ref a_s2, .int y1, .ref a_s0] w I L P = go 157 81 [.ref a_l0, l1, l2, l3, l4] [(va_rf (P a_l0 0))] w (updI I a_s0 (Int32.toNatClampNeg y1) (I a_s2 (Int32.toNatClampNeg (nI 5)))) L P := by
  refine (go_ic (m := 157) (pc := 74) (n := 5) (by decide +kernel) ic_5).trans ?_
  refine (go_iald (m := 157) (pc := 75) (by decide +kernel) h0).trans ?_
  refine (go_iast (m := 157) (pc := 76) (by decide +kernel) h1).trans ?_
  refine (go_aload_n (m := 157) (pc := 77) (k := 0) (by decide +kernel) rfl).trans ?_
  refine (go_getR (m := 157) (pc := 78) (o := 7) (x := 7) (ci := 7) (k := 0) (by decide +kernel) rfl f_7_7 rfl h2).trans ?_
  rfl
theorem Model_slot_81 (a_l0 : Nat) (l1 : Value) (l2 : Value) (x_l3 : Int32) (x_l4 : Int32) (a_s0 : Nat) (w : Wd) (I : MI) (L : ML) (P : MP) (h0 : inA w a_s0 8 (x_l4 + (nI 2))) (h1 : w.1 a_l0 = some (7, 0)) : go 157 81 [.ref a_l0, l1, l2, .int x_l3, .int x_l4] [.ref a_s0] w I L P = go 157 91 [.ref a_l0, l1, l2, .int x_l3, .int x_l4] [(va_rf (P a_l0 0))] w (updI I a_s0 (Int32.toNatClampNeg (x_l4 + (nI 2))) x_l3) L P := by
  refine (go_iload (m := 157) (pc := 81) (k := 4) (by decide +kernel) rfl).trans ?_
  refine (go_ic (m := 157) (pc := 83) (n := 2) (by decide +kernel) ic_2).trans ?_
  refine (go_iadd (m := 157) (pc := 84) (by decide +kernel)).trans ?_
  refine (go_iload_n (m := 157) (pc := 85) (k := 3) (by decide +kernel) rfl).trans ?_
  refine (go_iast (m := 157) (pc := 86) (by decide +kernel) h0).trans ?_
  refine (go_aload_n (m := 157) (pc := 87) (k := 0) (by decide +kernel) rfl).trans ?_
  refine (go_getR (m := 157) (pc := 88) (o := 7) (x := 7) (ci := 7) (k := 0) (by decide +kernel) rfl f_7_7 rfl h1).trans ?_
  rfl
theorem Model_slot_91 (a_l0 : Nat) (l1 : Value) (x_l2 : Int32) (l3 : Value) (l4 : Value) (a_s0 : Nat) (w : Wd) (I : MI) (L : ML) (P : MP) (h0 : inA w a_s0 8 (nI 12)) (h1 : w.1 a_l0 = some (7, 0)) : go 157 91 [.ref a_l0, l1, .int x_l2, l3, l4] [.ref a_s0] w I L P = go 157 99 [.ref a_l0, l1, .int x_l2, l3, l4] [(va_rf (P a_l0 0))] w (updI I a_s0 (Int32.toNatClampNeg (nI 12)) x_l2) L P := by
  refine (go_bi (m := 157) (pc := 91) (n := 12) (by decide +kernel) bi_12).trans ?_
  refine (go_iload_n (m := 157) (pc := 93) (k := 2) (by decide +kernel) rfl).trans ?_
  refine (go_iast (m := 157) (pc := 94) (by decide +kernel) h0).trans ?_
  refine (go_aload_n (m := 157) (pc := 95) (k := 0) (by decide +kernel) rfl).trans ?_
  refine (go_getR (m := 157) (pc := 96) (o := 7) (x := 7) (ci := 7) (k := 0) (by decide +kernel) rfl f_7_7 rfl h1).trans ?_
  rfl
theorem Model_slot_99 (l0 : Value) (l1 : Value) (l2 : Value) (x_l3 : Int32) (l4 : Value) (a_s0 : Nat) (w : Wd) (I : MI) (L : ML) (P : MP) (h0 : inA w a_s0 8 (nI 10)) : go 157 99 [l0, l1, l2, .int x_l3, l4] [.ref a_s0] w I L P = if x_l3 ≠ 0 then go 157 111 [l0, l1, l2, .int x_l3, l4] [.int (I a_s0 (Int32.toNatClampNeg (nI 10))), .int (nI 10), .ref a_s0] w I L P else go 157 107 [l0, l1, l2, .int x_l3, l4] [.int (I a_s0 (Int32.toNatClampNeg (nI 10))), .int (nI 10), .ref a_s0] w I L P := by
  refine (go_bi (m := 157) (pc := 99) (n := 10) (by decide +kernel) bi_10).trans ?_
  refine (go_dup2 (m := 157) (pc := 101) (by decide +kernel) rfl rfl).trans ?_
  refine (go_iald (m := 157) (pc := 102) (by decide +kernel) h0).trans ?_
  refine (go_iload_n (m := 157) (pc := 103) (k := 3) (by decide +kernel) rfl).trans ?_
  exact go_ifne (m := 157) (pc := 104) (off := 7) (t := 111) (by decide +kernel) (by decide)
theorem Model_slot_107 (l0 : Value) (l1 : Value) (l2 : Value) (l3 : Value) (l4 : Value) (v0 : Value) (y1 : Int32) (y2 : Int32) (w : Wd) (I : MI) (L : ML) (P : MP)  : go 157 107 [l0, l1, l2, l3, l4] [.int y2, .int y1, v0] w I L P = go 157 112 [l0, l1, l2, l3, l4] [.int (nI 0), .int y2, .int y1, v0] w I L P := by
  refine (go_ic (m := 157) (pc := 107) (n := 0) (by decide +kernel) ic_0).trans ?_
  refine (go_goto (m := 157) (pc := 108) (off := 4) (t := 112) (by decide +kernel) (by decide)).trans ?_
  rfl
theorem Model_slot_111 (l0 : Value) (l1 : Value) (l2 : Value) (l3 : Value) (l4 : Value) (v0 : Value) (y1 : Int32) (y2 : Int32) (w : Wd) (I : MI) (L : ML) (P : MP)  : go 157 111 [l0, l1, l2, l3, l4] [.int y2, .int y1, v0] w I L P = go 157 112 [l0, l1, l2, l3, l4] [.int (nI 1), .int y2, .int y1, v0] w I L P := by
  refine (go_ic (m := 157) (pc := 111) (n := 1) (by decide +kernel) ic_1).trans ?_
  rfl
theorem Model_slot_112 (a_l0 : Nat) (l1 : Value) (l2 : Value) (l3 : Value) (l4 : Value) (a_s0 : Nat) (y1 : Int32) (y2 : Int32) (y3 : Int32) (w : Wd) (I : MI) (L : ML) (P : MP) (h0 : inA w a_s0 8 y1) (h1 : w.1 a_l0 = some (7, 0)) : go 157 112 [.ref a_l0, l1, l2, l3, l4] [.int y3, .int y2, .int y1, .ref a_s0] w I L P = go 157 118 [.ref a_l0, l1, l2, l3, l4] [(va_rf (P a_l0 0))] w (updI I a_s0 (Int32.toNatClampNeg y1) (y2 + y3)) L P := by
  refine (go_iadd (m := 157) (pc := 112) (by decide +kernel)).trans ?_
  refine (go_iast (m := 157) (pc := 113) (by decide +kernel) h0).trans ?_
  refine (go_aload_n (m := 157) (pc := 114) (k := 0) (by decide +kernel) rfl).trans ?_
  refine (go_getR (m := 157) (pc := 115) (o := 7) (x := 7) (ci := 7) (k := 0) (by decide +kernel) rfl f_7_7 rfl h1).trans ?_
  rfl
theorem Model_slot_118 (l0 : Value) (l1 : Value) (l2 : Value) (l3 : Value) (l4 : Value) (a_s0 : Nat) (w : Wd) (I : MI) (L : ML) (P : MP) (h0 : inA w a_s0 8 (nI 0)) : go 157 118 [l0, l1, l2, l3, l4] [.ref a_s0] w I L P = some (.inl none, w, (updI I a_s0 (Int32.toNatClampNeg (nI 0)) ((I a_s0 (Int32.toNatClampNeg (nI 0))) + (nI 1))), L, P) := by
  refine (go_ic (m := 157) (pc := 118) (n := 0) (by decide +kernel) ic_0).trans ?_
  refine (go_dup2 (m := 157) (pc := 119) (by decide +kernel) rfl rfl).trans ?_
  refine (go_iald (m := 157) (pc := 120) (by decide +kernel) h0).trans ?_
  refine (go_ic (m := 157) (pc := 121) (n := 1) (by decide +kernel) ic_1).trans ?_
  refine (go_iadd (m := 157) (pc := 122) (by decide +kernel)).trans ?_
  refine (go_iast (m := 157) (pc := 123) (by decide +kernel) h0).trans ?_
  exact go_retV (m := 157) (pc := 124) (by decide +kernel) rfl
theorem Model_slot_E (this : Nat) (w : Wd) (I : MI) (L : ML) (P : MP) : call 157 [.ref this] w I L P = go 157 0 [.ref this, unk, unk, unk, unk] [] w I L P := rfl
theorem Model_isDone_0 (a_l0 : Nat) (w : Wd) (I : MI) (L : ML) (P : MP) (h0 : w.1 a_l0 = some (7, 0)) : go 158 0 [.ref a_l0] [] w I L P = go 158 4 [.ref a_l0] [(va_rf (P a_l0 0))] w I L P := by
  refine (go_aload_n (m := 158) (pc := 0) (k := 0) (by decide +kernel) rfl).trans ?_
  refine (go_getR (m := 158) (pc := 1) (o := 7) (x := 7) (ci := 7) (k := 0) (by decide +kernel) rfl f_7_7 rfl h0).trans ?_
  rfl
theorem Model_isDone_4 (l0 : Value) (a_s0 : Nat) (w : Wd) (I : MI) (L : ML) (P : MP) (h0 : inA w a_s0 8 (nI 4)) : go 158 4 [l0] [.ref a_s0] w I L P = if (I a_s0 (Int32.toNatClampNeg (nI 4))) ≠ 0 then go 158 36 [l0] [] w I L P else go 158 9 [l0] [] w I L P := by
  refine (go_ic (m := 158) (pc := 4) (n := 4) (by decide +kernel) ic_4).trans ?_
  refine (go_iald (m := 158) (pc := 5) (by decide +kernel) h0).trans ?_
  exact go_ifne (m := 158) (pc := 6) (off := 30) (t := 36) (by decide +kernel) (by decide)
theorem Model_isDone_9 (a_l0 : Nat) (w : Wd) (I : MI) (L : ML) (P : MP) (h0 : w.1 a_l0 = some (7, 0)) : go 158 9 [.ref a_l0] [] w I L P = kC (call 126 [.ref a_l0, .int (nI 0), .int (nI 0)] w I L P) (fun v w1 I1 L1 P1 => go 158 15 [.ref a_l0] (v.toList ++ []) w1 I1 L1 P1) := by
  refine (go_aload_n (m := 158) (pc := 9) (k := 0) (by decide +kernel) rfl).trans ?_
  refine (go_ic (m := 158) (pc := 10) (n := 0) (by decide +kernel) ic_0).trans ?_
  refine (go_ic (m := 158) (pc := 11) (n := 0) (by decide +kernel) ic_0).trans ?_
  exact go_vir (m := 158) (pc := 12) (o := 7) (x := 102) (y := 126) (kd := 0) (b := a_l0) (bs := [.int (nI 0), .int (nI 0)]) (rs := []) (by decide +kernel) rfl rfl c_7_102 (Or.inl rfl) rfl rfl rfl (by decide +kernel) (by simp only [List.length_cons, List.length_nil]; decide) (Nat.le_of_ble_eq_true rfl) h0
theorem Model_isDone_15 (a_l0 : Nat) (y0 : Int32) (w : Wd) (I : MI) (L : ML) (P : MP) (h0 : w.1 a_l0 = some (7, 0)) : go 158 15 [.ref a_l0] [.int y0] w I L P = kC (call 126 [.ref a_l0, .int (nI 1), .int (nI 0)] w I L P) (fun v w1 I1 L1 P1 => go 158 21 [.ref a_l0] (v.toList ++ [.int y0]) w1 I1 L1 P1) := by
  refine (go_aload_n (m := 158) (pc := 15) (k := 0) (by decide +kernel) rfl).trans ?_
  refine (go_ic (m := 158) (pc := 16) (n := 1) (by decide +kernel) ic_1).trans ?_
  refine (go_ic (m := 158) (pc := 17) (n := 0) (by decide +kernel) ic_0).trans ?_
  exact go_vir (m := 158) (pc := 18) (o := 7) (x := 102) (y := 126) (kd := 0) (b := a_l0) (bs := [.int (nI 1), .int (nI 0)]) (rs := [.int y0]) (by decide +kernel) rfl rfl c_7_102 (Or.inl rfl) rfl rfl rfl (by decide +kernel) (by simp only [List.length_cons, List.length_nil]; decide) (Nat.le_of_ble_eq_true rfl) h0
theorem Model_isDone_21 (a_l0 : Nat) (y0 : Int32) (y1 : Int32) (w : Wd) (I : MI) (L : ML) (P : MP) (h0 : w.1 a_l0 = some (7, 0)) : go 158 21 [.ref a_l0] [.int y1, .int y0] w I L P = kC (call 126 [.ref a_l0, .int (nI 2), .int (nI 0)] w I L P) (fun v w1 I1 L1 P1 => go 158 28 [.ref a_l0] (v.toList ++ [.int (y0 + y1)]) w1 I1 L1 P1) := by
  refine (go_iadd (m := 158) (pc := 21) (by decide +kernel)).trans ?_
  refine (go_aload_n (m := 158) (pc := 22) (k := 0) (by decide +kernel) rfl).trans ?_
  refine (go_ic (m := 158) (pc := 23) (n := 2) (by decide +kernel) ic_2).trans ?_
  refine (go_ic (m := 158) (pc := 24) (n := 0) (by decide +kernel) ic_0).trans ?_
  exact go_vir (m := 158) (pc := 25) (o := 7) (x := 102) (y := 126) (kd := 0) (b := a_l0) (bs := [.int (nI 2), .int (nI 0)]) (rs := [.int (y0 + y1)]) (by decide +kernel) rfl rfl c_7_102 (Or.inl rfl) rfl rfl rfl (by decide +kernel) (by simp only [List.length_cons, List.length_nil]; decide) (Nat.le_of_ble_eq_true rfl) h0
theorem Model_isDone_28 (l0 : Value) (y0 : Int32) (y1 : Int32) (w : Wd) (I : MI) (L : ML) (P : MP)  : go 158 28 [l0] [.int y1, .int y0] w I L P = if (y0 + y1) ≠ 0 then go 158 36 [l0] [] w I L P else go 158 32 [l0] [] w I L P := by
  refine (go_iadd (m := 158) (pc := 28) (by decide +kernel)).trans ?_
  exact go_ifne (m := 158) (pc := 29) (off := 7) (t := 36) (by decide +kernel) (by decide)
theorem Model_isDone_32 (l0 : Value) (w : Wd) (I : MI) (L : ML) (P : MP)  : go 158 32 [l0] [] w I L P = go 158 37 [l0] [.int (nI 1)] w I L P := by
  refine (go_ic (m := 158) (pc := 32) (n := 1) (by decide +kernel) ic_1).trans ?_
  refine (go_goto (m := 158) (pc := 33) (off := 4) (t := 37) (by decide +kernel) (by decide)).trans ?_
  rfl
theorem Model_isDone_36 (l0 : Value) (w : Wd) (I : MI) (L : ML) (P : MP)  : go 158 36 [l0] [] w I L P = go 158 37 [l0] [.int (nI 0)] w I L P := by
  refine (go_ic (m := 158) (pc := 36) (n := 0) (by decide +kernel) ic_0).trans ?_
  rfl
theorem Model_isDone_37 (l0 : Value) (y0 : Int32) (w : Wd) (I : MI) (L : ML) (P : MP) (h0 : y0 &&& 1 = y0) : go 158 37 [l0] [.int y0] w I L P = some (.inl (some (.int y0)), w, I, L, P) := by
  exact go_retZ (m := 158) (pc := 37) (by decide +kernel) rfl h0
theorem Model_isDone_E (this : Nat) (w : Wd) (I : MI) (L : ML) (P : MP) : call 158 [.ref this] w I L P = go 158 0 [.ref this] [] w I L P := rfl
theorem Model_finishing_0 (l0 : Value) (l1 : Value) (w : Wd) (I : MI) (L : ML) (P : MP)  : go 159 0 [l0, l1] [] w I L P = go 159 2 [(fix1 l0), .int (nI 0)] [] w I L P := by
  refine (go_ic (m := 159) (pc := 0) (n := 0) (by decide +kernel) ic_0).trans ?_
  refine (go_istore_n (m := 159) (pc := 1) (k := 1) (ls' := [(fix1 l0), .int (nI 0)]) (by decide +kernel) (by simp only [List.length_cons, List.length_nil]; decide) rfl).trans ?_
  rfl
theorem Model_finishing_2 (a_l0 : Nat) (l1 : Value) (w : Wd) (I : MI) (L : ML) (P : MP) (h0 : w.1 a_l0 = some (7, 0)) : go 159 2 [.ref a_l0, l1] [] w I L P = kC (call 158 [.ref a_l0] w I L P) (fun v w1 I1 L1 P1 => go 159 6 [.ref a_l0, l1] (v.toList ++ []) w1 I1 L1 P1) := by
  refine (go_aload_n (m := 159) (pc := 2) (k := 0) (by decide +kernel) rfl).trans ?_
  exact go_vir (m := 159) (pc := 3) (o := 7) (x := 130) (y := 158) (kd := 0) (b := a_l0) (bs := []) (rs := []) (by decide +kernel) rfl rfl c_7_130 (Or.inl rfl) rfl rfl rfl (by decide +kernel) (by simp only [List.length_cons, List.length_nil]; decide) (Nat.le_of_ble_eq_true rfl) h0
theorem Model_finishing_6 (l0 : Value) (l1 : Value) (y0 : Int32) (w : Wd) (I : MI) (L : ML) (P : MP)  : go 159 6 [l0, l1] [.int y0] w I L P = if y0 ≠ 0 then go 159 19 [l0, l1] [] w I L P else go 159 9 [l0, l1] [] w I L P := by
  exact go_ifne (m := 159) (pc := 6) (off := 13) (t := 19) (by decide +kernel) (by decide)
theorem Model_finishing_9 (a_l0 : Nat) (l1 : Value) (w : Wd) (I : MI) (L : ML) (P : MP) (h0 : w.1 a_l0 = some (7, 0)) : go 159 9 [.ref a_l0, l1] [] w I L P = kC (call 157 [.ref a_l0] w I L P) (fun v w1 I1 L1 P1 => go 159 13 [.ref a_l0, l1] (v.toList ++ []) w1 I1 L1 P1) := by
  refine (go_aload_n (m := 159) (pc := 9) (k := 0) (by decide +kernel) rfl).trans ?_
  exact go_vir (m := 159) (pc := 10) (o := 7) (x := 134) (y := 157) (kd := 0) (b := a_l0) (bs := []) (rs := []) (by decide +kernel) rfl rfl c_7_134 (Or.inl rfl) rfl rfl rfl (by decide +kernel) (by simp only [List.length_cons, List.length_nil]; decide) (Nat.le_of_ble_eq_true rfl) h0
theorem Model_finishing_13 (l0 : Value) (x_l1 : Int32) (w : Wd) (I : MI) (L : ML) (P : MP)  : go 159 13 [l0, .int x_l1] [] w I L P = go 159 2 [(fix1 l0), .int (x_l1 + (nI 1))] [] w I L P := by
  refine (go_iinc (m := 159) (pc := 13) (k := 1) (n := 1) (x := x_l1) (v := x_l1 + (nI 1)) (ls' := [(fix1 l0), .int (x_l1 + (nI 1))]) (by decide +kernel) rfl (by rw [ic_1]) rfl).trans ?_
  refine (go_goto (m := 159) (pc := 16) (off := -14) (t := 2) (by decide +kernel) (by decide)).trans ?_
  rfl
theorem Model_finishing_19 (l0 : Value) (x_l1 : Int32) (w : Wd) (I : MI) (L : ML) (P : MP)  : go 159 19 [l0, .int x_l1] [] w I L P = some (.inl (some (.int x_l1)), w, I, L, P) := by
  refine (go_iload_n (m := 159) (pc := 19) (k := 1) (by decide +kernel) rfl).trans ?_
  exact go_retI (m := 159) (pc := 20) (by decide +kernel) rfl
theorem Model_finishing_E (this : Nat) (w : Wd) (I : MI) (L : ML) (P : MP) : call 159 [.ref this] w I L P = go 159 0 [.ref this, unk] [] w I L P := rfl
theorem Model_most_0 (x_l0 : Int32) (w : Wd) (I : MI) (L : ML) (P : MP)  : go 160 0 [.int x_l0] [] w I L P = if x_l0 ≠ (nI 1) then go 160 11 [.int x_l0] [] w I L P else go 160 5 [.int x_l0] [] w I L P := by
  refine (go_iload_n (m := 160) (pc := 0) (k := 0) (by decide +kernel) rfl).trans ?_
  refine (go_ic (m := 160) (pc := 1) (n := 1) (by decide +kernel) ic_1).trans ?_
  exact go_icmpne (m := 160) (pc := 2) (off := 9) (t := 11) (by decide +kernel) (by decide)
theorem Model_most_5 (l0 : Value) (w : Wd) (I : MI) (L : ML) (P : MP)  : go 160 5 [l0] [] w I L P = go 160 36 [l0] [.long 255] w I L P := by
  refine (go_ldc2 (m := 160) (pc := 5) (o := 7) (x := 137) (v := 255) (by decide +kernel) rfl (by decide +kernel)).trans ?_
  refine (go_goto (m := 160) (pc := 8) (off := 28) (t := 36) (by decide +kernel) (by decide)).trans ?_
  rfl
theorem Model_most_11 (x_l0 : Int32) (w : Wd) (I : MI) (L : ML) (P : MP)  : go 160 11 [.int x_l0] [] w I L P = if x_l0 ≠ (nI 2) then go 160 22 [.int x_l0] [] w I L P else go 160 16 [.int x_l0] [] w I L P := by
  refine (go_iload_n (m := 160) (pc := 11) (k := 0) (by decide +kernel) rfl).trans ?_
  refine (go_ic (m := 160) (pc := 12) (n := 2) (by decide +kernel) ic_2).trans ?_
  exact go_icmpne (m := 160) (pc := 13) (off := 9) (t := 22) (by decide +kernel) (by decide)
theorem Model_most_16 (l0 : Value) (w : Wd) (I : MI) (L : ML) (P : MP)  : go 160 16 [l0] [] w I L P = go 160 36 [l0] [.long 65535] w I L P := by
  refine (go_ldc2 (m := 160) (pc := 16) (o := 7) (x := 139) (v := 65535) (by decide +kernel) rfl (by decide +kernel)).trans ?_
  refine (go_goto (m := 160) (pc := 19) (off := 17) (t := 36) (by decide +kernel) (by decide)).trans ?_
  rfl
theorem Model_most_22 (x_l0 : Int32) (w : Wd) (I : MI) (L : ML) (P : MP)  : go 160 22 [.int x_l0] [] w I L P = if x_l0 ≠ (nI 3) then go 160 33 [.int x_l0] [] w I L P else go 160 27 [.int x_l0] [] w I L P := by
  refine (go_iload_n (m := 160) (pc := 22) (k := 0) (by decide +kernel) rfl).trans ?_
  refine (go_ic (m := 160) (pc := 23) (n := 3) (by decide +kernel) ic_3).trans ?_
  exact go_icmpne (m := 160) (pc := 24) (off := 9) (t := 33) (by decide +kernel) (by decide)
theorem Model_most_27 (l0 : Value) (w : Wd) (I : MI) (L : ML) (P : MP)  : go 160 27 [l0] [] w I L P = go 160 36 [l0] [.long 16777215] w I L P := by
  refine (go_ldc2 (m := 160) (pc := 27) (o := 7) (x := 141) (v := 16777215) (by decide +kernel) rfl (by decide +kernel)).trans ?_
  refine (go_goto (m := 160) (pc := 30) (off := 6) (t := 36) (by decide +kernel) (by decide)).trans ?_
  rfl
theorem Model_most_33 (l0 : Value) (w : Wd) (I : MI) (L : ML) (P : MP)  : go 160 33 [l0] [] w I L P = go 160 36 [l0] [.long 4294967295] w I L P := by
  refine (go_ldc2 (m := 160) (pc := 33) (o := 7) (x := 143) (v := 4294967295) (by decide +kernel) rfl (by decide +kernel)).trans ?_
  rfl
theorem Model_most_36 (l0 : Value) (y0 : Int64) (w : Wd) (I : MI) (L : ML) (P : MP)  : go 160 36 [l0] [.long y0] w I L P = some (.inl (some (.long y0)), w, I, L, P) := by
  exact go_retJ (m := 160) (pc := 36) (by decide +kernel) rfl
theorem Model_most_E (p0 : Int32) (w : Wd) (I : MI) (L : ML) (P : MP) : call 160 [.int p0] w I L P = go 160 0 [.int p0] [] w I L P := rfl
theorem Model_queues_0 (a_l0 : Nat) (x_l1 : Int32) (l2 : Value) (l3 : Value) (l4 : Value) (l5 : Value) (l6 : Value) (l7 : Value) (l8 : Value) (w : Wd) (I : MI) (L : ML) (P : MP) (h0 : w.1 a_l0 = some (7, 0)) : go 161 0 [.ref a_l0, .int x_l1, l2, l3, l4, l5, l6, l7, l8] [] w I L P = kC (call 131 [.ref a_l0, .int x_l1] w I L P) (fun v w1 I1 L1 P1 => go 161 5 [.ref a_l0, .int x_l1, l2, l3, l4, l5, l6, l7, l8] (v.toList ++ []) w1 I1 L1 P1) := by
  refine (go_aload_n (m := 161) (pc := 0) (k := 0) (by decide +kernel) rfl).trans ?_
  refine (go_iload_n (m := 161) (pc := 1) (k := 1) (by decide +kernel) rfl).trans ?_
  exact go_vir (m := 161) (pc := 2) (o := 7) (x := 145) (y := 131) (kd := 0) (b := a_l0) (bs := [.int x_l1]) (rs := []) (by decide +kernel) rfl rfl c_7_145 (Or.inl rfl) rfl rfl rfl (by decide +kernel) (by simp only [List.length_cons, List.length_nil]; decide) (Nat.le_of_ble_eq_true rfl) h0
theorem Model_queues_5 (l0 : Value) (l1 : Value) (l2 : Value) (l3 : Value) (l4 : Value) (l5 : Value) (l6 : Value) (l7 : Value) (l8 : Value) (y0 : Int32) (w : Wd) (I : MI) (L : ML) (P : MP)  : go 161 5 [l0, l1, l2, l3, l4, l5, l6, l7, l8] [.int y0] w I L P = if y0 ≠ 0 then go 161 10 [l0, l1, l2, l3, l4, l5, l6, l7, l8] [] w I L P else go 161 8 [l0, l1, l2, l3, l4, l5, l6, l7, l8] [] w I L P := by
  exact go_ifne (m := 161) (pc := 5) (off := 5) (t := 10) (by decide +kernel) (by decide)
theorem Model_queues_8 (l0 : Value) (l1 : Value) (l2 : Value) (l3 : Value) (l4 : Value) (l5 : Value) (l6 : Value) (l7 : Value) (l8 : Value) (w : Wd) (I : MI) (L : ML) (P : MP)  : go 161 8 [l0, l1, l2, l3, l4, l5, l6, l7, l8] [] w I L P = some (.inl (some (.int (nI 1))), w, I, L, P) := by
  refine (go_ic (m := 161) (pc := 8) (n := 1) (by decide +kernel) ic_1).trans ?_
  exact go_retI (m := 161) (pc := 9) (by decide +kernel) rfl
theorem Model_queues_10 (l0 : Value) (l1 : Value) (x_l2 : Int32) (l3 : Value) (l4 : Value) (l5 : Value) (l6 : Value) (l7 : Value) (l8 : Value) (w : Wd) (I : MI) (L : ML) (P : MP)  : go 161 10 [l0, l1, .int x_l2, l3, l4, l5, l6, l7, l8] [] w I L P = kC (call 124 [.long (Int32.toInt64 x_l2), .long 0, .long 127] w I L P) (fun v w1 I1 L1 P1 => go 161 19 [l0, l1, .int x_l2, l3, l4, l5, l6, l7, l8] (v.toList ++ []) w1 I1 L1 P1) := by
  refine (go_iload_n (m := 161) (pc := 10) (k := 2) (by decide +kernel) rfl).trans ?_
  refine (go_i2l (m := 161) (pc := 11) (by decide +kernel)).trans ?_
  refine (go_lc (m := 161) (pc := 12) (n := 0) (v := 0) (by decide +kernel) rfl).trans ?_
  refine (go_ldc2 (m := 161) (pc := 13) (o := 7) (x := 148) (v := 127) (by decide +kernel) rfl (by decide +kernel)).trans ?_
  exact go_sta (m := 161) (pc := 16) (o := 7) (x := 30) (y := 124) (kd := 2) (as := [.long (Int32.toInt64 x_l2), .long 0, .long 127]) (rs := []) (by decide +kernel) rfl rfl c_7_30 (Or.inl rfl) rfl rfl rfl (by decide +kernel) (by simp only [List.length_cons, List.length_nil]; decide) (Nat.le_of_ble_eq_true rfl)
theorem Model_queues_19 (l0 : Value) (l1 : Value) (l2 : Value) (l3 : Value) (l4 : Value) (l5 : Value) (l6 : Value) (l7 : Value) (l8 : Value) (y0 : Int32) (w : Wd) (I : MI) (L : ML) (P : MP)  : go 161 19 [l0, l1, l2, l3, l4, l5, l6, l7, l8] [.int y0] w I L P = if y0 = 0 then go 161 49 [l0, l1, l2, l3, l4, l5, l6, l7, l8] [] w I L P else go 161 22 [l0, l1, l2, l3, l4, l5, l6, l7, l8] [] w I L P := by
  exact go_ifeq (m := 161) (pc := 19) (off := 30) (t := 49) (by decide +kernel) (by decide)
theorem Model_queues_22 (l0 : Value) (l1 : Value) (l2 : Value) (l3 : Value) (x_l4 : Int32) (l5 : Value) (l6 : Value) (l7 : Value) (l8 : Value) (w : Wd) (I : MI) (L : ML) (P : MP)  : go 161 22 [l0, l1, l2, l3, .int x_l4, l5, l6, l7, l8] [] w I L P = kC (call 124 [.long (Int32.toInt64 x_l4), .long 1, .long 4] w I L P) (fun v w1 I1 L1 P1 => go 161 32 [l0, l1, l2, l3, .int x_l4, l5, l6, l7, l8] (v.toList ++ []) w1 I1 L1 P1) := by
  refine (go_iload (m := 161) (pc := 22) (k := 4) (by decide +kernel) rfl).trans ?_
  refine (go_i2l (m := 161) (pc := 24) (by decide +kernel)).trans ?_
  refine (go_lc (m := 161) (pc := 25) (n := 1) (v := 1) (by decide +kernel) rfl).trans ?_
  refine (go_ldc2 (m := 161) (pc := 26) (o := 7) (x := 150) (v := 4) (by decide +kernel) rfl (by decide +kernel)).trans ?_
  exact go_sta (m := 161) (pc := 29) (o := 7) (x := 30) (y := 124) (kd := 2) (as := [.long (Int32.toInt64 x_l4), .long 1, .long 4]) (rs := []) (by decide +kernel) rfl rfl c_7_30 (Or.inl rfl) rfl rfl rfl (by decide +kernel) (by simp only [List.length_cons, List.length_nil]; decide) (Nat.le_of_ble_eq_true rfl)
theorem Model_queues_32 (l0 : Value) (l1 : Value) (l2 : Value) (l3 : Value) (l4 : Value) (l5 : Value) (l6 : Value) (l7 : Value) (l8 : Value) (y0 : Int32) (w : Wd) (I : MI) (L : ML) (P : MP)  : go 161 32 [l0, l1, l2, l3, l4, l5, l6, l7, l8] [.int y0] w I L P = if y0 = 0 then go 161 49 [l0, l1, l2, l3, l4, l5, l6, l7, l8] [] w I L P else go 161 35 [l0, l1, l2, l3, l4, l5, l6, l7, l8] [] w I L P := by
  exact go_ifeq (m := 161) (pc := 32) (off := 17) (t := 49) (by decide +kernel) (by decide)
theorem Model_queues_35 (l0 : Value) (l1 : Value) (l2 : Value) (l3 : Value) (x_l4 : Int32) (x_l5 : Int64) (l6 : Value) (l7 : Value) (l8 : Value) (w : Wd) (I : MI) (L : ML) (P : MP)  : go 161 35 [l0, l1, l2, l3, .int x_l4, .long x_l5, l6, l7, l8] [] w I L P = kC (call 160 [.int x_l4] w I L P) (fun v w1 I1 L1 P1 => go 161 43 [l0, l1, l2, l3, .int x_l4, .long x_l5, l6, l7, l8] (v.toList ++ [.long 0, .long x_l5]) w1 I1 L1 P1) := by
  refine (go_lload (m := 161) (pc := 35) (k := 5) (by decide +kernel) rfl).trans ?_
  refine (go_lc (m := 161) (pc := 37) (n := 0) (v := 0) (by decide +kernel) rfl).trans ?_
  refine (go_iload (m := 161) (pc := 38) (k := 4) (by decide +kernel) rfl).trans ?_
  exact go_sta (m := 161) (pc := 40) (o := 7) (x := 152) (y := 160) (kd := 2) (as := [.int x_l4]) (rs := [.long 0, .long x_l5]) (by decide +kernel) rfl rfl c_7_152 (Or.inl rfl) rfl rfl rfl (by decide +kernel) (by simp only [List.length_cons, List.length_nil]; decide) (Nat.le_of_ble_eq_true rfl)
theorem Model_queues_43 (l0 : Value) (l1 : Value) (l2 : Value) (l3 : Value) (l4 : Value) (l5 : Value) (l6 : Value) (l7 : Value) (l8 : Value) (y0 : Int64) (y1 : Int64) (y2 : Int64) (w : Wd) (I : MI) (L : ML) (P : MP)  : go 161 43 [l0, l1, l2, l3, l4, l5, l6, l7, l8] [.long y2, .long y1, .long y0] w I L P = kC (call 124 [.long y0, .long y1, .long y2] w I L P) (fun v w1 I1 L1 P1 => go 161 46 [l0, l1, l2, l3, l4, l5, l6, l7, l8] (v.toList ++ []) w1 I1 L1 P1) := by
  exact go_sta (m := 161) (pc := 43) (o := 7) (x := 30) (y := 124) (kd := 2) (as := [.long y0, .long y1, .long y2]) (rs := []) (by decide +kernel) rfl rfl c_7_30 (Or.inl rfl) rfl rfl rfl (by decide +kernel) (by simp only [List.length_cons, List.length_nil]; decide) (Nat.le_of_ble_eq_true rfl)
theorem Model_queues_46 (l0 : Value) (l1 : Value) (l2 : Value) (l3 : Value) (l4 : Value) (l5 : Value) (l6 : Value) (l7 : Value) (l8 : Value) (y0 : Int32) (w : Wd) (I : MI) (L : ML) (P : MP)  : go 161 46 [l0, l1, l2, l3, l4, l5, l6, l7, l8] [.int y0] w I L P = if y0 ≠ 0 then go 161 51 [l0, l1, l2, l3, l4, l5, l6, l7, l8] [] w I L P else go 161 49 [l0, l1, l2, l3, l4, l5, l6, l7, l8] [] w I L P := by
  exact go_ifne (m := 161) (pc := 46) (off := 5) (t := 51) (by decide +kernel) (by decide)
theorem Model_queues_49 (l0 : Value) (l1 : Value) (l2 : Value) (l3 : Value) (l4 : Value) (l5 : Value) (l6 : Value) (l7 : Value) (l8 : Value) (w : Wd) (I : MI) (L : ML) (P : MP)  : go 161 49 [l0, l1, l2, l3, l4, l5, l6, l7, l8] [] w I L P = some (.inl (some (.int (nI 2))), w, I, L, P) := by
  refine (go_ic (m := 161) (pc := 49) (n := 2) (by decide +kernel) ic_2).trans ?_
  exact go_retI (m := 161) (pc := 50) (by decide +kernel) rfl
theorem Model_queues_51 (a_l0 : Nat) (x_l1 : Int32) (l2 : Value) (l3 : Value) (l4 : Value) (l5 : Value) (l6 : Value) (l7 : Value) (l8 : Value) (w : Wd) (I : MI) (L : ML) (P : MP) (h0 : w.1 a_l0 = some (7, 0)) : go 161 51 [.ref a_l0, .int x_l1, l2, l3, l4, l5, l6, l7, l8] [] w I L P = kC (call 126 [.ref a_l0, .int x_l1, .int (nI 0)] w I L P) (fun v w1 I1 L1 P1 => go 161 57 [.ref a_l0, .int x_l1, l2, l3, l4, l5, l6, l7, l8] (v.toList ++ []) w1 I1 L1 P1) := by
  refine (go_aload_n (m := 161) (pc := 51) (k := 0) (by decide +kernel) rfl).trans ?_
  refine (go_iload_n (m := 161) (pc := 52) (k := 1) (by decide +kernel) rfl).trans ?_
  refine (go_ic (m := 161) (pc := 53) (n := 0) (by decide +kernel) ic_0).trans ?_
  exact go_vir (m := 161) (pc := 54) (o := 7) (x := 102) (y := 126) (kd := 0) (b := a_l0) (bs := [.int x_l1, .int (nI 0)]) (rs := []) (by decide +kernel) rfl rfl c_7_102 (Or.inl rfl) rfl rfl rfl (by decide +kernel) (by simp only [List.length_cons, List.length_nil]; decide) (Nat.le_of_ble_eq_true rfl) h0
theorem Model_queues_57 (l0 : Value) (l1 : Value) (l2 : Value) (l3 : Value) (l4 : Value) (l5 : Value) (l6 : Value) (l7 : Value) (l8 : Value) (y0 : Int32) (w : Wd) (I : MI) (L : ML) (P : MP)  : go 161 57 [l0, l1, l2, l3, l4, l5, l6, l7, l8] [.int y0] w I L P = if y0 ≠ (nI 4) then go 161 63 [l0, l1, l2, l3, l4, l5, l6, l7, l8] [] w I L P else go 161 61 [l0, l1, l2, l3, l4, l5, l6, l7, l8] [] w I L P := by
  refine (go_ic (m := 161) (pc := 57) (n := 4) (by decide +kernel) ic_4).trans ?_
  exact go_icmpne (m := 161) (pc := 58) (off := 5) (t := 63) (by decide +kernel) (by decide)
theorem Model_queues_61 (l0 : Value) (l1 : Value) (l2 : Value) (l3 : Value) (l4 : Value) (l5 : Value) (l6 : Value) (l7 : Value) (l8 : Value) (w : Wd) (I : MI) (L : ML) (P : MP)  : go 161 61 [l0, l1, l2, l3, l4, l5, l6, l7, l8] [] w I L P = some (.inl (some (.int (nI 3))), w, I, L, P) := by
  refine (go_ic (m := 161) (pc := 61) (n := 3) (by decide +kernel) ic_3).trans ?_
  exact go_retI (m := 161) (pc := 62) (by decide +kernel) rfl
theorem Model_queues_63 (a_l0 : Nat) (x_l1 : Int32) (l2 : Value) (l3 : Value) (l4 : Value) (l5 : Value) (l6 : Value) (l7 : Value) (l8 : Value) (w : Wd) (I : MI) (L : ML) (P : MP) (h0 : w.1 a_l0 = some (7, 0)) : go 161 63 [.ref a_l0, .int x_l1, l2, l3, l4, l5, l6, l7, l8] [] w I L P = kC (call 126 [.ref a_l0, .int x_l1, .int (nI 0)] w I L P) (fun v w1 I1 L1 P1 => go 161 82 [.ref a_l0, .int x_l1, l2, l3, l4, l5, l6, l7, l8] (v.toList ++ [.int (nI 8), .int (((nI 207) + ((nI 40) * x_l1)) + (nI 8))]) w1 I1 L1 P1) := by
  refine (go_si (m := 161) (pc := 63) (n := 207) (by decide +kernel) si_207).trans ?_
  refine (go_bi (m := 161) (pc := 66) (n := 40) (by decide +kernel) bi_40).trans ?_
  refine (go_iload_n (m := 161) (pc := 68) (k := 1) (by decide +kernel) rfl).trans ?_
  refine (go_imul (m := 161) (pc := 69) (by decide +kernel)).trans ?_
  refine (go_iadd (m := 161) (pc := 70) (by decide +kernel)).trans ?_
  refine (go_bi (m := 161) (pc := 71) (n := 8) (by decide +kernel) bi_8).trans ?_
  refine (go_iadd (m := 161) (pc := 73) (by decide +kernel)).trans ?_
  refine (go_bi (m := 161) (pc := 74) (n := 8) (by decide +kernel) bi_8).trans ?_
  refine (go_aload_n (m := 161) (pc := 76) (k := 0) (by decide +kernel) rfl).trans ?_
  refine (go_iload_n (m := 161) (pc := 77) (k := 1) (by decide +kernel) rfl).trans ?_
  refine (go_ic (m := 161) (pc := 78) (n := 0) (by decide +kernel) ic_0).trans ?_
  exact go_vir (m := 161) (pc := 79) (o := 7) (x := 102) (y := 126) (kd := 0) (b := a_l0) (bs := [.int x_l1, .int (nI 0)]) (rs := [.int (nI 8), .int (((nI 207) + ((nI 40) * x_l1)) + (nI 8))]) (by decide +kernel) rfl rfl c_7_102 (Or.inl rfl) rfl rfl rfl (by decide +kernel) (by simp only [List.length_cons, List.length_nil]; decide) (Nat.le_of_ble_eq_true rfl) h0
theorem Model_queues_82 (a_l0 : Nat) (l1 : Value) (l2 : Value) (l3 : Value) (l4 : Value) (l5 : Value) (l6 : Value) (l7 : Value) (l8 : Value) (y0 : Int32) (y1 : Int32) (y2 : Int32) (w : Wd) (I : MI) (L : ML) (P : MP) (h0 : w.1 a_l0 = some (7, 0)) : go 161 82 [.ref a_l0, l1, l2, l3, l4, l5, l6, l7, l8] [.int y2, .int y1, .int y0] w I L P = go 161 90 [.ref a_l0, l1, l2, l3, l4, l5, (fix1 l6), .int (y0 + (y1 * y2)), l8] [(va_rf (P a_l0 0))] w I L P := by
  refine (go_imul (m := 161) (pc := 82) (by decide +kernel)).trans ?_
  refine (go_iadd (m := 161) (pc := 83) (by decide +kernel)).trans ?_
  refine (go_istore (m := 161) (pc := 84) (k := 7) (ls' := [.ref a_l0, l1, l2, l3, l4, l5, (fix1 l6), .int (y0 + (y1 * y2)), l8]) (by decide +kernel) (by simp only [List.length_cons, List.length_nil]; decide) rfl).trans ?_
  refine (go_aload_n (m := 161) (pc := 86) (k := 0) (by decide +kernel) rfl).trans ?_
  refine (go_getR (m := 161) (pc := 87) (o := 7) (x := 7) (ci := 7) (k := 0) (by decide +kernel) rfl f_7_7 rfl h0).trans ?_
  rfl
theorem Model_queues_90 (a_l0 : Nat) (l1 : Value) (x_l2 : Int32) (l3 : Value) (l4 : Value) (l5 : Value) (l6 : Value) (x_l7 : Int32) (l8 : Value) (a_s0 : Nat) (w : Wd) (I : MI) (L : ML) (P : MP) (h0 : inA w a_s0 8 x_l7) (h1 : w.1 a_l0 = some (7, 0)) : go 161 90 [.ref a_l0, l1, .int x_l2, l3, l4, l5, l6, .int x_l7, l8] [.ref a_s0] w I L P = go 161 98 [.ref a_l0, l1, .int x_l2, l3, l4, l5, l6, .int x_l7, l8] [(va_rf (P a_l0 0))] w (updI I a_s0 (Int32.toNatClampNeg x_l7) x_l2) L P := by
  refine (go_iload (m := 161) (pc := 90) (k := 7) (by decide +kernel) rfl).trans ?_
  refine (go_iload_n (m := 161) (pc := 92) (k := 2) (by decide +kernel) rfl).trans ?_
  refine (go_iast (m := 161) (pc := 93) (by decide +kernel) h0).trans ?_
  refine (go_aload_n (m := 161) (pc := 94) (k := 0) (by decide +kernel) rfl).trans ?_
  refine (go_getR (m := 161) (pc := 95) (o := 7) (x := 7) (ci := 7) (k := 0) (by decide +kernel) rfl f_7_7 rfl h1).trans ?_
  rfl
theorem Model_queues_98 (a_l0 : Nat) (l1 : Value) (l2 : Value) (x_l3 : Int32) (l4 : Value) (l5 : Value) (l6 : Value) (x_l7 : Int32) (l8 : Value) (a_s0 : Nat) (w : Wd) (I : MI) (L : ML) (P : MP) (h0 : inA w a_s0 8 (x_l7 + (nI 1))) (h1 : w.1 a_l0 = some (7, 0)) : go 161 98 [.ref a_l0, l1, l2, .int x_l3, l4, l5, l6, .int x_l7, l8] [.ref a_s0] w I L P = go 161 108 [.ref a_l0, l1, l2, .int x_l3, l4, l5, l6, .int x_l7, l8] [(va_rf (P a_l0 0))] w (updI I a_s0 (Int32.toNatClampNeg (x_l7 + (nI 1))) x_l3) L P := by
  refine (go_iload (m := 161) (pc := 98) (k := 7) (by decide +kernel) rfl).trans ?_
  refine (go_ic (m := 161) (pc := 100) (n := 1) (by decide +kernel) ic_1).trans ?_
  refine (go_iadd (m := 161) (pc := 101) (by decide +kernel)).trans ?_
  refine (go_iload_n (m := 161) (pc := 102) (k := 3) (by decide +kernel) rfl).trans ?_
  refine (go_iast (m := 161) (pc := 103) (by decide +kernel) h0).trans ?_
  refine (go_aload_n (m := 161) (pc := 104) (k := 0) (by decide +kernel) rfl).trans ?_
  refine (go_getR (m := 161) (pc := 105) (o := 7) (x := 7) (ci := 7) (k := 0) (by decide +kernel) rfl f_7_7 rfl h1).trans ?_
  rfl
theorem Model_queues_108 (a_l0 : Nat) (l1 : Value) (l2 : Value) (l3 : Value) (x_l4 : Int32) (l5 : Value) (l6 : Value) (x_l7 : Int32) (l8 : Value) (a_s0 : Nat) (w : Wd) (I : MI) (L : ML) (P : MP) (h0 : inA w a_s0 8 (x_l7 + (nI 2))) (h1 : w.1 a_l0 = some (7, 0)) : go 161 108 [.ref a_l0, l1, l2, l3, .int x_l4, l5, l6, .int x_l7, l8] [.ref a_s0] w I L P = go 161 119 [.ref a_l0, l1, l2, l3, .int x_l4, l5, l6, .int x_l7, l8] [(va_rf (P a_l0 0))] w (updI I a_s0 (Int32.toNatClampNeg (x_l7 + (nI 2))) x_l4) L P := by
  refine (go_iload (m := 161) (pc := 108) (k := 7) (by decide +kernel) rfl).trans ?_
  refine (go_ic (m := 161) (pc := 110) (n := 2) (by decide +kernel) ic_2).trans ?_
  refine (go_iadd (m := 161) (pc := 111) (by decide +kernel)).trans ?_
  refine (go_iload (m := 161) (pc := 112) (k := 4) (by decide +kernel) rfl).trans ?_
  refine (go_iast (m := 161) (pc := 114) (by decide +kernel) h0).trans ?_
  refine (go_aload_n (m := 161) (pc := 115) (k := 0) (by decide +kernel) rfl).trans ?_
  refine (go_getR (m := 161) (pc := 116) (o := 7) (x := 7) (ci := 7) (k := 0) (by decide +kernel) rfl f_7_7 rfl h1).trans ?_
  rfl
theorem Model_queues_119 (l0 : Value) (l1 : Value) (l2 : Value) (l3 : Value) (l4 : Value) (l5 : Value) (l6 : Value) (x_l7 : Int32) (l8 : Value) (a_s0 : Nat) (w : Wd) (I : MI) (L : ML) (P : MP) (h0 : inA w a_s0 8 (x_l7 + (nI 3))) : go 161 119 [l0, l1, l2, l3, l4, l5, l6, .int x_l7, l8] [.ref a_s0] w I L P = go 161 128 [l0, l1, l2, l3, l4, l5, l6, .int x_l7, .int (nI 0)] [] w (updI I a_s0 (Int32.toNatClampNeg (x_l7 + (nI 3))) (nI 0)) L P := by
  refine (go_iload (m := 161) (pc := 119) (k := 7) (by decide +kernel) rfl).trans ?_
  refine (go_ic (m := 161) (pc := 121) (n := 3) (by decide +kernel) ic_3).trans ?_
  refine (go_iadd (m := 161) (pc := 122) (by decide +kernel)).trans ?_
  refine (go_ic (m := 161) (pc := 123) (n := 0) (by decide +kernel) ic_0).trans ?_
  refine (go_iast (m := 161) (pc := 124) (by decide +kernel) h0).trans ?_
  refine (go_ic (m := 161) (pc := 125) (n := 0) (by decide +kernel) ic_0).trans ?_
  refine (go_istore (m := 161) (pc := 126) (k := 8) (ls' := [l0, l1, l2, l3, l4, l5, l6, .int x_l7, .int (nI 0)]) (by decide +kernel) (by simp only [List.length_cons, List.length_nil]; decide) rfl).trans ?_
  rfl
theorem Model_queues_128 (l0 : Value) (l1 : Value) (l2 : Value) (l3 : Value) (l4 : Value) (l5 : Value) (l6 : Value) (l7 : Value) (x_l8 : Int32) (w : Wd) (I : MI) (L : ML) (P : MP)  : go 161 128 [l0, l1, l2, l3, l4, l5, l6, l7, .int x_l8] [] w I L P = if (nI 4) ≤ x_l8 then go 161 186 [l0, l1, l2, l3, l4, l5, l6, l7, .int x_l8] [] w I L P else go 161 134 [l0, l1, l2, l3, l4, l5, l6, l7, .int x_l8] [] w I L P := by
  refine (go_iload (m := 161) (pc := 128) (k := 8) (by decide +kernel) rfl).trans ?_
  refine (go_ic (m := 161) (pc := 130) (n := 4) (by decide +kernel) ic_4).trans ?_
  exact go_icmpge (m := 161) (pc := 131) (off := 55) (t := 186) (by decide +kernel) (by decide)
theorem Model_queues_134 (a_l0 : Nat) (l1 : Value) (l2 : Value) (l3 : Value) (l4 : Value) (l5 : Value) (l6 : Value) (l7 : Value) (l8 : Value) (w : Wd) (I : MI) (L : ML) (P : MP) (h0 : w.1 a_l0 = some (7, 0)) : go 161 134 [.ref a_l0, l1, l2, l3, l4, l5, l6, l7, l8] [] w I L P = go 161 138 [.ref a_l0, l1, l2, l3, l4, l5, l6, l7, l8] [(va_rf (P a_l0 0))] w I L P := by
  refine (go_aload_n (m := 161) (pc := 134) (k := 0) (by decide +kernel) rfl).trans ?_
  refine (go_getR (m := 161) (pc := 135) (o := 7) (x := 7) (ci := 7) (k := 0) (by decide +kernel) rfl f_7_7 rfl h0).trans ?_
  rfl
theorem Model_queues_138 (l0 : Value) (l1 : Value) (l2 : Value) (x_l3 : Int32) (l4 : Value) (l5 : Value) (l6 : Value) (x_l7 : Int32) (x_l8 : Int32) (v0 : Value) (w : Wd) (I : MI) (L : ML) (P : MP)  : go 161 138 [l0, l1, l2, .int x_l3, l4, l5, l6, .int x_l7, .int x_l8] [v0] w I L P = if x_l3 = (nI 1) then go 161 157 [l0, l1, l2, .int x_l3, l4, l5, l6, .int x_l7, .int x_l8] [.int ((x_l7 + (nI 4)) + x_l8), v0] w I L P else go 161 150 [l0, l1, l2, .int x_l3, l4, l5, l6, .int x_l7, .int x_l8] [.int ((x_l7 + (nI 4)) + x_l8), v0] w I L P := by
  refine (go_iload (m := 161) (pc := 138) (k := 7) (by decide +kernel) rfl).trans ?_
  refine (go_ic (m := 161) (pc := 140) (n := 4) (by decide +kernel) ic_4).trans ?_
  refine (go_iadd (m := 161) (pc := 141) (by decide +kernel)).trans ?_
  refine (go_iload (m := 161) (pc := 142) (k := 8) (by decide +kernel) rfl).trans ?_
  refine (go_iadd (m := 161) (pc := 144) (by decide +kernel)).trans ?_
  refine (go_iload_n (m := 161) (pc := 145) (k := 3) (by decide +kernel) rfl).trans ?_
  refine (go_ic (m := 161) (pc := 146) (n := 1) (by decide +kernel) ic_1).trans ?_
  exact go_icmpeq (m := 161) (pc := 147) (off := 10) (t := 157) (by decide +kernel) (by decide)
theorem Model_queues_150 (l0 : Value) (l1 : Value) (l2 : Value) (l3 : Value) (x_l4 : Int32) (l5 : Value) (l6 : Value) (l7 : Value) (x_l8 : Int32) (v0 : Value) (y1 : Int32) (w : Wd) (I : MI) (L : ML) (P : MP)  : go 161 150 [l0, l1, l2, l3, .int x_l4, l5, l6, l7, .int x_l8] [.int y1, v0] w I L P = if x_l8 < x_l4 then go 161 161 [l0, l1, l2, l3, .int x_l4, l5, l6, l7, .int x_l8] [.int y1, v0] w I L P else go 161 157 [l0, l1, l2, l3, .int x_l4, l5, l6, l7, .int x_l8] [.int y1, v0] w I L P := by
  refine (go_iload (m := 161) (pc := 150) (k := 8) (by decide +kernel) rfl).trans ?_
  refine (go_iload (m := 161) (pc := 152) (k := 4) (by decide +kernel) rfl).trans ?_
  exact go_icmplt (m := 161) (pc := 154) (off := 7) (t := 161) (by decide +kernel) (by decide)
theorem Model_queues_157 (l0 : Value) (l1 : Value) (l2 : Value) (l3 : Value) (l4 : Value) (l5 : Value) (l6 : Value) (l7 : Value) (l8 : Value) (v0 : Value) (y1 : Int32) (w : Wd) (I : MI) (L : ML) (P : MP)  : go 161 157 [l0, l1, l2, l3, l4, l5, l6, l7, l8] [.int y1, v0] w I L P = go 161 179 [l0, l1, l2, l3, l4, l5, l6, l7, l8] [.int (-1), .int y1, v0] w I L P := by
  refine (go_ic (m := 161) (pc := 157) (n := -1) (by decide +kernel) ic_m1).trans ?_
  refine (go_goto (m := 161) (pc := 158) (off := 21) (t := 179) (by decide +kernel) (by decide)).trans ?_
  rfl
theorem Model_queues_161 (l0 : Value) (l1 : Value) (l2 : Value) (l3 : Value) (x_l4 : Int32) (x_l5 : Int64) (l6 : Value) (l7 : Value) (x_l8 : Int32) (v0 : Value) (y1 : Int32) (w : Wd) (I : MI) (L : ML) (P : MP)  : go 161 161 [l0, l1, l2, l3, .int x_l4, .long x_l5, l6, l7, .int x_l8] [.int y1, v0] w I L P = go 161 179 [l0, l1, l2, l3, .int x_l4, .long x_l5, l6, l7, .int x_l8] [.int (Int64.toInt32 ((x_l5 >>> (Int32.toInt64 ((nI 8) * ((x_l4 - (nI 1)) - x_l8)) &&& 63)) &&& 255)), .int y1, v0] w I L P := by
  refine (go_lload (m := 161) (pc := 161) (k := 5) (by decide +kernel) rfl).trans ?_
  refine (go_bi (m := 161) (pc := 163) (n := 8) (by decide +kernel) bi_8).trans ?_
  refine (go_iload (m := 161) (pc := 165) (k := 4) (by decide +kernel) rfl).trans ?_
  refine (go_ic (m := 161) (pc := 167) (n := 1) (by decide +kernel) ic_1).trans ?_
  refine (go_isub (m := 161) (pc := 168) (by decide +kernel)).trans ?_
  refine (go_iload (m := 161) (pc := 169) (k := 8) (by decide +kernel) rfl).trans ?_
  refine (go_isub (m := 161) (pc := 171) (by decide +kernel)).trans ?_
  refine (go_imul (m := 161) (pc := 172) (by decide +kernel)).trans ?_
  refine (go_lshr (m := 161) (pc := 173) (by decide +kernel)).trans ?_
  refine (go_ldc2 (m := 161) (pc := 174) (o := 7) (x := 137) (v := 255) (by decide +kernel) rfl (by decide +kernel)).trans ?_
  refine (go_land (m := 161) (pc := 177) (by decide +kernel)).trans ?_
  refine (go_l2i (m := 161) (pc := 178) (by decide +kernel)).trans ?_
  rfl
theorem Model_queues_179 (l0 : Value) (l1 : Value) (l2 : Value) (l3 : Value) (l4 : Value) (l5 : Value) (l6 : Value) (l7 : Value) (x_l8 : Int32) (a_s0 : Nat) (y1 : Int32) (y2 : Int32) (w : Wd) (I : MI) (L : ML) (P : MP) (h0 : inA w a_s0 8 y1) : go 161 179 [l0, l1, l2, l3, l4, l5, l6, l7, .int x_l8] [.int y2, .int y1, .ref a_s0] w I L P = go 161 128 [l0, l1, l2, l3, l4, l5, l6, (fix1 l7), .int (x_l8 + (nI 1))] [] w (updI I a_s0 (Int32.toNatClampNeg y1) y2) L P := by
  refine (go_iast (m := 161) (pc := 179) (by decide +kernel) h0).trans ?_
  refine (go_iinc (m := 161) (pc := 180) (k := 8) (n := 1) (x := x_l8) (v := x_l8 + (nI 1)) (ls' := [l0, l1, l2, l3, l4, l5, l6, (fix1 l7), .int (x_l8 + (nI 1))]) (by decide +kernel) rfl (by rw [ic_1]) rfl).trans ?_
  refine (go_goto (m := 161) (pc := 183) (off := -55) (t := 128) (by decide +kernel) (by decide)).trans ?_
  rfl
theorem Model_queues_186 (a_l0 : Nat) (x_l1 : Int32) (l2 : Value) (l3 : Value) (l4 : Value) (l5 : Value) (l6 : Value) (l7 : Value) (l8 : Value) (w : Wd) (I : MI) (L : ML) (P : MP) (h0 : w.1 a_l0 = some (7, 0)) : go 161 186 [.ref a_l0, .int x_l1, l2, l3, l4, l5, l6, l7, l8] [] w I L P = kC (call 127 [.ref a_l0, .int x_l1, .int (nI 0), .int (nI 1)] w I L P) (fun v w1 I1 L1 P1 => go 161 193 [.ref a_l0, .int x_l1, l2, l3, l4, l5, l6, l7, l8] (v.toList ++ []) w1 I1 L1 P1) := by
  refine (go_aload_n (m := 161) (pc := 186) (k := 0) (by decide +kernel) rfl).trans ?_
  refine (go_iload_n (m := 161) (pc := 187) (k := 1) (by decide +kernel) rfl).trans ?_
  refine (go_ic (m := 161) (pc := 188) (n := 0) (by decide +kernel) ic_0).trans ?_
  refine (go_ic (m := 161) (pc := 189) (n := 1) (by decide +kernel) ic_1).trans ?_
  exact go_vir (m := 161) (pc := 190) (o := 7) (x := 54) (y := 127) (kd := 0) (b := a_l0) (bs := [.int x_l1, .int (nI 0), .int (nI 1)]) (rs := []) (by decide +kernel) rfl rfl c_7_54 (Or.inl rfl) rfl rfl rfl (by decide +kernel) (by simp only [List.length_cons, List.length_nil]; decide) (Nat.le_of_ble_eq_true rfl) h0
theorem Model_queues_193 (a_l0 : Nat) (x_l1 : Int32) (l2 : Value) (l3 : Value) (l4 : Value) (l5 : Value) (l6 : Value) (l7 : Value) (l8 : Value) (w : Wd) (I : MI) (L : ML) (P : MP) (h0 : w.1 a_l0 = some (7, 0)) : go 161 193 [.ref a_l0, .int x_l1, l2, l3, l4, l5, l6, l7, l8] [] w I L P = kC (call 126 [.ref a_l0, .int x_l1, .int (nI 0)] w I L P) (fun v w1 I1 L1 P1 => go 161 200 [.ref a_l0, .int x_l1, l2, l3, l4, l5, l6, l7, l8] (v.toList ++ [.ref a_l0]) w1 I1 L1 P1) := by
  refine (go_aload_n (m := 161) (pc := 193) (k := 0) (by decide +kernel) rfl).trans ?_
  refine (go_aload_n (m := 161) (pc := 194) (k := 0) (by decide +kernel) rfl).trans ?_
  refine (go_iload_n (m := 161) (pc := 195) (k := 1) (by decide +kernel) rfl).trans ?_
  refine (go_ic (m := 161) (pc := 196) (n := 0) (by decide +kernel) ic_0).trans ?_
  exact go_vir (m := 161) (pc := 197) (o := 7) (x := 102) (y := 126) (kd := 0) (b := a_l0) (bs := [.int x_l1, .int (nI 0)]) (rs := [.ref a_l0]) (by decide +kernel) rfl rfl c_7_102 (Or.inl rfl) rfl rfl rfl (by decide +kernel) (by simp only [List.length_cons, List.length_nil]; decide) (Nat.le_of_ble_eq_true rfl) h0
theorem Model_queues_200 (l0 : Value) (l1 : Value) (l2 : Value) (l3 : Value) (l4 : Value) (l5 : Value) (l6 : Value) (l7 : Value) (l8 : Value) (a_s0 : Nat) (y1 : Int32) (w : Wd) (I : MI) (L : ML) (P : MP) (h0 : w.1 a_s0 = some (7, 0)) : go 161 200 [l0, l1, l2, l3, l4, l5, l6, l7, l8] [.int y1, .ref a_s0] w I L P = some (.inl (some (.int (nI 0))), w, (updI I a_s0 7 y1), L, P) := by
  refine (go_putI (m := 161) (pc := 200) (o := 7) (x := 44) (ci := 7) (k := 7) (by decide +kernel) rfl f_7_44 rfl (by decide +kernel) h0).trans ?_
  refine (go_ic (m := 161) (pc := 203) (n := 0) (by decide +kernel) ic_0).trans ?_
  exact go_retI (m := 161) (pc := 204) (by decide +kernel) rfl
theorem Model_queues_E (this : Nat) (p0 : Int32) (p1 : Int32) (p2 : Int32) (p3 : Int32) (p4 : Int64) (w : Wd) (I : MI) (L : ML) (P : MP) : call 161 [.ref this, .int p0, .int p1, .int p2, .int p3, .long p4] w I L P = go 161 0 [.ref this, .int p0, .int p1, .int p2, .int p3, .long p4, unk, unk, unk] [] w I L P := rfl
theorem Model_passes_0 (l0 : Value) (x_l1 : Int32) (l2 : Value) (w : Wd) (I : MI) (L : ML) (P : MP)  : go 162 0 [l0, .int x_l1, l2] [] w I L P = kC (call 124 [.long (Int32.toInt64 x_l1), .long 1, .long 200] w I L P) (fun v w1 I1 L1 P1 => go 162 9 [l0, .int x_l1, l2] (v.toList ++ []) w1 I1 L1 P1) := by
  refine (go_iload_n (m := 162) (pc := 0) (k := 1) (by decide +kernel) rfl).trans ?_
  refine (go_i2l (m := 162) (pc := 1) (by decide +kernel)).trans ?_
  refine (go_lc (m := 162) (pc := 2) (n := 1) (v := 1) (by decide +kernel) rfl).trans ?_
  refine (go_ldc2 (m := 162) (pc := 3) (o := 7) (x := 156) (v := 200) (by decide +kernel) rfl (by decide +kernel)).trans ?_
  exact go_sta (m := 162) (pc := 6) (o := 7) (x := 30) (y := 124) (kd := 2) (as := [.long (Int32.toInt64 x_l1), .long 1, .long 200]) (rs := []) (by decide +kernel) rfl rfl c_7_30 (Or.inl rfl) rfl rfl rfl (by decide +kernel) (by simp only [List.length_cons, List.length_nil]; decide) (Nat.le_of_ble_eq_true rfl)
theorem Model_passes_9 (l0 : Value) (l1 : Value) (l2 : Value) (y0 : Int32) (w : Wd) (I : MI) (L : ML) (P : MP)  : go 162 9 [l0, l1, l2] [.int y0] w I L P = if y0 ≠ 0 then go 162 14 [l0, l1, l2] [] w I L P else go 162 12 [l0, l1, l2] [] w I L P := by
  exact go_ifne (m := 162) (pc := 9) (off := 5) (t := 14) (by decide +kernel) (by decide)
theorem Model_passes_12 (l0 : Value) (l1 : Value) (l2 : Value) (w : Wd) (I : MI) (L : ML) (P : MP)  : go 162 12 [l0, l1, l2] [] w I L P = some (.inl (some (.int (nI 1))), w, I, L, P) := by
  refine (go_ic (m := 162) (pc := 12) (n := 1) (by decide +kernel) ic_1).trans ?_
  exact go_retI (m := 162) (pc := 13) (by decide +kernel) rfl
theorem Model_passes_14 (l0 : Value) (l1 : Value) (l2 : Value) (w : Wd) (I : MI) (L : ML) (P : MP)  : go 162 14 [l0, l1, l2] [] w I L P = go 162 16 [l0, (fix1 l1), .int (nI 0)] [] w I L P := by
  refine (go_ic (m := 162) (pc := 14) (n := 0) (by decide +kernel) ic_0).trans ?_
  refine (go_istore_n (m := 162) (pc := 15) (k := 2) (ls' := [l0, (fix1 l1), .int (nI 0)]) (by decide +kernel) (by simp only [List.length_cons, List.length_nil]; decide) rfl).trans ?_
  rfl
theorem Model_passes_16 (l0 : Value) (x_l1 : Int32) (x_l2 : Int32) (w : Wd) (I : MI) (L : ML) (P : MP)  : go 162 16 [l0, .int x_l1, .int x_l2] [] w I L P = if x_l1 ≤ x_l2 then go 162 31 [l0, .int x_l1, .int x_l2] [] w I L P else go 162 21 [l0, .int x_l1, .int x_l2] [] w I L P := by
  refine (go_iload_n (m := 162) (pc := 16) (k := 2) (by decide +kernel) rfl).trans ?_
  refine (go_iload_n (m := 162) (pc := 17) (k := 1) (by decide +kernel) rfl).trans ?_
  exact go_icmpge (m := 162) (pc := 18) (off := 13) (t := 31) (by decide +kernel) (by decide)
theorem Model_passes_21 (a_l0 : Nat) (l1 : Value) (l2 : Value) (w : Wd) (I : MI) (L : ML) (P : MP) (h0 : w.1 a_l0 = some (7, 0)) : go 162 21 [.ref a_l0, l1, l2] [] w I L P = kC (call 157 [.ref a_l0] w I L P) (fun v w1 I1 L1 P1 => go 162 25 [.ref a_l0, l1, l2] (v.toList ++ []) w1 I1 L1 P1) := by
  refine (go_aload_n (m := 162) (pc := 21) (k := 0) (by decide +kernel) rfl).trans ?_
  exact go_vir (m := 162) (pc := 22) (o := 7) (x := 134) (y := 157) (kd := 0) (b := a_l0) (bs := []) (rs := []) (by decide +kernel) rfl rfl c_7_134 (Or.inl rfl) rfl rfl rfl (by decide +kernel) (by simp only [List.length_cons, List.length_nil]; decide) (Nat.le_of_ble_eq_true rfl) h0
theorem Model_passes_25 (l0 : Value) (l1 : Value) (x_l2 : Int32) (w : Wd) (I : MI) (L : ML) (P : MP)  : go 162 25 [l0, l1, .int x_l2] [] w I L P = go 162 16 [l0, (fix1 l1), .int (x_l2 + (nI 1))] [] w I L P := by
  refine (go_iinc (m := 162) (pc := 25) (k := 2) (n := 1) (x := x_l2) (v := x_l2 + (nI 1)) (ls' := [l0, (fix1 l1), .int (x_l2 + (nI 1))]) (by decide +kernel) rfl (by rw [ic_1]) rfl).trans ?_
  refine (go_goto (m := 162) (pc := 28) (off := -12) (t := 16) (by decide +kernel) (by decide)).trans ?_
  rfl
theorem Model_passes_31 (a_l0 : Nat) (l1 : Value) (l2 : Value) (w : Wd) (I : MI) (L : ML) (P : MP) (h0 : w.1 a_l0 = some (7, 0)) : go 162 31 [.ref a_l0, l1, l2] [] w I L P = go 162 36 [.ref a_l0, l1, l2] [(va_rf (P a_l0 0)), .ref a_l0] w I L P := by
  refine (go_aload_n (m := 162) (pc := 31) (k := 0) (by decide +kernel) rfl).trans ?_
  refine (go_aload_n (m := 162) (pc := 32) (k := 0) (by decide +kernel) rfl).trans ?_
  refine (go_getR (m := 162) (pc := 33) (o := 7) (x := 7) (ci := 7) (k := 0) (by decide +kernel) rfl f_7_7 rfl h0).trans ?_
  rfl
theorem Model_passes_36 (l0 : Value) (l1 : Value) (l2 : Value) (a_s0 : Nat) (a_s1 : Nat) (w : Wd) (I : MI) (L : ML) (P : MP) (h0 : inA w a_s1 8 (nI 0)) (h1 : w.1 a_s0 = some (7, 0)) : go 162 36 [l0, l1, l2] [.ref a_s1, .ref a_s0] w I L P = some (.inl (some (.int (nI 0))), w, (updI I a_s0 7 (I a_s1 (Int32.toNatClampNeg (nI 0)))), L, P) := by
  refine (go_ic (m := 162) (pc := 36) (n := 0) (by decide +kernel) ic_0).trans ?_
  refine (go_iald (m := 162) (pc := 37) (by decide +kernel) h0).trans ?_
  refine (go_putI (m := 162) (pc := 38) (o := 7) (x := 44) (ci := 7) (k := 7) (by decide +kernel) rfl f_7_44 rfl (by decide +kernel) h1).trans ?_
  refine (go_ic (m := 162) (pc := 41) (n := 0) (by decide +kernel) ic_0).trans ?_
  exact go_retI (m := 162) (pc := 42) (by decide +kernel) rfl
theorem Model_passes_E (this : Nat) (p0 : Int32) (w : Wd) (I : MI) (L : ML) (P : MP) : call 162 [.ref this, .int p0] w I L P = go 162 0 [.ref this, .int p0, unk] [] w I L P := rfl
theorem Model_begin_0 (l0 : Value) (x_l1 : Int32) (l2 : Value) (w : Wd) (I : MI) (L : ML) (P : MP)  : go 163 0 [l0, .int x_l1, l2] [] w I L P = kC (call 124 [.long (Int32.toInt64 x_l1), .long 1, .long 3] w I L P) (fun v w1 I1 L1 P1 => go 163 9 [l0, .int x_l1, l2] (v.toList ++ []) w1 I1 L1 P1) := by
  refine (go_iload_n (m := 163) (pc := 0) (k := 1) (by decide +kernel) rfl).trans ?_
  refine (go_i2l (m := 163) (pc := 1) (by decide +kernel)).trans ?_
  refine (go_lc (m := 163) (pc := 2) (n := 1) (v := 1) (by decide +kernel) rfl).trans ?_
  refine (go_ldc2 (m := 163) (pc := 3) (o := 7) (x := 158) (v := 3) (by decide +kernel) rfl (by decide +kernel)).trans ?_
  exact go_sta (m := 163) (pc := 6) (o := 7) (x := 30) (y := 124) (kd := 2) (as := [.long (Int32.toInt64 x_l1), .long 1, .long 3]) (rs := []) (by decide +kernel) rfl rfl c_7_30 (Or.inl rfl) rfl rfl rfl (by decide +kernel) (by simp only [List.length_cons, List.length_nil]; decide) (Nat.le_of_ble_eq_true rfl)
theorem Model_begin_9 (l0 : Value) (l1 : Value) (l2 : Value) (y0 : Int32) (w : Wd) (I : MI) (L : ML) (P : MP)  : go 163 9 [l0, l1, l2] [.int y0] w I L P = if y0 ≠ 0 then go 163 18 [l0, l1, l2] [] w I L P else go 163 12 [l0, l1, l2] [] w I L P := by
  exact go_ifne (m := 163) (pc := 9) (off := 9) (t := 18) (by decide +kernel) (by decide)
theorem Model_begin_12 (a_l0 : Nat) (l1 : Value) (l2 : Value) (w : Wd) (I : MI) (L : ML) (P : MP) (h0 : w.1 a_l0 = some (7, 0)) : go 163 12 [.ref a_l0, l1, l2] [] w I L P = kC (call 122 [.ref a_l0, .int (nI 1)] w I L P) (fun v w1 I1 L1 P1 => go 163 17 [.ref a_l0, l1, l2] (v.toList ++ []) w1 I1 L1 P1) := by
  refine (go_aload_n (m := 163) (pc := 12) (k := 0) (by decide +kernel) rfl).trans ?_
  refine (go_ic (m := 163) (pc := 13) (n := 1) (by decide +kernel) ic_1).trans ?_
  exact go_vir (m := 163) (pc := 14) (o := 7) (x := 37) (y := 122) (kd := 0) (b := a_l0) (bs := [.int (nI 1)]) (rs := []) (by decide +kernel) rfl rfl c_7_37 (Or.inl rfl) rfl rfl rfl (by decide +kernel) (by simp only [List.length_cons, List.length_nil]; decide) (Nat.le_of_ble_eq_true rfl) h0
theorem Model_begin_17 (l0 : Value) (l1 : Value) (l2 : Value) (y0 : Int32) (w : Wd) (I : MI) (L : ML) (P : MP)  : go 163 17 [l0, l1, l2] [.int y0] w I L P = some (.inl (some (.int y0)), w, I, L, P) := by
  exact go_retI (m := 163) (pc := 17) (by decide +kernel) rfl
theorem Model_begin_18 (a_l0 : Nat) (l1 : Value) (l2 : Value) (w : Wd) (I : MI) (L : ML) (P : MP) (h0 : w.1 a_l0 = some (7, 0)) : go 163 18 [.ref a_l0, l1, l2] [] w I L P = kC (call 134 [.ref a_l0] w I L P) (fun v w1 I1 L1 P1 => go 163 22 [.ref a_l0, l1, l2] (v.toList ++ []) w1 I1 L1 P1) := by
  refine (go_aload_n (m := 163) (pc := 18) (k := 0) (by decide +kernel) rfl).trans ?_
  exact go_vir (m := 163) (pc := 19) (o := 7) (x := 160) (y := 134) (kd := 0) (b := a_l0) (bs := []) (rs := []) (by decide +kernel) rfl rfl c_7_160 (Or.inl rfl) rfl rfl rfl (by decide +kernel) (by simp only [List.length_cons, List.length_nil]; decide) (Nat.le_of_ble_eq_true rfl) h0
theorem Model_begin_22 (a_l0 : Nat) (l1 : Value) (l2 : Value) (w : Wd) (I : MI) (L : ML) (P : MP) (h0 : w.1 a_l0 = some (7, 0)) : go 163 22 [.ref a_l0, l1, l2] [] w I L P = kC (call 136 [.ref a_l0] w I L P) (fun v w1 I1 L1 P1 => go 163 26 [.ref a_l0, l1, l2] (v.toList ++ []) w1 I1 L1 P1) := by
  refine (go_aload_n (m := 163) (pc := 22) (k := 0) (by decide +kernel) rfl).trans ?_
  exact go_vir (m := 163) (pc := 23) (o := 7) (x := 41) (y := 136) (kd := 0) (b := a_l0) (bs := []) (rs := []) (by decide +kernel) rfl rfl c_7_41 (Or.inl rfl) rfl rfl rfl (by decide +kernel) (by simp only [List.length_cons, List.length_nil]; decide) (Nat.le_of_ble_eq_true rfl) h0
theorem Model_begin_26 (a_l0 : Nat) (l1 : Value) (l2 : Value) (w : Wd) (I : MI) (L : ML) (P : MP) (h0 : w.1 a_l0 = some (7, 0)) : go 163 26 [.ref a_l0, l1, l2] [] w I L P = go 163 30 [.ref a_l0, l1, l2] [(va_rf (P a_l0 0))] w I L P := by
  refine (go_aload_n (m := 163) (pc := 26) (k := 0) (by decide +kernel) rfl).trans ?_
  refine (go_getR (m := 163) (pc := 27) (o := 7) (x := 7) (ci := 7) (k := 0) (by decide +kernel) rfl f_7_7 rfl h0).trans ?_
  rfl
theorem Model_begin_30 (a_l0 : Nat) (x_l1 : Int32) (l2 : Value) (a_s0 : Nat) (w : Wd) (I : MI) (L : ML) (P : MP) (h0 : inA w a_s0 8 (nI 0)) (h1 : w.1 a_l0 = some (7, 0)) : go 163 30 [.ref a_l0, .int x_l1, l2] [.ref a_s0] w I L P = kC (call 125 [.ref a_l0, .int x_l1] w I L P) (fun v w1 I1 L1 P1 => go 163 38 [.ref a_l0, .int x_l1, .int (I a_s0 (Int32.toNatClampNeg (nI 0)))] (v.toList ++ []) w1 I1 L1 P1) := by
  refine (go_ic (m := 163) (pc := 30) (n := 0) (by decide +kernel) ic_0).trans ?_
  refine (go_iald (m := 163) (pc := 31) (by decide +kernel) h0).trans ?_
  refine (go_istore_n (m := 163) (pc := 32) (k := 2) (ls' := [.ref a_l0, .int x_l1, .int (I a_s0 (Int32.toNatClampNeg (nI 0)))]) (by decide +kernel) (by simp only [List.length_cons, List.length_nil]; decide) rfl).trans ?_
  refine (go_aload_n (m := 163) (pc := 33) (k := 0) (by decide +kernel) rfl).trans ?_
  refine (go_iload_n (m := 163) (pc := 34) (k := 1) (by decide +kernel) rfl).trans ?_
  exact go_vir (m := 163) (pc := 35) (o := 7) (x := 22) (y := 125) (kd := 0) (b := a_l0) (bs := [.int x_l1]) (rs := []) (by decide +kernel) rfl rfl c_7_22 (Or.inl rfl) rfl rfl rfl (by decide +kernel) (by simp only [List.length_cons, List.length_nil]; decide) (Nat.le_of_ble_eq_true rfl) h1
theorem Model_begin_38 (a_l0 : Nat) (l1 : Value) (x_l2 : Int32) (w : Wd) (I : MI) (L : ML) (P : MP) (h0 : w.1 a_l0 = some (7, 0)) : go 163 38 [.ref a_l0, l1, .int x_l2] [] w I L P = kC (call 123 [.ref a_l0, .int x_l2] w I L P) (fun v w1 I1 L1 P1 => go 163 43 [.ref a_l0, l1, .int x_l2] (v.toList ++ []) w1 I1 L1 P1) := by
  refine (go_aload_n (m := 163) (pc := 38) (k := 0) (by decide +kernel) rfl).trans ?_
  refine (go_iload_n (m := 163) (pc := 39) (k := 2) (by decide +kernel) rfl).trans ?_
  exact go_vir (m := 163) (pc := 40) (o := 7) (x := 47) (y := 123) (kd := 0) (b := a_l0) (bs := [.int x_l2]) (rs := []) (by decide +kernel) rfl rfl c_7_47 (Or.inl rfl) rfl rfl rfl (by decide +kernel) (by simp only [List.length_cons, List.length_nil]; decide) (Nat.le_of_ble_eq_true rfl) h0
theorem Model_begin_43 (l0 : Value) (l1 : Value) (l2 : Value) (y0 : Int32) (w : Wd) (I : MI) (L : ML) (P : MP)  : go 163 43 [l0, l1, l2] [.int y0] w I L P = some (.inl (some (.int y0)), w, I, L, P) := by
  exact go_retI (m := 163) (pc := 43) (by decide +kernel) rfl
theorem Model_begin_E (this : Nat) (p0 : Int32) (w : Wd) (I : MI) (L : ML) (P : MP) : call 163 [.ref this, .int p0] w I L P = go 163 0 [.ref this, .int p0, unk] [] w I L P := rfl
theorem Model_addListener_0 (l0 : Value) (x_l1 : Int32) (l2 : Value) (l3 : Value) (w : Wd) (I : MI) (L : ML) (P : MP)  : go 164 0 [l0, .int x_l1, l2, l3] [] w I L P = kC (call 124 [.long (Int32.toInt64 x_l1), .long 0, .long 127] w I L P) (fun v w1 I1 L1 P1 => go 164 9 [l0, .int x_l1, l2, l3] (v.toList ++ []) w1 I1 L1 P1) := by
  refine (go_iload_n (m := 164) (pc := 0) (k := 1) (by decide +kernel) rfl).trans ?_
  refine (go_i2l (m := 164) (pc := 1) (by decide +kernel)).trans ?_
  refine (go_lc (m := 164) (pc := 2) (n := 0) (v := 0) (by decide +kernel) rfl).trans ?_
  refine (go_ldc2 (m := 164) (pc := 3) (o := 7) (x := 148) (v := 127) (by decide +kernel) rfl (by decide +kernel)).trans ?_
  exact go_sta (m := 164) (pc := 6) (o := 7) (x := 30) (y := 124) (kd := 2) (as := [.long (Int32.toInt64 x_l1), .long 0, .long 127]) (rs := []) (by decide +kernel) rfl rfl c_7_30 (Or.inl rfl) rfl rfl rfl (by decide +kernel) (by simp only [List.length_cons, List.length_nil]; decide) (Nat.le_of_ble_eq_true rfl)
theorem Model_addListener_9 (l0 : Value) (l1 : Value) (l2 : Value) (l3 : Value) (y0 : Int32) (w : Wd) (I : MI) (L : ML) (P : MP)  : go 164 9 [l0, l1, l2, l3] [.int y0] w I L P = if y0 = 0 then go 164 24 [l0, l1, l2, l3] [] w I L P else go 164 12 [l0, l1, l2, l3] [] w I L P := by
  exact go_ifeq (m := 164) (pc := 9) (off := 15) (t := 24) (by decide +kernel) (by decide)
theorem Model_addListener_12 (l0 : Value) (l1 : Value) (x_l2 : Int32) (l3 : Value) (w : Wd) (I : MI) (L : ML) (P : MP)  : go 164 12 [l0, l1, .int x_l2, l3] [] w I L P = kC (call 124 [.long (Int32.toInt64 x_l2), .long 0, .long 9] w I L P) (fun v w1 I1 L1 P1 => go 164 21 [l0, l1, .int x_l2, l3] (v.toList ++ []) w1 I1 L1 P1) := by
  refine (go_iload_n (m := 164) (pc := 12) (k := 2) (by decide +kernel) rfl).trans ?_
  refine (go_i2l (m := 164) (pc := 13) (by decide +kernel)).trans ?_
  refine (go_lc (m := 164) (pc := 14) (n := 0) (v := 0) (by decide +kernel) rfl).trans ?_
  refine (go_ldc2 (m := 164) (pc := 15) (o := 7) (x := 163) (v := 9) (by decide +kernel) rfl (by decide +kernel)).trans ?_
  exact go_sta (m := 164) (pc := 18) (o := 7) (x := 30) (y := 124) (kd := 2) (as := [.long (Int32.toInt64 x_l2), .long 0, .long 9]) (rs := []) (by decide +kernel) rfl rfl c_7_30 (Or.inl rfl) rfl rfl rfl (by decide +kernel) (by simp only [List.length_cons, List.length_nil]; decide) (Nat.le_of_ble_eq_true rfl)
theorem Model_addListener_21 (l0 : Value) (l1 : Value) (l2 : Value) (l3 : Value) (y0 : Int32) (w : Wd) (I : MI) (L : ML) (P : MP)  : go 164 21 [l0, l1, l2, l3] [.int y0] w I L P = if y0 ≠ 0 then go 164 30 [l0, l1, l2, l3] [] w I L P else go 164 24 [l0, l1, l2, l3] [] w I L P := by
  exact go_ifne (m := 164) (pc := 21) (off := 9) (t := 30) (by decide +kernel) (by decide)
theorem Model_addListener_24 (a_l0 : Nat) (l1 : Value) (l2 : Value) (l3 : Value) (w : Wd) (I : MI) (L : ML) (P : MP) (h0 : w.1 a_l0 = some (7, 0)) : go 164 24 [.ref a_l0, l1, l2, l3] [] w I L P = kC (call 122 [.ref a_l0, .int (nI 1)] w I L P) (fun v w1 I1 L1 P1 => go 164 29 [.ref a_l0, l1, l2, l3] (v.toList ++ []) w1 I1 L1 P1) := by
  refine (go_aload_n (m := 164) (pc := 24) (k := 0) (by decide +kernel) rfl).trans ?_
  refine (go_ic (m := 164) (pc := 25) (n := 1) (by decide +kernel) ic_1).trans ?_
  exact go_vir (m := 164) (pc := 26) (o := 7) (x := 37) (y := 122) (kd := 0) (b := a_l0) (bs := [.int (nI 1)]) (rs := []) (by decide +kernel) rfl rfl c_7_37 (Or.inl rfl) rfl rfl rfl (by decide +kernel) (by simp only [List.length_cons, List.length_nil]; decide) (Nat.le_of_ble_eq_true rfl) h0
theorem Model_addListener_29 (l0 : Value) (l1 : Value) (l2 : Value) (l3 : Value) (y0 : Int32) (w : Wd) (I : MI) (L : ML) (P : MP)  : go 164 29 [l0, l1, l2, l3] [.int y0] w I L P = some (.inl (some (.int y0)), w, I, L, P) := by
  exact go_retI (m := 164) (pc := 29) (by decide +kernel) rfl
theorem Model_addListener_30 (a_l0 : Nat) (l1 : Value) (l2 : Value) (l3 : Value) (w : Wd) (I : MI) (L : ML) (P : MP) (h0 : w.1 a_l0 = some (7, 0)) : go 164 30 [.ref a_l0, l1, l2, l3] [] w I L P = go 164 34 [.ref a_l0, l1, l2, l3] [(va_rf (P a_l0 0))] w I L P := by
  refine (go_aload_n (m := 164) (pc := 30) (k := 0) (by decide +kernel) rfl).trans ?_
  refine (go_getR (m := 164) (pc := 31) (o := 7) (x := 7) (ci := 7) (k := 0) (by decide +kernel) rfl f_7_7 rfl h0).trans ?_
  rfl
theorem Model_addListener_34 (l0 : Value) (l1 : Value) (l2 : Value) (l3 : Value) (a_s0 : Nat) (w : Wd) (I : MI) (L : ML) (P : MP) (h0 : inA w a_s0 8 (nI 2)) : go 164 34 [l0, l1, l2, l3] [.ref a_s0] w I L P = if (I a_s0 (Int32.toNatClampNeg (nI 2))) = (nI 6) then go 164 50 [l0, l1, l2, l3] [] w I L P else go 164 41 [l0, l1, l2, l3] [] w I L P := by
  refine (go_ic (m := 164) (pc := 34) (n := 2) (by decide +kernel) ic_2).trans ?_
  refine (go_iald (m := 164) (pc := 35) (by decide +kernel) h0).trans ?_
  refine (go_bi (m := 164) (pc := 36) (n := 6) (by decide +kernel) bi_6).trans ?_
  exact go_icmpeq (m := 164) (pc := 38) (off := 12) (t := 50) (by decide +kernel) (by decide)
theorem Model_addListener_41 (a_l0 : Nat) (x_l1 : Int32) (l2 : Value) (l3 : Value) (w : Wd) (I : MI) (L : ML) (P : MP) (h0 : w.1 a_l0 = some (7, 0)) : go 164 41 [.ref a_l0, .int x_l1, l2, l3] [] w I L P = kC (call 149 [.ref a_l0, .int x_l1] w I L P) (fun v w1 I1 L1 P1 => go 164 46 [.ref a_l0, .int x_l1, l2, l3] (v.toList ++ []) w1 I1 L1 P1) := by
  refine (go_aload_n (m := 164) (pc := 41) (k := 0) (by decide +kernel) rfl).trans ?_
  refine (go_iload_n (m := 164) (pc := 42) (k := 1) (by decide +kernel) rfl).trans ?_
  exact go_vir (m := 164) (pc := 43) (o := 7) (x := 87) (y := 149) (kd := 0) (b := a_l0) (bs := [.int x_l1]) (rs := []) (by decide +kernel) rfl rfl c_7_87 (Or.inl rfl) rfl rfl rfl (by decide +kernel) (by simp only [List.length_cons, List.length_nil]; decide) (Nat.le_of_ble_eq_true rfl) h0
theorem Model_addListener_46 (l0 : Value) (l1 : Value) (l2 : Value) (l3 : Value) (y0 : Int32) (w : Wd) (I : MI) (L : ML) (P : MP)  : go 164 46 [l0, l1, l2, l3] [.int y0] w I L P = if y0 = (-1) then go 164 56 [l0, l1, l2, l3] [] w I L P else go 164 50 [l0, l1, l2, l3] [] w I L P := by
  refine (go_ic (m := 164) (pc := 46) (n := -1) (by decide +kernel) ic_m1).trans ?_
  exact go_icmpeq (m := 164) (pc := 47) (off := 9) (t := 56) (by decide +kernel) (by decide)
theorem Model_addListener_50 (a_l0 : Nat) (l1 : Value) (l2 : Value) (l3 : Value) (w : Wd) (I : MI) (L : ML) (P : MP) (h0 : w.1 a_l0 = some (7, 0)) : go 164 50 [.ref a_l0, l1, l2, l3] [] w I L P = kC (call 122 [.ref a_l0, .int (nI 2)] w I L P) (fun v w1 I1 L1 P1 => go 164 55 [.ref a_l0, l1, l2, l3] (v.toList ++ []) w1 I1 L1 P1) := by
  refine (go_aload_n (m := 164) (pc := 50) (k := 0) (by decide +kernel) rfl).trans ?_
  refine (go_ic (m := 164) (pc := 51) (n := 2) (by decide +kernel) ic_2).trans ?_
  exact go_vir (m := 164) (pc := 52) (o := 7) (x := 37) (y := 122) (kd := 0) (b := a_l0) (bs := [.int (nI 2)]) (rs := []) (by decide +kernel) rfl rfl c_7_37 (Or.inl rfl) rfl rfl rfl (by decide +kernel) (by simp only [List.length_cons, List.length_nil]; decide) (Nat.le_of_ble_eq_true rfl) h0
theorem Model_addListener_55 (l0 : Value) (l1 : Value) (l2 : Value) (l3 : Value) (y0 : Int32) (w : Wd) (I : MI) (L : ML) (P : MP)  : go 164 55 [l0, l1, l2, l3] [.int y0] w I L P = some (.inl (some (.int y0)), w, I, L, P) := by
  exact go_retI (m := 164) (pc := 55) (by decide +kernel) rfl
theorem Model_addListener_56 (a_l0 : Nat) (l1 : Value) (l2 : Value) (l3 : Value) (w : Wd) (I : MI) (L : ML) (P : MP) (h0 : w.1 a_l0 = some (7, 0)) : go 164 56 [.ref a_l0, l1, l2, l3] [] w I L P = kC (call 134 [.ref a_l0] w I L P) (fun v w1 I1 L1 P1 => go 164 60 [.ref a_l0, l1, l2, l3] (v.toList ++ []) w1 I1 L1 P1) := by
  refine (go_aload_n (m := 164) (pc := 56) (k := 0) (by decide +kernel) rfl).trans ?_
  exact go_vir (m := 164) (pc := 57) (o := 7) (x := 160) (y := 134) (kd := 0) (b := a_l0) (bs := []) (rs := []) (by decide +kernel) rfl rfl c_7_160 (Or.inl rfl) rfl rfl rfl (by decide +kernel) (by simp only [List.length_cons, List.length_nil]; decide) (Nat.le_of_ble_eq_true rfl) h0
theorem Model_addListener_60 (a_l0 : Nat) (l1 : Value) (l2 : Value) (l3 : Value) (w : Wd) (I : MI) (L : ML) (P : MP) (h0 : w.1 a_l0 = some (7, 0)) : go 164 60 [.ref a_l0, l1, l2, l3] [] w I L P = kC (call 136 [.ref a_l0] w I L P) (fun v w1 I1 L1 P1 => go 164 64 [.ref a_l0, l1, l2, l3] (v.toList ++ []) w1 I1 L1 P1) := by
  refine (go_aload_n (m := 164) (pc := 60) (k := 0) (by decide +kernel) rfl).trans ?_
  exact go_vir (m := 164) (pc := 61) (o := 7) (x := 41) (y := 136) (kd := 0) (b := a_l0) (bs := []) (rs := []) (by decide +kernel) rfl rfl c_7_41 (Or.inl rfl) rfl rfl rfl (by decide +kernel) (by simp only [List.length_cons, List.length_nil]; decide) (Nat.le_of_ble_eq_true rfl) h0
theorem Model_addListener_64 (a_l0 : Nat) (l1 : Value) (l2 : Value) (l3 : Value) (w : Wd) (I : MI) (L : ML) (P : MP) (h0 : w.1 a_l0 = some (7, 0)) : go 164 64 [.ref a_l0, l1, l2, l3] [] w I L P = go 164 68 [.ref a_l0, l1, l2, l3] [(va_rf (P a_l0 0))] w I L P := by
  refine (go_aload_n (m := 164) (pc := 64) (k := 0) (by decide +kernel) rfl).trans ?_
  refine (go_getR (m := 164) (pc := 65) (o := 7) (x := 7) (ci := 7) (k := 0) (by decide +kernel) rfl f_7_7 rfl h0).trans ?_
  rfl
theorem Model_addListener_68 (a_l0 : Nat) (x_l1 : Int32) (l2 : Value) (l3 : Value) (a_s0 : Nat) (w : Wd) (I : MI) (L : ML) (P : MP) (h0 : inA w a_s0 8 (nI 2)) (h1 : w.1 a_l0 = some (7, 0)) : go 164 68 [.ref a_l0, .int x_l1, l2, l3] [.ref a_s0] w I L P = kC (call 130 [.ref a_l0, .int (I a_s0 (Int32.toNatClampNeg (nI 2))), .int (nI 0), .int x_l1] w I L P) (fun v w1 I1 L1 P1 => go 164 78 [.ref a_l0, .int x_l1, (fix1 l2), .int (I a_s0 (Int32.toNatClampNeg (nI 2)))] (v.toList ++ []) w1 I1 L1 P1) := by
  refine (go_ic (m := 164) (pc := 68) (n := 2) (by decide +kernel) ic_2).trans ?_
  refine (go_iald (m := 164) (pc := 69) (by decide +kernel) h0).trans ?_
  refine (go_istore_n (m := 164) (pc := 70) (k := 3) (ls' := [.ref a_l0, .int x_l1, (fix1 l2), .int (I a_s0 (Int32.toNatClampNeg (nI 2)))]) (by decide +kernel) (by simp only [List.length_cons, List.length_nil]; decide) rfl).trans ?_
  refine (go_aload_n (m := 164) (pc := 71) (k := 0) (by decide +kernel) rfl).trans ?_
  refine (go_iload_n (m := 164) (pc := 72) (k := 3) (by decide +kernel) rfl).trans ?_
  refine (go_ic (m := 164) (pc := 73) (n := 0) (by decide +kernel) ic_0).trans ?_
  refine (go_iload_n (m := 164) (pc := 74) (k := 1) (by decide +kernel) rfl).trans ?_
  exact go_vir (m := 164) (pc := 75) (o := 7) (x := 96) (y := 130) (kd := 0) (b := a_l0) (bs := [.int (I a_s0 (Int32.toNatClampNeg (nI 2))), .int (nI 0), .int x_l1]) (rs := []) (by decide +kernel) rfl rfl c_7_96 (Or.inl rfl) rfl rfl rfl (by decide +kernel) (by simp only [List.length_cons, List.length_nil]; decide) (Nat.le_of_ble_eq_true rfl) h1
theorem Model_addListener_78 (a_l0 : Nat) (l1 : Value) (x_l2 : Int32) (x_l3 : Int32) (w : Wd) (I : MI) (L : ML) (P : MP) (h0 : w.1 a_l0 = some (7, 0)) : go 164 78 [.ref a_l0, l1, .int x_l2, .int x_l3] [] w I L P = kC (call 130 [.ref a_l0, .int x_l3, .int (nI 1), .int x_l2] w I L P) (fun v w1 I1 L1 P1 => go 164 85 [.ref a_l0, l1, .int x_l2, .int x_l3] (v.toList ++ []) w1 I1 L1 P1) := by
  refine (go_aload_n (m := 164) (pc := 78) (k := 0) (by decide +kernel) rfl).trans ?_
  refine (go_iload_n (m := 164) (pc := 79) (k := 3) (by decide +kernel) rfl).trans ?_
  refine (go_ic (m := 164) (pc := 80) (n := 1) (by decide +kernel) ic_1).trans ?_
  refine (go_iload_n (m := 164) (pc := 81) (k := 2) (by decide +kernel) rfl).trans ?_
  exact go_vir (m := 164) (pc := 82) (o := 7) (x := 96) (y := 130) (kd := 0) (b := a_l0) (bs := [.int x_l3, .int (nI 1), .int x_l2]) (rs := []) (by decide +kernel) rfl rfl c_7_96 (Or.inl rfl) rfl rfl rfl (by decide +kernel) (by simp only [List.length_cons, List.length_nil]; decide) (Nat.le_of_ble_eq_true rfl) h0
theorem Model_addListener_85 (a_l0 : Nat) (l1 : Value) (l2 : Value) (x_l3 : Int32) (w : Wd) (I : MI) (L : ML) (P : MP) (h0 : w.1 a_l0 = some (7, 0)) : go 164 85 [.ref a_l0, l1, l2, .int x_l3] [] w I L P = kC (call 130 [.ref a_l0, .int x_l3, .int (nI 4), .int (nI 1)] w I L P) (fun v w1 I1 L1 P1 => go 164 92 [.ref a_l0, l1, l2, .int x_l3] (v.toList ++ []) w1 I1 L1 P1) := by
  refine (go_aload_n (m := 164) (pc := 85) (k := 0) (by decide +kernel) rfl).trans ?_
  refine (go_iload_n (m := 164) (pc := 86) (k := 3) (by decide +kernel) rfl).trans ?_
  refine (go_ic (m := 164) (pc := 87) (n := 4) (by decide +kernel) ic_4).trans ?_
  refine (go_ic (m := 164) (pc := 88) (n := 1) (by decide +kernel) ic_1).trans ?_
  exact go_vir (m := 164) (pc := 89) (o := 7) (x := 96) (y := 130) (kd := 0) (b := a_l0) (bs := [.int x_l3, .int (nI 4), .int (nI 1)]) (rs := []) (by decide +kernel) rfl rfl c_7_96 (Or.inl rfl) rfl rfl rfl (by decide +kernel) (by simp only [List.length_cons, List.length_nil]; decide) (Nat.le_of_ble_eq_true rfl) h0
theorem Model_addListener_92 (a_l0 : Nat) (l1 : Value) (l2 : Value) (l3 : Value) (w : Wd) (I : MI) (L : ML) (P : MP) (h0 : w.1 a_l0 = some (7, 0)) : go 164 92 [.ref a_l0, l1, l2, l3] [] w I L P = go 164 96 [.ref a_l0, l1, l2, l3] [(va_rf (P a_l0 0))] w I L P := by
  refine (go_aload_n (m := 164) (pc := 92) (k := 0) (by decide +kernel) rfl).trans ?_
  refine (go_getR (m := 164) (pc := 93) (o := 7) (x := 7) (ci := 7) (k := 0) (by decide +kernel) rfl f_7_7 rfl h0).trans ?_
  rfl
theorem Model_addListener_96 (a_l0 : Nat) (l1 : Value) (l2 : Value) (x_l3 : Int32) (a_s0 : Nat) (w : Wd) (I : MI) (L : ML) (P : MP) (h0 : inA w a_s0 8 (nI 2)) (h1 : w.1 a_l0 = some (7, 0)) : go 164 96 [.ref a_l0, l1, l2, .int x_l3] [.ref a_s0] w I L P = kC (call 123 [.ref a_l0, .int x_l3] w (updI I a_s0 (Int32.toNatClampNeg (nI 2)) ((I a_s0 (Int32.toNatClampNeg (nI 2))) + (nI 1))) L P) (fun v w1 I1 L1 P1 => go 164 107 [.ref a_l0, l1, l2, .int x_l3] (v.toList ++ []) w1 I1 L1 P1) := by
  refine (go_ic (m := 164) (pc := 96) (n := 2) (by decide +kernel) ic_2).trans ?_
  refine (go_dup2 (m := 164) (pc := 97) (by decide +kernel) rfl rfl).trans ?_
  refine (go_iald (m := 164) (pc := 98) (by decide +kernel) h0).trans ?_
  refine (go_ic (m := 164) (pc := 99) (n := 1) (by decide +kernel) ic_1).trans ?_
  refine (go_iadd (m := 164) (pc := 100) (by decide +kernel)).trans ?_
  refine (go_iast (m := 164) (pc := 101) (by decide +kernel) h0).trans ?_
  refine (go_aload_n (m := 164) (pc := 102) (k := 0) (by decide +kernel) rfl).trans ?_
  refine (go_iload_n (m := 164) (pc := 103) (k := 3) (by decide +kernel) rfl).trans ?_
  exact go_vir (m := 164) (pc := 104) (o := 7) (x := 47) (y := 123) (kd := 0) (b := a_l0) (bs := [.int x_l3]) (rs := []) (by decide +kernel) rfl rfl c_7_47 (Or.inl rfl) rfl rfl rfl (by decide +kernel) (by simp only [List.length_cons, List.length_nil]; decide) (Nat.le_of_ble_eq_true rfl) h1
theorem Model_addListener_107 (l0 : Value) (l1 : Value) (l2 : Value) (l3 : Value) (y0 : Int32) (w : Wd) (I : MI) (L : ML) (P : MP)  : go 164 107 [l0, l1, l2, l3] [.int y0] w I L P = some (.inl (some (.int y0)), w, I, L, P) := by
  exact go_retI (m := 164) (pc := 107) (by decide +kernel) rfl
theorem Model_addListener_E (this : Nat) (p0 : Int32) (p1 : Int32) (w : Wd) (I : MI) (L : ML) (P : MP) : call 164 [.ref this, .int p0, .int p1] w I L P = go 164 0 [.ref this, .int p0, .int p1, unk] [] w I L P := rfl
theorem Model_on_0 (l0 : Value) (l1 : Value) (l2 : Value) (w : Wd) (I : MI) (L : ML) (P : MP)  : go 165 0 [l0, l1, l2] [] w I L P = go 165 4 [(fix1 l0), .int (nI 0), .int (nI 0)] [] w I L P := by
  refine (go_ic (m := 165) (pc := 0) (n := 0) (by decide +kernel) ic_0).trans ?_
  refine (go_istore_n (m := 165) (pc := 1) (k := 1) (ls' := [(fix1 l0), .int (nI 0), l2]) (by decide +kernel) (by simp only [List.length_cons, List.length_nil]; decide) rfl).trans ?_
  refine (go_ic (m := 165) (pc := 2) (n := 0) (by decide +kernel) ic_0).trans ?_
  refine (go_istore_n (m := 165) (pc := 3) (k := 2) (ls' := [(fix1 l0), .int (nI 0), .int (nI 0)]) (by decide +kernel) (by simp only [List.length_cons, List.length_nil]; decide) rfl).trans ?_
  rfl
theorem Model_on_4 (a_l0 : Nat) (l1 : Value) (x_l2 : Int32) (w : Wd) (I : MI) (L : ML) (P : MP) (h0 : w.1 a_l0 = some (7, 0)) : go 165 4 [.ref a_l0, l1, .int x_l2] [] w I L P = go 165 9 [.ref a_l0, l1, .int x_l2] [(va_rf (P a_l0 0)), .int x_l2] w I L P := by
  refine (go_iload_n (m := 165) (pc := 4) (k := 2) (by decide +kernel) rfl).trans ?_
  refine (go_aload_n (m := 165) (pc := 5) (k := 0) (by decide +kernel) rfl).trans ?_
  refine (go_getR (m := 165) (pc := 6) (o := 7) (x := 7) (ci := 7) (k := 0) (by decide +kernel) rfl f_7_7 rfl h0).trans ?_
  rfl
theorem Model_on_9 (l0 : Value) (l1 : Value) (l2 : Value) (y0 : Int32) (a_s1 : Nat) (w : Wd) (I : MI) (L : ML) (P : MP) (h0 : inA w a_s1 8 (nI 2)) : go 165 9 [l0, l1, l2] [.ref a_s1, .int y0] w I L P = if (I a_s1 (Int32.toNatClampNeg (nI 2))) ≤ y0 then go 165 29 [l0, l1, l2] [] w I L P else go 165 14 [l0, l1, l2] [] w I L P := by
  refine (go_ic (m := 165) (pc := 9) (n := 2) (by decide +kernel) ic_2).trans ?_
  refine (go_iald (m := 165) (pc := 10) (by decide +kernel) h0).trans ?_
  exact go_icmpge (m := 165) (pc := 11) (off := 18) (t := 29) (by decide +kernel) (by decide)
theorem Model_on_14 (a_l0 : Nat) (x_l1 : Int32) (x_l2 : Int32) (w : Wd) (I : MI) (L : ML) (P : MP) (h0 : w.1 a_l0 = some (7, 0)) : go 165 14 [.ref a_l0, .int x_l1, .int x_l2] [] w I L P = kC (call 129 [.ref a_l0, .int x_l2, .int (nI 4)] w I L P) (fun v w1 I1 L1 P1 => go 165 21 [.ref a_l0, .int x_l1, .int x_l2] (v.toList ++ [.int x_l1]) w1 I1 L1 P1) := by
  refine (go_iload_n (m := 165) (pc := 14) (k := 1) (by decide +kernel) rfl).trans ?_
  refine (go_aload_n (m := 165) (pc := 15) (k := 0) (by decide +kernel) rfl).trans ?_
  refine (go_iload_n (m := 165) (pc := 16) (k := 2) (by decide +kernel) rfl).trans ?_
  refine (go_ic (m := 165) (pc := 17) (n := 4) (by decide +kernel) ic_4).trans ?_
  exact go_vir (m := 165) (pc := 18) (o := 7) (x := 76) (y := 129) (kd := 0) (b := a_l0) (bs := [.int x_l2, .int (nI 4)]) (rs := [.int x_l1]) (by decide +kernel) rfl rfl c_7_76 (Or.inl rfl) rfl rfl rfl (by decide +kernel) (by simp only [List.length_cons, List.length_nil]; decide) (Nat.le_of_ble_eq_true rfl) h0
theorem Model_on_21 (l0 : Value) (l1 : Value) (x_l2 : Int32) (y0 : Int32) (y1 : Int32) (w : Wd) (I : MI) (L : ML) (P : MP)  : go 165 21 [l0, l1, .int x_l2] [.int y1, .int y0] w I L P = go 165 4 [(fix1 l0), .int (y0 + y1), .int (x_l2 + (nI 1))] [] w I L P := by
  refine (go_iadd (m := 165) (pc := 21) (by decide +kernel)).trans ?_
  refine (go_istore_n (m := 165) (pc := 22) (k := 1) (ls' := [(fix1 l0), .int (y0 + y1), .int x_l2]) (by decide +kernel) (by simp only [List.length_cons, List.length_nil]; decide) rfl).trans ?_
  refine (go_iinc (m := 165) (pc := 23) (k := 2) (n := 1) (x := x_l2) (v := x_l2 + (nI 1)) (ls' := [(fix1 l0), .int (y0 + y1), .int (x_l2 + (nI 1))]) (by decide +kernel) rfl (by rw [ic_1]) rfl).trans ?_
  refine (go_goto (m := 165) (pc := 26) (off := -22) (t := 4) (by decide +kernel) (by decide)).trans ?_
  rfl
theorem Model_on_29 (l0 : Value) (x_l1 : Int32) (l2 : Value) (w : Wd) (I : MI) (L : ML) (P : MP)  : go 165 29 [l0, .int x_l1, l2] [] w I L P = some (.inl (some (.int x_l1)), w, I, L, P) := by
  refine (go_iload_n (m := 165) (pc := 29) (k := 1) (by decide +kernel) rfl).trans ?_
  exact go_retI (m := 165) (pc := 30) (by decide +kernel) rfl
theorem Model_on_E (this : Nat) (w : Wd) (I : MI) (L : ML) (P : MP) : call 165 [.ref this] w I L P = go 165 0 [.ref this, unk, unk] [] w I L P := rfl
theorem Model_turn_0 (a_l0 : Nat) (x_l1 : Int32) (l2 : Value) (l3 : Value) (w : Wd) (I : MI) (L : ML) (P : MP) (h0 : w.1 a_l0 = some (7, 0)) : go 166 0 [.ref a_l0, .int x_l1, l2, l3] [] w I L P = kC (call 132 [.ref a_l0, .int x_l1] w I L P) (fun v w1 I1 L1 P1 => go 166 5 [.ref a_l0, .int x_l1, l2, l3] (v.toList ++ []) w1 I1 L1 P1) := by
  refine (go_aload_n (m := 166) (pc := 0) (k := 0) (by decide +kernel) rfl).trans ?_
  refine (go_iload_n (m := 166) (pc := 1) (k := 1) (by decide +kernel) rfl).trans ?_
  exact go_vir (m := 166) (pc := 2) (o := 7) (x := 165) (y := 132) (kd := 0) (b := a_l0) (bs := [.int x_l1]) (rs := []) (by decide +kernel) rfl rfl c_7_165 (Or.inl rfl) rfl rfl rfl (by decide +kernel) (by simp only [List.length_cons, List.length_nil]; decide) (Nat.le_of_ble_eq_true rfl) h0
theorem Model_turn_5 (l0 : Value) (l1 : Value) (l2 : Value) (l3 : Value) (y0 : Int32) (w : Wd) (I : MI) (L : ML) (P : MP)  : go 166 5 [l0, l1, l2, l3] [.int y0] w I L P = if y0 ≠ 0 then go 166 14 [l0, l1, l2, l3] [] w I L P else go 166 8 [l0, l1, l2, l3] [] w I L P := by
  exact go_ifne (m := 166) (pc := 5) (off := 9) (t := 14) (by decide +kernel) (by decide)
theorem Model_turn_8 (a_l0 : Nat) (l1 : Value) (l2 : Value) (l3 : Value) (w : Wd) (I : MI) (L : ML) (P : MP) (h0 : w.1 a_l0 = some (7, 0)) : go 166 8 [.ref a_l0, l1, l2, l3] [] w I L P = kC (call 122 [.ref a_l0, .int (nI 1)] w I L P) (fun v w1 I1 L1 P1 => go 166 13 [.ref a_l0, l1, l2, l3] (v.toList ++ []) w1 I1 L1 P1) := by
  refine (go_aload_n (m := 166) (pc := 8) (k := 0) (by decide +kernel) rfl).trans ?_
  refine (go_ic (m := 166) (pc := 9) (n := 1) (by decide +kernel) ic_1).trans ?_
  exact go_vir (m := 166) (pc := 10) (o := 7) (x := 37) (y := 122) (kd := 0) (b := a_l0) (bs := [.int (nI 1)]) (rs := []) (by decide +kernel) rfl rfl c_7_37 (Or.inl rfl) rfl rfl rfl (by decide +kernel) (by simp only [List.length_cons, List.length_nil]; decide) (Nat.le_of_ble_eq_true rfl) h0
theorem Model_turn_13 (l0 : Value) (l1 : Value) (l2 : Value) (l3 : Value) (y0 : Int32) (w : Wd) (I : MI) (L : ML) (P : MP)  : go 166 13 [l0, l1, l2, l3] [.int y0] w I L P = some (.inl (some (.int y0)), w, I, L, P) := by
  exact go_retI (m := 166) (pc := 13) (by decide +kernel) rfl
theorem Model_turn_14 (l0 : Value) (l1 : Value) (x_l2 : Int32) (l3 : Value) (w : Wd) (I : MI) (L : ML) (P : MP)  : go 166 14 [l0, l1, .int x_l2, l3] [] w I L P = if x_l2 = 0 then go 166 22 [l0, l1, .int x_l2, l3] [] w I L P else go 166 18 [l0, l1, .int x_l2, l3] [] w I L P := by
  refine (go_iload_n (m := 166) (pc := 14) (k := 2) (by decide +kernel) rfl).trans ?_
  exact go_ifeq (m := 166) (pc := 15) (off := 7) (t := 22) (by decide +kernel) (by decide)
theorem Model_turn_18 (l0 : Value) (l1 : Value) (l2 : Value) (l3 : Value) (w : Wd) (I : MI) (L : ML) (P : MP)  : go 166 18 [l0, l1, l2, l3] [] w I L P = go 166 23 [l0, l1, l2, l3] [.int (nI 1)] w I L P := by
  refine (go_ic (m := 166) (pc := 18) (n := 1) (by decide +kernel) ic_1).trans ?_
  refine (go_goto (m := 166) (pc := 19) (off := 4) (t := 23) (by decide +kernel) (by decide)).trans ?_
  rfl
theorem Model_turn_22 (l0 : Value) (l1 : Value) (l2 : Value) (l3 : Value) (w : Wd) (I : MI) (L : ML) (P : MP)  : go 166 22 [l0, l1, l2, l3] [] w I L P = go 166 23 [l0, l1, l2, l3] [.int (nI 0)] w I L P := by
  refine (go_ic (m := 166) (pc := 22) (n := 0) (by decide +kernel) ic_0).trans ?_
  rfl
theorem Model_turn_23 (a_l0 : Nat) (x_l1 : Int32) (l2 : Value) (l3 : Value) (y0 : Int32) (w : Wd) (I : MI) (L : ML) (P : MP) (h0 : w.1 a_l0 = some (7, 0)) : go 166 23 [.ref a_l0, .int x_l1, l2, l3] [.int y0] w I L P = kC (call 129 [.ref a_l0, .int x_l1, .int (nI 4)] w I L P) (fun v w1 I1 L1 P1 => go 166 30 [.ref a_l0, .int x_l1, (fix1 l2), .int y0] (v.toList ++ []) w1 I1 L1 P1) := by
  refine (go_istore_n (m := 166) (pc := 23) (k := 3) (ls' := [.ref a_l0, .int x_l1, (fix1 l2), .int y0]) (by decide +kernel) (by simp only [List.length_cons, List.length_nil]; decide) rfl).trans ?_
  refine (go_aload_n (m := 166) (pc := 24) (k := 0) (by decide +kernel) rfl).trans ?_
  refine (go_iload_n (m := 166) (pc := 25) (k := 1) (by decide +kernel) rfl).trans ?_
  refine (go_ic (m := 166) (pc := 26) (n := 4) (by decide +kernel) ic_4).trans ?_
  exact go_vir (m := 166) (pc := 27) (o := 7) (x := 76) (y := 129) (kd := 0) (b := a_l0) (bs := [.int x_l1, .int (nI 4)]) (rs := []) (by decide +kernel) rfl rfl c_7_76 (Or.inl rfl) rfl rfl rfl (by decide +kernel) (by simp only [List.length_cons, List.length_nil]; decide) (Nat.le_of_ble_eq_true rfl) h0
theorem Model_turn_30 (l0 : Value) (l1 : Value) (l2 : Value) (x_l3 : Int32) (y0 : Int32) (w : Wd) (I : MI) (L : ML) (P : MP)  : go 166 30 [l0, l1, l2, .int x_l3] [.int y0] w I L P = if y0 ≠ x_l3 then go 166 40 [l0, l1, l2, .int x_l3] [] w I L P else go 166 34 [l0, l1, l2, .int x_l3] [] w I L P := by
  refine (go_iload_n (m := 166) (pc := 30) (k := 3) (by decide +kernel) rfl).trans ?_
  exact go_icmpne (m := 166) (pc := 31) (off := 9) (t := 40) (by decide +kernel) (by decide)
theorem Model_turn_34 (a_l0 : Nat) (l1 : Value) (l2 : Value) (l3 : Value) (w : Wd) (I : MI) (L : ML) (P : MP) (h0 : w.1 a_l0 = some (7, 0)) : go 166 34 [.ref a_l0, l1, l2, l3] [] w I L P = kC (call 122 [.ref a_l0, .int (nI 2)] w I L P) (fun v w1 I1 L1 P1 => go 166 39 [.ref a_l0, l1, l2, l3] (v.toList ++ []) w1 I1 L1 P1) := by
  refine (go_aload_n (m := 166) (pc := 34) (k := 0) (by decide +kernel) rfl).trans ?_
  refine (go_ic (m := 166) (pc := 35) (n := 2) (by decide +kernel) ic_2).trans ?_
  exact go_vir (m := 166) (pc := 36) (o := 7) (x := 37) (y := 122) (kd := 0) (b := a_l0) (bs := [.int (nI 2)]) (rs := []) (by decide +kernel) rfl rfl c_7_37 (Or.inl rfl) rfl rfl rfl (by decide +kernel) (by simp only [List.length_cons, List.length_nil]; decide) (Nat.le_of_ble_eq_true rfl) h0
theorem Model_turn_39 (l0 : Value) (l1 : Value) (l2 : Value) (l3 : Value) (y0 : Int32) (w : Wd) (I : MI) (L : ML) (P : MP)  : go 166 39 [l0, l1, l2, l3] [.int y0] w I L P = some (.inl (some (.int y0)), w, I, L, P) := by
  exact go_retI (m := 166) (pc := 39) (by decide +kernel) rfl
theorem Model_turn_40 (a_l0 : Nat) (l1 : Value) (l2 : Value) (l3 : Value) (w : Wd) (I : MI) (L : ML) (P : MP) (h0 : w.1 a_l0 = some (7, 0)) : go 166 40 [.ref a_l0, l1, l2, l3] [] w I L P = kC (call 134 [.ref a_l0] w I L P) (fun v w1 I1 L1 P1 => go 166 44 [.ref a_l0, l1, l2, l3] (v.toList ++ []) w1 I1 L1 P1) := by
  refine (go_aload_n (m := 166) (pc := 40) (k := 0) (by decide +kernel) rfl).trans ?_
  exact go_vir (m := 166) (pc := 41) (o := 7) (x := 160) (y := 134) (kd := 0) (b := a_l0) (bs := []) (rs := []) (by decide +kernel) rfl rfl c_7_160 (Or.inl rfl) rfl rfl rfl (by decide +kernel) (by simp only [List.length_cons, List.length_nil]; decide) (Nat.le_of_ble_eq_true rfl) h0
theorem Model_turn_44 (a_l0 : Nat) (l1 : Value) (l2 : Value) (l3 : Value) (w : Wd) (I : MI) (L : ML) (P : MP) (h0 : w.1 a_l0 = some (7, 0)) : go 166 44 [.ref a_l0, l1, l2, l3] [] w I L P = kC (call 136 [.ref a_l0] w I L P) (fun v w1 I1 L1 P1 => go 166 48 [.ref a_l0, l1, l2, l3] (v.toList ++ []) w1 I1 L1 P1) := by
  refine (go_aload_n (m := 166) (pc := 44) (k := 0) (by decide +kernel) rfl).trans ?_
  exact go_vir (m := 166) (pc := 45) (o := 7) (x := 41) (y := 136) (kd := 0) (b := a_l0) (bs := []) (rs := []) (by decide +kernel) rfl rfl c_7_41 (Or.inl rfl) rfl rfl rfl (by decide +kernel) (by simp only [List.length_cons, List.length_nil]; decide) (Nat.le_of_ble_eq_true rfl) h0
theorem Model_turn_48 (a_l0 : Nat) (x_l1 : Int32) (l2 : Value) (x_l3 : Int32) (w : Wd) (I : MI) (L : ML) (P : MP) (h0 : w.1 a_l0 = some (7, 0)) : go 166 48 [.ref a_l0, .int x_l1, l2, .int x_l3] [] w I L P = kC (call 130 [.ref a_l0, .int x_l1, .int (nI 4), .int x_l3] w I L P) (fun v w1 I1 L1 P1 => go 166 55 [.ref a_l0, .int x_l1, l2, .int x_l3] (v.toList ++ []) w1 I1 L1 P1) := by
  refine (go_aload_n (m := 166) (pc := 48) (k := 0) (by decide +kernel) rfl).trans ?_
  refine (go_iload_n (m := 166) (pc := 49) (k := 1) (by decide +kernel) rfl).trans ?_
  refine (go_ic (m := 166) (pc := 50) (n := 4) (by decide +kernel) ic_4).trans ?_
  refine (go_iload_n (m := 166) (pc := 51) (k := 3) (by decide +kernel) rfl).trans ?_
  exact go_vir (m := 166) (pc := 52) (o := 7) (x := 96) (y := 130) (kd := 0) (b := a_l0) (bs := [.int x_l1, .int (nI 4), .int x_l3]) (rs := []) (by decide +kernel) rfl rfl c_7_96 (Or.inl rfl) rfl rfl rfl (by decide +kernel) (by simp only [List.length_cons, List.length_nil]; decide) (Nat.le_of_ble_eq_true rfl) h0
theorem Model_turn_55 (a_l0 : Nat) (l1 : Value) (l2 : Value) (l3 : Value) (w : Wd) (I : MI) (L : ML) (P : MP) (h0 : w.1 a_l0 = some (7, 0)) : go 166 55 [.ref a_l0, l1, l2, l3] [] w I L P = kC (call 165 [.ref a_l0] w I L P) (fun v w1 I1 L1 P1 => go 166 60 [.ref a_l0, l1, l2, l3] (v.toList ++ [.ref a_l0]) w1 I1 L1 P1) := by
  refine (go_aload_n (m := 166) (pc := 55) (k := 0) (by decide +kernel) rfl).trans ?_
  refine (go_aload_n (m := 166) (pc := 56) (k := 0) (by decide +kernel) rfl).trans ?_
  exact go_vir (m := 166) (pc := 57) (o := 7) (x := 168) (y := 165) (kd := 0) (b := a_l0) (bs := []) (rs := [.ref a_l0]) (by decide +kernel) rfl rfl c_7_168 (Or.inl rfl) rfl rfl rfl (by decide +kernel) (by simp only [List.length_cons, List.length_nil]; decide) (Nat.le_of_ble_eq_true rfl) h0
theorem Model_turn_60 (l0 : Value) (l1 : Value) (l2 : Value) (l3 : Value) (a_s0 : Nat) (y1 : Int32) (w : Wd) (I : MI) (L : ML) (P : MP) (h0 : w.1 a_s0 = some (7, 0)) : go 166 60 [l0, l1, l2, l3] [.int y1, .ref a_s0] w I L P = kC (call 123 [.ref a_s0, .int y1] w I L P) (fun v w1 I1 L1 P1 => go 166 63 [l0, l1, l2, l3] (v.toList ++ []) w1 I1 L1 P1) := by
  exact go_vir (m := 166) (pc := 60) (o := 7) (x := 47) (y := 123) (kd := 0) (b := a_s0) (bs := [.int y1]) (rs := []) (by decide +kernel) rfl rfl c_7_47 (Or.inl rfl) rfl rfl rfl (by decide +kernel) (by simp only [List.length_cons, List.length_nil]; decide) (Nat.le_of_ble_eq_true rfl) h0
theorem Model_turn_63 (l0 : Value) (l1 : Value) (l2 : Value) (l3 : Value) (y0 : Int32) (w : Wd) (I : MI) (L : ML) (P : MP)  : go 166 63 [l0, l1, l2, l3] [.int y0] w I L P = some (.inl (some (.int y0)), w, I, L, P) := by
  exact go_retI (m := 166) (pc := 63) (by decide +kernel) rfl
theorem Model_turn_E (this : Nat) (p0 : Int32) (p1 : Int32) (w : Wd) (I : MI) (L : ML) (P : MP) : call 166 [.ref this, .int p0, .int p1] w I L P = go 166 0 [.ref this, .int p0, .int p1, unk] [] w I L P := rfl
theorem Model_empty_0 (a_l0 : Nat) (x_l1 : Int32) (l2 : Value) (w : Wd) (I : MI) (L : ML) (P : MP) (h0 : w.1 a_l0 = some (7, 0)) : go 167 0 [.ref a_l0, .int x_l1, l2] [] w I L P = kC (call 132 [.ref a_l0, .int x_l1] w I L P) (fun v w1 I1 L1 P1 => go 167 5 [.ref a_l0, .int x_l1, l2] (v.toList ++ []) w1 I1 L1 P1) := by
  refine (go_aload_n (m := 167) (pc := 0) (k := 0) (by decide +kernel) rfl).trans ?_
  refine (go_iload_n (m := 167) (pc := 1) (k := 1) (by decide +kernel) rfl).trans ?_
  exact go_vir (m := 167) (pc := 2) (o := 7) (x := 165) (y := 132) (kd := 0) (b := a_l0) (bs := [.int x_l1]) (rs := []) (by decide +kernel) rfl rfl c_7_165 (Or.inl rfl) rfl rfl rfl (by decide +kernel) (by simp only [List.length_cons, List.length_nil]; decide) (Nat.le_of_ble_eq_true rfl) h0
theorem Model_empty_5 (l0 : Value) (l1 : Value) (l2 : Value) (y0 : Int32) (w : Wd) (I : MI) (L : ML) (P : MP)  : go 167 5 [l0, l1, l2] [.int y0] w I L P = if y0 ≠ 0 then go 167 14 [l0, l1, l2] [] w I L P else go 167 8 [l0, l1, l2] [] w I L P := by
  exact go_ifne (m := 167) (pc := 5) (off := 9) (t := 14) (by decide +kernel) (by decide)
theorem Model_empty_8 (a_l0 : Nat) (l1 : Value) (l2 : Value) (w : Wd) (I : MI) (L : ML) (P : MP) (h0 : w.1 a_l0 = some (7, 0)) : go 167 8 [.ref a_l0, l1, l2] [] w I L P = kC (call 122 [.ref a_l0, .int (nI 1)] w I L P) (fun v w1 I1 L1 P1 => go 167 13 [.ref a_l0, l1, l2] (v.toList ++ []) w1 I1 L1 P1) := by
  refine (go_aload_n (m := 167) (pc := 8) (k := 0) (by decide +kernel) rfl).trans ?_
  refine (go_ic (m := 167) (pc := 9) (n := 1) (by decide +kernel) ic_1).trans ?_
  exact go_vir (m := 167) (pc := 10) (o := 7) (x := 37) (y := 122) (kd := 0) (b := a_l0) (bs := [.int (nI 1)]) (rs := []) (by decide +kernel) rfl rfl c_7_37 (Or.inl rfl) rfl rfl rfl (by decide +kernel) (by simp only [List.length_cons, List.length_nil]; decide) (Nat.le_of_ble_eq_true rfl) h0
theorem Model_empty_13 (l0 : Value) (l1 : Value) (l2 : Value) (y0 : Int32) (w : Wd) (I : MI) (L : ML) (P : MP)  : go 167 13 [l0, l1, l2] [.int y0] w I L P = some (.inl (some (.int y0)), w, I, L, P) := by
  exact go_retI (m := 167) (pc := 13) (by decide +kernel) rfl
theorem Model_empty_14 (a_l0 : Nat) (l1 : Value) (l2 : Value) (w : Wd) (I : MI) (L : ML) (P : MP) (h0 : w.1 a_l0 = some (7, 0)) : go 167 14 [.ref a_l0, l1, l2] [] w I L P = kC (call 134 [.ref a_l0] w I L P) (fun v w1 I1 L1 P1 => go 167 18 [.ref a_l0, l1, l2] (v.toList ++ []) w1 I1 L1 P1) := by
  refine (go_aload_n (m := 167) (pc := 14) (k := 0) (by decide +kernel) rfl).trans ?_
  exact go_vir (m := 167) (pc := 15) (o := 7) (x := 160) (y := 134) (kd := 0) (b := a_l0) (bs := []) (rs := []) (by decide +kernel) rfl rfl c_7_160 (Or.inl rfl) rfl rfl rfl (by decide +kernel) (by simp only [List.length_cons, List.length_nil]; decide) (Nat.le_of_ble_eq_true rfl) h0
theorem Model_empty_18 (a_l0 : Nat) (l1 : Value) (l2 : Value) (w : Wd) (I : MI) (L : ML) (P : MP) (h0 : w.1 a_l0 = some (7, 0)) : go 167 18 [.ref a_l0, l1, l2] [] w I L P = kC (call 136 [.ref a_l0] w I L P) (fun v w1 I1 L1 P1 => go 167 22 [.ref a_l0, l1, l2] (v.toList ++ []) w1 I1 L1 P1) := by
  refine (go_aload_n (m := 167) (pc := 18) (k := 0) (by decide +kernel) rfl).trans ?_
  exact go_vir (m := 167) (pc := 19) (o := 7) (x := 41) (y := 136) (kd := 0) (b := a_l0) (bs := []) (rs := []) (by decide +kernel) rfl rfl c_7_41 (Or.inl rfl) rfl rfl rfl (by decide +kernel) (by simp only [List.length_cons, List.length_nil]; decide) (Nat.le_of_ble_eq_true rfl) h0
theorem Model_empty_22 (a_l0 : Nat) (x_l1 : Int32) (l2 : Value) (w : Wd) (I : MI) (L : ML) (P : MP) (h0 : w.1 a_l0 = some (7, 0)) : go 167 22 [.ref a_l0, .int x_l1, l2] [] w I L P = kC (call 129 [.ref a_l0, .int x_l1, .int (nI 2)] w I L P) (fun v w1 I1 L1 P1 => go 167 28 [.ref a_l0, .int x_l1, l2] (v.toList ++ []) w1 I1 L1 P1) := by
  refine (go_aload_n (m := 167) (pc := 22) (k := 0) (by decide +kernel) rfl).trans ?_
  refine (go_iload_n (m := 167) (pc := 23) (k := 1) (by decide +kernel) rfl).trans ?_
  refine (go_ic (m := 167) (pc := 24) (n := 2) (by decide +kernel) ic_2).trans ?_
  exact go_vir (m := 167) (pc := 25) (o := 7) (x := 76) (y := 129) (kd := 0) (b := a_l0) (bs := [.int x_l1, .int (nI 2)]) (rs := []) (by decide +kernel) rfl rfl c_7_76 (Or.inl rfl) rfl rfl rfl (by decide +kernel) (by simp only [List.length_cons, List.length_nil]; decide) (Nat.le_of_ble_eq_true rfl) h0
theorem Model_empty_28 (a_l0 : Nat) (x_l1 : Int32) (l2 : Value) (y0 : Int32) (w : Wd) (I : MI) (L : ML) (P : MP) (h0 : w.1 a_l0 = some (7, 0)) : go 167 28 [.ref a_l0, .int x_l1, l2] [.int y0] w I L P = kC (call 130 [.ref a_l0, .int x_l1, .int (nI 2), .int (nI 0)] w I L P) (fun v w1 I1 L1 P1 => go 167 36 [.ref a_l0, .int x_l1, .int y0] (v.toList ++ []) w1 I1 L1 P1) := by
  refine (go_istore_n (m := 167) (pc := 28) (k := 2) (ls' := [.ref a_l0, .int x_l1, .int y0]) (by decide +kernel) (by simp only [List.length_cons, List.length_nil]; decide) rfl).trans ?_
  refine (go_aload_n (m := 167) (pc := 29) (k := 0) (by decide +kernel) rfl).trans ?_
  refine (go_iload_n (m := 167) (pc := 30) (k := 1) (by decide +kernel) rfl).trans ?_
  refine (go_ic (m := 167) (pc := 31) (n := 2) (by decide +kernel) ic_2).trans ?_
  refine (go_ic (m := 167) (pc := 32) (n := 0) (by decide +kernel) ic_0).trans ?_
  exact go_vir (m := 167) (pc := 33) (o := 7) (x := 96) (y := 130) (kd := 0) (b := a_l0) (bs := [.int x_l1, .int (nI 2), .int (nI 0)]) (rs := []) (by decide +kernel) rfl rfl c_7_96 (Or.inl rfl) rfl rfl rfl (by decide +kernel) (by simp only [List.length_cons, List.length_nil]; decide) (Nat.le_of_ble_eq_true rfl) h0
theorem Model_empty_36 (a_l0 : Nat) (x_l1 : Int32) (l2 : Value) (w : Wd) (I : MI) (L : ML) (P : MP) (h0 : w.1 a_l0 = some (7, 0)) : go 167 36 [.ref a_l0, .int x_l1, l2] [] w I L P = kC (call 130 [.ref a_l0, .int x_l1, .int (nI 3), .int (nI 0)] w I L P) (fun v w1 I1 L1 P1 => go 167 43 [.ref a_l0, .int x_l1, l2] (v.toList ++ []) w1 I1 L1 P1) := by
  refine (go_aload_n (m := 167) (pc := 36) (k := 0) (by decide +kernel) rfl).trans ?_
  refine (go_iload_n (m := 167) (pc := 37) (k := 1) (by decide +kernel) rfl).trans ?_
  refine (go_ic (m := 167) (pc := 38) (n := 3) (by decide +kernel) ic_3).trans ?_
  refine (go_ic (m := 167) (pc := 39) (n := 0) (by decide +kernel) ic_0).trans ?_
  exact go_vir (m := 167) (pc := 40) (o := 7) (x := 96) (y := 130) (kd := 0) (b := a_l0) (bs := [.int x_l1, .int (nI 3), .int (nI 0)]) (rs := []) (by decide +kernel) rfl rfl c_7_96 (Or.inl rfl) rfl rfl rfl (by decide +kernel) (by simp only [List.length_cons, List.length_nil]; decide) (Nat.le_of_ble_eq_true rfl) h0
theorem Model_empty_43 (a_l0 : Nat) (l1 : Value) (x_l2 : Int32) (w : Wd) (I : MI) (L : ML) (P : MP) (h0 : w.1 a_l0 = some (7, 0)) : go 167 43 [.ref a_l0, l1, .int x_l2] [] w I L P = kC (call 123 [.ref a_l0, .int x_l2] w I L P) (fun v w1 I1 L1 P1 => go 167 48 [.ref a_l0, l1, .int x_l2] (v.toList ++ []) w1 I1 L1 P1) := by
  refine (go_aload_n (m := 167) (pc := 43) (k := 0) (by decide +kernel) rfl).trans ?_
  refine (go_iload_n (m := 167) (pc := 44) (k := 2) (by decide +kernel) rfl).trans ?_
  exact go_vir (m := 167) (pc := 45) (o := 7) (x := 47) (y := 123) (kd := 0) (b := a_l0) (bs := [.int x_l2]) (rs := []) (by decide +kernel) rfl rfl c_7_47 (Or.inl rfl) rfl rfl rfl (by decide +kernel) (by simp only [List.length_cons, List.length_nil]; decide) (Nat.le_of_ble_eq_true rfl) h0
theorem Model_empty_48 (l0 : Value) (l1 : Value) (l2 : Value) (y0 : Int32) (w : Wd) (I : MI) (L : ML) (P : MP)  : go 167 48 [l0, l1, l2] [.int y0] w I L P = some (.inl (some (.int y0)), w, I, L, P) := by
  exact go_retI (m := 167) (pc := 48) (by decide +kernel) rfl
theorem Model_empty_E (this : Nat) (p0 : Int32) (w : Wd) (I : MI) (L : ML) (P : MP) : call 167 [.ref this, .int p0] w I L P = go 167 0 [.ref this, .int p0, unk] [] w I L P := rfl
theorem Model_setLimit_0 (l0 : Value) (x_l1 : Int32) (l2 : Value) (w : Wd) (I : MI) (L : ML) (P : MP)  : go 168 0 [l0, .int x_l1, l2] [] w I L P = kC (call 124 [.long (Int32.toInt64 x_l1), .long 1, .long 9] w I L P) (fun v w1 I1 L1 P1 => go 168 9 [l0, .int x_l1, l2] (v.toList ++ []) w1 I1 L1 P1) := by
  refine (go_iload_n (m := 168) (pc := 0) (k := 1) (by decide +kernel) rfl).trans ?_
  refine (go_i2l (m := 168) (pc := 1) (by decide +kernel)).trans ?_
  refine (go_lc (m := 168) (pc := 2) (n := 1) (v := 1) (by decide +kernel) rfl).trans ?_
  refine (go_ldc2 (m := 168) (pc := 3) (o := 7) (x := 163) (v := 9) (by decide +kernel) rfl (by decide +kernel)).trans ?_
  exact go_sta (m := 168) (pc := 6) (o := 7) (x := 30) (y := 124) (kd := 2) (as := [.long (Int32.toInt64 x_l1), .long 1, .long 9]) (rs := []) (by decide +kernel) rfl rfl c_7_30 (Or.inl rfl) rfl rfl rfl (by decide +kernel) (by simp only [List.length_cons, List.length_nil]; decide) (Nat.le_of_ble_eq_true rfl)
theorem Model_setLimit_9 (l0 : Value) (l1 : Value) (l2 : Value) (y0 : Int32) (w : Wd) (I : MI) (L : ML) (P : MP)  : go 168 9 [l0, l1, l2] [.int y0] w I L P = if y0 ≠ 0 then go 168 18 [l0, l1, l2] [] w I L P else go 168 12 [l0, l1, l2] [] w I L P := by
  exact go_ifne (m := 168) (pc := 9) (off := 9) (t := 18) (by decide +kernel) (by decide)
theorem Model_setLimit_12 (a_l0 : Nat) (l1 : Value) (l2 : Value) (w : Wd) (I : MI) (L : ML) (P : MP) (h0 : w.1 a_l0 = some (7, 0)) : go 168 12 [.ref a_l0, l1, l2] [] w I L P = kC (call 122 [.ref a_l0, .int (nI 1)] w I L P) (fun v w1 I1 L1 P1 => go 168 17 [.ref a_l0, l1, l2] (v.toList ++ []) w1 I1 L1 P1) := by
  refine (go_aload_n (m := 168) (pc := 12) (k := 0) (by decide +kernel) rfl).trans ?_
  refine (go_ic (m := 168) (pc := 13) (n := 1) (by decide +kernel) ic_1).trans ?_
  exact go_vir (m := 168) (pc := 14) (o := 7) (x := 37) (y := 122) (kd := 0) (b := a_l0) (bs := [.int (nI 1)]) (rs := []) (by decide +kernel) rfl rfl c_7_37 (Or.inl rfl) rfl rfl rfl (by decide +kernel) (by simp only [List.length_cons, List.length_nil]; decide) (Nat.le_of_ble_eq_true rfl) h0
theorem Model_setLimit_17 (l0 : Value) (l1 : Value) (l2 : Value) (y0 : Int32) (w : Wd) (I : MI) (L : ML) (P : MP)  : go 168 17 [l0, l1, l2] [.int y0] w I L P = some (.inl (some (.int y0)), w, I, L, P) := by
  exact go_retI (m := 168) (pc := 17) (by decide +kernel) rfl
theorem Model_setLimit_18 (a_l0 : Nat) (l1 : Value) (l2 : Value) (w : Wd) (I : MI) (L : ML) (P : MP) (h0 : w.1 a_l0 = some (7, 0)) : go 168 18 [.ref a_l0, l1, l2] [] w I L P = kC (call 134 [.ref a_l0] w I L P) (fun v w1 I1 L1 P1 => go 168 22 [.ref a_l0, l1, l2] (v.toList ++ []) w1 I1 L1 P1) := by
  refine (go_aload_n (m := 168) (pc := 18) (k := 0) (by decide +kernel) rfl).trans ?_
  exact go_vir (m := 168) (pc := 19) (o := 7) (x := 160) (y := 134) (kd := 0) (b := a_l0) (bs := []) (rs := []) (by decide +kernel) rfl rfl c_7_160 (Or.inl rfl) rfl rfl rfl (by decide +kernel) (by simp only [List.length_cons, List.length_nil]; decide) (Nat.le_of_ble_eq_true rfl) h0
theorem Model_setLimit_22 (a_l0 : Nat) (l1 : Value) (l2 : Value) (w : Wd) (I : MI) (L : ML) (P : MP) (h0 : w.1 a_l0 = some (7, 0)) : go 168 22 [.ref a_l0, l1, l2] [] w I L P = kC (call 136 [.ref a_l0] w I L P) (fun v w1 I1 L1 P1 => go 168 26 [.ref a_l0, l1, l2] (v.toList ++ []) w1 I1 L1 P1) := by
  refine (go_aload_n (m := 168) (pc := 22) (k := 0) (by decide +kernel) rfl).trans ?_
  exact go_vir (m := 168) (pc := 23) (o := 7) (x := 41) (y := 136) (kd := 0) (b := a_l0) (bs := []) (rs := []) (by decide +kernel) rfl rfl c_7_41 (Or.inl rfl) rfl rfl rfl (by decide +kernel) (by simp only [List.length_cons, List.length_nil]; decide) (Nat.le_of_ble_eq_true rfl) h0
theorem Model_setLimit_26 (a_l0 : Nat) (l1 : Value) (l2 : Value) (w : Wd) (I : MI) (L : ML) (P : MP) (h0 : w.1 a_l0 = some (7, 0)) : go 168 26 [.ref a_l0, l1, l2] [] w I L P = go 168 30 [.ref a_l0, l1, l2] [(va_rf (P a_l0 0))] w I L P := by
  refine (go_aload_n (m := 168) (pc := 26) (k := 0) (by decide +kernel) rfl).trans ?_
  refine (go_getR (m := 168) (pc := 27) (o := 7) (x := 7) (ci := 7) (k := 0) (by decide +kernel) rfl f_7_7 rfl h0).trans ?_
  rfl
theorem Model_setLimit_30 (a_l0 : Nat) (l1 : Value) (l2 : Value) (a_s0 : Nat) (w : Wd) (I : MI) (L : ML) (P : MP) (h0 : inA w a_s0 8 (nI 3)) (h1 : w.1 a_l0 = some (7, 0)) : go 168 30 [.ref a_l0, l1, l2] [.ref a_s0] w I L P = go 168 37 [.ref a_l0, (fix1 l1), .int (I a_s0 (Int32.toNatClampNeg (nI 3)))] [(va_rf (P a_l0 0))] w I L P := by
  refine (go_ic (m := 168) (pc := 30) (n := 3) (by decide +kernel) ic_3).trans ?_
  refine (go_iald (m := 168) (pc := 31) (by decide +kernel) h0).trans ?_
  refine (go_istore_n (m := 168) (pc := 32) (k := 2) (ls' := [.ref a_l0, (fix1 l1), .int (I a_s0 (Int32.toNatClampNeg (nI 3)))]) (by decide +kernel) (by simp only [List.length_cons, List.length_nil]; decide) rfl).trans ?_
  refine (go_aload_n (m := 168) (pc := 33) (k := 0) (by decide +kernel) rfl).trans ?_
  refine (go_getR (m := 168) (pc := 34) (o := 7) (x := 7) (ci := 7) (k := 0) (by decide +kernel) rfl f_7_7 rfl h1).trans ?_
  rfl
theorem Model_setLimit_37 (a_l0 : Nat) (x_l1 : Int32) (x_l2 : Int32) (a_s0 : Nat) (w : Wd) (I : MI) (L : ML) (P : MP) (h0 : inA w a_s0 8 (nI 3)) (h1 : w.1 a_l0 = some (7, 0)) : go 168 37 [.ref a_l0, .int x_l1, .int x_l2] [.ref a_s0] w I L P = kC (call 123 [.ref a_l0, .int x_l2] w (updI I a_s0 (Int32.toNatClampNeg (nI 3)) x_l1) L P) (fun v w1 I1 L1 P1 => go 168 45 [.ref a_l0, .int x_l1, .int x_l2] (v.toList ++ []) w1 I1 L1 P1) := by
  refine (go_ic (m := 168) (pc := 37) (n := 3) (by decide +kernel) ic_3).trans ?_
  refine (go_iload_n (m := 168) (pc := 38) (k := 1) (by decide +kernel) rfl).trans ?_
  refine (go_iast (m := 168) (pc := 39) (by decide +kernel) h0).trans ?_
  refine (go_aload_n (m := 168) (pc := 40) (k := 0) (by decide +kernel) rfl).trans ?_
  refine (go_iload_n (m := 168) (pc := 41) (k := 2) (by decide +kernel) rfl).trans ?_
  exact go_vir (m := 168) (pc := 42) (o := 7) (x := 47) (y := 123) (kd := 0) (b := a_l0) (bs := [.int x_l2]) (rs := []) (by decide +kernel) rfl rfl c_7_47 (Or.inl rfl) rfl rfl rfl (by decide +kernel) (by simp only [List.length_cons, List.length_nil]; decide) (Nat.le_of_ble_eq_true rfl) h1
theorem Model_setLimit_45 (l0 : Value) (l1 : Value) (l2 : Value) (y0 : Int32) (w : Wd) (I : MI) (L : ML) (P : MP)  : go 168 45 [l0, l1, l2] [.int y0] w I L P = some (.inl (some (.int y0)), w, I, L, P) := by
  exact go_retI (m := 168) (pc := 45) (by decide +kernel) rfl
theorem Model_setLimit_E (this : Nat) (p0 : Int32) (w : Wd) (I : MI) (L : ML) (P : MP) : call 168 [.ref this, .int p0] w I L P = go 168 0 [.ref this, .int p0, unk] [] w I L P := rfl
theorem Model_write_0 (a_l0 : Nat) (l1 : Value) (l2 : Value) (l3 : Value) (l4 : Value) (l5 : Value) (w : Wd) (I : MI) (L : ML) (P : MP) (h0 : w.1 a_l0 = some (7, 0)) : go 169 0 [.ref a_l0, l1, l2, l3, l4, l5] [] w I L P = kC (call 134 [.ref a_l0] w I L P) (fun v w1 I1 L1 P1 => go 169 4 [.ref a_l0, l1, l2, l3, l4, l5] (v.toList ++ []) w1 I1 L1 P1) := by
  refine (go_aload_n (m := 169) (pc := 0) (k := 0) (by decide +kernel) rfl).trans ?_
  exact go_vir (m := 169) (pc := 1) (o := 7) (x := 160) (y := 134) (kd := 0) (b := a_l0) (bs := []) (rs := []) (by decide +kernel) rfl rfl c_7_160 (Or.inl rfl) rfl rfl rfl (by decide +kernel) (by simp only [List.length_cons, List.length_nil]; decide) (Nat.le_of_ble_eq_true rfl) h0
theorem Model_write_4 (a_l0 : Nat) (x_l1 : Int32) (x_l2 : Int32) (x_l3 : Int32) (x_l4 : Int64) (l5 : Value) (w : Wd) (I : MI) (L : ML) (P : MP) (h0 : w.1 a_l0 = some (7, 0)) : go 169 4 [.ref a_l0, .int x_l1, .int x_l2, .int x_l3, .long x_l4, l5] [] w I L P = kC (call 161 [.ref a_l0, .int x_l1, .int x_l2, .int (nI 0), .int x_l3, .long x_l4] w I L P) (fun v w1 I1 L1 P1 => go 169 15 [.ref a_l0, .int x_l1, .int x_l2, .int x_l3, .long x_l4, l5] (v.toList ++ [.ref a_l0]) w1 I1 L1 P1) := by
  refine (go_aload_n (m := 169) (pc := 4) (k := 0) (by decide +kernel) rfl).trans ?_
  refine (go_aload_n (m := 169) (pc := 5) (k := 0) (by decide +kernel) rfl).trans ?_
  refine (go_iload_n (m := 169) (pc := 6) (k := 1) (by decide +kernel) rfl).trans ?_
  refine (go_iload_n (m := 169) (pc := 7) (k := 2) (by decide +kernel) rfl).trans ?_
  refine (go_ic (m := 169) (pc := 8) (n := 0) (by decide +kernel) ic_0).trans ?_
  refine (go_iload_n (m := 169) (pc := 9) (k := 3) (by decide +kernel) rfl).trans ?_
  refine (go_lload (m := 169) (pc := 10) (k := 4) (by decide +kernel) rfl).trans ?_
  exact go_vir (m := 169) (pc := 12) (o := 7) (x := 171) (y := 161) (kd := 0) (b := a_l0) (bs := [.int x_l1, .int x_l2, .int (nI 0), .int x_l3, .long x_l4]) (rs := [.ref a_l0]) (by decide +kernel) rfl rfl c_7_171 (Or.inl rfl) rfl rfl rfl (by decide +kernel) (by simp only [List.length_cons, List.length_nil]; decide) (Nat.le_of_ble_eq_true rfl) h0
theorem Model_write_15 (l0 : Value) (l1 : Value) (l2 : Value) (l3 : Value) (l4 : Value) (l5 : Value) (a_s0 : Nat) (y1 : Int32) (w : Wd) (I : MI) (L : ML) (P : MP) (h0 : w.1 a_s0 = some (7, 0)) : go 169 15 [l0, l1, l2, l3, l4, l5] [.int y1, .ref a_s0] w I L P = kC (call 137 [.ref a_s0, .int y1] w I L P) (fun v w1 I1 L1 P1 => go 169 18 [l0, l1, l2, l3, l4, l5] (v.toList ++ []) w1 I1 L1 P1) := by
  exact go_vir (m := 169) (pc := 15) (o := 7) (x := 175) (y := 137) (kd := 0) (b := a_s0) (bs := [.int y1]) (rs := []) (by decide +kernel) rfl rfl c_7_175 (Or.inl rfl) rfl rfl rfl (by decide +kernel) (by simp only [List.length_cons, List.length_nil]; decide) (Nat.le_of_ble_eq_true rfl) h0
theorem Model_write_18 (l0 : Value) (l1 : Value) (l2 : Value) (l3 : Value) (l4 : Value) (l5 : Value) (y0 : Int32) (w : Wd) (I : MI) (L : ML) (P : MP)  : go 169 18 [l0, l1, l2, l3, l4, l5] [.int y0] w I L P = some (.inl (some (.int y0)), w, I, L, P) := by
  exact go_retI (m := 169) (pc := 18) (by decide +kernel) rfl
theorem Model_write_E (this : Nat) (p0 : Int32) (p1 : Int32) (p2 : Int32) (p3 : Int64) (w : Wd) (I : MI) (L : ML) (P : MP) : call 169 [.ref this, .int p0, .int p1, .int p2, .long p3] w I L P = go 169 0 [.ref this, .int p0, .int p1, .int p2, .long p3, unk] [] w I L P := rfl
theorem Model_read_0 (a_l0 : Nat) (l1 : Value) (l2 : Value) (l3 : Value) (w : Wd) (I : MI) (L : ML) (P : MP) (h0 : w.1 a_l0 = some (7, 0)) : go 170 0 [.ref a_l0, l1, l2, l3] [] w I L P = kC (call 134 [.ref a_l0] w I L P) (fun v w1 I1 L1 P1 => go 170 4 [.ref a_l0, l1, l2, l3] (v.toList ++ []) w1 I1 L1 P1) := by
  refine (go_aload_n (m := 170) (pc := 0) (k := 0) (by decide +kernel) rfl).trans ?_
  exact go_vir (m := 170) (pc := 1) (o := 7) (x := 160) (y := 134) (kd := 0) (b := a_l0) (bs := []) (rs := []) (by decide +kernel) rfl rfl c_7_160 (Or.inl rfl) rfl rfl rfl (by decide +kernel) (by simp only [List.length_cons, List.length_nil]; decide) (Nat.le_of_ble_eq_true rfl) h0
theorem Model_read_4 (a_l0 : Nat) (x_l1 : Int32) (x_l2 : Int32) (x_l3 : Int32) (w : Wd) (I : MI) (L : ML) (P : MP) (h0 : w.1 a_l0 = some (7, 0)) : go 170 4 [.ref a_l0, .int x_l1, .int x_l2, .int x_l3] [] w I L P = kC (call 161 [.ref a_l0, .int x_l1, .int x_l2, .int (nI 1), .int x_l3, .long 0] w I L P) (fun v w1 I1 L1 P1 => go 170 14 [.ref a_l0, .int x_l1, .int x_l2, .int x_l3] (v.toList ++ [.ref a_l0]) w1 I1 L1 P1) := by
  refine (go_aload_n (m := 170) (pc := 4) (k := 0) (by decide +kernel) rfl).trans ?_
  refine (go_aload_n (m := 170) (pc := 5) (k := 0) (by decide +kernel) rfl).trans ?_
  refine (go_iload_n (m := 170) (pc := 6) (k := 1) (by decide +kernel) rfl).trans ?_
  refine (go_iload_n (m := 170) (pc := 7) (k := 2) (by decide +kernel) rfl).trans ?_
  refine (go_ic (m := 170) (pc := 8) (n := 1) (by decide +kernel) ic_1).trans ?_
  refine (go_iload_n (m := 170) (pc := 9) (k := 3) (by decide +kernel) rfl).trans ?_
  refine (go_lc (m := 170) (pc := 10) (n := 0) (v := 0) (by decide +kernel) rfl).trans ?_
  exact go_vir (m := 170) (pc := 11) (o := 7) (x := 171) (y := 161) (kd := 0) (b := a_l0) (bs := [.int x_l1, .int x_l2, .int (nI 1), .int x_l3, .long 0]) (rs := [.ref a_l0]) (by decide +kernel) rfl rfl c_7_171 (Or.inl rfl) rfl rfl rfl (by decide +kernel) (by simp only [List.length_cons, List.length_nil]; decide) (Nat.le_of_ble_eq_true rfl) h0
theorem Model_read_14 (l0 : Value) (l1 : Value) (l2 : Value) (l3 : Value) (a_s0 : Nat) (y1 : Int32) (w : Wd) (I : MI) (L : ML) (P : MP) (h0 : w.1 a_s0 = some (7, 0)) : go 170 14 [l0, l1, l2, l3] [.int y1, .ref a_s0] w I L P = kC (call 137 [.ref a_s0, .int y1] w I L P) (fun v w1 I1 L1 P1 => go 170 17 [l0, l1, l2, l3] (v.toList ++ []) w1 I1 L1 P1) := by
  exact go_vir (m := 170) (pc := 14) (o := 7) (x := 175) (y := 137) (kd := 0) (b := a_s0) (bs := [.int y1]) (rs := []) (by decide +kernel) rfl rfl c_7_175 (Or.inl rfl) rfl rfl rfl (by decide +kernel) (by simp only [List.length_cons, List.length_nil]; decide) (Nat.le_of_ble_eq_true rfl) h0
theorem Model_read_17 (l0 : Value) (l1 : Value) (l2 : Value) (l3 : Value) (y0 : Int32) (w : Wd) (I : MI) (L : ML) (P : MP)  : go 170 17 [l0, l1, l2, l3] [.int y0] w I L P = some (.inl (some (.int y0)), w, I, L, P) := by
  exact go_retI (m := 170) (pc := 17) (by decide +kernel) rfl
theorem Model_read_E (this : Nat) (p0 : Int32) (p1 : Int32) (p2 : Int32) (w : Wd) (I : MI) (L : ML) (P : MP) : call 170 [.ref this, .int p0, .int p1, .int p2] w I L P = go 170 0 [.ref this, .int p0, .int p1, .int p2] [] w I L P := rfl
theorem Model_cancel_0 (a_l0 : Nat) (x_l1 : Int32) (l2 : Value) (w : Wd) (I : MI) (L : ML) (P : MP) (h0 : w.1 a_l0 = some (7, 0)) : go 171 0 [.ref a_l0, .int x_l1, l2] [] w I L P = kC (call 131 [.ref a_l0, .int x_l1] w I L P) (fun v w1 I1 L1 P1 => go 171 5 [.ref a_l0, .int x_l1, l2] (v.toList ++ []) w1 I1 L1 P1) := by
  refine (go_aload_n (m := 171) (pc := 0) (k := 0) (by decide +kernel) rfl).trans ?_
  refine (go_iload_n (m := 171) (pc := 1) (k := 1) (by decide +kernel) rfl).trans ?_
  exact go_vir (m := 171) (pc := 2) (o := 7) (x := 145) (y := 131) (kd := 0) (b := a_l0) (bs := [.int x_l1]) (rs := []) (by decide +kernel) rfl rfl c_7_145 (Or.inl rfl) rfl rfl rfl (by decide +kernel) (by simp only [List.length_cons, List.length_nil]; decide) (Nat.le_of_ble_eq_true rfl) h0
theorem Model_cancel_5 (l0 : Value) (l1 : Value) (l2 : Value) (y0 : Int32) (w : Wd) (I : MI) (L : ML) (P : MP)  : go 171 5 [l0, l1, l2] [.int y0] w I L P = if y0 ≠ 0 then go 171 14 [l0, l1, l2] [] w I L P else go 171 8 [l0, l1, l2] [] w I L P := by
  exact go_ifne (m := 171) (pc := 5) (off := 9) (t := 14) (by decide +kernel) (by decide)
theorem Model_cancel_8 (a_l0 : Nat) (l1 : Value) (l2 : Value) (w : Wd) (I : MI) (L : ML) (P : MP) (h0 : w.1 a_l0 = some (7, 0)) : go 171 8 [.ref a_l0, l1, l2] [] w I L P = kC (call 122 [.ref a_l0, .int (nI 1)] w I L P) (fun v w1 I1 L1 P1 => go 171 13 [.ref a_l0, l1, l2] (v.toList ++ []) w1 I1 L1 P1) := by
  refine (go_aload_n (m := 171) (pc := 8) (k := 0) (by decide +kernel) rfl).trans ?_
  refine (go_ic (m := 171) (pc := 9) (n := 1) (by decide +kernel) ic_1).trans ?_
  exact go_vir (m := 171) (pc := 10) (o := 7) (x := 37) (y := 122) (kd := 0) (b := a_l0) (bs := [.int (nI 1)]) (rs := []) (by decide +kernel) rfl rfl c_7_37 (Or.inl rfl) rfl rfl rfl (by decide +kernel) (by simp only [List.length_cons, List.length_nil]; decide) (Nat.le_of_ble_eq_true rfl) h0
theorem Model_cancel_13 (l0 : Value) (l1 : Value) (l2 : Value) (y0 : Int32) (w : Wd) (I : MI) (L : ML) (P : MP)  : go 171 13 [l0, l1, l2] [.int y0] w I L P = some (.inl (some (.int y0)), w, I, L, P) := by
  exact go_retI (m := 171) (pc := 13) (by decide +kernel) rfl
theorem Model_cancel_14 (a_l0 : Nat) (x_l1 : Int32) (l2 : Value) (w : Wd) (I : MI) (L : ML) (P : MP) (h0 : w.1 a_l0 = some (7, 0)) : go 171 14 [.ref a_l0, .int x_l1, l2] [] w I L P = kC (call 126 [.ref a_l0, .int x_l1, .int (nI 0)] w I L P) (fun v w1 I1 L1 P1 => go 171 20 [.ref a_l0, .int x_l1, l2] (v.toList ++ []) w1 I1 L1 P1) := by
  refine (go_aload_n (m := 171) (pc := 14) (k := 0) (by decide +kernel) rfl).trans ?_
  refine (go_iload_n (m := 171) (pc := 15) (k := 1) (by decide +kernel) rfl).trans ?_
  refine (go_ic (m := 171) (pc := 16) (n := 0) (by decide +kernel) ic_0).trans ?_
  exact go_vir (m := 171) (pc := 17) (o := 7) (x := 102) (y := 126) (kd := 0) (b := a_l0) (bs := [.int x_l1, .int (nI 0)]) (rs := []) (by decide +kernel) rfl rfl c_7_102 (Or.inl rfl) rfl rfl rfl (by decide +kernel) (by simp only [List.length_cons, List.length_nil]; decide) (Nat.le_of_ble_eq_true rfl) h0
theorem Model_cancel_20 (l0 : Value) (l1 : Value) (l2 : Value) (y0 : Int32) (w : Wd) (I : MI) (L : ML) (P : MP)  : go 171 20 [l0, l1, l2] [.int y0] w I L P = if y0 = 0 then go 171 38 [l0, (fix1 l1), .int y0] [] w I L P else go 171 25 [l0, (fix1 l1), .int y0] [] w I L P := by
  refine (go_istore_n (m := 171) (pc := 20) (k := 2) (ls' := [l0, (fix1 l1), .int y0]) (by decide +kernel) (by simp only [List.length_cons, List.length_nil]; decide) rfl).trans ?_
  refine (go_iload_n (m := 171) (pc := 21) (k := 2) (by decide +kernel) rfl).trans ?_
  exact go_ifeq (m := 171) (pc := 22) (off := 16) (t := 38) (by decide +kernel) (by decide)
theorem Model_cancel_25 (l0 : Value) (l1 : Value) (x_l2 : Int32) (w : Wd) (I : MI) (L : ML) (P : MP)  : go 171 25 [l0, l1, .int x_l2] [] w I L P = if x_l2 ≠ (nI 1) then go 171 44 [l0, l1, .int x_l2] [] w I L P else go 171 30 [l0, l1, .int x_l2] [] w I L P := by
  refine (go_iload_n (m := 171) (pc := 25) (k := 2) (by decide +kernel) rfl).trans ?_
  refine (go_ic (m := 171) (pc := 26) (n := 1) (by decide +kernel) ic_1).trans ?_
  exact go_icmpne (m := 171) (pc := 27) (off := 17) (t := 44) (by decide +kernel) (by decide)
theorem Model_cancel_30 (a_l0 : Nat) (x_l1 : Int32) (l2 : Value) (w : Wd) (I : MI) (L : ML) (P : MP) (h0 : w.1 a_l0 = some (7, 0)) : go 171 30 [.ref a_l0, .int x_l1, l2] [] w I L P = kC (call 133 [.ref a_l0, .int x_l1] w I L P) (fun v w1 I1 L1 P1 => go 171 35 [.ref a_l0, .int x_l1, l2] (v.toList ++ []) w1 I1 L1 P1) := by
  refine (go_aload_n (m := 171) (pc := 30) (k := 0) (by decide +kernel) rfl).trans ?_
  refine (go_iload_n (m := 171) (pc := 31) (k := 1) (by decide +kernel) rfl).trans ?_
  exact go_vir (m := 171) (pc := 32) (o := 7) (x := 65) (y := 133) (kd := 0) (b := a_l0) (bs := [.int x_l1]) (rs := []) (by decide +kernel) rfl rfl c_7_65 (Or.inl rfl) rfl rfl rfl (by decide +kernel) (by simp only [List.length_cons, List.length_nil]; decide) (Nat.le_of_ble_eq_true rfl) h0
theorem Model_cancel_35 (l0 : Value) (l1 : Value) (l2 : Value) (y0 : Int32) (w : Wd) (I : MI) (L : ML) (P : MP)  : go 171 35 [l0, l1, l2] [.int y0] w I L P = if y0 = 0 then go 171 44 [l0, l1, l2] [] w I L P else go 171 38 [l0, l1, l2] [] w I L P := by
  exact go_ifeq (m := 171) (pc := 35) (off := 9) (t := 44) (by decide +kernel) (by decide)
theorem Model_cancel_38 (a_l0 : Nat) (l1 : Value) (l2 : Value) (w : Wd) (I : MI) (L : ML) (P : MP) (h0 : w.1 a_l0 = some (7, 0)) : go 171 38 [.ref a_l0, l1, l2] [] w I L P = kC (call 122 [.ref a_l0, .int (nI 2)] w I L P) (fun v w1 I1 L1 P1 => go 171 43 [.ref a_l0, l1, l2] (v.toList ++ []) w1 I1 L1 P1) := by
  refine (go_aload_n (m := 171) (pc := 38) (k := 0) (by decide +kernel) rfl).trans ?_
  refine (go_ic (m := 171) (pc := 39) (n := 2) (by decide +kernel) ic_2).trans ?_
  exact go_vir (m := 171) (pc := 40) (o := 7) (x := 37) (y := 122) (kd := 0) (b := a_l0) (bs := [.int (nI 2)]) (rs := []) (by decide +kernel) rfl rfl c_7_37 (Or.inl rfl) rfl rfl rfl (by decide +kernel) (by simp only [List.length_cons, List.length_nil]; decide) (Nat.le_of_ble_eq_true rfl) h0
theorem Model_cancel_43 (l0 : Value) (l1 : Value) (l2 : Value) (y0 : Int32) (w : Wd) (I : MI) (L : ML) (P : MP)  : go 171 43 [l0, l1, l2] [.int y0] w I L P = some (.inl (some (.int y0)), w, I, L, P) := by
  exact go_retI (m := 171) (pc := 43) (by decide +kernel) rfl
theorem Model_cancel_44 (a_l0 : Nat) (l1 : Value) (l2 : Value) (w : Wd) (I : MI) (L : ML) (P : MP) (h0 : w.1 a_l0 = some (7, 0)) : go 171 44 [.ref a_l0, l1, l2] [] w I L P = kC (call 134 [.ref a_l0] w I L P) (fun v w1 I1 L1 P1 => go 171 48 [.ref a_l0, l1, l2] (v.toList ++ []) w1 I1 L1 P1) := by
  refine (go_aload_n (m := 171) (pc := 44) (k := 0) (by decide +kernel) rfl).trans ?_
  exact go_vir (m := 171) (pc := 45) (o := 7) (x := 160) (y := 134) (kd := 0) (b := a_l0) (bs := []) (rs := []) (by decide +kernel) rfl rfl c_7_160 (Or.inl rfl) rfl rfl rfl (by decide +kernel) (by simp only [List.length_cons, List.length_nil]; decide) (Nat.le_of_ble_eq_true rfl) h0
theorem Model_cancel_48 (a_l0 : Nat) (l1 : Value) (l2 : Value) (w : Wd) (I : MI) (L : ML) (P : MP) (h0 : w.1 a_l0 = some (7, 0)) : go 171 48 [.ref a_l0, l1, l2] [] w I L P = kC (call 136 [.ref a_l0] w I L P) (fun v w1 I1 L1 P1 => go 171 52 [.ref a_l0, l1, l2] (v.toList ++ []) w1 I1 L1 P1) := by
  refine (go_aload_n (m := 171) (pc := 48) (k := 0) (by decide +kernel) rfl).trans ?_
  exact go_vir (m := 171) (pc := 49) (o := 7) (x := 41) (y := 136) (kd := 0) (b := a_l0) (bs := []) (rs := []) (by decide +kernel) rfl rfl c_7_41 (Or.inl rfl) rfl rfl rfl (by decide +kernel) (by simp only [List.length_cons, List.length_nil]; decide) (Nat.le_of_ble_eq_true rfl) h0
theorem Model_cancel_52 (a_l0 : Nat) (x_l1 : Int32) (l2 : Value) (w : Wd) (I : MI) (L : ML) (P : MP) (h0 : w.1 a_l0 = some (7, 0)) : go 171 52 [.ref a_l0, .int x_l1, l2] [] w I L P = kC (call 127 [.ref a_l0, .int x_l1, .int (nI 0), .int (-1)] w I L P) (fun v w1 I1 L1 P1 => go 171 59 [.ref a_l0, .int x_l1, l2] (v.toList ++ []) w1 I1 L1 P1) := by
  refine (go_aload_n (m := 171) (pc := 52) (k := 0) (by decide +kernel) rfl).trans ?_
  refine (go_iload_n (m := 171) (pc := 53) (k := 1) (by decide +kernel) rfl).trans ?_
  refine (go_ic (m := 171) (pc := 54) (n := 0) (by decide +kernel) ic_0).trans ?_
  refine (go_ic (m := 171) (pc := 55) (n := -1) (by decide +kernel) ic_m1).trans ?_
  exact go_vir (m := 171) (pc := 56) (o := 7) (x := 54) (y := 127) (kd := 0) (b := a_l0) (bs := [.int x_l1, .int (nI 0), .int (-1)]) (rs := []) (by decide +kernel) rfl rfl c_7_54 (Or.inl rfl) rfl rfl rfl (by decide +kernel) (by simp only [List.length_cons, List.length_nil]; decide) (Nat.le_of_ble_eq_true rfl) h0
theorem Model_cancel_59 (a_l0 : Nat) (x_l1 : Int32) (x_l2 : Int32) (w : Wd) (I : MI) (L : ML) (P : MP) (h0 : w.1 a_l0 = some (7, 0)) : go 171 59 [.ref a_l0, .int x_l1, .int x_l2] [] w I L P = kC (call 128 [.ref a_l0, .int x_l1, .int (x_l2 - (nI 1)), .int (nI 0)] w I L P) (fun v w1 I1 L1 P1 => go 171 69 [.ref a_l0, .int x_l1, .int x_l2] (v.toList ++ [.ref a_l0]) w1 I1 L1 P1) := by
  refine (go_aload_n (m := 171) (pc := 59) (k := 0) (by decide +kernel) rfl).trans ?_
  refine (go_aload_n (m := 171) (pc := 60) (k := 0) (by decide +kernel) rfl).trans ?_
  refine (go_iload_n (m := 171) (pc := 61) (k := 1) (by decide +kernel) rfl).trans ?_
  refine (go_iload_n (m := 171) (pc := 62) (k := 2) (by decide +kernel) rfl).trans ?_
  refine (go_ic (m := 171) (pc := 63) (n := 1) (by decide +kernel) ic_1).trans ?_
  refine (go_isub (m := 171) (pc := 64) (by decide +kernel)).trans ?_
  refine (go_ic (m := 171) (pc := 65) (n := 0) (by decide +kernel) ic_0).trans ?_
  exact go_vir (m := 171) (pc := 66) (o := 7) (x := 50) (y := 128) (kd := 0) (b := a_l0) (bs := [.int x_l1, .int (x_l2 - (nI 1)), .int (nI 0)]) (rs := [.ref a_l0]) (by decide +kernel) rfl rfl c_7_50 (Or.inl rfl) rfl rfl rfl (by decide +kernel) (by simp only [List.length_cons, List.length_nil]; decide) (Nat.le_of_ble_eq_true rfl) h0
theorem Model_cancel_69 (l0 : Value) (l1 : Value) (l2 : Value) (a_s0 : Nat) (y1 : Int32) (w : Wd) (I : MI) (L : ML) (P : MP) (h0 : w.1 a_s0 = some (7, 0)) : go 171 69 [l0, l1, l2] [.int y1, .ref a_s0] w I L P = kC (call 123 [.ref a_s0, .int y1] w I L P) (fun v w1 I1 L1 P1 => go 171 72 [l0, l1, l2] (v.toList ++ []) w1 I1 L1 P1) := by
  exact go_vir (m := 171) (pc := 69) (o := 7) (x := 47) (y := 123) (kd := 0) (b := a_s0) (bs := [.int y1]) (rs := []) (by decide +kernel) rfl rfl c_7_47 (Or.inl rfl) rfl rfl rfl (by decide +kernel) (by simp only [List.length_cons, List.length_nil]; decide) (Nat.le_of_ble_eq_true rfl) h0
theorem Model_cancel_72 (l0 : Value) (l1 : Value) (l2 : Value) (y0 : Int32) (w : Wd) (I : MI) (L : ML) (P : MP)  : go 171 72 [l0, l1, l2] [.int y0] w I L P = some (.inl (some (.int y0)), w, I, L, P) := by
  exact go_retI (m := 171) (pc := 72) (by decide +kernel) rfl
theorem Model_cancel_E (this : Nat) (p0 : Int32) (w : Wd) (I : MI) (L : ML) (P : MP) : call 171 [.ref this, .int p0] w I L P = go 171 0 [.ref this, .int p0, unk] [] w I L P := rfl
theorem Model_pass_0 (a_l0 : Nat) (l1 : Value) (w : Wd) (I : MI) (L : ML) (P : MP) (h0 : w.1 a_l0 = some (7, 0)) : go 172 0 [.ref a_l0, l1] [] w I L P = kC (call 134 [.ref a_l0] w I L P) (fun v w1 I1 L1 P1 => go 172 4 [.ref a_l0, l1] (v.toList ++ []) w1 I1 L1 P1) := by
  refine (go_aload_n (m := 172) (pc := 0) (k := 0) (by decide +kernel) rfl).trans ?_
  exact go_vir (m := 172) (pc := 1) (o := 7) (x := 160) (y := 134) (kd := 0) (b := a_l0) (bs := []) (rs := []) (by decide +kernel) rfl rfl c_7_160 (Or.inl rfl) rfl rfl rfl (by decide +kernel) (by simp only [List.length_cons, List.length_nil]; decide) (Nat.le_of_ble_eq_true rfl) h0
theorem Model_pass_4 (a_l0 : Nat) (x_l1 : Int32) (w : Wd) (I : MI) (L : ML) (P : MP) (h0 : w.1 a_l0 = some (7, 0)) : go 172 4 [.ref a_l0, .int x_l1] [] w I L P = kC (call 162 [.ref a_l0, .int x_l1] w I L P) (fun v w1 I1 L1 P1 => go 172 10 [.ref a_l0, .int x_l1] (v.toList ++ [.ref a_l0]) w1 I1 L1 P1) := by
  refine (go_aload_n (m := 172) (pc := 4) (k := 0) (by decide +kernel) rfl).trans ?_
  refine (go_aload_n (m := 172) (pc := 5) (k := 0) (by decide +kernel) rfl).trans ?_
  refine (go_iload_n (m := 172) (pc := 6) (k := 1) (by decide +kernel) rfl).trans ?_
  exact go_vir (m := 172) (pc := 7) (o := 7) (x := 178) (y := 162) (kd := 0) (b := a_l0) (bs := [.int x_l1]) (rs := [.ref a_l0]) (by decide +kernel) rfl rfl c_7_178 (Or.inl rfl) rfl rfl rfl (by decide +kernel) (by simp only [List.length_cons, List.length_nil]; decide) (Nat.le_of_ble_eq_true rfl) h0
theorem Model_pass_10 (l0 : Value) (l1 : Value) (a_s0 : Nat) (y1 : Int32) (w : Wd) (I : MI) (L : ML) (P : MP) (h0 : w.1 a_s0 = some (7, 0)) : go 172 10 [l0, l1] [.int y1, .ref a_s0] w I L P = kC (call 137 [.ref a_s0, .int y1] w I L P) (fun v w1 I1 L1 P1 => go 172 13 [l0, l1] (v.toList ++ []) w1 I1 L1 P1) := by
  exact go_vir (m := 172) (pc := 10) (o := 7) (x := 175) (y := 137) (kd := 0) (b := a_s0) (bs := [.int y1]) (rs := []) (by decide +kernel) rfl rfl c_7_175 (Or.inl rfl) rfl rfl rfl (by decide +kernel) (by simp only [List.length_cons, List.length_nil]; decide) (Nat.le_of_ble_eq_true rfl) h0
theorem Model_pass_13 (l0 : Value) (l1 : Value) (y0 : Int32) (w : Wd) (I : MI) (L : ML) (P : MP)  : go 172 13 [l0, l1] [.int y0] w I L P = some (.inl (some (.int y0)), w, I, L, P) := by
  exact go_retI (m := 172) (pc := 13) (by decide +kernel) rfl
theorem Model_pass_E (this : Nat) (p0 : Int32) (w : Wd) (I : MI) (L : ML) (P : MP) : call 172 [.ref this, .int p0] w I L P = go 172 0 [.ref this, .int p0] [] w I L P := rfl
theorem Model_finish_0 (a_l0 : Nat) (w : Wd) (I : MI) (L : ML) (P : MP) (h0 : w.1 a_l0 = some (7, 0)) : go 173 0 [.ref a_l0] [] w I L P = kC (call 134 [.ref a_l0] w I L P) (fun v w1 I1 L1 P1 => go 173 4 [.ref a_l0] (v.toList ++ []) w1 I1 L1 P1) := by
  refine (go_aload_n (m := 173) (pc := 0) (k := 0) (by decide +kernel) rfl).trans ?_
  exact go_vir (m := 173) (pc := 1) (o := 7) (x := 160) (y := 134) (kd := 0) (b := a_l0) (bs := []) (rs := []) (by decide +kernel) rfl rfl c_7_160 (Or.inl rfl) rfl rfl rfl (by decide +kernel) (by simp only [List.length_cons, List.length_nil]; decide) (Nat.le_of_ble_eq_true rfl) h0
theorem Model_finish_4 (a_l0 : Nat) (w : Wd) (I : MI) (L : ML) (P : MP) (h0 : w.1 a_l0 = some (7, 0)) : go 173 4 [.ref a_l0] [] w I L P = kC (call 136 [.ref a_l0] w I L P) (fun v w1 I1 L1 P1 => go 173 8 [.ref a_l0] (v.toList ++ []) w1 I1 L1 P1) := by
  refine (go_aload_n (m := 173) (pc := 4) (k := 0) (by decide +kernel) rfl).trans ?_
  exact go_vir (m := 173) (pc := 5) (o := 7) (x := 41) (y := 136) (kd := 0) (b := a_l0) (bs := []) (rs := []) (by decide +kernel) rfl rfl c_7_41 (Or.inl rfl) rfl rfl rfl (by decide +kernel) (by simp only [List.length_cons, List.length_nil]; decide) (Nat.le_of_ble_eq_true rfl) h0
theorem Model_finish_8 (a_l0 : Nat) (w : Wd) (I : MI) (L : ML) (P : MP) (h0 : w.1 a_l0 = some (7, 0)) : go 173 8 [.ref a_l0] [] w I L P = kC (call 159 [.ref a_l0] w I L P) (fun v w1 I1 L1 P1 => go 173 13 [.ref a_l0] (v.toList ++ [.ref a_l0]) w1 I1 L1 P1) := by
  refine (go_aload_n (m := 173) (pc := 8) (k := 0) (by decide +kernel) rfl).trans ?_
  refine (go_aload_n (m := 173) (pc := 9) (k := 0) (by decide +kernel) rfl).trans ?_
  exact go_vir (m := 173) (pc := 10) (o := 7) (x := 181) (y := 159) (kd := 0) (b := a_l0) (bs := []) (rs := [.ref a_l0]) (by decide +kernel) rfl rfl c_7_181 (Or.inl rfl) rfl rfl rfl (by decide +kernel) (by simp only [List.length_cons, List.length_nil]; decide) (Nat.le_of_ble_eq_true rfl) h0
theorem Model_finish_13 (l0 : Value) (a_s0 : Nat) (y1 : Int32) (w : Wd) (I : MI) (L : ML) (P : MP) (h0 : w.1 a_s0 = some (7, 0)) : go 173 13 [l0] [.int y1, .ref a_s0] w I L P = kC (call 123 [.ref a_s0, .int y1] w I L P) (fun v w1 I1 L1 P1 => go 173 16 [l0] (v.toList ++ []) w1 I1 L1 P1) := by
  exact go_vir (m := 173) (pc := 13) (o := 7) (x := 47) (y := 123) (kd := 0) (b := a_s0) (bs := [.int y1]) (rs := []) (by decide +kernel) rfl rfl c_7_47 (Or.inl rfl) rfl rfl rfl (by decide +kernel) (by simp only [List.length_cons, List.length_nil]; decide) (Nat.le_of_ble_eq_true rfl) h0
theorem Model_finish_16 (l0 : Value) (y0 : Int32) (w : Wd) (I : MI) (L : ML) (P : MP)  : go 173 16 [l0] [.int y0] w I L P = some (.inl (some (.int y0)), w, I, L, P) := by
  exact go_retI (m := 173) (pc := 16) (by decide +kernel) rfl
theorem Model_finish_E (this : Nat) (w : Wd) (I : MI) (L : ML) (P : MP) : call 173 [.ref this] w I L P = go 173 0 [.ref this] [] w I L P := rfl
theorem Model_callerNumber_0 (l0 : Value) (l1 : Value) (x_l2 : Int32) (w : Wd) (I : MI) (L : ML) (P : MP)  : go 174 0 [l0, l1, .int x_l2] [] w I L P = if (nI 8) ≤ x_l2 then go 174 15 [l0, l1, .int x_l2] [] w I L P else go 174 6 [l0, l1, .int x_l2] [] w I L P := by
  refine (go_iload_n (m := 174) (pc := 0) (k := 2) (by decide +kernel) rfl).trans ?_
  refine (go_bi (m := 174) (pc := 1) (n := 8) (by decide +kernel) bi_8).trans ?_
  exact go_icmpge (m := 174) (pc := 3) (off := 12) (t := 15) (by decide +kernel) (by decide)
theorem Model_callerNumber_6 (a_l0 : Nat) (x_l1 : Int32) (x_l2 : Int32) (w : Wd) (I : MI) (L : ML) (P : MP) (h0 : w.1 a_l0 = some (7, 0)) : go 174 6 [.ref a_l0, .int x_l1, .int x_l2] [] w I L P = kC (call 126 [.ref a_l0, .int x_l1, .int x_l2] w I L P) (fun v w1 I1 L1 P1 => go 174 12 [.ref a_l0, .int x_l1, .int x_l2] (v.toList ++ []) w1 I1 L1 P1) := by
  refine (go_aload_n (m := 174) (pc := 6) (k := 0) (by decide +kernel) rfl).trans ?_
  refine (go_iload_n (m := 174) (pc := 7) (k := 1) (by decide +kernel) rfl).trans ?_
  refine (go_iload_n (m := 174) (pc := 8) (k := 2) (by decide +kernel) rfl).trans ?_
  exact go_vir (m := 174) (pc := 9) (o := 7) (x := 102) (y := 126) (kd := 0) (b := a_l0) (bs := [.int x_l1, .int x_l2]) (rs := []) (by decide +kernel) rfl rfl c_7_102 (Or.inl rfl) rfl rfl rfl (by decide +kernel) (by simp only [List.length_cons, List.length_nil]; decide) (Nat.le_of_ble_eq_true rfl) h0
theorem Model_callerNumber_12 (l0 : Value) (l1 : Value) (l2 : Value) (y0 : Int32) (w : Wd) (I : MI) (L : ML) (P : MP)  : go 174 12 [l0, l1, l2] [.int y0] w I L P = go 174 28 [l0, l1, l2] [.int y0] w I L P := by
  refine (go_goto (m := 174) (pc := 12) (off := 16) (t := 28) (by decide +kernel) (by decide)).trans ?_
  rfl
theorem Model_callerNumber_15 (a_l0 : Nat) (x_l1 : Int32) (l2 : Value) (w : Wd) (I : MI) (L : ML) (P : MP) (h0 : w.1 a_l0 = some (7, 0)) : go 174 15 [.ref a_l0, .int x_l1, l2] [] w I L P = kC (call 133 [.ref a_l0, .int x_l1] w I L P) (fun v w1 I1 L1 P1 => go 174 20 [.ref a_l0, .int x_l1, l2] (v.toList ++ []) w1 I1 L1 P1) := by
  refine (go_aload_n (m := 174) (pc := 15) (k := 0) (by decide +kernel) rfl).trans ?_
  refine (go_iload_n (m := 174) (pc := 16) (k := 1) (by decide +kernel) rfl).trans ?_
  exact go_vir (m := 174) (pc := 17) (o := 7) (x := 65) (y := 133) (kd := 0) (b := a_l0) (bs := [.int x_l1]) (rs := []) (by decide +kernel) rfl rfl c_7_65 (Or.inl rfl) rfl rfl rfl (by decide +kernel) (by simp only [List.length_cons, List.length_nil]; decide) (Nat.le_of_ble_eq_true rfl) h0
theorem Model_callerNumber_20 (l0 : Value) (l1 : Value) (l2 : Value) (y0 : Int32) (w : Wd) (I : MI) (L : ML) (P : MP)  : go 174 20 [l0, l1, l2] [.int y0] w I L P = if y0 = 0 then go 174 27 [l0, l1, l2] [] w I L P else go 174 23 [l0, l1, l2] [] w I L P := by
  exact go_ifeq (m := 174) (pc := 20) (off := 7) (t := 27) (by decide +kernel) (by decide)
theorem Model_callerNumber_23 (l0 : Value) (l1 : Value) (l2 : Value) (w : Wd) (I : MI) (L : ML) (P : MP)  : go 174 23 [l0, l1, l2] [] w I L P = go 174 28 [l0, l1, l2] [.int (nI 1)] w I L P := by
  refine (go_ic (m := 174) (pc := 23) (n := 1) (by decide +kernel) ic_1).trans ?_
  refine (go_goto (m := 174) (pc := 24) (off := 4) (t := 28) (by decide +kernel) (by decide)).trans ?_
  rfl
theorem Model_callerNumber_27 (l0 : Value) (l1 : Value) (l2 : Value) (w : Wd) (I : MI) (L : ML) (P : MP)  : go 174 27 [l0, l1, l2] [] w I L P = go 174 28 [l0, l1, l2] [.int (nI 0)] w I L P := by
  refine (go_ic (m := 174) (pc := 27) (n := 0) (by decide +kernel) ic_0).trans ?_
  rfl
theorem Model_callerNumber_28 (l0 : Value) (l1 : Value) (l2 : Value) (y0 : Int32) (w : Wd) (I : MI) (L : ML) (P : MP)  : go 174 28 [l0, l1, l2] [.int y0] w I L P = some (.inl (some (.int y0)), w, I, L, P) := by
  exact go_retI (m := 174) (pc := 28) (by decide +kernel) rfl
theorem Model_callerNumber_E (this : Nat) (p0 : Int32) (p1 : Int32) (w : Wd) (I : MI) (L : ML) (P : MP) : call 174 [.ref this, .int p0, .int p1] w I L P = go 174 0 [.ref this, .int p0, .int p1] [] w I L P := rfl
theorem Model_caller_0 (a_l0 : Nat) (x_l1 : Int32) (l2 : Value) (w : Wd) (I : MI) (L : ML) (P : MP) (h0 : w.1 a_l0 = some (7, 0)) : go 175 0 [.ref a_l0, .int x_l1, l2] [] w I L P = kC (call 131 [.ref a_l0, .int x_l1] w I L P) (fun v w1 I1 L1 P1 => go 175 5 [.ref a_l0, .int x_l1, l2] (v.toList ++ []) w1 I1 L1 P1) := by
  refine (go_aload_n (m := 175) (pc := 0) (k := 0) (by decide +kernel) rfl).trans ?_
  refine (go_iload_n (m := 175) (pc := 1) (k := 1) (by decide +kernel) rfl).trans ?_
  exact go_vir (m := 175) (pc := 2) (o := 7) (x := 145) (y := 131) (kd := 0) (b := a_l0) (bs := [.int x_l1]) (rs := []) (by decide +kernel) rfl rfl c_7_145 (Or.inl rfl) rfl rfl rfl (by decide +kernel) (by simp only [List.length_cons, List.length_nil]; decide) (Nat.le_of_ble_eq_true rfl) h0
theorem Model_caller_5 (l0 : Value) (l1 : Value) (l2 : Value) (y0 : Int32) (w : Wd) (I : MI) (L : ML) (P : MP)  : go 175 5 [l0, l1, l2] [.int y0] w I L P = if y0 ≠ 0 then go 175 14 [l0, l1, l2] [] w I L P else go 175 8 [l0, l1, l2] [] w I L P := by
  exact go_ifne (m := 175) (pc := 5) (off := 9) (t := 14) (by decide +kernel) (by decide)
theorem Model_caller_8 (a_l0 : Nat) (l1 : Value) (l2 : Value) (w : Wd) (I : MI) (L : ML) (P : MP) (h0 : w.1 a_l0 = some (7, 0)) : go 175 8 [.ref a_l0, l1, l2] [] w I L P = kC (call 122 [.ref a_l0, .int (nI 1)] w I L P) (fun v w1 I1 L1 P1 => go 175 13 [.ref a_l0, l1, l2] (v.toList ++ []) w1 I1 L1 P1) := by
  refine (go_aload_n (m := 175) (pc := 8) (k := 0) (by decide +kernel) rfl).trans ?_
  refine (go_ic (m := 175) (pc := 9) (n := 1) (by decide +kernel) ic_1).trans ?_
  exact go_vir (m := 175) (pc := 10) (o := 7) (x := 37) (y := 122) (kd := 0) (b := a_l0) (bs := [.int (nI 1)]) (rs := []) (by decide +kernel) rfl rfl c_7_37 (Or.inl rfl) rfl rfl rfl (by decide +kernel) (by simp only [List.length_cons, List.length_nil]; decide) (Nat.le_of_ble_eq_true rfl) h0
theorem Model_caller_13 (l0 : Value) (l1 : Value) (l2 : Value) (y0 : Int32) (w : Wd) (I : MI) (L : ML) (P : MP)  : go 175 13 [l0, l1, l2] [.int y0] w I L P = some (.inl (some (.int y0)), w, I, L, P) := by
  exact go_retI (m := 175) (pc := 13) (by decide +kernel) rfl
theorem Model_caller_14 (l0 : Value) (l1 : Value) (x_l2 : Int32) (w : Wd) (I : MI) (L : ML) (P : MP)  : go 175 14 [l0, l1, .int x_l2] [] w I L P = kC (call 124 [.long (Int32.toInt64 x_l2), .long 0, .long 8] w I L P) (fun v w1 I1 L1 P1 => go 175 23 [l0, l1, .int x_l2] (v.toList ++ []) w1 I1 L1 P1) := by
  refine (go_iload_n (m := 175) (pc := 14) (k := 2) (by decide +kernel) rfl).trans ?_
  refine (go_i2l (m := 175) (pc := 15) (by decide +kernel)).trans ?_
  refine (go_lc (m := 175) (pc := 16) (n := 0) (v := 0) (by decide +kernel) rfl).trans ?_
  refine (go_ldc2 (m := 175) (pc := 17) (o := 7) (x := 184) (v := 8) (by decide +kernel) rfl (by decide +kernel)).trans ?_
  exact go_sta (m := 175) (pc := 20) (o := 7) (x := 30) (y := 124) (kd := 2) (as := [.long (Int32.toInt64 x_l2), .long 0, .long 8]) (rs := []) (by decide +kernel) rfl rfl c_7_30 (Or.inl rfl) rfl rfl rfl (by decide +kernel) (by simp only [List.length_cons, List.length_nil]; decide) (Nat.le_of_ble_eq_true rfl)
theorem Model_caller_23 (l0 : Value) (l1 : Value) (l2 : Value) (y0 : Int32) (w : Wd) (I : MI) (L : ML) (P : MP)  : go 175 23 [l0, l1, l2] [.int y0] w I L P = if y0 = 0 then go 175 39 [l0, l1, l2] [] w I L P else go 175 26 [l0, l1, l2] [] w I L P := by
  exact go_ifeq (m := 175) (pc := 23) (off := 16) (t := 39) (by decide +kernel) (by decide)
theorem Model_caller_26 (a_l0 : Nat) (x_l1 : Int32) (x_l2 : Int32) (w : Wd) (I : MI) (L : ML) (P : MP) (h0 : w.1 a_l0 = some (7, 0)) : go 175 26 [.ref a_l0, .int x_l1, .int x_l2] [] w I L P = kC (call 174 [.ref a_l0, .int x_l1, .int x_l2] w I L P) (fun v w1 I1 L1 P1 => go 175 33 [.ref a_l0, .int x_l1, .int x_l2] (v.toList ++ [.ref a_l0]) w1 I1 L1 P1) := by
  refine (go_aload_n (m := 175) (pc := 26) (k := 0) (by decide +kernel) rfl).trans ?_
  refine (go_aload_n (m := 175) (pc := 27) (k := 0) (by decide +kernel) rfl).trans ?_
  refine (go_iload_n (m := 175) (pc := 28) (k := 1) (by decide +kernel) rfl).trans ?_
  refine (go_iload_n (m := 175) (pc := 29) (k := 2) (by decide +kernel) rfl).trans ?_
  exact go_vir (m := 175) (pc := 30) (o := 7) (x := 186) (y := 174) (kd := 0) (b := a_l0) (bs := [.int x_l1, .int x_l2]) (rs := [.ref a_l0]) (by decide +kernel) rfl rfl c_7_186 (Or.inl rfl) rfl rfl rfl (by decide +kernel) (by simp only [List.length_cons, List.length_nil]; decide) (Nat.le_of_ble_eq_true rfl) h0
theorem Model_caller_33 (l0 : Value) (l1 : Value) (l2 : Value) (a_s0 : Nat) (y1 : Int32) (w : Wd) (I : MI) (L : ML) (P : MP) (h0 : w.1 a_s0 = some (7, 0)) : go 175 33 [l0, l1, l2] [.int y1, .ref a_s0] w I L P = kC (call 123 [.ref a_s0, .int y1] w I L P) (fun v w1 I1 L1 P1 => go 175 36 [l0, l1, l2] (v.toList ++ []) w1 I1 L1 P1) := by
  exact go_vir (m := 175) (pc := 33) (o := 7) (x := 47) (y := 123) (kd := 0) (b := a_s0) (bs := [.int y1]) (rs := []) (by decide +kernel) rfl rfl c_7_47 (Or.inl rfl) rfl rfl rfl (by decide +kernel) (by simp only [List.length_cons, List.length_nil]; decide) (Nat.le_of_ble_eq_true rfl) h0
theorem Model_caller_36 (l0 : Value) (l1 : Value) (l2 : Value) (y0 : Int32) (w : Wd) (I : MI) (L : ML) (P : MP)  : go 175 36 [l0, l1, l2] [.int y0] w I L P = go 175 44 [l0, l1, l2] [.int y0] w I L P := by
  refine (go_goto (m := 175) (pc := 36) (off := 8) (t := 44) (by decide +kernel) (by decide)).trans ?_
  rfl
theorem Model_caller_39 (a_l0 : Nat) (l1 : Value) (l2 : Value) (w : Wd) (I : MI) (L : ML) (P : MP) (h0 : w.1 a_l0 = some (7, 0)) : go 175 39 [.ref a_l0, l1, l2] [] w I L P = kC (call 122 [.ref a_l0, .int (nI 2)] w I L P) (fun v w1 I1 L1 P1 => go 175 44 [.ref a_l0, l1, l2] (v.toList ++ []) w1 I1 L1 P1) := by
  refine (go_aload_n (m := 175) (pc := 39) (k := 0) (by decide +kernel) rfl).trans ?_
  refine (go_ic (m := 175) (pc := 40) (n := 2) (by decide +kernel) ic_2).trans ?_
  exact go_vir (m := 175) (pc := 41) (o := 7) (x := 37) (y := 122) (kd := 0) (b := a_l0) (bs := [.int (nI 2)]) (rs := []) (by decide +kernel) rfl rfl c_7_37 (Or.inl rfl) rfl rfl rfl (by decide +kernel) (by simp only [List.length_cons, List.length_nil]; decide) (Nat.le_of_ble_eq_true rfl) h0
theorem Model_caller_44 (l0 : Value) (l1 : Value) (l2 : Value) (y0 : Int32) (w : Wd) (I : MI) (L : ML) (P : MP)  : go 175 44 [l0, l1, l2] [.int y0] w I L P = some (.inl (some (.int y0)), w, I, L, P) := by
  exact go_retI (m := 175) (pc := 44) (by decide +kernel) rfl
theorem Model_caller_E (this : Nat) (p0 : Int32) (p1 : Int32) (w : Wd) (I : MI) (L : ML) (P : MP) : call 175 [.ref this, .int p0, .int p1] w I L P = go 175 0 [.ref this, .int p0, .int p1] [] w I L P := rfl
theorem Model_message_0 (a_l0 : Nat) (x_l1 : Int32) (l2 : Value) (l3 : Value) (w : Wd) (I : MI) (L : ML) (P : MP) (h0 : w.1 a_l0 = some (7, 0)) : go 176 0 [.ref a_l0, .int x_l1, l2, l3] [] w I L P = kC (call 131 [.ref a_l0, .int x_l1] w I L P) (fun v w1 I1 L1 P1 => go 176 5 [.ref a_l0, .int x_l1, l2, l3] (v.toList ++ []) w1 I1 L1 P1) := by
  refine (go_aload_n (m := 176) (pc := 0) (k := 0) (by decide +kernel) rfl).trans ?_
  refine (go_iload_n (m := 176) (pc := 1) (k := 1) (by decide +kernel) rfl).trans ?_
  exact go_vir (m := 176) (pc := 2) (o := 7) (x := 145) (y := 131) (kd := 0) (b := a_l0) (bs := [.int x_l1]) (rs := []) (by decide +kernel) rfl rfl c_7_145 (Or.inl rfl) rfl rfl rfl (by decide +kernel) (by simp only [List.length_cons, List.length_nil]; decide) (Nat.le_of_ble_eq_true rfl) h0
theorem Model_message_5 (l0 : Value) (l1 : Value) (l2 : Value) (l3 : Value) (y0 : Int32) (w : Wd) (I : MI) (L : ML) (P : MP)  : go 176 5 [l0, l1, l2, l3] [.int y0] w I L P = if y0 = 0 then go 176 26 [l0, l1, l2, l3] [] w I L P else go 176 8 [l0, l1, l2, l3] [] w I L P := by
  exact go_ifeq (m := 176) (pc := 5) (off := 21) (t := 26) (by decide +kernel) (by decide)
theorem Model_message_8 (a_l0 : Nat) (x_l1 : Int32) (x_l2 : Int32) (l3 : Value) (w : Wd) (I : MI) (L : ML) (P : MP) (h0 : w.1 a_l0 = some (7, 0)) : go 176 8 [.ref a_l0, .int x_l1, .int x_l2, l3] [] w I L P = kC (call 126 [.ref a_l0, .int x_l1, .int (nI 0)] w I L P) (fun v w1 I1 L1 P1 => go 176 17 [.ref a_l0, .int x_l1, .int x_l2, l3] (v.toList ++ [.long 0, .long (Int32.toInt64 x_l2)]) w1 I1 L1 P1) := by
  refine (go_iload_n (m := 176) (pc := 8) (k := 2) (by decide +kernel) rfl).trans ?_
  refine (go_i2l (m := 176) (pc := 9) (by decide +kernel)).trans ?_
  refine (go_lc (m := 176) (pc := 10) (n := 0) (v := 0) (by decide +kernel) rfl).trans ?_
  refine (go_aload_n (m := 176) (pc := 11) (k := 0) (by decide +kernel) rfl).trans ?_
  refine (go_iload_n (m := 176) (pc := 12) (k := 1) (by decide +kernel) rfl).trans ?_
  refine (go_ic (m := 176) (pc := 13) (n := 0) (by decide +kernel) ic_0).trans ?_
  exact go_vir (m := 176) (pc := 14) (o := 7) (x := 102) (y := 126) (kd := 0) (b := a_l0) (bs := [.int x_l1, .int (nI 0)]) (rs := [.long 0, .long (Int32.toInt64 x_l2)]) (by decide +kernel) rfl rfl c_7_102 (Or.inl rfl) rfl rfl rfl (by decide +kernel) (by simp only [List.length_cons, List.length_nil]; decide) (Nat.le_of_ble_eq_true rfl) h0
theorem Model_message_17 (l0 : Value) (l1 : Value) (l2 : Value) (l3 : Value) (y0 : Int64) (y1 : Int64) (y2 : Int32) (w : Wd) (I : MI) (L : ML) (P : MP)  : go 176 17 [l0, l1, l2, l3] [.int y2, .long y1, .long y0] w I L P = kC (call 124 [.long y0, .long y1, .long (Int32.toInt64 (y2 - (nI 1)))] w I L P) (fun v w1 I1 L1 P1 => go 176 23 [l0, l1, l2, l3] (v.toList ++ []) w1 I1 L1 P1) := by
  refine (go_ic (m := 176) (pc := 17) (n := 1) (by decide +kernel) ic_1).trans ?_
  refine (go_isub (m := 176) (pc := 18) (by decide +kernel)).trans ?_
  refine (go_i2l (m := 176) (pc := 19) (by decide +kernel)).trans ?_
  exact go_sta (m := 176) (pc := 20) (o := 7) (x := 30) (y := 124) (kd := 2) (as := [.long y0, .long y1, .long (Int32.toInt64 (y2 - (nI 1)))]) (rs := []) (by decide +kernel) rfl rfl c_7_30 (Or.inl rfl) rfl rfl rfl (by decide +kernel) (by simp only [List.length_cons, List.length_nil]; decide) (Nat.le_of_ble_eq_true rfl)
theorem Model_message_23 (l0 : Value) (l1 : Value) (l2 : Value) (l3 : Value) (y0 : Int32) (w : Wd) (I : MI) (L : ML) (P : MP)  : go 176 23 [l0, l1, l2, l3] [.int y0] w I L P = if y0 ≠ 0 then go 176 32 [l0, l1, l2, l3] [] w I L P else go 176 26 [l0, l1, l2, l3] [] w I L P := by
  exact go_ifne (m := 176) (pc := 23) (off := 9) (t := 32) (by decide +kernel) (by decide)
theorem Model_message_26 (a_l0 : Nat) (l1 : Value) (l2 : Value) (l3 : Value) (w : Wd) (I : MI) (L : ML) (P : MP) (h0 : w.1 a_l0 = some (7, 0)) : go 176 26 [.ref a_l0, l1, l2, l3] [] w I L P = kC (call 122 [.ref a_l0, .int (nI 1)] w I L P) (fun v w1 I1 L1 P1 => go 176 31 [.ref a_l0, l1, l2, l3] (v.toList ++ []) w1 I1 L1 P1) := by
  refine (go_aload_n (m := 176) (pc := 26) (k := 0) (by decide +kernel) rfl).trans ?_
  refine (go_ic (m := 176) (pc := 27) (n := 1) (by decide +kernel) ic_1).trans ?_
  exact go_vir (m := 176) (pc := 28) (o := 7) (x := 37) (y := 122) (kd := 0) (b := a_l0) (bs := [.int (nI 1)]) (rs := []) (by decide +kernel) rfl rfl c_7_37 (Or.inl rfl) rfl rfl rfl (by decide +kernel) (by simp only [List.length_cons, List.length_nil]; decide) (Nat.le_of_ble_eq_true rfl) h0
theorem Model_message_31 (l0 : Value) (l1 : Value) (l2 : Value) (l3 : Value) (y0 : Int32) (w : Wd) (I : MI) (L : ML) (P : MP)  : go 176 31 [l0, l1, l2, l3] [.int y0] w I L P = some (.inl (some (.int y0)), w, I, L, P) := by
  exact go_retI (m := 176) (pc := 31) (by decide +kernel) rfl
theorem Model_message_32 (l0 : Value) (l1 : Value) (l2 : Value) (x_l3 : Int32) (w : Wd) (I : MI) (L : ML) (P : MP)  : go 176 32 [l0, l1, l2, .int x_l3] [] w I L P = kC (call 124 [.long (Int32.toInt64 x_l3), .long 0, .long 7] w I L P) (fun v w1 I1 L1 P1 => go 176 41 [l0, l1, l2, .int x_l3] (v.toList ++ []) w1 I1 L1 P1) := by
  refine (go_iload_n (m := 176) (pc := 32) (k := 3) (by decide +kernel) rfl).trans ?_
  refine (go_i2l (m := 176) (pc := 33) (by decide +kernel)).trans ?_
  refine (go_lc (m := 176) (pc := 34) (n := 0) (v := 0) (by decide +kernel) rfl).trans ?_
  refine (go_ldc2 (m := 176) (pc := 35) (o := 7) (x := 189) (v := 7) (by decide +kernel) rfl (by decide +kernel)).trans ?_
  exact go_sta (m := 176) (pc := 38) (o := 7) (x := 30) (y := 124) (kd := 2) (as := [.long (Int32.toInt64 x_l3), .long 0, .long 7]) (rs := []) (by decide +kernel) rfl rfl c_7_30 (Or.inl rfl) rfl rfl rfl (by decide +kernel) (by simp only [List.length_cons, List.length_nil]; decide) (Nat.le_of_ble_eq_true rfl)
theorem Model_message_41 (l0 : Value) (l1 : Value) (l2 : Value) (l3 : Value) (y0 : Int32) (w : Wd) (I : MI) (L : ML) (P : MP)  : go 176 41 [l0, l1, l2, l3] [.int y0] w I L P = if y0 = 0 then go 176 58 [l0, l1, l2, l3] [] w I L P else go 176 44 [l0, l1, l2, l3] [] w I L P := by
  exact go_ifeq (m := 176) (pc := 41) (off := 17) (t := 58) (by decide +kernel) (by decide)
theorem Model_message_44 (a_l0 : Nat) (x_l1 : Int32) (x_l2 : Int32) (x_l3 : Int32) (w : Wd) (I : MI) (L : ML) (P : MP) (h0 : w.1 a_l0 = some (7, 0)) : go 176 44 [.ref a_l0, .int x_l1, .int x_l2, .int x_l3] [] w I L P = kC (call 128 [.ref a_l0, .int x_l1, .int x_l2, .int x_l3] w I L P) (fun v w1 I1 L1 P1 => go 176 52 [.ref a_l0, .int x_l1, .int x_l2, .int x_l3] (v.toList ++ [.ref a_l0]) w1 I1 L1 P1) := by
  refine (go_aload_n (m := 176) (pc := 44) (k := 0) (by decide +kernel) rfl).trans ?_
  refine (go_aload_n (m := 176) (pc := 45) (k := 0) (by decide +kernel) rfl).trans ?_
  refine (go_iload_n (m := 176) (pc := 46) (k := 1) (by decide +kernel) rfl).trans ?_
  refine (go_iload_n (m := 176) (pc := 47) (k := 2) (by decide +kernel) rfl).trans ?_
  refine (go_iload_n (m := 176) (pc := 48) (k := 3) (by decide +kernel) rfl).trans ?_
  exact go_vir (m := 176) (pc := 49) (o := 7) (x := 50) (y := 128) (kd := 0) (b := a_l0) (bs := [.int x_l1, .int x_l2, .int x_l3]) (rs := [.ref a_l0]) (by decide +kernel) rfl rfl c_7_50 (Or.inl rfl) rfl rfl rfl (by decide +kernel) (by simp only [List.length_cons, List.length_nil]; decide) (Nat.le_of_ble_eq_true rfl) h0
theorem Model_message_52 (l0 : Value) (l1 : Value) (l2 : Value) (l3 : Value) (a_s0 : Nat) (y1 : Int32) (w : Wd) (I : MI) (L : ML) (P : MP) (h0 : w.1 a_s0 = some (7, 0)) : go 176 52 [l0, l1, l2, l3] [.int y1, .ref a_s0] w I L P = kC (call 123 [.ref a_s0, .int y1] w I L P) (fun v w1 I1 L1 P1 => go 176 55 [l0, l1, l2, l3] (v.toList ++ []) w1 I1 L1 P1) := by
  exact go_vir (m := 176) (pc := 52) (o := 7) (x := 47) (y := 123) (kd := 0) (b := a_s0) (bs := [.int y1]) (rs := []) (by decide +kernel) rfl rfl c_7_47 (Or.inl rfl) rfl rfl rfl (by decide +kernel) (by simp only [List.length_cons, List.length_nil]; decide) (Nat.le_of_ble_eq_true rfl) h0
theorem Model_message_55 (l0 : Value) (l1 : Value) (l2 : Value) (l3 : Value) (y0 : Int32) (w : Wd) (I : MI) (L : ML) (P : MP)  : go 176 55 [l0, l1, l2, l3] [.int y0] w I L P = go 176 63 [l0, l1, l2, l3] [.int y0] w I L P := by
  refine (go_goto (m := 176) (pc := 55) (off := 8) (t := 63) (by decide +kernel) (by decide)).trans ?_
  rfl
theorem Model_message_58 (a_l0 : Nat) (l1 : Value) (l2 : Value) (l3 : Value) (w : Wd) (I : MI) (L : ML) (P : MP) (h0 : w.1 a_l0 = some (7, 0)) : go 176 58 [.ref a_l0, l1, l2, l3] [] w I L P = kC (call 122 [.ref a_l0, .int (nI 2)] w I L P) (fun v w1 I1 L1 P1 => go 176 63 [.ref a_l0, l1, l2, l3] (v.toList ++ []) w1 I1 L1 P1) := by
  refine (go_aload_n (m := 176) (pc := 58) (k := 0) (by decide +kernel) rfl).trans ?_
  refine (go_ic (m := 176) (pc := 59) (n := 2) (by decide +kernel) ic_2).trans ?_
  exact go_vir (m := 176) (pc := 60) (o := 7) (x := 37) (y := 122) (kd := 0) (b := a_l0) (bs := [.int (nI 2)]) (rs := []) (by decide +kernel) rfl rfl c_7_37 (Or.inl rfl) rfl rfl rfl (by decide +kernel) (by simp only [List.length_cons, List.length_nil]; decide) (Nat.le_of_ble_eq_true rfl) h0
theorem Model_message_63 (l0 : Value) (l1 : Value) (l2 : Value) (l3 : Value) (y0 : Int32) (w : Wd) (I : MI) (L : ML) (P : MP)  : go 176 63 [l0, l1, l2, l3] [.int y0] w I L P = some (.inl (some (.int y0)), w, I, L, P) := by
  exact go_retI (m := 176) (pc := 63) (by decide +kernel) rfl
theorem Model_message_E (this : Nat) (p0 : Int32) (p1 : Int32) (p2 : Int32) (w : Wd) (I : MI) (L : ML) (P : MP) : call 176 [.ref this, .int p0, .int p1, .int p2] w I L P = go 176 0 [.ref this, .int p0, .int p1, .int p2] [] w I L P := rfl
theorem Model_listener_0 (a_l0 : Nat) (x_l1 : Int32) (l2 : Value) (w : Wd) (I : MI) (L : ML) (P : MP) (h0 : w.1 a_l0 = some (7, 0)) : go 177 0 [.ref a_l0, .int x_l1, l2] [] w I L P = kC (call 132 [.ref a_l0, .int x_l1] w I L P) (fun v w1 I1 L1 P1 => go 177 5 [.ref a_l0, .int x_l1, l2] (v.toList ++ []) w1 I1 L1 P1) := by
  refine (go_aload_n (m := 177) (pc := 0) (k := 0) (by decide +kernel) rfl).trans ?_
  refine (go_iload_n (m := 177) (pc := 1) (k := 1) (by decide +kernel) rfl).trans ?_
  exact go_vir (m := 177) (pc := 2) (o := 7) (x := 165) (y := 132) (kd := 0) (b := a_l0) (bs := [.int x_l1]) (rs := []) (by decide +kernel) rfl rfl c_7_165 (Or.inl rfl) rfl rfl rfl (by decide +kernel) (by simp only [List.length_cons, List.length_nil]; decide) (Nat.le_of_ble_eq_true rfl) h0
theorem Model_listener_5 (l0 : Value) (l1 : Value) (l2 : Value) (y0 : Int32) (w : Wd) (I : MI) (L : ML) (P : MP)  : go 177 5 [l0, l1, l2] [.int y0] w I L P = if y0 ≠ 0 then go 177 14 [l0, l1, l2] [] w I L P else go 177 8 [l0, l1, l2] [] w I L P := by
  exact go_ifne (m := 177) (pc := 5) (off := 9) (t := 14) (by decide +kernel) (by decide)
theorem Model_listener_8 (a_l0 : Nat) (l1 : Value) (l2 : Value) (w : Wd) (I : MI) (L : ML) (P : MP) (h0 : w.1 a_l0 = some (7, 0)) : go 177 8 [.ref a_l0, l1, l2] [] w I L P = kC (call 122 [.ref a_l0, .int (nI 1)] w I L P) (fun v w1 I1 L1 P1 => go 177 13 [.ref a_l0, l1, l2] (v.toList ++ []) w1 I1 L1 P1) := by
  refine (go_aload_n (m := 177) (pc := 8) (k := 0) (by decide +kernel) rfl).trans ?_
  refine (go_ic (m := 177) (pc := 9) (n := 1) (by decide +kernel) ic_1).trans ?_
  exact go_vir (m := 177) (pc := 10) (o := 7) (x := 37) (y := 122) (kd := 0) (b := a_l0) (bs := [.int (nI 1)]) (rs := []) (by decide +kernel) rfl rfl c_7_37 (Or.inl rfl) rfl rfl rfl (by decide +kernel) (by simp only [List.length_cons, List.length_nil]; decide) (Nat.le_of_ble_eq_true rfl) h0
theorem Model_listener_13 (l0 : Value) (l1 : Value) (l2 : Value) (y0 : Int32) (w : Wd) (I : MI) (L : ML) (P : MP)  : go 177 13 [l0, l1, l2] [.int y0] w I L P = some (.inl (some (.int y0)), w, I, L, P) := by
  exact go_retI (m := 177) (pc := 13) (by decide +kernel) rfl
theorem Model_listener_14 (l0 : Value) (l1 : Value) (x_l2 : Int32) (w : Wd) (I : MI) (L : ML) (P : MP)  : go 177 14 [l0, l1, .int x_l2] [] w I L P = kC (call 124 [.long (Int32.toInt64 x_l2), .long 0, .long 5] w I L P) (fun v w1 I1 L1 P1 => go 177 23 [l0, l1, .int x_l2] (v.toList ++ []) w1 I1 L1 P1) := by
  refine (go_iload_n (m := 177) (pc := 14) (k := 2) (by decide +kernel) rfl).trans ?_
  refine (go_i2l (m := 177) (pc := 15) (by decide +kernel)).trans ?_
  refine (go_lc (m := 177) (pc := 16) (n := 0) (v := 0) (by decide +kernel) rfl).trans ?_
  refine (go_ldc2 (m := 177) (pc := 17) (o := 7) (x := 191) (v := 5) (by decide +kernel) rfl (by decide +kernel)).trans ?_
  exact go_sta (m := 177) (pc := 20) (o := 7) (x := 30) (y := 124) (kd := 2) (as := [.long (Int32.toInt64 x_l2), .long 0, .long 5]) (rs := []) (by decide +kernel) rfl rfl c_7_30 (Or.inl rfl) rfl rfl rfl (by decide +kernel) (by simp only [List.length_cons, List.length_nil]; decide) (Nat.le_of_ble_eq_true rfl)
theorem Model_listener_23 (l0 : Value) (l1 : Value) (l2 : Value) (y0 : Int32) (w : Wd) (I : MI) (L : ML) (P : MP)  : go 177 23 [l0, l1, l2] [.int y0] w I L P = if y0 = 0 then go 177 39 [l0, l1, l2] [] w I L P else go 177 26 [l0, l1, l2] [] w I L P := by
  exact go_ifeq (m := 177) (pc := 23) (off := 16) (t := 39) (by decide +kernel) (by decide)
theorem Model_listener_26 (a_l0 : Nat) (x_l1 : Int32) (x_l2 : Int32) (w : Wd) (I : MI) (L : ML) (P : MP) (h0 : w.1 a_l0 = some (7, 0)) : go 177 26 [.ref a_l0, .int x_l1, .int x_l2] [] w I L P = kC (call 129 [.ref a_l0, .int x_l1, .int x_l2] w I L P) (fun v w1 I1 L1 P1 => go 177 33 [.ref a_l0, .int x_l1, .int x_l2] (v.toList ++ [.ref a_l0]) w1 I1 L1 P1) := by
  refine (go_aload_n (m := 177) (pc := 26) (k := 0) (by decide +kernel) rfl).trans ?_
  refine (go_aload_n (m := 177) (pc := 27) (k := 0) (by decide +kernel) rfl).trans ?_
  refine (go_iload_n (m := 177) (pc := 28) (k := 1) (by decide +kernel) rfl).trans ?_
  refine (go_iload_n (m := 177) (pc := 29) (k := 2) (by decide +kernel) rfl).trans ?_
  exact go_vir (m := 177) (pc := 30) (o := 7) (x := 76) (y := 129) (kd := 0) (b := a_l0) (bs := [.int x_l1, .int x_l2]) (rs := [.ref a_l0]) (by decide +kernel) rfl rfl c_7_76 (Or.inl rfl) rfl rfl rfl (by decide +kernel) (by simp only [List.length_cons, List.length_nil]; decide) (Nat.le_of_ble_eq_true rfl) h0
theorem Model_listener_33 (l0 : Value) (l1 : Value) (l2 : Value) (a_s0 : Nat) (y1 : Int32) (w : Wd) (I : MI) (L : ML) (P : MP) (h0 : w.1 a_s0 = some (7, 0)) : go 177 33 [l0, l1, l2] [.int y1, .ref a_s0] w I L P = kC (call 123 [.ref a_s0, .int y1] w I L P) (fun v w1 I1 L1 P1 => go 177 36 [l0, l1, l2] (v.toList ++ []) w1 I1 L1 P1) := by
  exact go_vir (m := 177) (pc := 33) (o := 7) (x := 47) (y := 123) (kd := 0) (b := a_s0) (bs := [.int y1]) (rs := []) (by decide +kernel) rfl rfl c_7_47 (Or.inl rfl) rfl rfl rfl (by decide +kernel) (by simp only [List.length_cons, List.length_nil]; decide) (Nat.le_of_ble_eq_true rfl) h0
theorem Model_listener_36 (l0 : Value) (l1 : Value) (l2 : Value) (y0 : Int32) (w : Wd) (I : MI) (L : ML) (P : MP)  : go 177 36 [l0, l1, l2] [.int y0] w I L P = go 177 44 [l0, l1, l2] [.int y0] w I L P := by
  refine (go_goto (m := 177) (pc := 36) (off := 8) (t := 44) (by decide +kernel) (by decide)).trans ?_
  rfl
theorem Model_listener_39 (a_l0 : Nat) (l1 : Value) (l2 : Value) (w : Wd) (I : MI) (L : ML) (P : MP) (h0 : w.1 a_l0 = some (7, 0)) : go 177 39 [.ref a_l0, l1, l2] [] w I L P = kC (call 122 [.ref a_l0, .int (nI 2)] w I L P) (fun v w1 I1 L1 P1 => go 177 44 [.ref a_l0, l1, l2] (v.toList ++ []) w1 I1 L1 P1) := by
  refine (go_aload_n (m := 177) (pc := 39) (k := 0) (by decide +kernel) rfl).trans ?_
  refine (go_ic (m := 177) (pc := 40) (n := 2) (by decide +kernel) ic_2).trans ?_
  exact go_vir (m := 177) (pc := 41) (o := 7) (x := 37) (y := 122) (kd := 0) (b := a_l0) (bs := [.int (nI 2)]) (rs := []) (by decide +kernel) rfl rfl c_7_37 (Or.inl rfl) rfl rfl rfl (by decide +kernel) (by simp only [List.length_cons, List.length_nil]; decide) (Nat.le_of_ble_eq_true rfl) h0
theorem Model_listener_44 (l0 : Value) (l1 : Value) (l2 : Value) (y0 : Int32) (w : Wd) (I : MI) (L : ML) (P : MP)  : go 177 44 [l0, l1, l2] [.int y0] w I L P = some (.inl (some (.int y0)), w, I, L, P) := by
  exact go_retI (m := 177) (pc := 44) (by decide +kernel) rfl
theorem Model_listener_E (this : Nat) (p0 : Int32) (p1 : Int32) (w : Wd) (I : MI) (L : ML) (P : MP) : call 177 [.ref this, .int p0, .int p1] w I L P = go 177 0 [.ref this, .int p0, .int p1] [] w I L P := rfl
theorem Model_memory_0 (a_l0 : Nat) (x_l1 : Int32) (l2 : Value) (w : Wd) (I : MI) (L : ML) (P : MP) (h0 : w.1 a_l0 = some (7, 0)) : go 178 0 [.ref a_l0, .int x_l1, l2] [] w I L P = kC (call 132 [.ref a_l0, .int x_l1] w I L P) (fun v w1 I1 L1 P1 => go 178 5 [.ref a_l0, .int x_l1, l2] (v.toList ++ []) w1 I1 L1 P1) := by
  refine (go_aload_n (m := 178) (pc := 0) (k := 0) (by decide +kernel) rfl).trans ?_
  refine (go_iload_n (m := 178) (pc := 1) (k := 1) (by decide +kernel) rfl).trans ?_
  exact go_vir (m := 178) (pc := 2) (o := 7) (x := 165) (y := 132) (kd := 0) (b := a_l0) (bs := [.int x_l1]) (rs := []) (by decide +kernel) rfl rfl c_7_165 (Or.inl rfl) rfl rfl rfl (by decide +kernel) (by simp only [List.length_cons, List.length_nil]; decide) (Nat.le_of_ble_eq_true rfl) h0
theorem Model_memory_5 (l0 : Value) (l1 : Value) (l2 : Value) (y0 : Int32) (w : Wd) (I : MI) (L : ML) (P : MP)  : go 178 5 [l0, l1, l2] [.int y0] w I L P = if y0 = 0 then go 178 26 [l0, l1, l2] [] w I L P else go 178 8 [l0, l1, l2] [] w I L P := by
  exact go_ifeq (m := 178) (pc := 5) (off := 21) (t := 26) (by decide +kernel) (by decide)
theorem Model_memory_8 (a_l0 : Nat) (x_l1 : Int32) (x_l2 : Int32) (w : Wd) (I : MI) (L : ML) (P : MP) (h0 : w.1 a_l0 = some (7, 0)) : go 178 8 [.ref a_l0, .int x_l1, .int x_l2] [] w I L P = kC (call 129 [.ref a_l0, .int x_l1, .int (nI 2)] w I L P) (fun v w1 I1 L1 P1 => go 178 17 [.ref a_l0, .int x_l1, .int x_l2] (v.toList ++ [.long 0, .long (Int32.toInt64 x_l2)]) w1 I1 L1 P1) := by
  refine (go_iload_n (m := 178) (pc := 8) (k := 2) (by decide +kernel) rfl).trans ?_
  refine (go_i2l (m := 178) (pc := 9) (by decide +kernel)).trans ?_
  refine (go_lc (m := 178) (pc := 10) (n := 0) (v := 0) (by decide +kernel) rfl).trans ?_
  refine (go_aload_n (m := 178) (pc := 11) (k := 0) (by decide +kernel) rfl).trans ?_
  refine (go_iload_n (m := 178) (pc := 12) (k := 1) (by decide +kernel) rfl).trans ?_
  refine (go_ic (m := 178) (pc := 13) (n := 2) (by decide +kernel) ic_2).trans ?_
  exact go_vir (m := 178) (pc := 14) (o := 7) (x := 76) (y := 129) (kd := 0) (b := a_l0) (bs := [.int x_l1, .int (nI 2)]) (rs := [.long 0, .long (Int32.toInt64 x_l2)]) (by decide +kernel) rfl rfl c_7_76 (Or.inl rfl) rfl rfl rfl (by decide +kernel) (by simp only [List.length_cons, List.length_nil]; decide) (Nat.le_of_ble_eq_true rfl) h0
theorem Model_memory_17 (l0 : Value) (l1 : Value) (l2 : Value) (y0 : Int64) (y1 : Int64) (y2 : Int32) (w : Wd) (I : MI) (L : ML) (P : MP)  : go 178 17 [l0, l1, l2] [.int y2, .long y1, .long y0] w I L P = kC (call 124 [.long y0, .long y1, .long (Int32.toInt64 (y2 - (nI 1)))] w I L P) (fun v w1 I1 L1 P1 => go 178 23 [l0, l1, l2] (v.toList ++ []) w1 I1 L1 P1) := by
  refine (go_ic (m := 178) (pc := 17) (n := 1) (by decide +kernel) ic_1).trans ?_
  refine (go_isub (m := 178) (pc := 18) (by decide +kernel)).trans ?_
  refine (go_i2l (m := 178) (pc := 19) (by decide +kernel)).trans ?_
  exact go_sta (m := 178) (pc := 20) (o := 7) (x := 30) (y := 124) (kd := 2) (as := [.long y0, .long y1, .long (Int32.toInt64 (y2 - (nI 1)))]) (rs := []) (by decide +kernel) rfl rfl c_7_30 (Or.inl rfl) rfl rfl rfl (by decide +kernel) (by simp only [List.length_cons, List.length_nil]; decide) (Nat.le_of_ble_eq_true rfl)
theorem Model_memory_23 (l0 : Value) (l1 : Value) (l2 : Value) (y0 : Int32) (w : Wd) (I : MI) (L : ML) (P : MP)  : go 178 23 [l0, l1, l2] [.int y0] w I L P = if y0 ≠ 0 then go 178 32 [l0, l1, l2] [] w I L P else go 178 26 [l0, l1, l2] [] w I L P := by
  exact go_ifne (m := 178) (pc := 23) (off := 9) (t := 32) (by decide +kernel) (by decide)
theorem Model_memory_26 (a_l0 : Nat) (l1 : Value) (l2 : Value) (w : Wd) (I : MI) (L : ML) (P : MP) (h0 : w.1 a_l0 = some (7, 0)) : go 178 26 [.ref a_l0, l1, l2] [] w I L P = kC (call 122 [.ref a_l0, .int (nI 1)] w I L P) (fun v w1 I1 L1 P1 => go 178 31 [.ref a_l0, l1, l2] (v.toList ++ []) w1 I1 L1 P1) := by
  refine (go_aload_n (m := 178) (pc := 26) (k := 0) (by decide +kernel) rfl).trans ?_
  refine (go_ic (m := 178) (pc := 27) (n := 1) (by decide +kernel) ic_1).trans ?_
  exact go_vir (m := 178) (pc := 28) (o := 7) (x := 37) (y := 122) (kd := 0) (b := a_l0) (bs := [.int (nI 1)]) (rs := []) (by decide +kernel) rfl rfl c_7_37 (Or.inl rfl) rfl rfl rfl (by decide +kernel) (by simp only [List.length_cons, List.length_nil]; decide) (Nat.le_of_ble_eq_true rfl) h0
theorem Model_memory_31 (l0 : Value) (l1 : Value) (l2 : Value) (y0 : Int32) (w : Wd) (I : MI) (L : ML) (P : MP)  : go 178 31 [l0, l1, l2] [.int y0] w I L P = some (.inl (some (.int y0)), w, I, L, P) := by
  exact go_retI (m := 178) (pc := 31) (by decide +kernel) rfl
theorem Model_memory_32 (a_l0 : Nat) (x_l1 : Int32) (x_l2 : Int32) (w : Wd) (I : MI) (L : ML) (P : MP) (h0 : w.1 a_l0 = some (7, 0)) : go 178 32 [.ref a_l0, .int x_l1, .int x_l2] [] w I L P = kC (call 129 [.ref a_l0, .int x_l1, .int ((nI 6) + x_l2)] w I L P) (fun v w1 I1 L1 P1 => go 178 42 [.ref a_l0, .int x_l1, .int x_l2] (v.toList ++ [.ref a_l0]) w1 I1 L1 P1) := by
  refine (go_aload_n (m := 178) (pc := 32) (k := 0) (by decide +kernel) rfl).trans ?_
  refine (go_aload_n (m := 178) (pc := 33) (k := 0) (by decide +kernel) rfl).trans ?_
  refine (go_iload_n (m := 178) (pc := 34) (k := 1) (by decide +kernel) rfl).trans ?_
  refine (go_bi (m := 178) (pc := 35) (n := 6) (by decide +kernel) bi_6).trans ?_
  refine (go_iload_n (m := 178) (pc := 37) (k := 2) (by decide +kernel) rfl).trans ?_
  refine (go_iadd (m := 178) (pc := 38) (by decide +kernel)).trans ?_
  exact go_vir (m := 178) (pc := 39) (o := 7) (x := 76) (y := 129) (kd := 0) (b := a_l0) (bs := [.int x_l1, .int ((nI 6) + x_l2)]) (rs := [.ref a_l0]) (by decide +kernel) rfl rfl c_7_76 (Or.inl rfl) rfl rfl rfl (by decide +kernel) (by simp only [List.length_cons, List.length_nil]; decide) (Nat.le_of_ble_eq_true rfl) h0
theorem Model_memory_42 (l0 : Value) (l1 : Value) (l2 : Value) (a_s0 : Nat) (y1 : Int32) (w : Wd) (I : MI) (L : ML) (P : MP) (h0 : w.1 a_s0 = some (7, 0)) : go 178 42 [l0, l1, l2] [.int y1, .ref a_s0] w I L P = kC (call 123 [.ref a_s0, .int y1] w I L P) (fun v w1 I1 L1 P1 => go 178 45 [l0, l1, l2] (v.toList ++ []) w1 I1 L1 P1) := by
  exact go_vir (m := 178) (pc := 42) (o := 7) (x := 47) (y := 123) (kd := 0) (b := a_s0) (bs := [.int y1]) (rs := []) (by decide +kernel) rfl rfl c_7_47 (Or.inl rfl) rfl rfl rfl (by decide +kernel) (by simp only [List.length_cons, List.length_nil]; decide) (Nat.le_of_ble_eq_true rfl) h0
theorem Model_memory_45 (l0 : Value) (l1 : Value) (l2 : Value) (y0 : Int32) (w : Wd) (I : MI) (L : ML) (P : MP)  : go 178 45 [l0, l1, l2] [.int y0] w I L P = some (.inl (some (.int y0)), w, I, L, P) := by
  exact go_retI (m := 178) (pc := 45) (by decide +kernel) rfl
theorem Model_memory_E (this : Nat) (p0 : Int32) (p1 : Int32) (w : Wd) (I : MI) (L : ML) (P : MP) : call 178 [.ref this, .int p0, .int p1] w I L P = go 178 0 [.ref this, .int p0, .int p1] [] w I L P := rfl
theorem Model_number_0 (l0 : Value) (x_l1 : Int32) (w : Wd) (I : MI) (L : ML) (P : MP)  : go 179 0 [l0, .int x_l1] [] w I L P = go 179 1 [l0, .int x_l1] [.int x_l1] w I L P := by
  refine (go_iload_n (m := 179) (pc := 0) (k := 1) (by decide +kernel) rfl).trans ?_
  rfl
theorem Model_number_1_k0 (l0 : Value) (l1 : Value) (w : Wd) (I : MI) (L : ML) (P : MP) : go 179 1 [l0, l1] [.int (nI 0)] w I L P = go 179 52 [l0, l1] [] w I L P := go_tsI (m := 179) (pc := 1) (z := 0) (off := 51) (t := 52) (dflt := 104) (lo := 0) (hi := 8) (offs := #[51, 51, 51, 51, 58, 73, 80, 88, 96]) (len := 51) (by decide +kernel) (by decide) (by decide) (by decide) (by decide) (by decide)
theorem Model_number_1_k1 (l0 : Value) (l1 : Value) (w : Wd) (I : MI) (L : ML) (P : MP) : go 179 1 [l0, l1] [.int (nI 1)] w I L P = go 179 52 [l0, l1] [] w I L P := go_tsI (m := 179) (pc := 1) (z := 1) (off := 51) (t := 52) (dflt := 104) (lo := 0) (hi := 8) (offs := #[51, 51, 51, 51, 58, 73, 80, 88, 96]) (len := 51) (by decide +kernel) (by decide) (by decide) (by decide) (by decide) (by decide)
theorem Model_number_1_k2 (l0 : Value) (l1 : Value) (w : Wd) (I : MI) (L : ML) (P : MP) : go 179 1 [l0, l1] [.int (nI 2)] w I L P = go 179 52 [l0, l1] [] w I L P := go_tsI (m := 179) (pc := 1) (z := 2) (off := 51) (t := 52) (dflt := 104) (lo := 0) (hi := 8) (offs := #[51, 51, 51, 51, 58, 73, 80, 88, 96]) (len := 51) (by decide +kernel) (by decide) (by decide) (by decide) (by decide) (by decide)
theorem Model_number_1_k3 (l0 : Value) (l1 : Value) (w : Wd) (I : MI) (L : ML) (P : MP) : go 179 1 [l0, l1] [.int (nI 3)] w I L P = go 179 52 [l0, l1] [] w I L P := go_tsI (m := 179) (pc := 1) (z := 3) (off := 51) (t := 52) (dflt := 104) (lo := 0) (hi := 8) (offs := #[51, 51, 51, 51, 58, 73, 80, 88, 96]) (len := 51) (by decide +kernel) (by decide) (by decide) (by decide) (by decide) (by decide)
theorem Model_number_1_k4 (l0 : Value) (l1 : Value) (w : Wd) (I : MI) (L : ML) (P : MP) : go 179 1 [l0, l1] [.int (nI 4)] w I L P = go 179 59 [l0, l1] [] w I L P := go_tsI (m := 179) (pc := 1) (z := 4) (off := 58) (t := 59) (dflt := 104) (lo := 0) (hi := 8) (offs := #[51, 51, 51, 51, 58, 73, 80, 88, 96]) (len := 51) (by decide +kernel) (by decide) (by decide) (by decide) (by decide) (by decide)
theorem Model_number_1_k5 (l0 : Value) (l1 : Value) (w : Wd) (I : MI) (L : ML) (P : MP) : go 179 1 [l0, l1] [.int (nI 5)] w I L P = go 179 74 [l0, l1] [] w I L P := go_tsI (m := 179) (pc := 1) (z := 5) (off := 73) (t := 74) (dflt := 104) (lo := 0) (hi := 8) (offs := #[51, 51, 51, 51, 58, 73, 80, 88, 96]) (len := 51) (by decide +kernel) (by decide) (by decide) (by decide) (by decide) (by decide)
theorem Model_number_1_k6 (l0 : Value) (l1 : Value) (w : Wd) (I : MI) (L : ML) (P : MP) : go 179 1 [l0, l1] [.int (nI 6)] w I L P = go 179 81 [l0, l1] [] w I L P := go_tsI (m := 179) (pc := 1) (z := 6) (off := 80) (t := 81) (dflt := 104) (lo := 0) (hi := 8) (offs := #[51, 51, 51, 51, 58, 73, 80, 88, 96]) (len := 51) (by decide +kernel) (by decide) (by decide) (by decide) (by decide) (by decide)
theorem Model_number_1_k7 (l0 : Value) (l1 : Value) (w : Wd) (I : MI) (L : ML) (P : MP) : go 179 1 [l0, l1] [.int (nI 7)] w I L P = go 179 89 [l0, l1] [] w I L P := go_tsI (m := 179) (pc := 1) (z := 7) (off := 88) (t := 89) (dflt := 104) (lo := 0) (hi := 8) (offs := #[51, 51, 51, 51, 58, 73, 80, 88, 96]) (len := 51) (by decide +kernel) (by decide) (by decide) (by decide) (by decide) (by decide)
theorem Model_number_1_k8 (l0 : Value) (l1 : Value) (w : Wd) (I : MI) (L : ML) (P : MP) : go 179 1 [l0, l1] [.int (nI 8)] w I L P = go 179 97 [l0, l1] [] w I L P := go_tsI (m := 179) (pc := 1) (z := 8) (off := 96) (t := 97) (dflt := 104) (lo := 0) (hi := 8) (offs := #[51, 51, 51, 51, 58, 73, 80, 88, 96]) (len := 51) (by decide +kernel) (by decide) (by decide) (by decide) (by decide) (by decide)
theorem Model_number_1_kd (l0 : Value) (l1 : Value) (w : Wd) (I : MI) (L : ML) (P : MP) (y : Int32) (h0 : y.toInt < 0 ∨ 8 < y.toInt) : go 179 1 [l0, l1] [.int y] w I L P = go 179 105 [l0, l1] [] w I L P := go_tsO (m := 179) (pc := 1) (t := 105) (dflt := 104) (lo := 0) (hi := 8) (offs := #[51, 51, 51, 51, 58, 73, 80, 88, 96]) (len := 51) (by decide +kernel) h0 (by decide)
theorem Model_number_52 (a_l0 : Nat) (l1 : Value) (w : Wd) (I : MI) (L : ML) (P : MP) (h0 : w.1 a_l0 = some (7, 0)) : go 179 52 [.ref a_l0, l1] [] w I L P = go 179 56 [.ref a_l0, l1] [(va_rf (P a_l0 0))] w I L P := by
  refine (go_aload_n (m := 179) (pc := 52) (k := 0) (by decide +kernel) rfl).trans ?_
  refine (go_getR (m := 179) (pc := 53) (o := 7) (x := 7) (ci := 7) (k := 0) (by decide +kernel) rfl f_7_7 rfl h0).trans ?_
  rfl
theorem Model_number_56 (l0 : Value) (x_l1 : Int32) (a_s0 : Nat) (w : Wd) (I : MI) (L : ML) (P : MP) (h0 : inA w a_s0 8 x_l1) : go 179 56 [l0, .int x_l1] [.ref a_s0] w I L P = some (.inl (some (.int (I a_s0 (Int32.toNatClampNeg x_l1)))), w, I, L, P) := by
  refine (go_iload_n (m := 179) (pc := 56) (k := 1) (by decide +kernel) rfl).trans ?_
  refine (go_iald (m := 179) (pc := 57) (by decide +kernel) h0).trans ?_
  exact go_retI (m := 179) (pc := 58) (by decide +kernel) rfl
theorem Model_number_59 (a_l0 : Nat) (l1 : Value) (w : Wd) (I : MI) (L : ML) (P : MP) (h0 : w.1 a_l0 = some (7, 0)) : go 179 59 [.ref a_l0, l1] [] w I L P = go 179 63 [.ref a_l0, l1] [(va_rf (P a_l0 0))] w I L P := by
  refine (go_aload_n (m := 179) (pc := 59) (k := 0) (by decide +kernel) rfl).trans ?_
  refine (go_getR (m := 179) (pc := 60) (o := 7) (x := 7) (ci := 7) (k := 0) (by decide +kernel) rfl f_7_7 rfl h0).trans ?_
  rfl
theorem Model_number_63 (l0 : Value) (l1 : Value) (a_s0 : Nat) (w : Wd) (I : MI) (L : ML) (P : MP) (h0 : inA w a_s0 8 (nI 4)) : go 179 63 [l0, l1] [.ref a_s0] w I L P = if (I a_s0 (Int32.toNatClampNeg (nI 4))) ≠ 0 then go 179 72 [l0, l1] [] w I L P else go 179 68 [l0, l1] [] w I L P := by
  refine (go_ic (m := 179) (pc := 63) (n := 4) (by decide +kernel) ic_4).trans ?_
  refine (go_iald (m := 179) (pc := 64) (by decide +kernel) h0).trans ?_
  exact go_ifne (m := 179) (pc := 65) (off := 7) (t := 72) (by decide +kernel) (by decide)
theorem Model_number_68 (l0 : Value) (l1 : Value) (w : Wd) (I : MI) (L : ML) (P : MP)  : go 179 68 [l0, l1] [] w I L P = go 179 73 [l0, l1] [.int (nI 1)] w I L P := by
  refine (go_ic (m := 179) (pc := 68) (n := 1) (by decide +kernel) ic_1).trans ?_
  refine (go_goto (m := 179) (pc := 69) (off := 4) (t := 73) (by decide +kernel) (by decide)).trans ?_
  rfl
theorem Model_number_72 (l0 : Value) (l1 : Value) (w : Wd) (I : MI) (L : ML) (P : MP)  : go 179 72 [l0, l1] [] w I L P = go 179 73 [l0, l1] [.int (nI 0)] w I L P := by
  refine (go_ic (m := 179) (pc := 72) (n := 0) (by decide +kernel) ic_0).trans ?_
  rfl
theorem Model_number_73 (l0 : Value) (l1 : Value) (y0 : Int32) (w : Wd) (I : MI) (L : ML) (P : MP)  : go 179 73 [l0, l1] [.int y0] w I L P = some (.inl (some (.int y0)), w, I, L, P) := by
  exact go_retI (m := 179) (pc := 73) (by decide +kernel) rfl
theorem Model_number_74 (a_l0 : Nat) (l1 : Value) (w : Wd) (I : MI) (L : ML) (P : MP) (h0 : w.1 a_l0 = some (7, 0)) : go 179 74 [.ref a_l0, l1] [] w I L P = go 179 78 [.ref a_l0, l1] [(va_rf (P a_l0 0))] w I L P := by
  refine (go_aload_n (m := 179) (pc := 74) (k := 0) (by decide +kernel) rfl).trans ?_
  refine (go_getR (m := 179) (pc := 75) (o := 7) (x := 7) (ci := 7) (k := 0) (by decide +kernel) rfl f_7_7 rfl h0).trans ?_
  rfl
theorem Model_number_78 (l0 : Value) (l1 : Value) (a_s0 : Nat) (w : Wd) (I : MI) (L : ML) (P : MP) (h0 : inA w a_s0 8 (nI 5)) : go 179 78 [l0, l1] [.ref a_s0] w I L P = some (.inl (some (.int (I a_s0 (Int32.toNatClampNeg (nI 5))))), w, I, L, P) := by
  refine (go_ic (m := 179) (pc := 78) (n := 5) (by decide +kernel) ic_5).trans ?_
  refine (go_iald (m := 179) (pc := 79) (by decide +kernel) h0).trans ?_
  exact go_retI (m := 179) (pc := 80) (by decide +kernel) rfl
theorem Model_number_81 (a_l0 : Nat) (l1 : Value) (w : Wd) (I : MI) (L : ML) (P : MP) (h0 : w.1 a_l0 = some (7, 0)) : go 179 81 [.ref a_l0, l1] [] w I L P = go 179 85 [.ref a_l0, l1] [(va_rf (P a_l0 0))] w I L P := by
  refine (go_aload_n (m := 179) (pc := 81) (k := 0) (by decide +kernel) rfl).trans ?_
  refine (go_getR (m := 179) (pc := 82) (o := 7) (x := 7) (ci := 7) (k := 0) (by decide +kernel) rfl f_7_7 rfl h0).trans ?_
  rfl
theorem Model_number_85 (l0 : Value) (l1 : Value) (a_s0 : Nat) (w : Wd) (I : MI) (L : ML) (P : MP) (h0 : inA w a_s0 8 (nI 10)) : go 179 85 [l0, l1] [.ref a_s0] w I L P = some (.inl (some (.int (I a_s0 (Int32.toNatClampNeg (nI 10))))), w, I, L, P) := by
  refine (go_bi (m := 179) (pc := 85) (n := 10) (by decide +kernel) bi_10).trans ?_
  refine (go_iald (m := 179) (pc := 87) (by decide +kernel) h0).trans ?_
  exact go_retI (m := 179) (pc := 88) (by decide +kernel) rfl
theorem Model_number_89 (a_l0 : Nat) (l1 : Value) (w : Wd) (I : MI) (L : ML) (P : MP) (h0 : w.1 a_l0 = some (7, 0)) : go 179 89 [.ref a_l0, l1] [] w I L P = go 179 93 [.ref a_l0, l1] [(va_rf (P a_l0 0))] w I L P := by
  refine (go_aload_n (m := 179) (pc := 89) (k := 0) (by decide +kernel) rfl).trans ?_
  refine (go_getR (m := 179) (pc := 90) (o := 7) (x := 7) (ci := 7) (k := 0) (by decide +kernel) rfl f_7_7 rfl h0).trans ?_
  rfl
theorem Model_number_93 (l0 : Value) (l1 : Value) (a_s0 : Nat) (w : Wd) (I : MI) (L : ML) (P : MP) (h0 : inA w a_s0 8 (nI 11)) : go 179 93 [l0, l1] [.ref a_s0] w I L P = some (.inl (some (.int (I a_s0 (Int32.toNatClampNeg (nI 11))))), w, I, L, P) := by
  refine (go_bi (m := 179) (pc := 93) (n := 11) (by decide +kernel) bi_11).trans ?_
  refine (go_iald (m := 179) (pc := 95) (by decide +kernel) h0).trans ?_
  exact go_retI (m := 179) (pc := 96) (by decide +kernel) rfl
theorem Model_number_97 (a_l0 : Nat) (l1 : Value) (w : Wd) (I : MI) (L : ML) (P : MP) (h0 : w.1 a_l0 = some (7, 0)) : go 179 97 [.ref a_l0, l1] [] w I L P = go 179 101 [.ref a_l0, l1] [(va_rf (P a_l0 0))] w I L P := by
  refine (go_aload_n (m := 179) (pc := 97) (k := 0) (by decide +kernel) rfl).trans ?_
  refine (go_getR (m := 179) (pc := 98) (o := 7) (x := 7) (ci := 7) (k := 0) (by decide +kernel) rfl f_7_7 rfl h0).trans ?_
  rfl
theorem Model_number_101 (l0 : Value) (l1 : Value) (a_s0 : Nat) (w : Wd) (I : MI) (L : ML) (P : MP) (h0 : inA w a_s0 8 (nI 8)) : go 179 101 [l0, l1] [.ref a_s0] w I L P = some (.inl (some (.int (I a_s0 (Int32.toNatClampNeg (nI 8))))), w, I, L, P) := by
  refine (go_bi (m := 179) (pc := 101) (n := 8) (by decide +kernel) bi_8).trans ?_
  refine (go_iald (m := 179) (pc := 103) (by decide +kernel) h0).trans ?_
  exact go_retI (m := 179) (pc := 104) (by decide +kernel) rfl
theorem Model_number_105 (a_l0 : Nat) (l1 : Value) (w : Wd) (I : MI) (L : ML) (P : MP) (h0 : w.1 a_l0 = some (7, 0)) : go 179 105 [.ref a_l0, l1] [] w I L P = go 179 109 [.ref a_l0, l1] [(va_rf (P a_l0 0))] w I L P := by
  refine (go_aload_n (m := 179) (pc := 105) (k := 0) (by decide +kernel) rfl).trans ?_
  refine (go_getR (m := 179) (pc := 106) (o := 7) (x := 7) (ci := 7) (k := 0) (by decide +kernel) rfl f_7_7 rfl h0).trans ?_
  rfl
theorem Model_number_109 (l0 : Value) (l1 : Value) (a_s0 : Nat) (w : Wd) (I : MI) (L : ML) (P : MP) (h0 : inA w a_s0 8 (nI 12)) : go 179 109 [l0, l1] [.ref a_s0] w I L P = some (.inl (some (.int (I a_s0 (Int32.toNatClampNeg (nI 12))))), w, I, L, P) := by
  refine (go_bi (m := 179) (pc := 109) (n := 12) (by decide +kernel) bi_12).trans ?_
  refine (go_iald (m := 179) (pc := 111) (by decide +kernel) h0).trans ?_
  exact go_retI (m := 179) (pc := 112) (by decide +kernel) rfl
theorem Model_number_E (this : Nat) (p0 : Int32) (w : Wd) (I : MI) (L : ML) (P : MP) : call 179 [.ref this, .int p0] w I L P = go 179 0 [.ref this, .int p0] [] w I L P := rfl
theorem Model_value_0 (l0 : Value) (x_l1 : Int32) (w : Wd) (I : MI) (L : ML) (P : MP)  : go 180 0 [l0, .int x_l1] [] w I L P = kC (call 124 [.long (Int32.toInt64 x_l1), .long 0, .long 9] w I L P) (fun v w1 I1 L1 P1 => go 180 9 [l0, .int x_l1] (v.toList ++ []) w1 I1 L1 P1) := by
  refine (go_iload_n (m := 180) (pc := 0) (k := 1) (by decide +kernel) rfl).trans ?_
  refine (go_i2l (m := 180) (pc := 1) (by decide +kernel)).trans ?_
  refine (go_lc (m := 180) (pc := 2) (n := 0) (v := 0) (by decide +kernel) rfl).trans ?_
  refine (go_ldc2 (m := 180) (pc := 3) (o := 7) (x := 163) (v := 9) (by decide +kernel) rfl (by decide +kernel)).trans ?_
  exact go_sta (m := 180) (pc := 6) (o := 7) (x := 30) (y := 124) (kd := 2) (as := [.long (Int32.toInt64 x_l1), .long 0, .long 9]) (rs := []) (by decide +kernel) rfl rfl c_7_30 (Or.inl rfl) rfl rfl rfl (by decide +kernel) (by simp only [List.length_cons, List.length_nil]; decide) (Nat.le_of_ble_eq_true rfl)
theorem Model_value_9 (l0 : Value) (l1 : Value) (y0 : Int32) (w : Wd) (I : MI) (L : ML) (P : MP)  : go 180 9 [l0, l1] [.int y0] w I L P = if y0 = 0 then go 180 24 [l0, l1] [] w I L P else go 180 12 [l0, l1] [] w I L P := by
  exact go_ifeq (m := 180) (pc := 9) (off := 15) (t := 24) (by decide +kernel) (by decide)
theorem Model_value_12 (a_l0 : Nat) (x_l1 : Int32) (w : Wd) (I : MI) (L : ML) (P : MP) (h0 : w.1 a_l0 = some (7, 0)) : go 180 12 [.ref a_l0, .int x_l1] [] w I L P = kC (call 179 [.ref a_l0, .int x_l1] w I L P) (fun v w1 I1 L1 P1 => go 180 18 [.ref a_l0, .int x_l1] (v.toList ++ [.ref a_l0]) w1 I1 L1 P1) := by
  refine (go_aload_n (m := 180) (pc := 12) (k := 0) (by decide +kernel) rfl).trans ?_
  refine (go_aload_n (m := 180) (pc := 13) (k := 0) (by decide +kernel) rfl).trans ?_
  refine (go_iload_n (m := 180) (pc := 14) (k := 1) (by decide +kernel) rfl).trans ?_
  exact go_vir (m := 180) (pc := 15) (o := 7) (x := 193) (y := 179) (kd := 0) (b := a_l0) (bs := [.int x_l1]) (rs := [.ref a_l0]) (by decide +kernel) rfl rfl c_7_193 (Or.inl rfl) rfl rfl rfl (by decide +kernel) (by simp only [List.length_cons, List.length_nil]; decide) (Nat.le_of_ble_eq_true rfl) h0
theorem Model_value_18 (l0 : Value) (l1 : Value) (a_s0 : Nat) (y1 : Int32) (w : Wd) (I : MI) (L : ML) (P : MP) (h0 : w.1 a_s0 = some (7, 0)) : go 180 18 [l0, l1] [.int y1, .ref a_s0] w I L P = kC (call 123 [.ref a_s0, .int y1] w I L P) (fun v w1 I1 L1 P1 => go 180 21 [l0, l1] (v.toList ++ []) w1 I1 L1 P1) := by
  exact go_vir (m := 180) (pc := 18) (o := 7) (x := 47) (y := 123) (kd := 0) (b := a_s0) (bs := [.int y1]) (rs := []) (by decide +kernel) rfl rfl c_7_47 (Or.inl rfl) rfl rfl rfl (by decide +kernel) (by simp only [List.length_cons, List.length_nil]; decide) (Nat.le_of_ble_eq_true rfl) h0
theorem Model_value_21 (l0 : Value) (l1 : Value) (y0 : Int32) (w : Wd) (I : MI) (L : ML) (P : MP)  : go 180 21 [l0, l1] [.int y0] w I L P = go 180 29 [l0, l1] [.int y0] w I L P := by
  refine (go_goto (m := 180) (pc := 21) (off := 8) (t := 29) (by decide +kernel) (by decide)).trans ?_
  rfl
theorem Model_value_24 (a_l0 : Nat) (l1 : Value) (w : Wd) (I : MI) (L : ML) (P : MP) (h0 : w.1 a_l0 = some (7, 0)) : go 180 24 [.ref a_l0, l1] [] w I L P = kC (call 122 [.ref a_l0, .int (nI 1)] w I L P) (fun v w1 I1 L1 P1 => go 180 29 [.ref a_l0, l1] (v.toList ++ []) w1 I1 L1 P1) := by
  refine (go_aload_n (m := 180) (pc := 24) (k := 0) (by decide +kernel) rfl).trans ?_
  refine (go_ic (m := 180) (pc := 25) (n := 1) (by decide +kernel) ic_1).trans ?_
  exact go_vir (m := 180) (pc := 26) (o := 7) (x := 37) (y := 122) (kd := 0) (b := a_l0) (bs := [.int (nI 1)]) (rs := []) (by decide +kernel) rfl rfl c_7_37 (Or.inl rfl) rfl rfl rfl (by decide +kernel) (by simp only [List.length_cons, List.length_nil]; decide) (Nat.le_of_ble_eq_true rfl) h0
theorem Model_value_29 (l0 : Value) (l1 : Value) (y0 : Int32) (w : Wd) (I : MI) (L : ML) (P : MP)  : go 180 29 [l0, l1] [.int y0] w I L P = some (.inl (some (.int y0)), w, I, L, P) := by
  exact go_retI (m := 180) (pc := 29) (by decide +kernel) rfl
theorem Model_value_E (this : Nat) (p0 : Int32) (w : Wd) (I : MI) (L : ML) (P : MP) : call 180 [.ref this, .int p0] w I L P = go 180 0 [.ref this, .int p0] [] w I L P := rfl
theorem Model_logged_0 (a_l0 : Nat) (l1 : Value) (l2 : Value) (w : Wd) (I : MI) (L : ML) (P : MP) (h0 : w.1 a_l0 = some (7, 0)) : go 181 0 [.ref a_l0, l1, l2] [] w I L P = go 181 4 [.ref a_l0, l1, l2] [(va_rf (P a_l0 0))] w I L P := by
  refine (go_aload_n (m := 181) (pc := 0) (k := 0) (by decide +kernel) rfl).trans ?_
  refine (go_getR (m := 181) (pc := 1) (o := 7) (x := 7) (ci := 7) (k := 0) (by decide +kernel) rfl f_7_7 rfl h0).trans ?_
  rfl
theorem Model_logged_4 (a_l0 : Nat) (l1 : Value) (l2 : Value) (v0 : Value) (w : Wd) (I : MI) (L : ML) (P : MP) (h0 : w.1 a_l0 = some (7, 0)) : go 181 4 [.ref a_l0, l1, l2] [v0] w I L P = go 181 11 [.ref a_l0, l1, l2] [(va_rf (P a_l0 0)), .int (nI 3), .int (nI 15), v0] w I L P := by
  refine (go_bi (m := 181) (pc := 4) (n := 15) (by decide +kernel) bi_15).trans ?_
  refine (go_ic (m := 181) (pc := 6) (n := 3) (by decide +kernel) ic_3).trans ?_
  refine (go_aload_n (m := 181) (pc := 7) (k := 0) (by decide +kernel) rfl).trans ?_
  refine (go_getR (m := 181) (pc := 8) (o := 7) (x := 7) (ci := 7) (k := 0) (by decide +kernel) rfl f_7_7 rfl h0).trans ?_
  rfl
theorem Model_logged_11 (l0 : Value) (x_l1 : Int32) (x_l2 : Int32) (a_s0 : Nat) (y1 : Int32) (y2 : Int32) (a_s3 : Nat) (w : Wd) (I : MI) (L : ML) (P : MP) (h0 : inA w a_s3 8 (nI 0)) (h1 : ¬ (nI 64) = 0) (h2 : inA w a_s0 8 ((y1 + (y2 * ((((I a_s3 (Int32.toNatClampNeg (nI 0))) - (nI 1)) - x_l1) - (((I a_s3 (Int32.toNatClampNeg (nI 0))) - (nI 1)) - x_l1) / (nI 64) * (nI 64)))) + x_l2)) : go 181 11 [l0, .int x_l1, .int x_l2] [.ref a_s3, .int y2, .int y1, .ref a_s0] w I L P = some (.inl (some (.int (I a_s0 (Int32.toNatClampNeg ((y1 + (y2 * ((((I a_s3 (Int32.toNatClampNeg (nI 0))) - (nI 1)) - x_l1) - (((I a_s3 (Int32.toNatClampNeg (nI 0))) - (nI 1)) - x_l1) / (nI 64) * (nI 64)))) + x_l2))))), w, I, L, P) := by
  refine (go_ic (m := 181) (pc := 11) (n := 0) (by decide +kernel) ic_0).trans ?_
  refine (go_iald (m := 181) (pc := 12) (by decide +kernel) h0).trans ?_
  refine (go_ic (m := 181) (pc := 13) (n := 1) (by decide +kernel) ic_1).trans ?_
  refine (go_isub (m := 181) (pc := 14) (by decide +kernel)).trans ?_
  refine (go_iload_n (m := 181) (pc := 15) (k := 1) (by decide +kernel) rfl).trans ?_
  refine (go_isub (m := 181) (pc := 16) (by decide +kernel)).trans ?_
  refine (go_bi (m := 181) (pc := 17) (n := 64) (by decide +kernel) bi_64).trans ?_
  refine (go_irem (m := 181) (pc := 19) (by decide +kernel) h1).trans ?_
  refine (go_imul (m := 181) (pc := 20) (by decide +kernel)).trans ?_
  refine (go_iadd (m := 181) (pc := 21) (by decide +kernel)).trans ?_
  refine (go_iload_n (m := 181) (pc := 22) (k := 2) (by decide +kernel) rfl).trans ?_
  refine (go_iadd (m := 181) (pc := 23) (by decide +kernel)).trans ?_
  refine (go_iald (m := 181) (pc := 24) (by decide +kernel) h2).trans ?_
  exact go_retI (m := 181) (pc := 25) (by decide +kernel) rfl
theorem Model_logged_E (this : Nat) (p0 : Int32) (p1 : Int32) (w : Wd) (I : MI) (L : ML) (P : MP) : call 181 [.ref this, .int p0, .int p1] w I L P = go 181 0 [.ref this, .int p0, .int p1] [] w I L P := rfl
theorem Model_logs_0 (a_l0 : Nat) (w : Wd) (I : MI) (L : ML) (P : MP) (h0 : w.1 a_l0 = some (7, 0)) : go 182 0 [.ref a_l0] [] w I L P = go 182 4 [.ref a_l0] [(va_rf (P a_l0 0))] w I L P := by
  refine (go_aload_n (m := 182) (pc := 0) (k := 0) (by decide +kernel) rfl).trans ?_
  refine (go_getR (m := 182) (pc := 1) (o := 7) (x := 7) (ci := 7) (k := 0) (by decide +kernel) rfl f_7_7 rfl h0).trans ?_
  rfl
theorem Model_logs_4 (l0 : Value) (a_s0 : Nat) (w : Wd) (I : MI) (L : ML) (P : MP) (h0 : inA w a_s0 8 (nI 0)) : go 182 4 [l0] [.ref a_s0] w I L P = if (nI 64) ≤ (I a_s0 (Int32.toNatClampNeg (nI 0))) then go 182 20 [l0] [] w I L P else go 182 11 [l0] [] w I L P := by
  refine (go_ic (m := 182) (pc := 4) (n := 0) (by decide +kernel) ic_0).trans ?_
  refine (go_iald (m := 182) (pc := 5) (by decide +kernel) h0).trans ?_
  refine (go_bi (m := 182) (pc := 6) (n := 64) (by decide +kernel) bi_64).trans ?_
  exact go_icmpge (m := 182) (pc := 8) (off := 12) (t := 20) (by decide +kernel) (by decide)
theorem Model_logs_11 (a_l0 : Nat) (w : Wd) (I : MI) (L : ML) (P : MP) (h0 : w.1 a_l0 = some (7, 0)) : go 182 11 [.ref a_l0] [] w I L P = go 182 15 [.ref a_l0] [(va_rf (P a_l0 0))] w I L P := by
  refine (go_aload_n (m := 182) (pc := 11) (k := 0) (by decide +kernel) rfl).trans ?_
  refine (go_getR (m := 182) (pc := 12) (o := 7) (x := 7) (ci := 7) (k := 0) (by decide +kernel) rfl f_7_7 rfl h0).trans ?_
  rfl
theorem Model_logs_15 (l0 : Value) (a_s0 : Nat) (w : Wd) (I : MI) (L : ML) (P : MP) (h0 : inA w a_s0 8 (nI 0)) : go 182 15 [l0] [.ref a_s0] w I L P = go 182 22 [l0] [.int (I a_s0 (Int32.toNatClampNeg (nI 0)))] w I L P := by
  refine (go_ic (m := 182) (pc := 15) (n := 0) (by decide +kernel) ic_0).trans ?_
  refine (go_iald (m := 182) (pc := 16) (by decide +kernel) h0).trans ?_
  refine (go_goto (m := 182) (pc := 17) (off := 5) (t := 22) (by decide +kernel) (by decide)).trans ?_
  rfl
theorem Model_logs_20 (l0 : Value) (w : Wd) (I : MI) (L : ML) (P : MP)  : go 182 20 [l0] [] w I L P = go 182 22 [l0] [.int (nI 64)] w I L P := by
  refine (go_bi (m := 182) (pc := 20) (n := 64) (by decide +kernel) bi_64).trans ?_
  rfl
theorem Model_logs_22 (l0 : Value) (y0 : Int32) (w : Wd) (I : MI) (L : ML) (P : MP)  : go 182 22 [l0] [.int y0] w I L P = some (.inl (some (.int y0)), w, I, L, P) := by
  exact go_retI (m := 182) (pc := 22) (by decide +kernel) rfl
theorem Model_logs_E (this : Nat) (w : Wd) (I : MI) (L : ML) (P : MP) : call 182 [.ref this] w I L P = go 182 0 [.ref this] [] w I L P := rfl
theorem Model_log_0 (a_l0 : Nat) (x_l1 : Int32) (l2 : Value) (w : Wd) (I : MI) (L : ML) (P : MP) (h0 : w.1 a_l0 = some (7, 0)) : go 183 0 [.ref a_l0, .int x_l1, l2] [] w I L P = kC (call 182 [.ref a_l0] w I L P) (fun v w1 I1 L1 P1 => go 183 7 [.ref a_l0, .int x_l1, l2] (v.toList ++ [.long 0, .long (Int32.toInt64 x_l1)]) w1 I1 L1 P1) := by
  refine (go_iload_n (m := 183) (pc := 0) (k := 1) (by decide +kernel) rfl).trans ?_
  refine (go_i2l (m := 183) (pc := 1) (by decide +kernel)).trans ?_
  refine (go_lc (m := 183) (pc := 2) (n := 0) (v := 0) (by decide +kernel) rfl).trans ?_
  refine (go_aload_n (m := 183) (pc := 3) (k := 0) (by decide +kernel) rfl).trans ?_
  exact go_vir (m := 183) (pc := 4) (o := 7) (x := 196) (y := 182) (kd := 0) (b := a_l0) (bs := []) (rs := [.long 0, .long (Int32.toInt64 x_l1)]) (by decide +kernel) rfl rfl c_7_196 (Or.inl rfl) rfl rfl rfl (by decide +kernel) (by simp only [List.length_cons, List.length_nil]; decide) (Nat.le_of_ble_eq_true rfl) h0
theorem Model_log_7 (l0 : Value) (l1 : Value) (l2 : Value) (y0 : Int64) (y1 : Int64) (y2 : Int32) (w : Wd) (I : MI) (L : ML) (P : MP)  : go 183 7 [l0, l1, l2] [.int y2, .long y1, .long y0] w I L P = kC (call 124 [.long y0, .long y1, .long (Int32.toInt64 (y2 - (nI 1)))] w I L P) (fun v w1 I1 L1 P1 => go 183 13 [l0, l1, l2] (v.toList ++ []) w1 I1 L1 P1) := by
  refine (go_ic (m := 183) (pc := 7) (n := 1) (by decide +kernel) ic_1).trans ?_
  refine (go_isub (m := 183) (pc := 8) (by decide +kernel)).trans ?_
  refine (go_i2l (m := 183) (pc := 9) (by decide +kernel)).trans ?_
  exact go_sta (m := 183) (pc := 10) (o := 7) (x := 30) (y := 124) (kd := 2) (as := [.long y0, .long y1, .long (Int32.toInt64 (y2 - (nI 1)))]) (rs := []) (by decide +kernel) rfl rfl c_7_30 (Or.inl rfl) rfl rfl rfl (by decide +kernel) (by simp only [List.length_cons, List.length_nil]; decide) (Nat.le_of_ble_eq_true rfl)
theorem Model_log_13 (l0 : Value) (l1 : Value) (l2 : Value) (y0 : Int32) (w : Wd) (I : MI) (L : ML) (P : MP)  : go 183 13 [l0, l1, l2] [.int y0] w I L P = if y0 ≠ 0 then go 183 22 [l0, l1, l2] [] w I L P else go 183 16 [l0, l1, l2] [] w I L P := by
  exact go_ifne (m := 183) (pc := 13) (off := 9) (t := 22) (by decide +kernel) (by decide)
theorem Model_log_16 (a_l0 : Nat) (l1 : Value) (l2 : Value) (w : Wd) (I : MI) (L : ML) (P : MP) (h0 : w.1 a_l0 = some (7, 0)) : go 183 16 [.ref a_l0, l1, l2] [] w I L P = kC (call 122 [.ref a_l0, .int (nI 1)] w I L P) (fun v w1 I1 L1 P1 => go 183 21 [.ref a_l0, l1, l2] (v.toList ++ []) w1 I1 L1 P1) := by
  refine (go_aload_n (m := 183) (pc := 16) (k := 0) (by decide +kernel) rfl).trans ?_
  refine (go_ic (m := 183) (pc := 17) (n := 1) (by decide +kernel) ic_1).trans ?_
  exact go_vir (m := 183) (pc := 18) (o := 7) (x := 37) (y := 122) (kd := 0) (b := a_l0) (bs := [.int (nI 1)]) (rs := []) (by decide +kernel) rfl rfl c_7_37 (Or.inl rfl) rfl rfl rfl (by decide +kernel) (by simp only [List.length_cons, List.length_nil]; decide) (Nat.le_of_ble_eq_true rfl) h0
theorem Model_log_21 (l0 : Value) (l1 : Value) (l2 : Value) (y0 : Int32) (w : Wd) (I : MI) (L : ML) (P : MP)  : go 183 21 [l0, l1, l2] [.int y0] w I L P = some (.inl (some (.int y0)), w, I, L, P) := by
  exact go_retI (m := 183) (pc := 21) (by decide +kernel) rfl
theorem Model_log_22 (l0 : Value) (l1 : Value) (x_l2 : Int32) (w : Wd) (I : MI) (L : ML) (P : MP)  : go 183 22 [l0, l1, .int x_l2] [] w I L P = kC (call 124 [.long (Int32.toInt64 x_l2), .long 0, .long 2] w I L P) (fun v w1 I1 L1 P1 => go 183 31 [l0, l1, .int x_l2] (v.toList ++ []) w1 I1 L1 P1) := by
  refine (go_iload_n (m := 183) (pc := 22) (k := 2) (by decide +kernel) rfl).trans ?_
  refine (go_i2l (m := 183) (pc := 23) (by decide +kernel)).trans ?_
  refine (go_lc (m := 183) (pc := 24) (n := 0) (v := 0) (by decide +kernel) rfl).trans ?_
  refine (go_ldc2 (m := 183) (pc := 25) (o := 7) (x := 199) (v := 2) (by decide +kernel) rfl (by decide +kernel)).trans ?_
  exact go_sta (m := 183) (pc := 28) (o := 7) (x := 30) (y := 124) (kd := 2) (as := [.long (Int32.toInt64 x_l2), .long 0, .long 2]) (rs := []) (by decide +kernel) rfl rfl c_7_30 (Or.inl rfl) rfl rfl rfl (by decide +kernel) (by simp only [List.length_cons, List.length_nil]; decide) (Nat.le_of_ble_eq_true rfl)
theorem Model_log_31 (l0 : Value) (l1 : Value) (l2 : Value) (y0 : Int32) (w : Wd) (I : MI) (L : ML) (P : MP)  : go 183 31 [l0, l1, l2] [.int y0] w I L P = if y0 = 0 then go 183 47 [l0, l1, l2] [] w I L P else go 183 34 [l0, l1, l2] [] w I L P := by
  exact go_ifeq (m := 183) (pc := 31) (off := 16) (t := 47) (by decide +kernel) (by decide)
theorem Model_log_34 (a_l0 : Nat) (x_l1 : Int32) (x_l2 : Int32) (w : Wd) (I : MI) (L : ML) (P : MP) (h0 : w.1 a_l0 = some (7, 0)) : go 183 34 [.ref a_l0, .int x_l1, .int x_l2] [] w I L P = kC (call 181 [.ref a_l0, .int x_l1, .int x_l2] w I L P) (fun v w1 I1 L1 P1 => go 183 41 [.ref a_l0, .int x_l1, .int x_l2] (v.toList ++ [.ref a_l0]) w1 I1 L1 P1) := by
  refine (go_aload_n (m := 183) (pc := 34) (k := 0) (by decide +kernel) rfl).trans ?_
  refine (go_aload_n (m := 183) (pc := 35) (k := 0) (by decide +kernel) rfl).trans ?_
  refine (go_iload_n (m := 183) (pc := 36) (k := 1) (by decide +kernel) rfl).trans ?_
  refine (go_iload_n (m := 183) (pc := 37) (k := 2) (by decide +kernel) rfl).trans ?_
  exact go_vir (m := 183) (pc := 38) (o := 7) (x := 201) (y := 181) (kd := 0) (b := a_l0) (bs := [.int x_l1, .int x_l2]) (rs := [.ref a_l0]) (by decide +kernel) rfl rfl c_7_201 (Or.inl rfl) rfl rfl rfl (by decide +kernel) (by simp only [List.length_cons, List.length_nil]; decide) (Nat.le_of_ble_eq_true rfl) h0
theorem Model_log_41 (l0 : Value) (l1 : Value) (l2 : Value) (a_s0 : Nat) (y1 : Int32) (w : Wd) (I : MI) (L : ML) (P : MP) (h0 : w.1 a_s0 = some (7, 0)) : go 183 41 [l0, l1, l2] [.int y1, .ref a_s0] w I L P = kC (call 123 [.ref a_s0, .int y1] w I L P) (fun v w1 I1 L1 P1 => go 183 44 [l0, l1, l2] (v.toList ++ []) w1 I1 L1 P1) := by
  exact go_vir (m := 183) (pc := 41) (o := 7) (x := 47) (y := 123) (kd := 0) (b := a_s0) (bs := [.int y1]) (rs := []) (by decide +kernel) rfl rfl c_7_47 (Or.inl rfl) rfl rfl rfl (by decide +kernel) (by simp only [List.length_cons, List.length_nil]; decide) (Nat.le_of_ble_eq_true rfl) h0
theorem Model_log_44 (l0 : Value) (l1 : Value) (l2 : Value) (y0 : Int32) (w : Wd) (I : MI) (L : ML) (P : MP)  : go 183 44 [l0, l1, l2] [.int y0] w I L P = go 183 52 [l0, l1, l2] [.int y0] w I L P := by
  refine (go_goto (m := 183) (pc := 44) (off := 8) (t := 52) (by decide +kernel) (by decide)).trans ?_
  rfl
theorem Model_log_47 (a_l0 : Nat) (l1 : Value) (l2 : Value) (w : Wd) (I : MI) (L : ML) (P : MP) (h0 : w.1 a_l0 = some (7, 0)) : go 183 47 [.ref a_l0, l1, l2] [] w I L P = kC (call 122 [.ref a_l0, .int (nI 2)] w I L P) (fun v w1 I1 L1 P1 => go 183 52 [.ref a_l0, l1, l2] (v.toList ++ []) w1 I1 L1 P1) := by
  refine (go_aload_n (m := 183) (pc := 47) (k := 0) (by decide +kernel) rfl).trans ?_
  refine (go_ic (m := 183) (pc := 48) (n := 2) (by decide +kernel) ic_2).trans ?_
  exact go_vir (m := 183) (pc := 49) (o := 7) (x := 37) (y := 122) (kd := 0) (b := a_l0) (bs := [.int (nI 2)]) (rs := []) (by decide +kernel) rfl rfl c_7_37 (Or.inl rfl) rfl rfl rfl (by decide +kernel) (by simp only [List.length_cons, List.length_nil]; decide) (Nat.le_of_ble_eq_true rfl) h0
theorem Model_log_52 (l0 : Value) (l1 : Value) (l2 : Value) (y0 : Int32) (w : Wd) (I : MI) (L : ML) (P : MP)  : go 183 52 [l0, l1, l2] [.int y0] w I L P = some (.inl (some (.int y0)), w, I, L, P) := by
  exact go_retI (m := 183) (pc := 52) (by decide +kernel) rfl
theorem Model_log_E (this : Nat) (p0 : Int32) (p1 : Int32) (w : Wd) (I : MI) (L : ML) (P : MP) : call 183 [.ref this, .int p0, .int p1] w I L P = go 183 0 [.ref this, .int p0, .int p1] [] w I L P := rfl
theorem Model_wouldTake_0 (a_l0 : Nat) (l1 : Value) (w : Wd) (I : MI) (L : ML) (P : MP) (h0 : w.1 a_l0 = some (7, 0)) : go 184 0 [.ref a_l0, l1] [] w I L P = kC (call 134 [.ref a_l0] w I L P) (fun v w1 I1 L1 P1 => go 184 4 [.ref a_l0, l1] (v.toList ++ []) w1 I1 L1 P1) := by
  refine (go_aload_n (m := 184) (pc := 0) (k := 0) (by decide +kernel) rfl).trans ?_
  exact go_vir (m := 184) (pc := 1) (o := 7) (x := 160) (y := 134) (kd := 0) (b := a_l0) (bs := []) (rs := []) (by decide +kernel) rfl rfl c_7_160 (Or.inl rfl) rfl rfl rfl (by decide +kernel) (by simp only [List.length_cons, List.length_nil]; decide) (Nat.le_of_ble_eq_true rfl) h0
theorem Model_wouldTake_4 (a_l0 : Nat) (l1 : Value) (w : Wd) (I : MI) (L : ML) (P : MP) (h0 : w.1 a_l0 = some (7, 0)) : go 184 4 [.ref a_l0, l1] [] w I L P = kC (call 159 [.ref a_l0] w I L P) (fun v w1 I1 L1 P1 => go 184 8 [.ref a_l0, l1] (v.toList ++ []) w1 I1 L1 P1) := by
  refine (go_aload_n (m := 184) (pc := 4) (k := 0) (by decide +kernel) rfl).trans ?_
  exact go_vir (m := 184) (pc := 5) (o := 7) (x := 181) (y := 159) (kd := 0) (b := a_l0) (bs := []) (rs := []) (by decide +kernel) rfl rfl c_7_181 (Or.inl rfl) rfl rfl rfl (by decide +kernel) (by simp only [List.length_cons, List.length_nil]; decide) (Nat.le_of_ble_eq_true rfl) h0
theorem Model_wouldTake_8 (a_l0 : Nat) (l1 : Value) (y0 : Int32) (w : Wd) (I : MI) (L : ML) (P : MP) (h0 : w.1 a_l0 = some (7, 0)) : go 184 8 [.ref a_l0, l1] [.int y0] w I L P = kC (call 135 [.ref a_l0] w I L P) (fun v w1 I1 L1 P1 => go 184 13 [.ref a_l0, .int y0] (v.toList ++ []) w1 I1 L1 P1) := by
  refine (go_istore_n (m := 184) (pc := 8) (k := 1) (ls' := [.ref a_l0, .int y0]) (by decide +kernel) (by simp only [List.length_cons, List.length_nil]; decide) rfl).trans ?_
  refine (go_aload_n (m := 184) (pc := 9) (k := 0) (by decide +kernel) rfl).trans ?_
  exact go_vir (m := 184) (pc := 10) (o := 7) (x := 204) (y := 135) (kd := 0) (b := a_l0) (bs := []) (rs := []) (by decide +kernel) rfl rfl c_7_204 (Or.inl rfl) rfl rfl rfl (by decide +kernel) (by simp only [List.length_cons, List.length_nil]; decide) (Nat.le_of_ble_eq_true rfl) h0
theorem Model_wouldTake_13 (l0 : Value) (x_l1 : Int32) (w : Wd) (I : MI) (L : ML) (P : MP)  : go 184 13 [l0, .int x_l1] [] w I L P = some (.inl (some (.int x_l1)), w, I, L, P) := by
  refine (go_iload_n (m := 184) (pc := 13) (k := 1) (by decide +kernel) rfl).trans ?_
  exact go_retI (m := 184) (pc := 14) (by decide +kernel) rfl
theorem Model_wouldTake_E (this : Nat) (w : Wd) (I : MI) (L : ML) (P : MP) : call 184 [.ref this] w I L P = go 184 0 [.ref this, unk] [] w I L P := rfl
theorem Model_slotsToFinish_0 (a_l0 : Nat) (w : Wd) (I : MI) (L : ML) (P : MP) (h0 : w.1 a_l0 = some (7, 0)) : go 185 0 [.ref a_l0] [] w I L P = kC (call 184 [.ref a_l0] w I L P) (fun v w1 I1 L1 P1 => go 185 5 [.ref a_l0] (v.toList ++ [.ref a_l0]) w1 I1 L1 P1) := by
  refine (go_aload_n (m := 185) (pc := 0) (k := 0) (by decide +kernel) rfl).trans ?_
  refine (go_aload_n (m := 185) (pc := 1) (k := 0) (by decide +kernel) rfl).trans ?_
  exact go_vir (m := 185) (pc := 2) (o := 7) (x := 207) (y := 184) (kd := 0) (b := a_l0) (bs := []) (rs := [.ref a_l0]) (by decide +kernel) rfl rfl c_7_207 (Or.inl rfl) rfl rfl rfl (by decide +kernel) (by simp only [List.length_cons, List.length_nil]; decide) (Nat.le_of_ble_eq_true rfl) h0
theorem Model_slotsToFinish_5 (l0 : Value) (a_s0 : Nat) (y1 : Int32) (w : Wd) (I : MI) (L : ML) (P : MP) (h0 : w.1 a_s0 = some (7, 0)) : go 185 5 [l0] [.int y1, .ref a_s0] w I L P = kC (call 123 [.ref a_s0, .int y1] w I L P) (fun v w1 I1 L1 P1 => go 185 8 [l0] (v.toList ++ []) w1 I1 L1 P1) := by
  exact go_vir (m := 185) (pc := 5) (o := 7) (x := 47) (y := 123) (kd := 0) (b := a_s0) (bs := [.int y1]) (rs := []) (by decide +kernel) rfl rfl c_7_47 (Or.inl rfl) rfl rfl rfl (by decide +kernel) (by simp only [List.length_cons, List.length_nil]; decide) (Nat.le_of_ble_eq_true rfl) h0
theorem Model_slotsToFinish_8 (l0 : Value) (y0 : Int32) (w : Wd) (I : MI) (L : ML) (P : MP)  : go 185 8 [l0] [.int y0] w I L P = some (.inl (some (.int y0)), w, I, L, P) := by
  exact go_retI (m := 185) (pc := 8) (by decide +kernel) rfl
theorem Model_slotsToFinish_E (this : Nat) (w : Wd) (I : MI) (L : ML) (P : MP) : call 185 [.ref this] w I L P = go 185 0 [.ref this] [] w I L P := rfl
theorem Model_takesAlone_0 (a_l0 : Nat) (x_l1 : Int32) (l2 : Value) (l3 : Value) (l4 : Value) (l5 : Value) (w : Wd) (I : MI) (L : ML) (P : MP) (h0 : w.1 a_l0 = some (7, 0)) : go 186 0 [.ref a_l0, .int x_l1, l2, l3, l4, l5] [] w I L P = kC (call 126 [.ref a_l0, .int x_l1, .int (nI 0)] w I L P) (fun v w1 I1 L1 P1 => go 186 6 [.ref a_l0, .int x_l1, l2, l3, l4, l5] (v.toList ++ []) w1 I1 L1 P1) := by
  refine (go_aload_n (m := 186) (pc := 0) (k := 0) (by decide +kernel) rfl).trans ?_
  refine (go_iload_n (m := 186) (pc := 1) (k := 1) (by decide +kernel) rfl).trans ?_
  refine (go_ic (m := 186) (pc := 2) (n := 0) (by decide +kernel) ic_0).trans ?_
  exact go_vir (m := 186) (pc := 3) (o := 7) (x := 102) (y := 126) (kd := 0) (b := a_l0) (bs := [.int x_l1, .int (nI 0)]) (rs := []) (by decide +kernel) rfl rfl c_7_102 (Or.inl rfl) rfl rfl rfl (by decide +kernel) (by simp only [List.length_cons, List.length_nil]; decide) (Nat.le_of_ble_eq_true rfl) h0
theorem Model_takesAlone_6 (l0 : Value) (l1 : Value) (l2 : Value) (l3 : Value) (l4 : Value) (l5 : Value) (y0 : Int32) (w : Wd) (I : MI) (L : ML) (P : MP)  : go 186 6 [l0, l1, l2, l3, l4, l5] [.int y0] w I L P = if y0 ≠ 0 then go 186 11 [l0, l1, l2, l3, l4, l5] [] w I L P else go 186 9 [l0, l1, l2, l3, l4, l5] [] w I L P := by
  exact go_ifne (m := 186) (pc := 6) (off := 5) (t := 11) (by decide +kernel) (by decide)
theorem Model_takesAlone_9 (l0 : Value) (l1 : Value) (l2 : Value) (l3 : Value) (l4 : Value) (l5 : Value) (w : Wd) (I : MI) (L : ML) (P : MP)  : go 186 9 [l0, l1, l2, l3, l4, l5] [] w I L P = some (.inl (some (.int (-1))), w, I, L, P) := by
  refine (go_ic (m := 186) (pc := 9) (n := -1) (by decide +kernel) ic_m1).trans ?_
  exact go_retI (m := 186) (pc := 10) (by decide +kernel) rfl
theorem Model_takesAlone_11 (a_l0 : Nat) (x_l1 : Int32) (l2 : Value) (l3 : Value) (l4 : Value) (l5 : Value) (w : Wd) (I : MI) (L : ML) (P : MP) (h0 : w.1 a_l0 = some (7, 0)) : go 186 11 [.ref a_l0, .int x_l1, l2, l3, l4, l5] [] w I L P = kC (call 128 [.ref a_l0, .int x_l1, .int (nI 0), .int (nI 0)] w I L P) (fun v w1 I1 L1 P1 => go 186 19 [.ref a_l0, .int x_l1, l2, l3, l4, l5] (v.toList ++ [.ref a_l0]) w1 I1 L1 P1) := by
  refine (go_aload_n (m := 186) (pc := 11) (k := 0) (by decide +kernel) rfl).trans ?_
  refine (go_aload_n (m := 186) (pc := 12) (k := 0) (by decide +kernel) rfl).trans ?_
  refine (go_iload_n (m := 186) (pc := 13) (k := 1) (by decide +kernel) rfl).trans ?_
  refine (go_ic (m := 186) (pc := 14) (n := 0) (by decide +kernel) ic_0).trans ?_
  refine (go_ic (m := 186) (pc := 15) (n := 0) (by decide +kernel) ic_0).trans ?_
  exact go_vir (m := 186) (pc := 16) (o := 7) (x := 50) (y := 128) (kd := 0) (b := a_l0) (bs := [.int x_l1, .int (nI 0), .int (nI 0)]) (rs := [.ref a_l0]) (by decide +kernel) rfl rfl c_7_50 (Or.inl rfl) rfl rfl rfl (by decide +kernel) (by simp only [List.length_cons, List.length_nil]; decide) (Nat.le_of_ble_eq_true rfl) h0
theorem Model_takesAlone_19 (l0 : Value) (l1 : Value) (l2 : Value) (l3 : Value) (l4 : Value) (l5 : Value) (a_s0 : Nat) (y1 : Int32) (w : Wd) (I : MI) (L : ML) (P : MP) (h0 : w.1 a_s0 = some (7, 0)) : go 186 19 [l0, l1, l2, l3, l4, l5] [.int y1, .ref a_s0] w I L P = kC (call 149 [.ref a_s0, .int y1] w I L P) (fun v w1 I1 L1 P1 => go 186 22 [l0, l1, l2, l3, l4, l5] (v.toList ++ []) w1 I1 L1 P1) := by
  exact go_vir (m := 186) (pc := 19) (o := 7) (x := 87) (y := 149) (kd := 0) (b := a_s0) (bs := [.int y1]) (rs := []) (by decide +kernel) rfl rfl c_7_87 (Or.inl rfl) rfl rfl rfl (by decide +kernel) (by simp only [List.length_cons, List.length_nil]; decide) (Nat.le_of_ble_eq_true rfl) h0
theorem Model_takesAlone_22 (l0 : Value) (l1 : Value) (l2 : Value) (l3 : Value) (l4 : Value) (l5 : Value) (y0 : Int32) (w : Wd) (I : MI) (L : ML) (P : MP)  : go 186 22 [l0, l1, l2, l3, l4, l5] [.int y0] w I L P = if y0 = (-1) then go 186 37 [l0, (fix1 l1), .int y0, l3, l4, l5] [] w I L P else go 186 28 [l0, (fix1 l1), .int y0, l3, l4, l5] [] w I L P := by
  refine (go_istore_n (m := 186) (pc := 22) (k := 2) (ls' := [l0, (fix1 l1), .int y0, l3, l4, l5]) (by decide +kernel) (by simp only [List.length_cons, List.length_nil]; decide) rfl).trans ?_
  refine (go_iload_n (m := 186) (pc := 23) (k := 2) (by decide +kernel) rfl).trans ?_
  refine (go_ic (m := 186) (pc := 24) (n := -1) (by decide +kernel) ic_m1).trans ?_
  exact go_icmpeq (m := 186) (pc := 25) (off := 12) (t := 37) (by decide +kernel) (by decide)
theorem Model_takesAlone_28 (a_l0 : Nat) (l1 : Value) (x_l2 : Int32) (l3 : Value) (l4 : Value) (l5 : Value) (w : Wd) (I : MI) (L : ML) (P : MP) (h0 : w.1 a_l0 = some (7, 0)) : go 186 28 [.ref a_l0, l1, .int x_l2, l3, l4, l5] [] w I L P = kC (call 129 [.ref a_l0, .int x_l2, .int (nI 4)] w I L P) (fun v w1 I1 L1 P1 => go 186 34 [.ref a_l0, l1, .int x_l2, l3, l4, l5] (v.toList ++ []) w1 I1 L1 P1) := by
  refine (go_aload_n (m := 186) (pc := 28) (k := 0) (by decide +kernel) rfl).trans ?_
  refine (go_iload_n (m := 186) (pc := 29) (k := 2) (by decide +kernel) rfl).trans ?_
  refine (go_ic (m := 186) (pc := 30) (n := 4) (by decide +kernel) ic_4).trans ?_
  exact go_vir (m := 186) (pc := 31) (o := 7) (x := 76) (y := 129) (kd := 0) (b := a_l0) (bs := [.int x_l2, .int (nI 4)]) (rs := []) (by decide +kernel) rfl rfl c_7_76 (Or.inl rfl) rfl rfl rfl (by decide +kernel) (by simp only [List.length_cons, List.length_nil]; decide) (Nat.le_of_ble_eq_true rfl) h0
theorem Model_takesAlone_34 (l0 : Value) (l1 : Value) (l2 : Value) (l3 : Value) (l4 : Value) (l5 : Value) (y0 : Int32) (w : Wd) (I : MI) (L : ML) (P : MP)  : go 186 34 [l0, l1, l2, l3, l4, l5] [.int y0] w I L P = if y0 ≠ 0 then go 186 40 [l0, l1, l2, l3, l4, l5] [] w I L P else go 186 37 [l0, l1, l2, l3, l4, l5] [] w I L P := by
  exact go_ifne (m := 186) (pc := 34) (off := 6) (t := 40) (by decide +kernel) (by decide)
theorem Model_takesAlone_37 (l0 : Value) (l1 : Value) (l2 : Value) (l3 : Value) (l4 : Value) (l5 : Value) (w : Wd) (I : MI) (L : ML) (P : MP)  : go 186 37 [l0, l1, l2, l3, l4, l5] [] w I L P = some (.inl (some (.int (nI 11))), w, I, L, P) := by
  refine (go_bi (m := 186) (pc := 37) (n := 11) (by decide +kernel) bi_11).trans ?_
  exact go_retI (m := 186) (pc := 39) (by decide +kernel) rfl
theorem Model_takesAlone_40 (a_l0 : Nat) (l1 : Value) (x_l2 : Int32) (l3 : Value) (l4 : Value) (l5 : Value) (w : Wd) (I : MI) (L : ML) (P : MP) (h0 : w.1 a_l0 = some (7, 0)) : go 186 40 [.ref a_l0, l1, .int x_l2, l3, l4, l5] [] w I L P = kC (call 129 [.ref a_l0, .int x_l2, .int (nI 2)] w I L P) (fun v w1 I1 L1 P1 => go 186 48 [.ref a_l0, l1, .int x_l2, l3, l4, l5] (v.toList ++ [.int (nI 16)]) w1 I1 L1 P1) := by
  refine (go_bi (m := 186) (pc := 40) (n := 16) (by decide +kernel) bi_16).trans ?_
  refine (go_aload_n (m := 186) (pc := 42) (k := 0) (by decide +kernel) rfl).trans ?_
  refine (go_iload_n (m := 186) (pc := 43) (k := 2) (by decide +kernel) rfl).trans ?_
  refine (go_ic (m := 186) (pc := 44) (n := 2) (by decide +kernel) ic_2).trans ?_
  exact go_vir (m := 186) (pc := 45) (o := 7) (x := 76) (y := 129) (kd := 0) (b := a_l0) (bs := [.int x_l2, .int (nI 2)]) (rs := [.int (nI 16)]) (by decide +kernel) rfl rfl c_7_76 (Or.inl rfl) rfl rfl rfl (by decide +kernel) (by simp only [List.length_cons, List.length_nil]; decide) (Nat.le_of_ble_eq_true rfl) h0
theorem Model_takesAlone_48 (a_l0 : Nat) (x_l1 : Int32) (l2 : Value) (l3 : Value) (l4 : Value) (l5 : Value) (y0 : Int32) (y1 : Int32) (w : Wd) (I : MI) (L : ML) (P : MP) (h0 : w.1 a_l0 = some (7, 0)) : go 186 48 [.ref a_l0, .int x_l1, l2, l3, l4, l5] [.int y1, .int y0] w I L P = kC (call 128 [.ref a_l0, .int x_l1, .int (nI 0), .int (nI 2)] w I L P) (fun v w1 I1 L1 P1 => go 186 57 [.ref a_l0, .int x_l1, (fix1 l2), .int (y0 - y1), l4, l5] (v.toList ++ []) w1 I1 L1 P1) := by
  refine (go_isub (m := 186) (pc := 48) (by decide +kernel)).trans ?_
  refine (go_istore_n (m := 186) (pc := 49) (k := 3) (ls' := [.ref a_l0, .int x_l1, (fix1 l2), .int (y0 - y1), l4, l5]) (by decide +kernel) (by simp only [List.length_cons, List.length_nil]; decide) rfl).trans ?_
  refine (go_aload_n (m := 186) (pc := 50) (k := 0) (by decide +kernel) rfl).trans ?_
  refine (go_iload_n (m := 186) (pc := 51) (k := 1) (by decide +kernel) rfl).trans ?_
  refine (go_ic (m := 186) (pc := 52) (n := 0) (by decide +kernel) ic_0).trans ?_
  refine (go_ic (m := 186) (pc := 53) (n := 2) (by decide +kernel) ic_2).trans ?_
  exact go_vir (m := 186) (pc := 54) (o := 7) (x := 50) (y := 128) (kd := 0) (b := a_l0) (bs := [.int x_l1, .int (nI 0), .int (nI 2)]) (rs := []) (by decide +kernel) rfl rfl c_7_50 (Or.inl rfl) rfl rfl rfl (by decide +kernel) (by simp only [List.length_cons, List.length_nil]; decide) (Nat.le_of_ble_eq_true rfl) h0
theorem Model_takesAlone_57 (a_l0 : Nat) (x_l1 : Int32) (l2 : Value) (l3 : Value) (l4 : Value) (l5 : Value) (y0 : Int32) (w : Wd) (I : MI) (L : ML) (P : MP) (h0 : w.1 a_l0 = some (7, 0)) : go 186 57 [.ref a_l0, .int x_l1, l2, l3, l4, l5] [.int y0] w I L P = kC (call 128 [.ref a_l0, .int x_l1, .int (nI 0), .int (nI 1)] w I L P) (fun v w1 I1 L1 P1 => go 186 66 [.ref a_l0, .int x_l1, l2, (fix1 l3), .int y0, l5] (v.toList ++ []) w1 I1 L1 P1) := by
  refine (go_istore (m := 186) (pc := 57) (k := 4) (ls' := [.ref a_l0, .int x_l1, l2, (fix1 l3), .int y0, l5]) (by decide +kernel) (by simp only [List.length_cons, List.length_nil]; decide) rfl).trans ?_
  refine (go_aload_n (m := 186) (pc := 59) (k := 0) (by decide +kernel) rfl).trans ?_
  refine (go_iload_n (m := 186) (pc := 60) (k := 1) (by decide +kernel) rfl).trans ?_
  refine (go_ic (m := 186) (pc := 61) (n := 0) (by decide +kernel) ic_0).trans ?_
  refine (go_ic (m := 186) (pc := 62) (n := 1) (by decide +kernel) ic_1).trans ?_
  exact go_vir (m := 186) (pc := 63) (o := 7) (x := 50) (y := 128) (kd := 0) (b := a_l0) (bs := [.int x_l1, .int (nI 0), .int (nI 1)]) (rs := []) (by decide +kernel) rfl rfl c_7_50 (Or.inl rfl) rfl rfl rfl (by decide +kernel) (by simp only [List.length_cons, List.length_nil]; decide) (Nat.le_of_ble_eq_true rfl) h0
theorem Model_takesAlone_66 (l0 : Value) (l1 : Value) (l2 : Value) (l3 : Value) (l4 : Value) (l5 : Value) (y0 : Int32) (w : Wd) (I : MI) (L : ML) (P : MP)  : go 186 66 [l0, l1, l2, l3, l4, l5] [.int y0] w I L P = if y0 ≠ 0 then go 186 81 [l0, l1, l2, l3, l4, l5] [] w I L P else go 186 69 [l0, l1, l2, l3, l4, l5] [] w I L P := by
  exact go_ifne (m := 186) (pc := 66) (off := 15) (t := 81) (by decide +kernel) (by decide)
theorem Model_takesAlone_69 (l0 : Value) (l1 : Value) (l2 : Value) (x_l3 : Int32) (x_l4 : Int32) (l5 : Value) (w : Wd) (I : MI) (L : ML) (P : MP)  : go 186 69 [l0, l1, l2, .int x_l3, .int x_l4, l5] [] w I L P = if x_l4 ≤ x_l3 then go 186 81 [l0, l1, l2, .int x_l3, .int x_l4, l5] [] w I L P else go 186 75 [l0, l1, l2, .int x_l3, .int x_l4, l5] [] w I L P := by
  refine (go_iload_n (m := 186) (pc := 69) (k := 3) (by decide +kernel) rfl).trans ?_
  refine (go_iload (m := 186) (pc := 70) (k := 4) (by decide +kernel) rfl).trans ?_
  exact go_icmpge (m := 186) (pc := 72) (off := 9) (t := 81) (by decide +kernel) (by decide)
theorem Model_takesAlone_75 (l0 : Value) (l1 : Value) (l2 : Value) (x_l3 : Int32) (l4 : Value) (l5 : Value) (w : Wd) (I : MI) (L : ML) (P : MP)  : go 186 75 [l0, l1, l2, .int x_l3, l4, l5] [] w I L P = go 186 83 [l0, l1, l2, .int x_l3, l4, l5] [.int (x_l3 + (nI 1))] w I L P := by
  refine (go_iload_n (m := 186) (pc := 75) (k := 3) (by decide +kernel) rfl).trans ?_
  refine (go_ic (m := 186) (pc := 76) (n := 1) (by decide +kernel) ic_1).trans ?_
  refine (go_iadd (m := 186) (pc := 77) (by decide +kernel)).trans ?_
  refine (go_goto (m := 186) (pc := 78) (off := 5) (t := 83) (by decide +kernel) (by decide)).trans ?_
  rfl
theorem Model_takesAlone_81 (l0 : Value) (l1 : Value) (l2 : Value) (l3 : Value) (x_l4 : Int32) (l5 : Value) (w : Wd) (I : MI) (L : ML) (P : MP)  : go 186 81 [l0, l1, l2, l3, .int x_l4, l5] [] w I L P = go 186 83 [l0, l1, l2, l3, .int x_l4, l5] [.int x_l4] w I L P := by
  refine (go_iload (m := 186) (pc := 81) (k := 4) (by decide +kernel) rfl).trans ?_
  rfl
theorem Model_takesAlone_83 (a_l0 : Nat) (l1 : Value) (x_l2 : Int32) (l3 : Value) (l4 : Value) (l5 : Value) (y0 : Int32) (w : Wd) (I : MI) (L : ML) (P : MP) (h0 : w.1 a_l0 = some (7, 0)) : go 186 83 [.ref a_l0, l1, .int x_l2, l3, l4, l5] [.int y0] w I L P = kC (call 129 [.ref a_l0, .int x_l2, .int (nI 1)] w I L P) (fun v w1 I1 L1 P1 => go 186 95 [.ref a_l0, l1, .int x_l2, l3, (fix1 l4), .int y0] (v.toList ++ [.int y0, .int (nI 11)]) w1 I1 L1 P1) := by
  refine (go_istore (m := 186) (pc := 83) (k := 5) (ls' := [.ref a_l0, l1, .int x_l2, l3, (fix1 l4), .int y0]) (by decide +kernel) (by simp only [List.length_cons, List.length_nil]; decide) rfl).trans ?_
  refine (go_bi (m := 186) (pc := 85) (n := 11) (by decide +kernel) bi_11).trans ?_
  refine (go_iload (m := 186) (pc := 87) (k := 5) (by decide +kernel) rfl).trans ?_
  refine (go_aload_n (m := 186) (pc := 89) (k := 0) (by decide +kernel) rfl).trans ?_
  refine (go_iload_n (m := 186) (pc := 90) (k := 2) (by decide +kernel) rfl).trans ?_
  refine (go_ic (m := 186) (pc := 91) (n := 1) (by decide +kernel) ic_1).trans ?_
  exact go_vir (m := 186) (pc := 92) (o := 7) (x := 76) (y := 129) (kd := 0) (b := a_l0) (bs := [.int x_l2, .int (nI 1)]) (rs := [.int y0, .int (nI 11)]) (by decide +kernel) rfl rfl c_7_76 (Or.inl rfl) rfl rfl rfl (by decide +kernel) (by simp only [List.length_cons, List.length_nil]; decide) (Nat.le_of_ble_eq_true rfl) h0
theorem Model_takesAlone_95 (l0 : Value) (l1 : Value) (l2 : Value) (l3 : Value) (l4 : Value) (l5 : Value) (y0 : Int32) (y1 : Int32) (y2 : Int32) (w : Wd) (I : MI) (L : ML) (P : MP)  : go 186 95 [l0, l1, l2, l3, l4, l5] [.int y2, .int y1, .int y0] w I L P = some (.inl (some (.int (y0 + (y1 * (y2 + (nI 9)))))), w, I, L, P) := by
  refine (go_bi (m := 186) (pc := 95) (n := 9) (by decide +kernel) bi_9).trans ?_
  refine (go_iadd (m := 186) (pc := 97) (by decide +kernel)).trans ?_
  refine (go_imul (m := 186) (pc := 98) (by decide +kernel)).trans ?_
  refine (go_iadd (m := 186) (pc := 99) (by decide +kernel)).trans ?_
  exact go_retI (m := 186) (pc := 100) (by decide +kernel) rfl
theorem Model_takesAlone_E (this : Nat) (p0 : Int32) (w : Wd) (I : MI) (L : ML) (P : MP) : call 186 [.ref this, .int p0] w I L P = go 186 0 [.ref this, .int p0, unk, unk, unk, unk] [] w I L P := rfl
theorem Model_alone_0 (a_l0 : Nat) (x_l1 : Int32) (w : Wd) (I : MI) (L : ML) (P : MP) (h0 : w.1 a_l0 = some (7, 0)) : go 187 0 [.ref a_l0, .int x_l1] [] w I L P = kC (call 131 [.ref a_l0, .int x_l1] w I L P) (fun v w1 I1 L1 P1 => go 187 5 [.ref a_l0, .int x_l1] (v.toList ++ []) w1 I1 L1 P1) := by
  refine (go_aload_n (m := 187) (pc := 0) (k := 0) (by decide +kernel) rfl).trans ?_
  refine (go_iload_n (m := 187) (pc := 1) (k := 1) (by decide +kernel) rfl).trans ?_
  exact go_vir (m := 187) (pc := 2) (o := 7) (x := 145) (y := 131) (kd := 0) (b := a_l0) (bs := [.int x_l1]) (rs := []) (by decide +kernel) rfl rfl c_7_145 (Or.inl rfl) rfl rfl rfl (by decide +kernel) (by simp only [List.length_cons, List.length_nil]; decide) (Nat.le_of_ble_eq_true rfl) h0
theorem Model_alone_5 (l0 : Value) (l1 : Value) (y0 : Int32) (w : Wd) (I : MI) (L : ML) (P : MP)  : go 187 5 [l0, l1] [.int y0] w I L P = if y0 = 0 then go 187 20 [l0, l1] [] w I L P else go 187 8 [l0, l1] [] w I L P := by
  exact go_ifeq (m := 187) (pc := 5) (off := 15) (t := 20) (by decide +kernel) (by decide)
theorem Model_alone_8 (a_l0 : Nat) (x_l1 : Int32) (w : Wd) (I : MI) (L : ML) (P : MP) (h0 : w.1 a_l0 = some (7, 0)) : go 187 8 [.ref a_l0, .int x_l1] [] w I L P = kC (call 186 [.ref a_l0, .int x_l1] w I L P) (fun v w1 I1 L1 P1 => go 187 14 [.ref a_l0, .int x_l1] (v.toList ++ [.ref a_l0]) w1 I1 L1 P1) := by
  refine (go_aload_n (m := 187) (pc := 8) (k := 0) (by decide +kernel) rfl).trans ?_
  refine (go_aload_n (m := 187) (pc := 9) (k := 0) (by decide +kernel) rfl).trans ?_
  refine (go_iload_n (m := 187) (pc := 10) (k := 1) (by decide +kernel) rfl).trans ?_
  exact go_vir (m := 187) (pc := 11) (o := 7) (x := 210) (y := 186) (kd := 0) (b := a_l0) (bs := [.int x_l1]) (rs := [.ref a_l0]) (by decide +kernel) rfl rfl c_7_210 (Or.inl rfl) rfl rfl rfl (by decide +kernel) (by simp only [List.length_cons, List.length_nil]; decide) (Nat.le_of_ble_eq_true rfl) h0
theorem Model_alone_14 (l0 : Value) (l1 : Value) (a_s0 : Nat) (y1 : Int32) (w : Wd) (I : MI) (L : ML) (P : MP) (h0 : w.1 a_s0 = some (7, 0)) : go 187 14 [l0, l1] [.int y1, .ref a_s0] w I L P = kC (call 123 [.ref a_s0, .int y1] w I L P) (fun v w1 I1 L1 P1 => go 187 17 [l0, l1] (v.toList ++ []) w1 I1 L1 P1) := by
  exact go_vir (m := 187) (pc := 14) (o := 7) (x := 47) (y := 123) (kd := 0) (b := a_s0) (bs := [.int y1]) (rs := []) (by decide +kernel) rfl rfl c_7_47 (Or.inl rfl) rfl rfl rfl (by decide +kernel) (by simp only [List.length_cons, List.length_nil]; decide) (Nat.le_of_ble_eq_true rfl) h0
theorem Model_alone_17 (l0 : Value) (l1 : Value) (y0 : Int32) (w : Wd) (I : MI) (L : ML) (P : MP)  : go 187 17 [l0, l1] [.int y0] w I L P = go 187 25 [l0, l1] [.int y0] w I L P := by
  refine (go_goto (m := 187) (pc := 17) (off := 8) (t := 25) (by decide +kernel) (by decide)).trans ?_
  rfl
theorem Model_alone_20 (a_l0 : Nat) (l1 : Value) (w : Wd) (I : MI) (L : ML) (P : MP) (h0 : w.1 a_l0 = some (7, 0)) : go 187 20 [.ref a_l0, l1] [] w I L P = kC (call 122 [.ref a_l0, .int (nI 1)] w I L P) (fun v w1 I1 L1 P1 => go 187 25 [.ref a_l0, l1] (v.toList ++ []) w1 I1 L1 P1) := by
  refine (go_aload_n (m := 187) (pc := 20) (k := 0) (by decide +kernel) rfl).trans ?_
  refine (go_ic (m := 187) (pc := 21) (n := 1) (by decide +kernel) ic_1).trans ?_
  exact go_vir (m := 187) (pc := 22) (o := 7) (x := 37) (y := 122) (kd := 0) (b := a_l0) (bs := [.int (nI 1)]) (rs := []) (by decide +kernel) rfl rfl c_7_37 (Or.inl rfl) rfl rfl rfl (by decide +kernel) (by simp only [List.length_cons, List.length_nil]; decide) (Nat.le_of_ble_eq_true rfl) h0
theorem Model_alone_25 (l0 : Value) (l1 : Value) (y0 : Int32) (w : Wd) (I : MI) (L : ML) (P : MP)  : go 187 25 [l0, l1] [.int y0] w I L P = some (.inl (some (.int y0)), w, I, L, P) := by
  exact go_retI (m := 187) (pc := 25) (by decide +kernel) rfl
theorem Model_alone_E (this : Nat) (p0 : Int32) (w : Wd) (I : MI) (L : ML) (P : MP) : call 187 [.ref this, .int p0] w I L P = go 187 0 [.ref this, .int p0] [] w I L P := rfl
theorem Model_winners_0 (l0 : Value) (l1 : Value) (l2 : Value) (l3 : Value) (w : Wd) (I : MI) (L : ML) (P : MP)  : go 188 0 [l0, l1, l2, l3] [] w I L P = go 188 8 [(fix1 l0), .int (nI 0), .int (nI 256), .int (nI 0)] [] w I L P := by
  refine (go_ic (m := 188) (pc := 0) (n := 0) (by decide +kernel) ic_0).trans ?_
  refine (go_istore_n (m := 188) (pc := 1) (k := 1) (ls' := [(fix1 l0), .int (nI 0), l2, l3]) (by decide +kernel) (by simp only [List.length_cons, List.length_nil]; decide) rfl).trans ?_
  refine (go_si (m := 188) (pc := 2) (n := 256) (by decide +kernel) si_256).trans ?_
  refine (go_istore_n (m := 188) (pc := 5) (k := 2) (ls' := [(fix1 l0), .int (nI 0), .int (nI 256), l3]) (by decide +kernel) (by simp only [List.length_cons, List.length_nil]; decide) rfl).trans ?_
  refine (go_ic (m := 188) (pc := 6) (n := 0) (by decide +kernel) ic_0).trans ?_
  refine (go_istore_n (m := 188) (pc := 7) (k := 3) (ls' := [(fix1 l0), .int (nI 0), .int (nI 256), .int (nI 0)]) (by decide +kernel) (by simp only [List.length_cons, List.length_nil]; decide) rfl).trans ?_
  rfl
theorem Model_winners_8 (a_l0 : Nat) (l1 : Value) (l2 : Value) (x_l3 : Int32) (w : Wd) (I : MI) (L : ML) (P : MP) (h0 : w.1 a_l0 = some (7, 0)) : go 188 8 [.ref a_l0, l1, l2, .int x_l3] [] w I L P = go 188 13 [.ref a_l0, l1, l2, .int x_l3] [(va_rf (P a_l0 0)), .int x_l3] w I L P := by
  refine (go_iload_n (m := 188) (pc := 8) (k := 3) (by decide +kernel) rfl).trans ?_
  refine (go_aload_n (m := 188) (pc := 9) (k := 0) (by decide +kernel) rfl).trans ?_
  refine (go_getR (m := 188) (pc := 10) (o := 7) (x := 7) (ci := 7) (k := 0) (by decide +kernel) rfl f_7_7 rfl h0).trans ?_
  rfl
theorem Model_winners_13 (l0 : Value) (l1 : Value) (l2 : Value) (l3 : Value) (y0 : Int32) (a_s1 : Nat) (w : Wd) (I : MI) (L : ML) (P : MP) (h0 : inA w a_s1 8 (nI 1)) : go 188 13 [l0, l1, l2, l3] [.ref a_s1, .int y0] w I L P = if (I a_s1 (Int32.toNatClampNeg (nI 1))) ≤ y0 then go 188 86 [l0, l1, l2, l3] [] w I L P else go 188 18 [l0, l1, l2, l3] [] w I L P := by
  refine (go_ic (m := 188) (pc := 13) (n := 1) (by decide +kernel) ic_1).trans ?_
  refine (go_iald (m := 188) (pc := 14) (by decide +kernel) h0).trans ?_
  exact go_icmpge (m := 188) (pc := 15) (off := 71) (t := 86) (by decide +kernel) (by decide)
theorem Model_winners_18 (a_l0 : Nat) (l1 : Value) (l2 : Value) (x_l3 : Int32) (w : Wd) (I : MI) (L : ML) (P : MP) (h0 : w.1 a_l0 = some (7, 0)) : go 188 18 [.ref a_l0, l1, l2, .int x_l3] [] w I L P = kC (call 126 [.ref a_l0, .int x_l3, .int (nI 0)] w I L P) (fun v w1 I1 L1 P1 => go 188 24 [.ref a_l0, l1, l2, .int x_l3] (v.toList ++ []) w1 I1 L1 P1) := by
  refine (go_aload_n (m := 188) (pc := 18) (k := 0) (by decide +kernel) rfl).trans ?_
  refine (go_iload_n (m := 188) (pc := 19) (k := 3) (by decide +kernel) rfl).trans ?_
  refine (go_ic (m := 188) (pc := 20) (n := 0) (by decide +kernel) ic_0).trans ?_
  exact go_vir (m := 188) (pc := 21) (o := 7) (x := 102) (y := 126) (kd := 0) (b := a_l0) (bs := [.int x_l3, .int (nI 0)]) (rs := []) (by decide +kernel) rfl rfl c_7_102 (Or.inl rfl) rfl rfl rfl (by decide +kernel) (by simp only [List.length_cons, List.length_nil]; decide) (Nat.le_of_ble_eq_true rfl) h0
theorem Model_winners_24 (l0 : Value) (l1 : Value) (l2 : Value) (l3 : Value) (y0 : Int32) (w : Wd) (I : MI) (L : ML) (P : MP)  : go 188 24 [l0, l1, l2, l3] [.int y0] w I L P = if y0 ≤ 0 then go 188 80 [l0, l1, l2, l3] [] w I L P else go 188 27 [l0, l1, l2, l3] [] w I L P := by
  exact go_ifle (m := 188) (pc := 24) (off := 56) (t := 80) (by decide +kernel) (by decide)
theorem Model_winners_27 (a_l0 : Nat) (l1 : Value) (l2 : Value) (x_l3 : Int32) (w : Wd) (I : MI) (L : ML) (P : MP) (h0 : w.1 a_l0 = some (7, 0)) : go 188 27 [.ref a_l0, l1, l2, .int x_l3] [] w I L P = kC (call 139 [.ref a_l0, .int x_l3] w I L P) (fun v w1 I1 L1 P1 => go 188 32 [.ref a_l0, l1, l2, .int x_l3] (v.toList ++ []) w1 I1 L1 P1) := by
  refine (go_aload_n (m := 188) (pc := 27) (k := 0) (by decide +kernel) rfl).trans ?_
  refine (go_iload_n (m := 188) (pc := 28) (k := 3) (by decide +kernel) rfl).trans ?_
  exact go_vir (m := 188) (pc := 29) (o := 7) (x := 62) (y := 139) (kd := 0) (b := a_l0) (bs := [.int x_l3]) (rs := []) (by decide +kernel) rfl rfl c_7_62 (Or.inl rfl) rfl rfl rfl (by decide +kernel) (by simp only [List.length_cons, List.length_nil]; decide) (Nat.le_of_ble_eq_true rfl) h0
theorem Model_winners_32 (l0 : Value) (l1 : Value) (x_l2 : Int32) (l3 : Value) (y0 : Int32) (w : Wd) (I : MI) (L : ML) (P : MP)  : go 188 32 [l0, l1, .int x_l2, l3] [.int y0] w I L P = if x_l2 ≤ y0 then go 188 42 [l0, l1, .int x_l2, l3] [] w I L P else go 188 36 [l0, l1, .int x_l2, l3] [] w I L P := by
  refine (go_iload_n (m := 188) (pc := 32) (k := 2) (by decide +kernel) rfl).trans ?_
  exact go_icmpge (m := 188) (pc := 33) (off := 9) (t := 42) (by decide +kernel) (by decide)
theorem Model_winners_36 (l0 : Value) (l1 : Value) (l2 : Value) (x_l3 : Int32) (w : Wd) (I : MI) (L : ML) (P : MP)  : go 188 36 [l0, l1, l2, .int x_l3] [] w I L P = go 188 60 [l0, l1, l2, .int x_l3] [.int ((nI 1) <<< (x_l3 &&& 31))] w I L P := by
  refine (go_ic (m := 188) (pc := 36) (n := 1) (by decide +kernel) ic_1).trans ?_
  refine (go_iload_n (m := 188) (pc := 37) (k := 3) (by decide +kernel) rfl).trans ?_
  refine (go_ishl (m := 188) (pc := 38) (by decide +kernel)).trans ?_
  refine (go_goto (m := 188) (pc := 39) (off := 21) (t := 60) (by decide +kernel) (by decide)).trans ?_
  rfl
theorem Model_winners_42 (a_l0 : Nat) (l1 : Value) (l2 : Value) (x_l3 : Int32) (w : Wd) (I : MI) (L : ML) (P : MP) (h0 : w.1 a_l0 = some (7, 0)) : go 188 42 [.ref a_l0, l1, l2, .int x_l3] [] w I L P = kC (call 139 [.ref a_l0, .int x_l3] w I L P) (fun v w1 I1 L1 P1 => go 188 47 [.ref a_l0, l1, l2, .int x_l3] (v.toList ++ []) w1 I1 L1 P1) := by
  refine (go_aload_n (m := 188) (pc := 42) (k := 0) (by decide +kernel) rfl).trans ?_
  refine (go_iload_n (m := 188) (pc := 43) (k := 3) (by decide +kernel) rfl).trans ?_
  exact go_vir (m := 188) (pc := 44) (o := 7) (x := 62) (y := 139) (kd := 0) (b := a_l0) (bs := [.int x_l3]) (rs := []) (by decide +kernel) rfl rfl c_7_62 (Or.inl rfl) rfl rfl rfl (by decide +kernel) (by simp only [List.length_cons, List.length_nil]; decide) (Nat.le_of_ble_eq_true rfl) h0
theorem Model_winners_47 (l0 : Value) (l1 : Value) (x_l2 : Int32) (l3 : Value) (y0 : Int32) (w : Wd) (I : MI) (L : ML) (P : MP)  : go 188 47 [l0, l1, .int x_l2, l3] [.int y0] w I L P = if y0 ≠ x_l2 then go 188 59 [l0, l1, .int x_l2, l3] [] w I L P else go 188 51 [l0, l1, .int x_l2, l3] [] w I L P := by
  refine (go_iload_n (m := 188) (pc := 47) (k := 2) (by decide +kernel) rfl).trans ?_
  exact go_icmpne (m := 188) (pc := 48) (off := 11) (t := 59) (by decide +kernel) (by decide)
theorem Model_winners_51 (l0 : Value) (x_l1 : Int32) (l2 : Value) (x_l3 : Int32) (w : Wd) (I : MI) (L : ML) (P : MP)  : go 188 51 [l0, .int x_l1, l2, .int x_l3] [] w I L P = go 188 60 [l0, .int x_l1, l2, .int x_l3] [.int (x_l1 ||| ((nI 1) <<< (x_l3 &&& 31)))] w I L P := by
  refine (go_iload_n (m := 188) (pc := 51) (k := 1) (by decide +kernel) rfl).trans ?_
  refine (go_ic (m := 188) (pc := 52) (n := 1) (by decide +kernel) ic_1).trans ?_
  refine (go_iload_n (m := 188) (pc := 53) (k := 3) (by decide +kernel) rfl).trans ?_
  refine (go_ishl (m := 188) (pc := 54) (by decide +kernel)).trans ?_
  refine (go_ior (m := 188) (pc := 55) (by decide +kernel)).trans ?_
  refine (go_goto (m := 188) (pc := 56) (off := 4) (t := 60) (by decide +kernel) (by decide)).trans ?_
  rfl
theorem Model_winners_59 (l0 : Value) (x_l1 : Int32) (l2 : Value) (l3 : Value) (w : Wd) (I : MI) (L : ML) (P : MP)  : go 188 59 [l0, .int x_l1, l2, l3] [] w I L P = go 188 60 [l0, .int x_l1, l2, l3] [.int x_l1] w I L P := by
  refine (go_iload_n (m := 188) (pc := 59) (k := 1) (by decide +kernel) rfl).trans ?_
  rfl
theorem Model_winners_60 (a_l0 : Nat) (l1 : Value) (l2 : Value) (x_l3 : Int32) (y0 : Int32) (w : Wd) (I : MI) (L : ML) (P : MP) (h0 : w.1 a_l0 = some (7, 0)) : go 188 60 [.ref a_l0, l1, l2, .int x_l3] [.int y0] w I L P = kC (call 139 [.ref a_l0, .int x_l3] w I L P) (fun v w1 I1 L1 P1 => go 188 66 [.ref a_l0, .int y0, l2, .int x_l3] (v.toList ++ []) w1 I1 L1 P1) := by
  refine (go_istore_n (m := 188) (pc := 60) (k := 1) (ls' := [.ref a_l0, .int y0, l2, .int x_l3]) (by decide +kernel) (by simp only [List.length_cons, List.length_nil]; decide) rfl).trans ?_
  refine (go_aload_n (m := 188) (pc := 61) (k := 0) (by decide +kernel) rfl).trans ?_
  refine (go_iload_n (m := 188) (pc := 62) (k := 3) (by decide +kernel) rfl).trans ?_
  exact go_vir (m := 188) (pc := 63) (o := 7) (x := 62) (y := 139) (kd := 0) (b := a_l0) (bs := [.int x_l3]) (rs := []) (by decide +kernel) rfl rfl c_7_62 (Or.inl rfl) rfl rfl rfl (by decide +kernel) (by simp only [List.length_cons, List.length_nil]; decide) (Nat.le_of_ble_eq_true rfl) h0
theorem Model_winners_66 (l0 : Value) (l1 : Value) (x_l2 : Int32) (l3 : Value) (y0 : Int32) (w : Wd) (I : MI) (L : ML) (P : MP)  : go 188 66 [l0, l1, .int x_l2, l3] [.int y0] w I L P = if x_l2 ≤ y0 then go 188 78 [l0, l1, .int x_l2, l3] [] w I L P else go 188 70 [l0, l1, .int x_l2, l3] [] w I L P := by
  refine (go_iload_n (m := 188) (pc := 66) (k := 2) (by decide +kernel) rfl).trans ?_
  exact go_icmpge (m := 188) (pc := 67) (off := 11) (t := 78) (by decide +kernel) (by decide)
theorem Model_winners_70 (a_l0 : Nat) (l1 : Value) (l2 : Value) (x_l3 : Int32) (w : Wd) (I : MI) (L : ML) (P : MP) (h0 : w.1 a_l0 = some (7, 0)) : go 188 70 [.ref a_l0, l1, l2, .int x_l3] [] w I L P = kC (call 139 [.ref a_l0, .int x_l3] w I L P) (fun v w1 I1 L1 P1 => go 188 75 [.ref a_l0, l1, l2, .int x_l3] (v.toList ++ []) w1 I1 L1 P1) := by
  refine (go_aload_n (m := 188) (pc := 70) (k := 0) (by decide +kernel) rfl).trans ?_
  refine (go_iload_n (m := 188) (pc := 71) (k := 3) (by decide +kernel) rfl).trans ?_
  exact go_vir (m := 188) (pc := 72) (o := 7) (x := 62) (y := 139) (kd := 0) (b := a_l0) (bs := [.int x_l3]) (rs := []) (by decide +kernel) rfl rfl c_7_62 (Or.inl rfl) rfl rfl rfl (by decide +kernel) (by simp only [List.length_cons, List.length_nil]; decide) (Nat.le_of_ble_eq_true rfl) h0
theorem Model_winners_75 (l0 : Value) (l1 : Value) (l2 : Value) (l3 : Value) (y0 : Int32) (w : Wd) (I : MI) (L : ML) (P : MP)  : go 188 75 [l0, l1, l2, l3] [.int y0] w I L P = go 188 79 [l0, l1, l2, l3] [.int y0] w I L P := by
  refine (go_goto (m := 188) (pc := 75) (off := 4) (t := 79) (by decide +kernel) (by decide)).trans ?_
  rfl
theorem Model_winners_78 (l0 : Value) (l1 : Value) (x_l2 : Int32) (l3 : Value) (w : Wd) (I : MI) (L : ML) (P : MP)  : go 188 78 [l0, l1, .int x_l2, l3] [] w I L P = go 188 79 [l0, l1, .int x_l2, l3] [.int x_l2] w I L P := by
  refine (go_iload_n (m := 188) (pc := 78) (k := 2) (by decide +kernel) rfl).trans ?_
  rfl
theorem Model_winners_79 (l0 : Value) (l1 : Value) (l2 : Value) (l3 : Value) (y0 : Int32) (w : Wd) (I : MI) (L : ML) (P : MP)  : go 188 79 [l0, l1, l2, l3] [.int y0] w I L P = go 188 80 [l0, (fix1 l1), .int y0, l3] [] w I L P := by
  refine (go_istore_n (m := 188) (pc := 79) (k := 2) (ls' := [l0, (fix1 l1), .int y0, l3]) (by decide +kernel) (by simp only [List.length_cons, List.length_nil]; decide) rfl).trans ?_
  rfl
theorem Model_winners_80 (l0 : Value) (l1 : Value) (l2 : Value) (x_l3 : Int32) (w : Wd) (I : MI) (L : ML) (P : MP)  : go 188 80 [l0, l1, l2, .int x_l3] [] w I L P = go 188 8 [l0, l1, (fix1 l2), .int (x_l3 + (nI 1))] [] w I L P := by
  refine (go_iinc (m := 188) (pc := 80) (k := 3) (n := 1) (x := x_l3) (v := x_l3 + (nI 1)) (ls' := [l0, l1, (fix1 l2), .int (x_l3 + (nI 1))]) (by decide +kernel) rfl (by rw [ic_1]) rfl).trans ?_
  refine (go_goto (m := 188) (pc := 83) (off := -75) (t := 8) (by decide +kernel) (by decide)).trans ?_
  rfl
theorem Model_winners_86 (a_l0 : Nat) (x_l1 : Int32) (l2 : Value) (l3 : Value) (w : Wd) (I : MI) (L : ML) (P : MP) (h0 : w.1 a_l0 = some (7, 0)) : go 188 86 [.ref a_l0, .int x_l1, l2, l3] [] w I L P = kC (call 123 [.ref a_l0, .int x_l1] w I L P) (fun v w1 I1 L1 P1 => go 188 91 [.ref a_l0, .int x_l1, l2, l3] (v.toList ++ []) w1 I1 L1 P1) := by
  refine (go_aload_n (m := 188) (pc := 86) (k := 0) (by decide +kernel) rfl).trans ?_
  refine (go_iload_n (m := 188) (pc := 87) (k := 1) (by decide +kernel) rfl).trans ?_
  exact go_vir (m := 188) (pc := 88) (o := 7) (x := 47) (y := 123) (kd := 0) (b := a_l0) (bs := [.int x_l1]) (rs := []) (by decide +kernel) rfl rfl c_7_47 (Or.inl rfl) rfl rfl rfl (by decide +kernel) (by simp only [List.length_cons, List.length_nil]; decide) (Nat.le_of_ble_eq_true rfl) h0
theorem Model_winners_91 (l0 : Value) (l1 : Value) (l2 : Value) (l3 : Value) (y0 : Int32) (w : Wd) (I : MI) (L : ML) (P : MP)  : go 188 91 [l0, l1, l2, l3] [.int y0] w I L P = some (.inl (some (.int y0)), w, I, L, P) := by
  exact go_retI (m := 188) (pc := 91) (by decide +kernel) rfl
theorem Model_winners_E (this : Nat) (w : Wd) (I : MI) (L : ML) (P : MP) : call 188 [.ref this] w I L P = go 188 0 [.ref this, unk, unk, unk] [] w I L P := rfl
theorem Model_delivers_0 (a_l0 : Nat) (x_l1 : Int32) (l2 : Value) (l3 : Value) (w : Wd) (I : MI) (L : ML) (P : MP) (h0 : w.1 a_l0 = some (7, 0)) : go 189 0 [.ref a_l0, .int x_l1, l2, l3] [] w I L P = kC (call 131 [.ref a_l0, .int x_l1] w I L P) (fun v w1 I1 L1 P1 => go 189 5 [.ref a_l0, .int x_l1, l2, l3] (v.toList ++ []) w1 I1 L1 P1) := by
  refine (go_aload_n (m := 189) (pc := 0) (k := 0) (by decide +kernel) rfl).trans ?_
  refine (go_iload_n (m := 189) (pc := 1) (k := 1) (by decide +kernel) rfl).trans ?_
  exact go_vir (m := 189) (pc := 2) (o := 7) (x := 145) (y := 131) (kd := 0) (b := a_l0) (bs := [.int x_l1]) (rs := []) (by decide +kernel) rfl rfl c_7_145 (Or.inl rfl) rfl rfl rfl (by decide +kernel) (by simp only [List.length_cons, List.length_nil]; decide) (Nat.le_of_ble_eq_true rfl) h0
theorem Model_delivers_5 (l0 : Value) (l1 : Value) (l2 : Value) (l3 : Value) (y0 : Int32) (w : Wd) (I : MI) (L : ML) (P : MP)  : go 189 5 [l0, l1, l2, l3] [.int y0] w I L P = if y0 ≠ 0 then go 189 14 [l0, l1, l2, l3] [] w I L P else go 189 8 [l0, l1, l2, l3] [] w I L P := by
  exact go_ifne (m := 189) (pc := 5) (off := 9) (t := 14) (by decide +kernel) (by decide)
theorem Model_delivers_8 (a_l0 : Nat) (l1 : Value) (l2 : Value) (l3 : Value) (w : Wd) (I : MI) (L : ML) (P : MP) (h0 : w.1 a_l0 = some (7, 0)) : go 189 8 [.ref a_l0, l1, l2, l3] [] w I L P = kC (call 122 [.ref a_l0, .int (nI 1)] w I L P) (fun v w1 I1 L1 P1 => go 189 13 [.ref a_l0, l1, l2, l3] (v.toList ++ []) w1 I1 L1 P1) := by
  refine (go_aload_n (m := 189) (pc := 8) (k := 0) (by decide +kernel) rfl).trans ?_
  refine (go_ic (m := 189) (pc := 9) (n := 1) (by decide +kernel) ic_1).trans ?_
  exact go_vir (m := 189) (pc := 10) (o := 7) (x := 37) (y := 122) (kd := 0) (b := a_l0) (bs := [.int (nI 1)]) (rs := []) (by decide +kernel) rfl rfl c_7_37 (Or.inl rfl) rfl rfl rfl (by decide +kernel) (by simp only [List.length_cons, List.length_nil]; decide) (Nat.le_of_ble_eq_true rfl) h0
theorem Model_delivers_13 (l0 : Value) (l1 : Value) (l2 : Value) (l3 : Value) (y0 : Int32) (w : Wd) (I : MI) (L : ML) (P : MP)  : go 189 13 [l0, l1, l2, l3] [.int y0] w I L P = some (.inl (some (.int y0)), w, I, L, P) := by
  exact go_retI (m := 189) (pc := 13) (by decide +kernel) rfl
theorem Model_delivers_14 (a_l0 : Nat) (l1 : Value) (l2 : Value) (l3 : Value) (w : Wd) (I : MI) (L : ML) (P : MP) (h0 : w.1 a_l0 = some (7, 0)) : go 189 14 [.ref a_l0, l1, l2, l3] [] w I L P = kC (call 134 [.ref a_l0] w I L P) (fun v w1 I1 L1 P1 => go 189 18 [.ref a_l0, l1, l2, l3] (v.toList ++ []) w1 I1 L1 P1) := by
  refine (go_aload_n (m := 189) (pc := 14) (k := 0) (by decide +kernel) rfl).trans ?_
  exact go_vir (m := 189) (pc := 15) (o := 7) (x := 160) (y := 134) (kd := 0) (b := a_l0) (bs := []) (rs := []) (by decide +kernel) rfl rfl c_7_160 (Or.inl rfl) rfl rfl rfl (by decide +kernel) (by simp only [List.length_cons, List.length_nil]; decide) (Nat.le_of_ble_eq_true rfl) h0
theorem Model_delivers_18 (a_l0 : Nat) (x_l1 : Int32) (l2 : Value) (l3 : Value) (w : Wd) (I : MI) (L : ML) (P : MP) (h0 : w.1 a_l0 = some (7, 0)) : go 189 18 [.ref a_l0, .int x_l1, l2, l3] [] w I L P = kC (call 126 [.ref a_l0, .int x_l1, .int (nI 1)] w I L P) (fun v w1 I1 L1 P1 => go 189 24 [.ref a_l0, .int x_l1, l2, l3] (v.toList ++ []) w1 I1 L1 P1) := by
  refine (go_aload_n (m := 189) (pc := 18) (k := 0) (by decide +kernel) rfl).trans ?_
  refine (go_iload_n (m := 189) (pc := 19) (k := 1) (by decide +kernel) rfl).trans ?_
  refine (go_ic (m := 189) (pc := 20) (n := 1) (by decide +kernel) ic_1).trans ?_
  exact go_vir (m := 189) (pc := 21) (o := 7) (x := 102) (y := 126) (kd := 0) (b := a_l0) (bs := [.int x_l1, .int (nI 1)]) (rs := []) (by decide +kernel) rfl rfl c_7_102 (Or.inl rfl) rfl rfl rfl (by decide +kernel) (by simp only [List.length_cons, List.length_nil]; decide) (Nat.le_of_ble_eq_true rfl) h0
theorem Model_delivers_24 (a_l0 : Nat) (l1 : Value) (l2 : Value) (l3 : Value) (y0 : Int32) (w : Wd) (I : MI) (L : ML) (P : MP) (h0 : w.1 a_l0 = some (7, 0)) : go 189 24 [.ref a_l0, l1, l2, l3] [.int y0] w I L P = kC (call 159 [.ref a_l0] w I L P) (fun v w1 I1 L1 P1 => go 189 29 [.ref a_l0, (fix1 l1), .int y0, l3] (v.toList ++ []) w1 I1 L1 P1) := by
  refine (go_istore_n (m := 189) (pc := 24) (k := 2) (ls' := [.ref a_l0, (fix1 l1), .int y0, l3]) (by decide +kernel) (by simp only [List.length_cons, List.length_nil]; decide) rfl).trans ?_
  refine (go_aload_n (m := 189) (pc := 25) (k := 0) (by decide +kernel) rfl).trans ?_
  exact go_vir (m := 189) (pc := 26) (o := 7) (x := 181) (y := 159) (kd := 0) (b := a_l0) (bs := []) (rs := []) (by decide +kernel) rfl rfl c_7_181 (Or.inl rfl) rfl rfl rfl (by decide +kernel) (by simp only [List.length_cons, List.length_nil]; decide) (Nat.le_of_ble_eq_true rfl) h0
theorem Model_delivers_29 (a_l0 : Nat) (x_l1 : Int32) (l2 : Value) (l3 : Value) (y0 : Int32) (w : Wd) (I : MI) (L : ML) (P : MP) (h0 : w.1 a_l0 = some (7, 0)) : go 189 29 [.ref a_l0, .int x_l1, l2, l3] [.int y0] w I L P = kC (call 126 [.ref a_l0, .int x_l1, .int (nI 1)] w I L P) (fun v w1 I1 L1 P1 => go 189 36 [.ref a_l0, .int x_l1, l2, l3] (v.toList ++ []) w1 I1 L1 P1) := by
  refine (go_pop (m := 189) (pc := 29) (by decide +kernel) rfl).trans ?_
  refine (go_aload_n (m := 189) (pc := 30) (k := 0) (by decide +kernel) rfl).trans ?_
  refine (go_iload_n (m := 189) (pc := 31) (k := 1) (by decide +kernel) rfl).trans ?_
  refine (go_ic (m := 189) (pc := 32) (n := 1) (by decide +kernel) ic_1).trans ?_
  exact go_vir (m := 189) (pc := 33) (o := 7) (x := 102) (y := 126) (kd := 0) (b := a_l0) (bs := [.int x_l1, .int (nI 1)]) (rs := []) (by decide +kernel) rfl rfl c_7_102 (Or.inl rfl) rfl rfl rfl (by decide +kernel) (by simp only [List.length_cons, List.length_nil]; decide) (Nat.le_of_ble_eq_true rfl) h0
theorem Model_delivers_36 (a_l0 : Nat) (l1 : Value) (l2 : Value) (l3 : Value) (y0 : Int32) (w : Wd) (I : MI) (L : ML) (P : MP) (h0 : w.1 a_l0 = some (7, 0)) : go 189 36 [.ref a_l0, l1, l2, l3] [.int y0] w I L P = kC (call 135 [.ref a_l0] w I L P) (fun v w1 I1 L1 P1 => go 189 41 [.ref a_l0, l1, (fix1 l2), .int y0] (v.toList ++ []) w1 I1 L1 P1) := by
  refine (go_istore_n (m := 189) (pc := 36) (k := 3) (ls' := [.ref a_l0, l1, (fix1 l2), .int y0]) (by decide +kernel) (by simp only [List.length_cons, List.length_nil]; decide) rfl).trans ?_
  refine (go_aload_n (m := 189) (pc := 37) (k := 0) (by decide +kernel) rfl).trans ?_
  exact go_vir (m := 189) (pc := 38) (o := 7) (x := 204) (y := 135) (kd := 0) (b := a_l0) (bs := []) (rs := []) (by decide +kernel) rfl rfl c_7_204 (Or.inl rfl) rfl rfl rfl (by decide +kernel) (by simp only [List.length_cons, List.length_nil]; decide) (Nat.le_of_ble_eq_true rfl) h0
theorem Model_delivers_41 (a_l0 : Nat) (l1 : Value) (x_l2 : Int32) (x_l3 : Int32) (w : Wd) (I : MI) (L : ML) (P : MP) (h0 : w.1 a_l0 = some (7, 0)) : go 189 41 [.ref a_l0, l1, .int x_l2, .int x_l3] [] w I L P = kC (call 123 [.ref a_l0, .int (x_l3 - x_l2)] w I L P) (fun v w1 I1 L1 P1 => go 189 48 [.ref a_l0, l1, .int x_l2, .int x_l3] (v.toList ++ []) w1 I1 L1 P1) := by
  refine (go_aload_n (m := 189) (pc := 41) (k := 0) (by decide +kernel) rfl).trans ?_
  refine (go_iload_n (m := 189) (pc := 42) (k := 3) (by decide +kernel) rfl).trans ?_
  refine (go_iload_n (m := 189) (pc := 43) (k := 2) (by decide +kernel) rfl).trans ?_
  refine (go_isub (m := 189) (pc := 44) (by decide +kernel)).trans ?_
  exact go_vir (m := 189) (pc := 45) (o := 7) (x := 47) (y := 123) (kd := 0) (b := a_l0) (bs := [.int (x_l3 - x_l2)]) (rs := []) (by decide +kernel) rfl rfl c_7_47 (Or.inl rfl) rfl rfl rfl (by decide +kernel) (by simp only [List.length_cons, List.length_nil]; decide) (Nat.le_of_ble_eq_true rfl) h0
theorem Model_delivers_48 (l0 : Value) (l1 : Value) (l2 : Value) (l3 : Value) (y0 : Int32) (w : Wd) (I : MI) (L : ML) (P : MP)  : go 189 48 [l0, l1, l2, l3] [.int y0] w I L P = some (.inl (some (.int y0)), w, I, L, P) := by
  exact go_retI (m := 189) (pc := 48) (by decide +kernel) rfl
theorem Model_delivers_E (this : Nat) (p0 : Int32) (w : Wd) (I : MI) (L : ML) (P : MP) : call 189 [.ref this, .int p0] w I L P = go 189 0 [.ref this, .int p0, unk, unk] [] w I L P := rfl
theorem Model_busy_0 (a_l0 : Nat) (w : Wd) (I : MI) (L : ML) (P : MP) (h0 : w.1 a_l0 = some (7, 0)) : go 190 0 [.ref a_l0] [] w I L P = go 190 9 [.ref a_l0] [(va_rf (P a_l0 0))] w (updI I a_l0 6 (nI 0)) L P := by
  refine (go_aload_n (m := 190) (pc := 0) (k := 0) (by decide +kernel) rfl).trans ?_
  refine (go_ic (m := 190) (pc := 1) (n := 0) (by decide +kernel) ic_0).trans ?_
  refine (go_putI (m := 190) (pc := 2) (o := 7) (x := 26) (ci := 7) (k := 6) (by decide +kernel) rfl f_7_26 rfl (by decide +kernel) h0).trans ?_
  refine (go_aload_n (m := 190) (pc := 5) (k := 0) (by decide +kernel) rfl).trans ?_
  refine (go_getR (m := 190) (pc := 6) (o := 7) (x := 7) (ci := 7) (k := 0) (by decide +kernel) rfl f_7_7 rfl h0).trans ?_
  rfl
theorem Model_busy_9 (l0 : Value) (a_s0 : Nat) (w : Wd) (I : MI) (L : ML) (P : MP) (h0 : inA w a_s0 8 (nI 0)) : go 190 9 [l0] [.ref a_s0] w I L P = if (I a_s0 (Int32.toNatClampNeg (nI 0))) ≠ 0 then go 190 18 [l0] [] w I L P else go 190 14 [l0] [] w I L P := by
  refine (go_ic (m := 190) (pc := 9) (n := 0) (by decide +kernel) ic_0).trans ?_
  refine (go_iald (m := 190) (pc := 10) (by decide +kernel) h0).trans ?_
  exact go_ifne (m := 190) (pc := 11) (off := 7) (t := 18) (by decide +kernel) (by decide)
theorem Model_busy_14 (l0 : Value) (w : Wd) (I : MI) (L : ML) (P : MP)  : go 190 14 [l0] [] w I L P = go 190 34 [l0] [.double FP.dconst0] w I L P := by
  refine (go_dc (m := 190) (pc := 14) (by decide +kernel)).trans ?_
  refine (go_goto (m := 190) (pc := 15) (off := 19) (t := 34) (by decide +kernel) (by decide)).trans ?_
  rfl
theorem Model_busy_18 (a_l0 : Nat) (w : Wd) (I : MI) (L : ML) (P : MP) (h0 : w.1 a_l0 = some (7, 0)) : go 190 18 [.ref a_l0] [] w I L P = go 190 22 [.ref a_l0] [(va_rf (P a_l0 0))] w I L P := by
  refine (go_aload_n (m := 190) (pc := 18) (k := 0) (by decide +kernel) rfl).trans ?_
  refine (go_getR (m := 190) (pc := 19) (o := 7) (x := 7) (ci := 7) (k := 0) (by decide +kernel) rfl f_7_7 rfl h0).trans ?_
  rfl
theorem Model_busy_22 (a_l0 : Nat) (a_s0 : Nat) (w : Wd) (I : MI) (L : ML) (P : MP) (h0 : inA w a_s0 8 (nI 10)) (h1 : w.1 a_l0 = some (7, 0)) : go 190 22 [.ref a_l0] [.ref a_s0] w I L P = go 190 30 [.ref a_l0] [(va_rf (P a_l0 0)), .double (FP.i2d (I a_s0 (Int32.toNatClampNeg (nI 10))))] w I L P := by
  refine (go_bi (m := 190) (pc := 22) (n := 10) (by decide +kernel) bi_10).trans ?_
  refine (go_iald (m := 190) (pc := 24) (by decide +kernel) h0).trans ?_
  refine (go_i2d (m := 190) (pc := 25) (by decide +kernel)).trans ?_
  refine (go_aload_n (m := 190) (pc := 26) (k := 0) (by decide +kernel) rfl).trans ?_
  refine (go_getR (m := 190) (pc := 27) (o := 7) (x := 7) (ci := 7) (k := 0) (by decide +kernel) rfl f_7_7 rfl h1).trans ?_
  rfl
theorem Model_busy_30 (l0 : Value) (y0 : UInt64) (a_s1 : Nat) (w : Wd) (I : MI) (L : ML) (P : MP) (h0 : inA w a_s1 8 (nI 0)) (h1 : FP.ddiv y0 (FP.i2d (I a_s1 (Int32.toNatClampNeg (nI 0)))) &&& 0x7fffffffffffffff ≤ 0x7ff0000000000000) : go 190 30 [l0] [.ref a_s1, .double y0] w I L P = go 190 34 [l0] [.double (FP.ddiv y0 (FP.i2d (I a_s1 (Int32.toNatClampNeg (nI 0)))))] w I L P := by
  refine (go_ic (m := 190) (pc := 30) (n := 0) (by decide +kernel) ic_0).trans ?_
  refine (go_iald (m := 190) (pc := 31) (by decide +kernel) h0).trans ?_
  refine (go_i2d (m := 190) (pc := 32) (by decide +kernel)).trans ?_
  refine (go_ddiv (m := 190) (pc := 33) (by decide +kernel) h1).trans ?_
  rfl
theorem Model_busy_34 (l0 : Value) (y0 : UInt64) (w : Wd) (I : MI) (L : ML) (P : MP)  : go 190 34 [l0] [.double y0] w I L P = some (.inl (some (.double y0)), w, I, L, P) := by
  exact go_retD (m := 190) (pc := 34) (by decide +kernel) rfl
theorem Model_busy_E (this : Nat) (w : Wd) (I : MI) (L : ML) (P : MP) : call 190 [.ref this] w I L P = go 190 0 [.ref this] [] w I L P := rfl
theorem Model_append_0 (l0 : Value) (x_l1 : Int32) (w : Wd) (I : MI) (L : ML) (P : MP)  : go 191 0 [l0, .int x_l1] [] w I L P = kC (call 124 [.long (Int32.toInt64 x_l1), .long 0, .long 127] w I L P) (fun v w1 I1 L1 P1 => go 191 9 [l0, .int x_l1] (v.toList ++ []) w1 I1 L1 P1) := by
  refine (go_iload_n (m := 191) (pc := 0) (k := 1) (by decide +kernel) rfl).trans ?_
  refine (go_i2l (m := 191) (pc := 1) (by decide +kernel)).trans ?_
  refine (go_lc (m := 191) (pc := 2) (n := 0) (v := 0) (by decide +kernel) rfl).trans ?_
  refine (go_ldc2 (m := 191) (pc := 3) (o := 7) (x := 148) (v := 127) (by decide +kernel) rfl (by decide +kernel)).trans ?_
  exact go_sta (m := 191) (pc := 6) (o := 7) (x := 30) (y := 124) (kd := 2) (as := [.long (Int32.toInt64 x_l1), .long 0, .long 127]) (rs := []) (by decide +kernel) rfl rfl c_7_30 (Or.inl rfl) rfl rfl rfl (by decide +kernel) (by simp only [List.length_cons, List.length_nil]; decide) (Nat.le_of_ble_eq_true rfl)
theorem Model_append_9 (l0 : Value) (l1 : Value) (y0 : Int32) (w : Wd) (I : MI) (L : ML) (P : MP)  : go 191 9 [l0, l1] [.int y0] w I L P = if y0 ≠ 0 then go 191 18 [l0, l1] [] w I L P else go 191 12 [l0, l1] [] w I L P := by
  exact go_ifne (m := 191) (pc := 9) (off := 9) (t := 18) (by decide +kernel) (by decide)
theorem Model_append_12 (a_l0 : Nat) (l1 : Value) (w : Wd) (I : MI) (L : ML) (P : MP) (h0 : w.1 a_l0 = some (7, 0)) : go 191 12 [.ref a_l0, l1] [] w I L P = kC (call 122 [.ref a_l0, .int (nI 1)] w I L P) (fun v w1 I1 L1 P1 => go 191 17 [.ref a_l0, l1] (v.toList ++ []) w1 I1 L1 P1) := by
  refine (go_aload_n (m := 191) (pc := 12) (k := 0) (by decide +kernel) rfl).trans ?_
  refine (go_ic (m := 191) (pc := 13) (n := 1) (by decide +kernel) ic_1).trans ?_
  exact go_vir (m := 191) (pc := 14) (o := 7) (x := 37) (y := 122) (kd := 0) (b := a_l0) (bs := [.int (nI 1)]) (rs := []) (by decide +kernel) rfl rfl c_7_37 (Or.inl rfl) rfl rfl rfl (by decide +kernel) (by simp only [List.length_cons, List.length_nil]; decide) (Nat.le_of_ble_eq_true rfl) h0
theorem Model_append_17 (l0 : Value) (l1 : Value) (y0 : Int32) (w : Wd) (I : MI) (L : ML) (P : MP)  : go 191 17 [l0, l1] [.int y0] w I L P = some (.inl (some (.int y0)), w, I, L, P) := by
  exact go_retI (m := 191) (pc := 17) (by decide +kernel) rfl
theorem Model_append_18 (a_l0 : Nat) (l1 : Value) (w : Wd) (I : MI) (L : ML) (P : MP) (h0 : w.1 a_l0 = some (7, 0)) : go 191 18 [.ref a_l0, l1] [] w I L P = if (I a_l0 5) ≠ (nI 100) then go 191 33 [.ref a_l0, l1] [] w I L P else go 191 27 [.ref a_l0, l1] [] w I L P := by
  refine (go_aload_n (m := 191) (pc := 18) (k := 0) (by decide +kernel) rfl).trans ?_
  refine (go_getI (m := 191) (pc := 19) (o := 7) (x := 213) (ci := 7) (k := 5) (by decide +kernel) rfl f_7_213 rfl h0).trans ?_
  refine (go_bi (m := 191) (pc := 22) (n := 100) (by decide +kernel) bi_100).trans ?_
  exact go_icmpne (m := 191) (pc := 24) (off := 9) (t := 33) (by decide +kernel) (by decide)
theorem Model_append_27 (a_l0 : Nat) (l1 : Value) (w : Wd) (I : MI) (L : ML) (P : MP) (h0 : w.1 a_l0 = some (7, 0)) : go 191 27 [.ref a_l0, l1] [] w I L P = kC (call 122 [.ref a_l0, .int (nI 2)] w I L P) (fun v w1 I1 L1 P1 => go 191 32 [.ref a_l0, l1] (v.toList ++ []) w1 I1 L1 P1) := by
  refine (go_aload_n (m := 191) (pc := 27) (k := 0) (by decide +kernel) rfl).trans ?_
  refine (go_ic (m := 191) (pc := 28) (n := 2) (by decide +kernel) ic_2).trans ?_
  exact go_vir (m := 191) (pc := 29) (o := 7) (x := 37) (y := 122) (kd := 0) (b := a_l0) (bs := [.int (nI 2)]) (rs := []) (by decide +kernel) rfl rfl c_7_37 (Or.inl rfl) rfl rfl rfl (by decide +kernel) (by simp only [List.length_cons, List.length_nil]; decide) (Nat.le_of_ble_eq_true rfl) h0
theorem Model_append_32 (l0 : Value) (l1 : Value) (y0 : Int32) (w : Wd) (I : MI) (L : ML) (P : MP)  : go 191 32 [l0, l1] [.int y0] w I L P = some (.inl (some (.int y0)), w, I, L, P) := by
  exact go_retI (m := 191) (pc := 32) (by decide +kernel) rfl
theorem Model_append_33 (a_l0 : Nat) (l1 : Value) (w : Wd) (I : MI) (L : ML) (P : MP) (h0 : w.1 a_l0 = some (7, 0)) : go 191 33 [.ref a_l0, l1] [] w I L P = go 191 37 [.ref a_l0, l1] [(va_rf (P a_l0 4))] w I L P := by
  refine (go_aload_n (m := 191) (pc := 33) (k := 0) (by decide +kernel) rfl).trans ?_
  refine (go_getR (m := 191) (pc := 34) (o := 7) (x := 19) (ci := 7) (k := 4) (by decide +kernel) rfl f_7_19 rfl h0).trans ?_
  rfl
theorem Model_append_37 (a_l0 : Nat) (x_l1 : Int32) (a_s0 : Nat) (w : Wd) (I : MI) (L : ML) (P : MP) (h0 : w.1 a_l0 = some (7, 0)) (h1 : inA w a_s0 8 (I a_l0 5)) : go 191 37 [.ref a_l0, .int x_l1] [.ref a_s0] w I L P = kC (call 123 [.ref a_l0, .int ((updI (updI I a_s0 (Int32.toNatClampNeg (I a_l0 5)) x_l1) a_l0 5 (((updI I a_s0 (Int32.toNatClampNeg (I a_l0 5)) x_l1) a_l0 5) + (nI 1))) a_l0 5)] w (updI (updI I a_s0 (Int32.toNatClampNeg (I a_l0 5)) x_l1) a_l0 5 (((updI I a_s0 (Int32.toNatClampNeg (I a_l0 5)) x_l1) a_l0 5) + (nI 1))) L P) (fun v w1 I1 L1 P1 => go 191 61 [.ref a_l0, .int x_l1] (v.toList ++ []) w1 I1 L1 P1) := by
  refine (go_aload_n (m := 191) (pc := 37) (k := 0) (by decide +kernel) rfl).trans ?_
  refine (go_getI (m := 191) (pc := 38) (o := 7) (x := 213) (ci := 7) (k := 5) (by decide +kernel) rfl f_7_213 rfl h0).trans ?_
  refine (go_iload_n (m := 191) (pc := 41) (k := 1) (by decide +kernel) rfl).trans ?_
  refine (go_iast (m := 191) (pc := 42) (by decide +kernel) h1).trans ?_
  refine (go_aload_n (m := 191) (pc := 43) (k := 0) (by decide +kernel) rfl).trans ?_
  refine (go_dup (m := 191) (pc := 44) (by decide +kernel) rfl).trans ?_
  refine (go_getI (m := 191) (pc := 45) (o := 7) (x := 213) (ci := 7) (k := 5) (by decide +kernel) rfl f_7_213 rfl h0).trans ?_
  refine (go_ic (m := 191) (pc := 48) (n := 1) (by decide +kernel) ic_1).trans ?_
  refine (go_iadd (m := 191) (pc := 49) (by decide +kernel)).trans ?_
  refine (go_putI (m := 191) (pc := 50) (o := 7) (x := 213) (ci := 7) (k := 5) (by decide +kernel) rfl f_7_213 rfl (by decide +kernel) h0).trans ?_
  refine (go_aload_n (m := 191) (pc := 53) (k := 0) (by decide +kernel) rfl).trans ?_
  refine (go_aload_n (m := 191) (pc := 54) (k := 0) (by decide +kernel) rfl).trans ?_
  refine (go_getI (m := 191) (pc := 55) (o := 7) (x := 213) (ci := 7) (k := 5) (by decide +kernel) rfl f_7_213 rfl h0).trans ?_
  exact go_vir (m := 191) (pc := 58) (o := 7) (x := 47) (y := 123) (kd := 0) (b := a_l0) (bs := [.int ((updI (updI I a_s0 (Int32.toNatClampNeg (I a_l0 5)) x_l1) a_l0 5 (((updI I a_s0 (Int32.toNatClampNeg (I a_l0 5)) x_l1) a_l0 5) + (nI 1))) a_l0 5)]) (rs := []) (by decide +kernel) rfl rfl c_7_47 (Or.inl rfl) rfl rfl rfl (by decide +kernel) (by simp only [List.length_cons, List.length_nil]; decide) (Nat.le_of_ble_eq_true rfl) h0
theorem Model_append_61 (l0 : Value) (l1 : Value) (y0 : Int32) (w : Wd) (I : MI) (L : ML) (P : MP)  : go 191 61 [l0, l1] [.int y0] w I L P = some (.inl (some (.int y0)), w, I, L, P) := by
  exact go_retI (m := 191) (pc := 61) (by decide +kernel) rfl
theorem Model_append_E (this : Nat) (p0 : Int32) (w : Wd) (I : MI) (L : ML) (P : MP) : call 191 [.ref this, .int p0] w I L P = go 191 0 [.ref this, .int p0] [] w I L P := rfl
theorem Model_clearText_0 (a_l0 : Nat) (l1 : Value) (w : Wd) (I : MI) (L : ML) (P : MP) (h0 : w.1 a_l0 = some (7, 0)) : go 192 0 [.ref a_l0, l1] [] w I L P = kC (call 123 [.ref a_l0, .int (I a_l0 5)] w (updI I a_l0 5 (nI 0)) L P) (fun v w1 I1 L1 P1 => go 192 15 [.ref a_l0, .int (I a_l0 5)] (v.toList ++ []) w1 I1 L1 P1) := by
  refine (go_aload_n (m := 192) (pc := 0) (k := 0) (by decide +kernel) rfl).trans ?_
  refine (go_getI (m := 192) (pc := 1) (o := 7) (x := 213) (ci := 7) (k := 5) (by decide +kernel) rfl f_7_213 rfl h0).trans ?_
  refine (go_istore_n (m := 192) (pc := 4) (k := 1) (ls' := [.ref a_l0, .int (I a_l0 5)]) (by decide +kernel) (by simp only [List.length_cons, List.length_nil]; decide) rfl).trans ?_
  refine (go_aload_n (m := 192) (pc := 5) (k := 0) (by decide +kernel) rfl).trans ?_
  refine (go_ic (m := 192) (pc := 6) (n := 0) (by decide +kernel) ic_0).trans ?_
  refine (go_putI (m := 192) (pc := 7) (o := 7) (x := 213) (ci := 7) (k := 5) (by decide +kernel) rfl f_7_213 rfl (by decide +kernel) h0).trans ?_
  refine (go_aload_n (m := 192) (pc := 10) (k := 0) (by decide +kernel) rfl).trans ?_
  refine (go_iload_n (m := 192) (pc := 11) (k := 1) (by decide +kernel) rfl).trans ?_
  exact go_vir (m := 192) (pc := 12) (o := 7) (x := 47) (y := 123) (kd := 0) (b := a_l0) (bs := [.int (I a_l0 5)]) (rs := []) (by decide +kernel) rfl rfl c_7_47 (Or.inl rfl) rfl rfl rfl (by decide +kernel) (by simp only [List.length_cons, List.length_nil]; decide) (Nat.le_of_ble_eq_true rfl) h0
theorem Model_clearText_15 (l0 : Value) (l1 : Value) (y0 : Int32) (w : Wd) (I : MI) (L : ML) (P : MP)  : go 192 15 [l0, l1] [.int y0] w I L P = some (.inl (some (.int y0)), w, I, L, P) := by
  exact go_retI (m := 192) (pc := 15) (by decide +kernel) rfl
theorem Model_clearText_E (this : Nat) (w : Wd) (I : MI) (L : ML) (P : MP) : call 192 [.ref this] w I L P = go 192 0 [.ref this, unk] [] w I L P := rfl
theorem Model_here_0 (a_l0 : Nat) (w : Wd) (I : MI) (L : ML) (P : MP) (h0 : w.1 a_l0 = some (7, 0)) : go 193 0 [.ref a_l0] [] w I L P = if (I a_l0 5) ≤ (I a_l0 8) then go 193 23 [.ref a_l0] [] w I L P else go 193 11 [.ref a_l0] [] w I L P := by
  refine (go_aload_n (m := 193) (pc := 0) (k := 0) (by decide +kernel) rfl).trans ?_
  refine (go_getI (m := 193) (pc := 1) (o := 7) (x := 216) (ci := 7) (k := 8) (by decide +kernel) rfl f_7_216 rfl h0).trans ?_
  refine (go_aload_n (m := 193) (pc := 4) (k := 0) (by decide +kernel) rfl).trans ?_
  refine (go_getI (m := 193) (pc := 5) (o := 7) (x := 213) (ci := 7) (k := 5) (by decide +kernel) rfl f_7_213 rfl h0).trans ?_
  exact go_icmpge (m := 193) (pc := 8) (off := 15) (t := 23) (by decide +kernel) (by decide)
theorem Model_here_11 (a_l0 : Nat) (w : Wd) (I : MI) (L : ML) (P : MP) (h0 : w.1 a_l0 = some (7, 0)) : go 193 11 [.ref a_l0] [] w I L P = go 193 15 [.ref a_l0] [(va_rf (P a_l0 4))] w I L P := by
  refine (go_aload_n (m := 193) (pc := 11) (k := 0) (by decide +kernel) rfl).trans ?_
  refine (go_getR (m := 193) (pc := 12) (o := 7) (x := 19) (ci := 7) (k := 4) (by decide +kernel) rfl f_7_19 rfl h0).trans ?_
  rfl
theorem Model_here_15 (a_l0 : Nat) (a_s0 : Nat) (w : Wd) (I : MI) (L : ML) (P : MP) (h0 : w.1 a_l0 = some (7, 0)) (h1 : inA w a_s0 8 (I a_l0 8)) : go 193 15 [.ref a_l0] [.ref a_s0] w I L P = go 193 24 [.ref a_l0] [.int (I a_s0 (Int32.toNatClampNeg (I a_l0 8)))] w I L P := by
  refine (go_aload_n (m := 193) (pc := 15) (k := 0) (by decide +kernel) rfl).trans ?_
  refine (go_getI (m := 193) (pc := 16) (o := 7) (x := 216) (ci := 7) (k := 8) (by decide +kernel) rfl f_7_216 rfl h0).trans ?_
  refine (go_iald (m := 193) (pc := 19) (by decide +kernel) h1).trans ?_
  refine (go_goto (m := 193) (pc := 20) (off := 4) (t := 24) (by decide +kernel) (by decide)).trans ?_
  rfl
theorem Model_here_23 (l0 : Value) (w : Wd) (I : MI) (L : ML) (P : MP)  : go 193 23 [l0] [] w I L P = go 193 24 [l0] [.int (-1)] w I L P := by
  refine (go_ic (m := 193) (pc := 23) (n := -1) (by decide +kernel) ic_m1).trans ?_
  rfl
theorem Model_here_24 (l0 : Value) (y0 : Int32) (w : Wd) (I : MI) (L : ML) (P : MP)  : go 193 24 [l0] [.int y0] w I L P = some (.inl (some (.int y0)), w, I, L, P) := by
  exact go_retI (m := 193) (pc := 24) (by decide +kernel) rfl
theorem Model_here_E (this : Nat) (w : Wd) (I : MI) (L : ML) (P : MP) : call 193 [.ref this] w I L P = go 193 0 [.ref this] [] w I L P := rfl
theorem Model_wrong_0 (a_l0 : Nat) (l1 : Value) (w : Wd) (I : MI) (L : ML) (P : MP) (h0 : w.1 a_l0 = some (7, 0)) : go 194 0 [.ref a_l0, l1] [] w I L P = if (I a_l0 9) ≠ (-1) then go 194 13 [.ref a_l0, l1] [.ref a_l0] w I L P else go 194 9 [.ref a_l0, l1] [.ref a_l0] w I L P := by
  refine (go_aload_n (m := 194) (pc := 0) (k := 0) (by decide +kernel) rfl).trans ?_
  refine (go_aload_n (m := 194) (pc := 1) (k := 0) (by decide +kernel) rfl).trans ?_
  refine (go_getI (m := 194) (pc := 2) (o := 7) (x := 219) (ci := 7) (k := 9) (by decide +kernel) rfl f_7_219 rfl h0).trans ?_
  refine (go_ic (m := 194) (pc := 5) (n := -1) (by decide +kernel) ic_m1).trans ?_
  exact go_icmpne (m := 194) (pc := 6) (off := 7) (t := 13) (by decide +kernel) (by decide)
theorem Model_wrong_9 (l0 : Value) (x_l1 : Int32) (v0 : Value) (w : Wd) (I : MI) (L : ML) (P : MP)  : go 194 9 [l0, .int x_l1] [v0] w I L P = go 194 17 [l0, .int x_l1] [.int x_l1, v0] w I L P := by
  refine (go_iload_n (m := 194) (pc := 9) (k := 1) (by decide +kernel) rfl).trans ?_
  refine (go_goto (m := 194) (pc := 10) (off := 7) (t := 17) (by decide +kernel) (by decide)).trans ?_
  rfl
theorem Model_wrong_13 (a_l0 : Nat) (l1 : Value) (v0 : Value) (w : Wd) (I : MI) (L : ML) (P : MP) (h0 : w.1 a_l0 = some (7, 0)) : go 194 13 [.ref a_l0, l1] [v0] w I L P = go 194 17 [.ref a_l0, l1] [.int (I a_l0 9), v0] w I L P := by
  refine (go_aload_n (m := 194) (pc := 13) (k := 0) (by decide +kernel) rfl).trans ?_
  refine (go_getI (m := 194) (pc := 14) (o := 7) (x := 219) (ci := 7) (k := 9) (by decide +kernel) rfl f_7_219 rfl h0).trans ?_
  rfl
theorem Model_wrong_17 (l0 : Value) (l1 : Value) (a_s0 : Nat) (y1 : Int32) (w : Wd) (I : MI) (L : ML) (P : MP) (h0 : w.1 a_s0 = some (7, 0)) : go 194 17 [l0, l1] [.int y1, .ref a_s0] w I L P = some (.inl none, w, (updI I a_s0 9 y1), L, P) := by
  refine (go_putI (m := 194) (pc := 17) (o := 7) (x := 219) (ci := 7) (k := 9) (by decide +kernel) rfl f_7_219 rfl (by decide +kernel) h0).trans ?_
  exact go_retV (m := 194) (pc := 20) (by decide +kernel) rfl
theorem Model_wrong_E (this : Nat) (p0 : Int32) (w : Wd) (I : MI) (L : ML) (P : MP) : call 194 [.ref this, .int p0] w I L P = go 194 0 [.ref this, .int p0] [] w I L P := rfl
theorem Model_sign_0 (a_l0 : Nat) (l1 : Value) (w : Wd) (I : MI) (L : ML) (P : MP) (h0 : w.1 a_l0 = some (7, 0)) : go 195 0 [.ref a_l0, l1] [] w I L P = kC (call 193 [.ref a_l0] w I L P) (fun v w1 I1 L1 P1 => go 195 4 [.ref a_l0, l1] (v.toList ++ []) w1 I1 L1 P1) := by
  refine (go_aload_n (m := 195) (pc := 0) (k := 0) (by decide +kernel) rfl).trans ?_
  exact go_vir (m := 195) (pc := 1) (o := 7) (x := 222) (y := 193) (kd := 0) (b := a_l0) (bs := []) (rs := []) (by decide +kernel) rfl rfl c_7_222 (Or.inl rfl) rfl rfl rfl (by decide +kernel) (by simp only [List.length_cons, List.length_nil]; decide) (Nat.le_of_ble_eq_true rfl) h0
theorem Model_sign_4 (l0 : Value) (x_l1 : Int32) (y0 : Int32) (w : Wd) (I : MI) (L : ML) (P : MP)  : go 195 4 [l0, .int x_l1] [.int y0] w I L P = if y0 = x_l1 then go 195 16 [l0, .int x_l1] [] w I L P else go 195 8 [l0, .int x_l1] [] w I L P := by
  refine (go_iload_n (m := 195) (pc := 4) (k := 1) (by decide +kernel) rfl).trans ?_
  exact go_icmpeq (m := 195) (pc := 5) (off := 11) (t := 16) (by decide +kernel) (by decide)
theorem Model_sign_8 (a_l0 : Nat) (l1 : Value) (w : Wd) (I : MI) (L : ML) (P : MP) (h0 : w.1 a_l0 = some (7, 0)) : go 195 8 [.ref a_l0, l1] [] w I L P = kC (call 194 [.ref a_l0, .int (I a_l0 8)] w I L P) (fun v w1 I1 L1 P1 => go 195 16 [.ref a_l0, l1] (v.toList ++ []) w1 I1 L1 P1) := by
  refine (go_aload_n (m := 195) (pc := 8) (k := 0) (by decide +kernel) rfl).trans ?_
  refine (go_aload_n (m := 195) (pc := 9) (k := 0) (by decide +kernel) rfl).trans ?_
  refine (go_getI (m := 195) (pc := 10) (o := 7) (x := 216) (ci := 7) (k := 8) (by decide +kernel) rfl f_7_216 rfl h0).trans ?_
  exact go_vir (m := 195) (pc := 13) (o := 7) (x := 225) (y := 194) (kd := 0) (b := a_l0) (bs := [.int (I a_l0 8)]) (rs := []) (by decide +kernel) rfl rfl c_7_225 (Or.inl rfl) rfl rfl rfl (by decide +kernel) (by simp only [List.length_cons, List.length_nil]; decide) (Nat.le_of_ble_eq_true rfl) h0
theorem Model_sign_16 (a_l0 : Nat) (l1 : Value) (w : Wd) (I : MI) (L : ML) (P : MP) (h0 : w.1 a_l0 = some (7, 0)) : go 195 16 [.ref a_l0, l1] [] w I L P = some (.inl none, w, (updI I a_l0 8 ((I a_l0 8) + (nI 1))), L, P) := by
  refine (go_aload_n (m := 195) (pc := 16) (k := 0) (by decide +kernel) rfl).trans ?_
  refine (go_dup (m := 195) (pc := 17) (by decide +kernel) rfl).trans ?_
  refine (go_getI (m := 195) (pc := 18) (o := 7) (x := 216) (ci := 7) (k := 8) (by decide +kernel) rfl f_7_216 rfl h0).trans ?_
  refine (go_ic (m := 195) (pc := 21) (n := 1) (by decide +kernel) ic_1).trans ?_
  refine (go_iadd (m := 195) (pc := 22) (by decide +kernel)).trans ?_
  refine (go_putI (m := 195) (pc := 23) (o := 7) (x := 216) (ci := 7) (k := 8) (by decide +kernel) rfl f_7_216 rfl (by decide +kernel) h0).trans ?_
  exact go_retV (m := 195) (pc := 26) (by decide +kernel) rfl
theorem Model_sign_E (this : Nat) (p0 : Int32) (w : Wd) (I : MI) (L : ML) (P : MP) : call 195 [.ref this, .int p0] w I L P = go 195 0 [.ref this, .int p0] [] w I L P := rfl
theorem Model_digit_0 (a_l0 : Nat) (l1 : Value) (l2 : Value) (l3 : Value) (w : Wd) (I : MI) (L : ML) (P : MP) (h0 : w.1 a_l0 = some (7, 0)) : go 196 0 [.ref a_l0, l1, l2, l3] [] w I L P = kC (call 193 [.ref a_l0] w I L P) (fun v w1 I1 L1 P1 => go 196 4 [.ref a_l0, l1, l2, l3] (v.toList ++ []) w1 I1 L1 P1) := by
  refine (go_aload_n (m := 196) (pc := 0) (k := 0) (by decide +kernel) rfl).trans ?_
  exact go_vir (m := 196) (pc := 1) (o := 7) (x := 222) (y := 193) (kd := 0) (b := a_l0) (bs := []) (rs := []) (by decide +kernel) rfl rfl c_7_222 (Or.inl rfl) rfl rfl rfl (by decide +kernel) (by simp only [List.length_cons, List.length_nil]; decide) (Nat.le_of_ble_eq_true rfl) h0
theorem Model_digit_4 (l0 : Value) (x_l1 : Int32) (x_l2 : Int32) (l3 : Value) (y0 : Int32) (w : Wd) (I : MI) (L : ML) (P : MP)  : go 196 4 [l0, .int x_l1, .int x_l2, l3] [.int y0] w I L P = kC (call 124 [.long (Int32.toInt64 (y0 - (nI 48))), .long (Int32.toInt64 x_l1), .long (Int32.toInt64 x_l2)] w I L P) (fun v w1 I1 L1 P1 => go 196 17 [l0, .int x_l1, .int x_l2, .int (y0 - (nI 48))] (v.toList ++ []) w1 I1 L1 P1) := by
  refine (go_bi (m := 196) (pc := 4) (n := 48) (by decide +kernel) bi_48).trans ?_
  refine (go_isub (m := 196) (pc := 6) (by decide +kernel)).trans ?_
  refine (go_istore_n (m := 196) (pc := 7) (k := 3) (ls' := [l0, .int x_l1, .int x_l2, .int (y0 - (nI 48))]) (by decide +kernel) (by simp only [List.length_cons, List.length_nil]; decide) rfl).trans ?_
  refine (go_iload_n (m := 196) (pc := 8) (k := 3) (by decide +kernel) rfl).trans ?_
  refine (go_i2l (m := 196) (pc := 9) (by decide +kernel)).trans ?_
  refine (go_iload_n (m := 196) (pc := 10) (k := 1) (by decide +kernel) rfl).trans ?_
  refine (go_i2l (m := 196) (pc := 11) (by decide +kernel)).trans ?_
  refine (go_iload_n (m := 196) (pc := 12) (k := 2) (by decide +kernel) rfl).trans ?_
  refine (go_i2l (m := 196) (pc := 13) (by decide +kernel)).trans ?_
  exact go_sta (m := 196) (pc := 14) (o := 7) (x := 30) (y := 124) (kd := 2) (as := [.long (Int32.toInt64 (y0 - (nI 48))), .long (Int32.toInt64 x_l1), .long (Int32.toInt64 x_l2)]) (rs := []) (by decide +kernel) rfl rfl c_7_30 (Or.inl rfl) rfl rfl rfl (by decide +kernel) (by simp only [List.length_cons, List.length_nil]; decide) (Nat.le_of_ble_eq_true rfl)
theorem Model_digit_17 (l0 : Value) (l1 : Value) (l2 : Value) (l3 : Value) (y0 : Int32) (w : Wd) (I : MI) (L : ML) (P : MP)  : go 196 17 [l0, l1, l2, l3] [.int y0] w I L P = if y0 ≠ 0 then go 196 28 [l0, l1, l2, l3] [] w I L P else go 196 20 [l0, l1, l2, l3] [] w I L P := by
  exact go_ifne (m := 196) (pc := 17) (off := 11) (t := 28) (by decide +kernel) (by decide)
theorem Model_digit_20 (a_l0 : Nat) (l1 : Value) (l2 : Value) (l3 : Value) (w : Wd) (I : MI) (L : ML) (P : MP) (h0 : w.1 a_l0 = some (7, 0)) : go 196 20 [.ref a_l0, l1, l2, l3] [] w I L P = kC (call 194 [.ref a_l0, .int (I a_l0 8)] w I L P) (fun v w1 I1 L1 P1 => go 196 28 [.ref a_l0, l1, l2, l3] (v.toList ++ []) w1 I1 L1 P1) := by
  refine (go_aload_n (m := 196) (pc := 20) (k := 0) (by decide +kernel) rfl).trans ?_
  refine (go_aload_n (m := 196) (pc := 21) (k := 0) (by decide +kernel) rfl).trans ?_
  refine (go_getI (m := 196) (pc := 22) (o := 7) (x := 216) (ci := 7) (k := 8) (by decide +kernel) rfl f_7_216 rfl h0).trans ?_
  exact go_vir (m := 196) (pc := 25) (o := 7) (x := 225) (y := 194) (kd := 0) (b := a_l0) (bs := [.int (I a_l0 8)]) (rs := []) (by decide +kernel) rfl rfl c_7_225 (Or.inl rfl) rfl rfl rfl (by decide +kernel) (by simp only [List.length_cons, List.length_nil]; decide) (Nat.le_of_ble_eq_true rfl) h0
theorem Model_digit_28 (a_l0 : Nat) (l1 : Value) (l2 : Value) (x_l3 : Int32) (w : Wd) (I : MI) (L : ML) (P : MP) (h0 : w.1 a_l0 = some (7, 0)) : go 196 28 [.ref a_l0, l1, l2, .int x_l3] [] w I L P = some (.inl (some (.int x_l3)), w, (updI I a_l0 8 ((I a_l0 8) + (nI 1))), L, P) := by
  refine (go_aload_n (m := 196) (pc := 28) (k := 0) (by decide +kernel) rfl).trans ?_
  refine (go_dup (m := 196) (pc := 29) (by decide +kernel) rfl).trans ?_
  refine (go_getI (m := 196) (pc := 30) (o := 7) (x := 216) (ci := 7) (k := 8) (by decide +kernel) rfl f_7_216 rfl h0).trans ?_
  refine (go_ic (m := 196) (pc := 33) (n := 1) (by decide +kernel) ic_1).trans ?_
  refine (go_iadd (m := 196) (pc := 34) (by decide +kernel)).trans ?_
  refine (go_putI (m := 196) (pc := 35) (o := 7) (x := 216) (ci := 7) (k := 8) (by decide +kernel) rfl f_7_216 rfl (by decide +kernel) h0).trans ?_
  refine (go_iload_n (m := 196) (pc := 38) (k := 3) (by decide +kernel) rfl).trans ?_
  exact go_retI (m := 196) (pc := 39) (by decide +kernel) rfl
theorem Model_digit_E (this : Nat) (p0 : Int32) (p1 : Int32) (w : Wd) (I : MI) (L : ML) (P : MP) : call 196 [.ref this, .int p0, .int p1] w I L P = go 196 0 [.ref this, .int p0, .int p1, unk] [] w I L P := rfl
theorem Model_isDigit_0 (x_l0 : Int32) (w : Wd) (I : MI) (L : ML) (P : MP)  : go 197 0 [.int x_l0] [] w I L P = kC (call 124 [.long (Int32.toInt64 x_l0), .long 48, .long 57] w I L P) (fun v w1 I1 L1 P1 => go 197 11 [.int x_l0] (v.toList ++ []) w1 I1 L1 P1) := by
  refine (go_iload_n (m := 197) (pc := 0) (k := 0) (by decide +kernel) rfl).trans ?_
  refine (go_i2l (m := 197) (pc := 1) (by decide +kernel)).trans ?_
  refine (go_ldc2 (m := 197) (pc := 2) (o := 7) (x := 228) (v := 48) (by decide +kernel) rfl (by decide +kernel)).trans ?_
  refine (go_ldc2 (m := 197) (pc := 5) (o := 7) (x := 230) (v := 57) (by decide +kernel) rfl (by decide +kernel)).trans ?_
  exact go_sta (m := 197) (pc := 8) (o := 7) (x := 30) (y := 124) (kd := 2) (as := [.long (Int32.toInt64 x_l0), .long 48, .long 57]) (rs := []) (by decide +kernel) rfl rfl c_7_30 (Or.inl rfl) rfl rfl rfl (by decide +kernel) (by simp only [List.length_cons, List.length_nil]; decide) (Nat.le_of_ble_eq_true rfl)
theorem Model_isDigit_11 (l0 : Value) (y0 : Int32) (w : Wd) (I : MI) (L : ML) (P : MP) (h0 : y0 &&& 1 = y0) : go 197 11 [l0] [.int y0] w I L P = some (.inl (some (.int y0)), w, I, L, P) := by
  exact go_retZ (m := 197) (pc := 11) (by decide +kernel) rfl h0
theorem Model_isDigit_E (p0 : Int32) (w : Wd) (I : MI) (L : ML) (P : MP) : call 197 [.int p0] w I L P = go 197 0 [.int p0] [] w I L P := rfl
theorem Model_readNumber_0 (a_l0 : Nat) (l1 : Value) (l2 : Value) (l3 : Value) (l4 : Value) (w : Wd) (I : MI) (L : ML) (P : MP) (h0 : w.1 a_l0 = some (7, 0)) : go 198 0 [.ref a_l0, l1, l2, l3, l4] [] w I L P = kC (call 193 [.ref a_l0] w I L P) (fun v w1 I1 L1 P1 => go 198 9 [.ref a_l0, l1, (fix1 l2), .int (I a_l0 8), l4] (v.toList ++ []) w1 I1 L1 P1) := by
  refine (go_aload_n (m := 198) (pc := 0) (k := 0) (by decide +kernel) rfl).trans ?_
  refine (go_getI (m := 198) (pc := 1) (o := 7) (x := 216) (ci := 7) (k := 8) (by decide +kernel) rfl f_7_216 rfl h0).trans ?_
  refine (go_istore_n (m := 198) (pc := 4) (k := 3) (ls' := [.ref a_l0, l1, (fix1 l2), .int (I a_l0 8), l4]) (by decide +kernel) (by simp only [List.length_cons, List.length_nil]; decide) rfl).trans ?_
  refine (go_aload_n (m := 198) (pc := 5) (k := 0) (by decide +kernel) rfl).trans ?_
  exact go_vir (m := 198) (pc := 6) (o := 7) (x := 222) (y := 193) (kd := 0) (b := a_l0) (bs := []) (rs := []) (by decide +kernel) rfl rfl c_7_222 (Or.inl rfl) rfl rfl rfl (by decide +kernel) (by simp only [List.length_cons, List.length_nil]; decide) (Nat.le_of_ble_eq_true rfl) h0
theorem Model_readNumber_9 (l0 : Value) (l1 : Value) (l2 : Value) (l3 : Value) (l4 : Value) (y0 : Int32) (w : Wd) (I : MI) (L : ML) (P : MP)  : go 198 9 [l0, l1, l2, l3, l4] [.int y0] w I L P = kC (call 197 [.int y0] w I L P) (fun v w1 I1 L1 P1 => go 198 12 [l0, l1, l2, l3, l4] (v.toList ++ []) w1 I1 L1 P1) := by
  exact go_sta (m := 198) (pc := 9) (o := 7) (x := 232) (y := 197) (kd := 2) (as := [.int y0]) (rs := []) (by decide +kernel) rfl rfl c_7_232 (Or.inl rfl) rfl rfl rfl (by decide +kernel) (by simp only [List.length_cons, List.length_nil]; decide) (Nat.le_of_ble_eq_true rfl)
theorem Model_readNumber_12 (l0 : Value) (l1 : Value) (l2 : Value) (l3 : Value) (l4 : Value) (y0 : Int32) (w : Wd) (I : MI) (L : ML) (P : MP)  : go 198 12 [l0, l1, l2, l3, l4] [.int y0] w I L P = if y0 ≠ 0 then go 198 23 [l0, l1, l2, l3, l4] [] w I L P else go 198 15 [l0, l1, l2, l3, l4] [] w I L P := by
  exact go_ifne (m := 198) (pc := 12) (off := 11) (t := 23) (by decide +kernel) (by decide)
theorem Model_readNumber_15 (a_l0 : Nat) (l1 : Value) (l2 : Value) (l3 : Value) (l4 : Value) (w : Wd) (I : MI) (L : ML) (P : MP) (h0 : w.1 a_l0 = some (7, 0)) : go 198 15 [.ref a_l0, l1, l2, l3, l4] [] w I L P = kC (call 194 [.ref a_l0, .int (I a_l0 8)] w I L P) (fun v w1 I1 L1 P1 => go 198 23 [.ref a_l0, l1, l2, l3, l4] (v.toList ++ []) w1 I1 L1 P1) := by
  refine (go_aload_n (m := 198) (pc := 15) (k := 0) (by decide +kernel) rfl).trans ?_
  refine (go_aload_n (m := 198) (pc := 16) (k := 0) (by decide +kernel) rfl).trans ?_
  refine (go_getI (m := 198) (pc := 17) (o := 7) (x := 216) (ci := 7) (k := 8) (by decide +kernel) rfl f_7_216 rfl h0).trans ?_
  exact go_vir (m := 198) (pc := 20) (o := 7) (x := 225) (y := 194) (kd := 0) (b := a_l0) (bs := [.int (I a_l0 8)]) (rs := []) (by decide +kernel) rfl rfl c_7_225 (Or.inl rfl) rfl rfl rfl (by decide +kernel) (by simp only [List.length_cons, List.length_nil]; decide) (Nat.le_of_ble_eq_true rfl) h0
theorem Model_readNumber_23 (l0 : Value) (l1 : Value) (l2 : Value) (l3 : Value) (l4 : Value) (w : Wd) (I : MI) (L : ML) (P : MP)  : go 198 23 [l0, l1, l2, l3, l4] [] w I L P = go 198 26 [l0, l1, l2, (fix1 l3), .int (nI 0)] [] w I L P := by
  refine (go_ic (m := 198) (pc := 23) (n := 0) (by decide +kernel) ic_0).trans ?_
  refine (go_istore (m := 198) (pc := 24) (k := 4) (ls' := [l0, l1, l2, (fix1 l3), .int (nI 0)]) (by decide +kernel) (by simp only [List.length_cons, List.length_nil]; decide) rfl).trans ?_
  rfl
theorem Model_readNumber_26 (a_l0 : Nat) (l1 : Value) (l2 : Value) (l3 : Value) (l4 : Value) (w : Wd) (I : MI) (L : ML) (P : MP) (h0 : w.1 a_l0 = some (7, 0)) : go 198 26 [.ref a_l0, l1, l2, l3, l4] [] w I L P = kC (call 193 [.ref a_l0] w I L P) (fun v w1 I1 L1 P1 => go 198 30 [.ref a_l0, l1, l2, l3, l4] (v.toList ++ []) w1 I1 L1 P1) := by
  refine (go_aload_n (m := 198) (pc := 26) (k := 0) (by decide +kernel) rfl).trans ?_
  exact go_vir (m := 198) (pc := 27) (o := 7) (x := 222) (y := 193) (kd := 0) (b := a_l0) (bs := []) (rs := []) (by decide +kernel) rfl rfl c_7_222 (Or.inl rfl) rfl rfl rfl (by decide +kernel) (by simp only [List.length_cons, List.length_nil]; decide) (Nat.le_of_ble_eq_true rfl) h0
theorem Model_readNumber_30 (l0 : Value) (l1 : Value) (l2 : Value) (l3 : Value) (l4 : Value) (y0 : Int32) (w : Wd) (I : MI) (L : ML) (P : MP)  : go 198 30 [l0, l1, l2, l3, l4] [.int y0] w I L P = kC (call 197 [.int y0] w I L P) (fun v w1 I1 L1 P1 => go 198 33 [l0, l1, l2, l3, l4] (v.toList ++ []) w1 I1 L1 P1) := by
  exact go_sta (m := 198) (pc := 30) (o := 7) (x := 232) (y := 197) (kd := 2) (as := [.int y0]) (rs := []) (by decide +kernel) rfl rfl c_7_232 (Or.inl rfl) rfl rfl rfl (by decide +kernel) (by simp only [List.length_cons, List.length_nil]; decide) (Nat.le_of_ble_eq_true rfl)
theorem Model_readNumber_33 (l0 : Value) (l1 : Value) (l2 : Value) (l3 : Value) (l4 : Value) (y0 : Int32) (w : Wd) (I : MI) (L : ML) (P : MP)  : go 198 33 [l0, l1, l2, l3, l4] [.int y0] w I L P = if y0 = 0 then go 198 74 [l0, l1, l2, l3, l4] [] w I L P else go 198 36 [l0, l1, l2, l3, l4] [] w I L P := by
  exact go_ifeq (m := 198) (pc := 33) (off := 41) (t := 74) (by decide +kernel) (by decide)
theorem Model_readNumber_36 (a_l0 : Nat) (l1 : Value) (l2 : Value) (x_l3 : Int32) (l4 : Value) (w : Wd) (I : MI) (L : ML) (P : MP) (h0 : w.1 a_l0 = some (7, 0)) : go 198 36 [.ref a_l0, l1, l2, .int x_l3, l4] [] w I L P = if (nI 3) ≤ ((I a_l0 8) - x_l3) then go 198 74 [.ref a_l0, l1, l2, .int x_l3, l4] [] w I L P else go 198 46 [.ref a_l0, l1, l2, .int x_l3, l4] [] w I L P := by
  refine (go_aload_n (m := 198) (pc := 36) (k := 0) (by decide +kernel) rfl).trans ?_
  refine (go_getI (m := 198) (pc := 37) (o := 7) (x := 216) (ci := 7) (k := 8) (by decide +kernel) rfl f_7_216 rfl h0).trans ?_
  refine (go_iload_n (m := 198) (pc := 40) (k := 3) (by decide +kernel) rfl).trans ?_
  refine (go_isub (m := 198) (pc := 41) (by decide +kernel)).trans ?_
  refine (go_ic (m := 198) (pc := 42) (n := 3) (by decide +kernel) ic_3).trans ?_
  exact go_icmpge (m := 198) (pc := 43) (off := 31) (t := 74) (by decide +kernel) (by decide)
theorem Model_readNumber_46 (a_l0 : Nat) (l1 : Value) (l2 : Value) (l3 : Value) (x_l4 : Int32) (w : Wd) (I : MI) (L : ML) (P : MP) (h0 : w.1 a_l0 = some (7, 0)) : go 198 46 [.ref a_l0, l1, l2, l3, .int x_l4] [] w I L P = kC (call 193 [.ref a_l0] w I L P) (fun v w1 I1 L1 P1 => go 198 55 [.ref a_l0, l1, l2, l3, .int x_l4] (v.toList ++ [.int ((nI 10) * x_l4)]) w1 I1 L1 P1) := by
  refine (go_bi (m := 198) (pc := 46) (n := 10) (by decide +kernel) bi_10).trans ?_
  refine (go_iload (m := 198) (pc := 48) (k := 4) (by decide +kernel) rfl).trans ?_
  refine (go_imul (m := 198) (pc := 50) (by decide +kernel)).trans ?_
  refine (go_aload_n (m := 198) (pc := 51) (k := 0) (by decide +kernel) rfl).trans ?_
  exact go_vir (m := 198) (pc := 52) (o := 7) (x := 222) (y := 193) (kd := 0) (b := a_l0) (bs := []) (rs := [.int ((nI 10) * x_l4)]) (by decide +kernel) rfl rfl c_7_222 (Or.inl rfl) rfl rfl rfl (by decide +kernel) (by simp only [List.length_cons, List.length_nil]; decide) (Nat.le_of_ble_eq_true rfl) h0
theorem Model_readNumber_55 (a_l0 : Nat) (l1 : Value) (l2 : Value) (l3 : Value) (l4 : Value) (y0 : Int32) (y1 : Int32) (w : Wd) (I : MI) (L : ML) (P : MP) (h0 : w.1 a_l0 = some (7, 0)) : go 198 55 [.ref a_l0, l1, l2, l3, l4] [.int y1, .int y0] w I L P = go 198 26 [.ref a_l0, l1, l2, (fix1 l3), .int ((y0 + y1) - (nI 48))] [] w (updI I a_l0 8 ((I a_l0 8) + (nI 1))) L P := by
  refine (go_iadd (m := 198) (pc := 55) (by decide +kernel)).trans ?_
  refine (go_bi (m := 198) (pc := 56) (n := 48) (by decide +kernel) bi_48).trans ?_
  refine (go_isub (m := 198) (pc := 58) (by decide +kernel)).trans ?_
  refine (go_istore (m := 198) (pc := 59) (k := 4) (ls' := [.ref a_l0, l1, l2, (fix1 l3), .int ((y0 + y1) - (nI 48))]) (by decide +kernel) (by simp only [List.length_cons, List.length_nil]; decide) rfl).trans ?_
  refine (go_aload_n (m := 198) (pc := 61) (k := 0) (by decide +kernel) rfl).trans ?_
  refine (go_dup (m := 198) (pc := 62) (by decide +kernel) rfl).trans ?_
  refine (go_getI (m := 198) (pc := 63) (o := 7) (x := 216) (ci := 7) (k := 8) (by decide +kernel) rfl f_7_216 rfl h0).trans ?_
  refine (go_ic (m := 198) (pc := 66) (n := 1) (by decide +kernel) ic_1).trans ?_
  refine (go_iadd (m := 198) (pc := 67) (by decide +kernel)).trans ?_
  refine (go_putI (m := 198) (pc := 68) (o := 7) (x := 216) (ci := 7) (k := 8) (by decide +kernel) rfl f_7_216 rfl (by decide +kernel) h0).trans ?_
  refine (go_goto (m := 198) (pc := 71) (off := -45) (t := 26) (by decide +kernel) (by decide)).trans ?_
  rfl
theorem Model_readNumber_74 (a_l0 : Nat) (l1 : Value) (l2 : Value) (l3 : Value) (l4 : Value) (w : Wd) (I : MI) (L : ML) (P : MP) (h0 : w.1 a_l0 = some (7, 0)) : go 198 74 [.ref a_l0, l1, l2, l3, l4] [] w I L P = kC (call 193 [.ref a_l0] w I L P) (fun v w1 I1 L1 P1 => go 198 78 [.ref a_l0, l1, l2, l3, l4] (v.toList ++ []) w1 I1 L1 P1) := by
  refine (go_aload_n (m := 198) (pc := 74) (k := 0) (by decide +kernel) rfl).trans ?_
  exact go_vir (m := 198) (pc := 75) (o := 7) (x := 222) (y := 193) (kd := 0) (b := a_l0) (bs := []) (rs := []) (by decide +kernel) rfl rfl c_7_222 (Or.inl rfl) rfl rfl rfl (by decide +kernel) (by simp only [List.length_cons, List.length_nil]; decide) (Nat.le_of_ble_eq_true rfl) h0
theorem Model_readNumber_78 (l0 : Value) (l1 : Value) (l2 : Value) (l3 : Value) (l4 : Value) (y0 : Int32) (w : Wd) (I : MI) (L : ML) (P : MP)  : go 198 78 [l0, l1, l2, l3, l4] [.int y0] w I L P = kC (call 197 [.int y0] w I L P) (fun v w1 I1 L1 P1 => go 198 81 [l0, l1, l2, l3, l4] (v.toList ++ []) w1 I1 L1 P1) := by
  exact go_sta (m := 198) (pc := 78) (o := 7) (x := 232) (y := 197) (kd := 2) (as := [.int y0]) (rs := []) (by decide +kernel) rfl rfl c_7_232 (Or.inl rfl) rfl rfl rfl (by decide +kernel) (by simp only [List.length_cons, List.length_nil]; decide) (Nat.le_of_ble_eq_true rfl)
theorem Model_readNumber_81 (l0 : Value) (l1 : Value) (l2 : Value) (l3 : Value) (l4 : Value) (y0 : Int32) (w : Wd) (I : MI) (L : ML) (P : MP)  : go 198 81 [l0, l1, l2, l3, l4] [.int y0] w I L P = if y0 = 0 then go 198 92 [l0, l1, l2, l3, l4] [] w I L P else go 198 84 [l0, l1, l2, l3, l4] [] w I L P := by
  exact go_ifeq (m := 198) (pc := 81) (off := 11) (t := 92) (by decide +kernel) (by decide)
theorem Model_readNumber_84 (a_l0 : Nat) (l1 : Value) (l2 : Value) (l3 : Value) (l4 : Value) (w : Wd) (I : MI) (L : ML) (P : MP) (h0 : w.1 a_l0 = some (7, 0)) : go 198 84 [.ref a_l0, l1, l2, l3, l4] [] w I L P = kC (call 194 [.ref a_l0, .int (I a_l0 8)] w I L P) (fun v w1 I1 L1 P1 => go 198 92 [.ref a_l0, l1, l2, l3, l4] (v.toList ++ []) w1 I1 L1 P1) := by
  refine (go_aload_n (m := 198) (pc := 84) (k := 0) (by decide +kernel) rfl).trans ?_
  refine (go_aload_n (m := 198) (pc := 85) (k := 0) (by decide +kernel) rfl).trans ?_
  refine (go_getI (m := 198) (pc := 86) (o := 7) (x := 216) (ci := 7) (k := 8) (by decide +kernel) rfl f_7_216 rfl h0).trans ?_
  exact go_vir (m := 198) (pc := 89) (o := 7) (x := 225) (y := 194) (kd := 0) (b := a_l0) (bs := [.int (I a_l0 8)]) (rs := []) (by decide +kernel) rfl rfl c_7_225 (Or.inl rfl) rfl rfl rfl (by decide +kernel) (by simp only [List.length_cons, List.length_nil]; decide) (Nat.le_of_ble_eq_true rfl) h0
theorem Model_readNumber_92 (l0 : Value) (x_l1 : Int32) (x_l2 : Int32) (l3 : Value) (x_l4 : Int32) (w : Wd) (I : MI) (L : ML) (P : MP)  : go 198 92 [l0, .int x_l1, .int x_l2, l3, .int x_l4] [] w I L P = kC (call 124 [.long (Int32.toInt64 x_l4), .long (Int32.toInt64 x_l1), .long (Int32.toInt64 x_l2)] w I L P) (fun v w1 I1 L1 P1 => go 198 102 [l0, .int x_l1, .int x_l2, l3, .int x_l4] (v.toList ++ []) w1 I1 L1 P1) := by
  refine (go_iload (m := 198) (pc := 92) (k := 4) (by decide +kernel) rfl).trans ?_
  refine (go_i2l (m := 198) (pc := 94) (by decide +kernel)).trans ?_
  refine (go_iload_n (m := 198) (pc := 95) (k := 1) (by decide +kernel) rfl).trans ?_
  refine (go_i2l (m := 198) (pc := 96) (by decide +kernel)).trans ?_
  refine (go_iload_n (m := 198) (pc := 97) (k := 2) (by decide +kernel) rfl).trans ?_
  refine (go_i2l (m := 198) (pc := 98) (by decide +kernel)).trans ?_
  exact go_sta (m := 198) (pc := 99) (o := 7) (x := 30) (y := 124) (kd := 2) (as := [.long (Int32.toInt64 x_l4), .long (Int32.toInt64 x_l1), .long (Int32.toInt64 x_l2)]) (rs := []) (by decide +kernel) rfl rfl c_7_30 (Or.inl rfl) rfl rfl rfl (by decide +kernel) (by simp only [List.length_cons, List.length_nil]; decide) (Nat.le_of_ble_eq_true rfl)
theorem Model_readNumber_102 (l0 : Value) (l1 : Value) (l2 : Value) (l3 : Value) (l4 : Value) (y0 : Int32) (w : Wd) (I : MI) (L : ML) (P : MP)  : go 198 102 [l0, l1, l2, l3, l4] [.int y0] w I L P = if y0 ≠ 0 then go 198 110 [l0, l1, l2, l3, l4] [] w I L P else go 198 105 [l0, l1, l2, l3, l4] [] w I L P := by
  exact go_ifne (m := 198) (pc := 102) (off := 8) (t := 110) (by decide +kernel) (by decide)
theorem Model_readNumber_105 (a_l0 : Nat) (l1 : Value) (l2 : Value) (x_l3 : Int32) (l4 : Value) (w : Wd) (I : MI) (L : ML) (P : MP) (h0 : w.1 a_l0 = some (7, 0)) : go 198 105 [.ref a_l0, l1, l2, .int x_l3, l4] [] w I L P = kC (call 194 [.ref a_l0, .int x_l3] w I L P) (fun v w1 I1 L1 P1 => go 198 110 [.ref a_l0, l1, l2, .int x_l3, l4] (v.toList ++ []) w1 I1 L1 P1) := by
  refine (go_aload_n (m := 198) (pc := 105) (k := 0) (by decide +kernel) rfl).trans ?_
  refine (go_iload_n (m := 198) (pc := 106) (k := 3) (by decide +kernel) rfl).trans ?_
  exact go_vir (m := 198) (pc := 107) (o := 7) (x := 225) (y := 194) (kd := 0) (b := a_l0) (bs := [.int x_l3]) (rs := []) (by decide +kernel) rfl rfl c_7_225 (Or.inl rfl) rfl rfl rfl (by decide +kernel) (by simp only [List.length_cons, List.length_nil]; decide) (Nat.le_of_ble_eq_true rfl) h0
theorem Model_readNumber_110 (l0 : Value) (l1 : Value) (l2 : Value) (l3 : Value) (x_l4 : Int32) (w : Wd) (I : MI) (L : ML) (P : MP)  : go 198 110 [l0, l1, l2, l3, .int x_l4] [] w I L P = some (.inl (some (.int x_l4)), w, I, L, P) := by
  refine (go_iload (m := 198) (pc := 110) (k := 4) (by decide +kernel) rfl).trans ?_
  exact go_retI (m := 198) (pc := 112) (by decide +kernel) rfl
theorem Model_readNumber_E (this : Nat) (p0 : Int32) (p1 : Int32) (w : Wd) (I : MI) (L : ML) (P : MP) : call 198 [.ref this, .int p0, .int p1] w I L P = go 198 0 [.ref this, .int p0, .int p1, unk, unk] [] w I L P := rfl
theorem Model_readBytes_0 (a_l0 : Nat) (w : Wd) (I : MI) (L : ML) (P : MP) (h0 : w.1 a_l0 = some (7, 0)) : go 199 0 [.ref a_l0] [] w I L P = kC (call 198 [.ref a_l0, .int (nI 0), .int (nI 255)] w I L P) (fun v w1 I1 L1 P1 => go 199 9 [.ref a_l0] (v.toList ++ [.ref a_l0]) w1 I1 L1 P1) := by
  refine (go_aload_n (m := 199) (pc := 0) (k := 0) (by decide +kernel) rfl).trans ?_
  refine (go_aload_n (m := 199) (pc := 1) (k := 0) (by decide +kernel) rfl).trans ?_
  refine (go_ic (m := 199) (pc := 2) (n := 0) (by decide +kernel) ic_0).trans ?_
  refine (go_si (m := 199) (pc := 3) (n := 255) (by decide +kernel) si_255).trans ?_
  exact go_vir (m := 199) (pc := 6) (o := 7) (x := 235) (y := 198) (kd := 0) (b := a_l0) (bs := [.int (nI 0), .int (nI 255)]) (rs := [.ref a_l0]) (by decide +kernel) rfl rfl c_7_235 (Or.inl rfl) rfl rfl rfl (by decide +kernel) (by simp only [List.length_cons, List.length_nil]; decide) (Nat.le_of_ble_eq_true rfl) h0
theorem Model_readBytes_9 (a_l0 : Nat) (a_s0 : Nat) (y1 : Int32) (w : Wd) (I : MI) (L : ML) (P : MP) (h0 : w.1 a_s0 = some (7, 0)) (h1 : w.1 a_l0 = some (7, 0)) : go 199 9 [.ref a_l0] [.int y1, .ref a_s0] w I L P = go 199 18 [.ref a_l0] [] w (updI I a_l0 13 (nI 1)) (updL L a_s0 14 (Int32.toInt64 y1)) P := by
  refine (go_i2l (m := 199) (pc := 9) (by decide +kernel)).trans ?_
  refine (go_putJ (m := 199) (pc := 10) (o := 7) (x := 238) (ci := 7) (k := 14) (by decide +kernel) rfl f_7_238 rfl (by decide +kernel) h0).trans ?_
  refine (go_aload_n (m := 199) (pc := 13) (k := 0) (by decide +kernel) rfl).trans ?_
  refine (go_ic (m := 199) (pc := 14) (n := 1) (by decide +kernel) ic_1).trans ?_
  refine (go_putI (m := 199) (pc := 15) (o := 7) (x := 242) (ci := 7) (k := 13) (by decide +kernel) rfl f_7_242 rfl (by decide +kernel) h1).trans ?_
  rfl
theorem Model_readBytes_18 (a_l0 : Nat) (w : Wd) (I : MI) (L : ML) (P : MP) (h0 : w.1 a_l0 = some (7, 0)) : go 199 18 [.ref a_l0] [] w I L P = if (I a_l0 9) ≠ (-1) then go 199 88 [.ref a_l0] [] w I L P else go 199 26 [.ref a_l0] [] w I L P := by
  refine (go_aload_n (m := 199) (pc := 18) (k := 0) (by decide +kernel) rfl).trans ?_
  refine (go_getI (m := 199) (pc := 19) (o := 7) (x := 219) (ci := 7) (k := 9) (by decide +kernel) rfl f_7_219 rfl h0).trans ?_
  refine (go_ic (m := 199) (pc := 22) (n := -1) (by decide +kernel) ic_m1).trans ?_
  exact go_icmpne (m := 199) (pc := 23) (off := 65) (t := 88) (by decide +kernel) (by decide)
theorem Model_readBytes_26 (a_l0 : Nat) (w : Wd) (I : MI) (L : ML) (P : MP) (h0 : w.1 a_l0 = some (7, 0)) : go 199 26 [.ref a_l0] [] w I L P = if (nI 4) ≤ (I a_l0 13) then go 199 88 [.ref a_l0] [] w I L P else go 199 34 [.ref a_l0] [] w I L P := by
  refine (go_aload_n (m := 199) (pc := 26) (k := 0) (by decide +kernel) rfl).trans ?_
  refine (go_getI (m := 199) (pc := 27) (o := 7) (x := 242) (ci := 7) (k := 13) (by decide +kernel) rfl f_7_242 rfl h0).trans ?_
  refine (go_ic (m := 199) (pc := 30) (n := 4) (by decide +kernel) ic_4).trans ?_
  exact go_icmpge (m := 199) (pc := 31) (off := 57) (t := 88) (by decide +kernel) (by decide)
theorem Model_readBytes_34 (a_l0 : Nat) (w : Wd) (I : MI) (L : ML) (P : MP) (h0 : w.1 a_l0 = some (7, 0)) : go 199 34 [.ref a_l0] [] w I L P = kC (call 193 [.ref a_l0] w I L P) (fun v w1 I1 L1 P1 => go 199 38 [.ref a_l0] (v.toList ++ []) w1 I1 L1 P1) := by
  refine (go_aload_n (m := 199) (pc := 34) (k := 0) (by decide +kernel) rfl).trans ?_
  exact go_vir (m := 199) (pc := 35) (o := 7) (x := 222) (y := 193) (kd := 0) (b := a_l0) (bs := []) (rs := []) (by decide +kernel) rfl rfl c_7_222 (Or.inl rfl) rfl rfl rfl (by decide +kernel) (by simp only [List.length_cons, List.length_nil]; decide) (Nat.le_of_ble_eq_true rfl) h0
theorem Model_readBytes_38 (l0 : Value) (y0 : Int32) (w : Wd) (I : MI) (L : ML) (P : MP)  : go 199 38 [l0] [.int y0] w I L P = if y0 ≠ (nI 44) then go 199 88 [l0] [] w I L P else go 199 43 [l0] [] w I L P := by
  refine (go_bi (m := 199) (pc := 38) (n := 44) (by decide +kernel) bi_44).trans ?_
  exact go_icmpne (m := 199) (pc := 40) (off := 48) (t := 88) (by decide +kernel) (by decide)
theorem Model_readBytes_43 (a_l0 : Nat) (w : Wd) (I : MI) (L : ML) (P : MP) (h0 : w.1 a_l0 = some (7, 0)) : go 199 43 [.ref a_l0] [] w I L P = kC (call 198 [.ref a_l0, .int (nI 0), .int (nI 255)] w (updI I a_l0 8 ((I a_l0 8) + (nI 1))) L P) (fun v w1 I1 L1 P1 => go 199 70 [.ref a_l0] (v.toList ++ [.long (256 * (L a_l0 14)), .ref a_l0]) w1 I1 L1 P1) := by
  refine (go_aload_n (m := 199) (pc := 43) (k := 0) (by decide +kernel) rfl).trans ?_
  refine (go_dup (m := 199) (pc := 44) (by decide +kernel) rfl).trans ?_
  refine (go_getI (m := 199) (pc := 45) (o := 7) (x := 216) (ci := 7) (k := 8) (by decide +kernel) rfl f_7_216 rfl h0).trans ?_
  refine (go_ic (m := 199) (pc := 48) (n := 1) (by decide +kernel) ic_1).trans ?_
  refine (go_iadd (m := 199) (pc := 49) (by decide +kernel)).trans ?_
  refine (go_putI (m := 199) (pc := 50) (o := 7) (x := 216) (ci := 7) (k := 8) (by decide +kernel) rfl f_7_216 rfl (by decide +kernel) h0).trans ?_
  refine (go_aload_n (m := 199) (pc := 53) (k := 0) (by decide +kernel) rfl).trans ?_
  refine (go_ldc2 (m := 199) (pc := 54) (o := 7) (x := 245) (v := 256) (by decide +kernel) rfl (by decide +kernel)).trans ?_
  refine (go_aload_n (m := 199) (pc := 57) (k := 0) (by decide +kernel) rfl).trans ?_
  refine (go_getJ (m := 199) (pc := 58) (o := 7) (x := 238) (ci := 7) (k := 14) (by decide +kernel) rfl f_7_238 rfl h0).trans ?_
  refine (go_lmul (m := 199) (pc := 61) (by decide +kernel)).trans ?_
  refine (go_aload_n (m := 199) (pc := 62) (k := 0) (by decide +kernel) rfl).trans ?_
  refine (go_ic (m := 199) (pc := 63) (n := 0) (by decide +kernel) ic_0).trans ?_
  refine (go_si (m := 199) (pc := 64) (n := 255) (by decide +kernel) si_255).trans ?_
  exact go_vir (m := 199) (pc := 67) (o := 7) (x := 235) (y := 198) (kd := 0) (b := a_l0) (bs := [.int (nI 0), .int (nI 255)]) (rs := [.long (256 * (L a_l0 14)), .ref a_l0]) (by decide +kernel) rfl rfl c_7_235 (Or.inl rfl) rfl rfl rfl (by decide +kernel) (by simp only [List.length_cons, List.length_nil]; decide) (Nat.le_of_ble_eq_true rfl) h0
theorem Model_readBytes_70 (a_l0 : Nat) (a_s0 : Nat) (y1 : Int64) (y2 : Int32) (w : Wd) (I : MI) (L : ML) (P : MP) (h0 : w.1 a_s0 = some (7, 0)) (h1 : w.1 a_l0 = some (7, 0)) : go 199 70 [.ref a_l0] [.int y2, .long y1, .ref a_s0] w I L P = go 199 18 [.ref a_l0] [] w (updI I a_l0 13 ((I a_l0 13) + (nI 1))) (updL L a_s0 14 (y1 + (Int32.toInt64 y2))) P := by
  refine (go_i2l (m := 199) (pc := 70) (by decide +kernel)).trans ?_
  refine (go_ladd (m := 199) (pc := 71) (by decide +kernel)).trans ?_
  refine (go_putJ (m := 199) (pc := 72) (o := 7) (x := 238) (ci := 7) (k := 14) (by decide +kernel) rfl f_7_238 rfl (by decide +kernel) h0).trans ?_
  refine (go_aload_n (m := 199) (pc := 75) (k := 0) (by decide +kernel) rfl).trans ?_
  refine (go_dup (m := 199) (pc := 76) (by decide +kernel) rfl).trans ?_
  refine (go_getI (m := 199) (pc := 77) (o := 7) (x := 242) (ci := 7) (k := 13) (by decide +kernel) rfl f_7_242 rfl h1).trans ?_
  refine (go_ic (m := 199) (pc := 80) (n := 1) (by decide +kernel) ic_1).trans ?_
  refine (go_iadd (m := 199) (pc := 81) (by decide +kernel)).trans ?_
  refine (go_putI (m := 199) (pc := 82) (o := 7) (x := 242) (ci := 7) (k := 13) (by decide +kernel) rfl f_7_242 rfl (by decide +kernel) h1).trans ?_
  refine (go_goto (m := 199) (pc := 85) (off := -67) (t := 18) (by decide +kernel) (by decide)).trans ?_
  rfl
theorem Model_readBytes_88 (l0 : Value) (w : Wd) (I : MI) (L : ML) (P : MP)  : go 199 88 [l0] [] w I L P = some (.inl none, w, I, L, P) := by
  exact go_retV (m := 199) (pc := 88) (by decide +kernel) rfl
theorem Model_readBytes_E (this : Nat) (w : Wd) (I : MI) (L : ML) (P : MP) : call 199 [.ref this] w I L P = go 199 0 [.ref this] [] w I L P := rfl
theorem Model_reads_0 (a_l0 : Nat) (w : Wd) (I : MI) (L : ML) (P : MP) (h0 : w.1 a_l0 = some (7, 0)) : go 200 0 [.ref a_l0] [] w I L P = kC (call 193 [.ref a_l0] w I L P) (fun v w1 I1 L1 P1 => go 200 5 [.ref a_l0] (v.toList ++ [.ref a_l0]) w1 I1 L1 P1) := by
  refine (go_aload_n (m := 200) (pc := 0) (k := 0) (by decide +kernel) rfl).trans ?_
  refine (go_aload_n (m := 200) (pc := 1) (k := 0) (by decide +kernel) rfl).trans ?_
  exact go_vir (m := 200) (pc := 2) (o := 7) (x := 222) (y := 193) (kd := 0) (b := a_l0) (bs := []) (rs := [.ref a_l0]) (by decide +kernel) rfl rfl c_7_222 (Or.inl rfl) rfl rfl rfl (by decide +kernel) (by simp only [List.length_cons, List.length_nil]; decide) (Nat.le_of_ble_eq_true rfl) h0
theorem Model_reads_5 (a_l0 : Nat) (a_s0 : Nat) (y1 : Int32) (w : Wd) (I : MI) (L : ML) (P : MP) (h0 : w.1 a_s0 = some (7, 0)) (h1 : w.1 a_l0 = some (7, 0)) : go 200 5 [.ref a_l0] [.int y1, .ref a_s0] w I L P = go 200 22 [.ref a_l0] [.int ((updI (updI I a_s0 10 y1) a_l0 8 (((updI I a_s0 10 y1) a_l0 8) + (nI 1))) a_l0 10)] w (updI (updI I a_s0 10 y1) a_l0 8 (((updI I a_s0 10 y1) a_l0 8) + (nI 1))) L P := by
  refine (go_putI (m := 200) (pc := 5) (o := 7) (x := 247) (ci := 7) (k := 10) (by decide +kernel) rfl f_7_247 rfl (by decide +kernel) h0).trans ?_
  refine (go_aload_n (m := 200) (pc := 8) (k := 0) (by decide +kernel) rfl).trans ?_
  refine (go_dup (m := 200) (pc := 9) (by decide +kernel) rfl).trans ?_
  refine (go_getI (m := 200) (pc := 10) (o := 7) (x := 216) (ci := 7) (k := 8) (by decide +kernel) rfl f_7_216 rfl h1).trans ?_
  refine (go_ic (m := 200) (pc := 13) (n := 1) (by decide +kernel) ic_1).trans ?_
  refine (go_iadd (m := 200) (pc := 14) (by decide +kernel)).trans ?_
  refine (go_putI (m := 200) (pc := 15) (o := 7) (x := 216) (ci := 7) (k := 8) (by decide +kernel) rfl f_7_216 rfl (by decide +kernel) h1).trans ?_
  refine (go_aload_n (m := 200) (pc := 18) (k := 0) (by decide +kernel) rfl).trans ?_
  refine (go_getI (m := 200) (pc := 19) (o := 7) (x := 247) (ci := 7) (k := 10) (by decide +kernel) rfl f_7_247 rfl h1).trans ?_
  rfl
theorem Model_reads_22_k114 (l0 : Value) (w : Wd) (I : MI) (L : ML) (P : MP) : go 200 22 [l0] [.int (nI 114)] w I L P = go 200 56 [l0] [] w I L P := go_lsI (m := 200) (pc := 22) (z := 114) (off := 34) (t := 56) (dflt := 125) (ps := #[(114, 34), (115, 110), (119, 34)]) (len := 34) (by decide +kernel) (by decide) (by decide) (by decide) (by decide)
theorem Model_reads_22_k115 (l0 : Value) (w : Wd) (I : MI) (L : ML) (P : MP) : go 200 22 [l0] [.int (nI 115)] w I L P = go 200 132 [l0] [] w I L P := go_lsI (m := 200) (pc := 22) (z := 115) (off := 110) (t := 132) (dflt := 125) (ps := #[(114, 34), (115, 110), (119, 34)]) (len := 34) (by decide +kernel) (by decide) (by decide) (by decide) (by decide)
theorem Model_reads_22_k119 (l0 : Value) (w : Wd) (I : MI) (L : ML) (P : MP) : go 200 22 [l0] [.int (nI 119)] w I L P = go 200 56 [l0] [] w I L P := go_lsI (m := 200) (pc := 22) (z := 119) (off := 34) (t := 56) (dflt := 125) (ps := #[(114, 34), (115, 110), (119, 34)]) (len := 34) (by decide +kernel) (by decide) (by decide) (by decide) (by decide)
theorem Model_reads_22_kd (l0 : Value) (w : Wd) (I : MI) (L : ML) (P : MP) (y : Int32) (h0 : ¬ y = nI 114) (h1 : ¬ y = nI 115) (h2 : ¬ y = nI 119) : go 200 22 [l0] [.int y] w I L P = go 200 147 [l0] [] w I L P := by
  refine go_lsO (m := 200) (pc := 22) (off := 125) (t := 147) (dflt := 125) (ps := #[(114, 34), (115, 110), (119, 34)]) (len := 34) (by decide +kernel) (by decide) ?_ (by decide)
  refine (lv_osw h0 (by decide)).trans ?_
  refine (lv_osw h1 (by decide)).trans ?_
  refine (lv_osw h2 (by decide)).trans ?_
  rfl
theorem Model_reads_56 (a_l0 : Nat) (w : Wd) (I : MI) (L : ML) (P : MP) (h0 : w.1 a_l0 = some (7, 0)) : go 200 56 [.ref a_l0] [] w I L P = kC (call 196 [.ref a_l0, .int (nI 0), .int (nI 2)] w I L P) (fun v w1 I1 L1 P1 => go 200 63 [.ref a_l0] (v.toList ++ [.ref a_l0]) w1 I1 L1 P1) := by
  refine (go_aload_n (m := 200) (pc := 56) (k := 0) (by decide +kernel) rfl).trans ?_
  refine (go_aload_n (m := 200) (pc := 57) (k := 0) (by decide +kernel) rfl).trans ?_
  refine (go_ic (m := 200) (pc := 58) (n := 0) (by decide +kernel) ic_0).trans ?_
  refine (go_ic (m := 200) (pc := 59) (n := 2) (by decide +kernel) ic_2).trans ?_
  exact go_vir (m := 200) (pc := 60) (o := 7) (x := 250) (y := 196) (kd := 0) (b := a_l0) (bs := [.int (nI 0), .int (nI 2)]) (rs := [.ref a_l0]) (by decide +kernel) rfl rfl c_7_250 (Or.inl rfl) rfl rfl rfl (by decide +kernel) (by simp only [List.length_cons, List.length_nil]; decide) (Nat.le_of_ble_eq_true rfl) h0
theorem Model_reads_63 (a_l0 : Nat) (a_s0 : Nat) (y1 : Int32) (w : Wd) (I : MI) (L : ML) (P : MP) (h0 : w.1 a_s0 = some (7, 0)) (h1 : w.1 a_l0 = some (7, 0)) : go 200 63 [.ref a_l0] [.int y1, .ref a_s0] w I L P = kC (call 195 [.ref a_l0, .int (nI 58)] w (updI I a_s0 11 y1) L P) (fun v w1 I1 L1 P1 => go 200 72 [.ref a_l0] (v.toList ++ []) w1 I1 L1 P1) := by
  refine (go_putI (m := 200) (pc := 63) (o := 7) (x := 253) (ci := 7) (k := 11) (by decide +kernel) rfl f_7_253 rfl (by decide +kernel) h0).trans ?_
  refine (go_aload_n (m := 200) (pc := 66) (k := 0) (by decide +kernel) rfl).trans ?_
  refine (go_bi (m := 200) (pc := 67) (n := 58) (by decide +kernel) bi_58).trans ?_
  exact go_vir (m := 200) (pc := 69) (o := 7) (x := 256) (y := 195) (kd := 0) (b := a_l0) (bs := [.int (nI 58)]) (rs := []) (by decide +kernel) rfl rfl c_7_256 (Or.inl rfl) rfl rfl rfl (by decide +kernel) (by simp only [List.length_cons, List.length_nil]; decide) (Nat.le_of_ble_eq_true rfl) h1
theorem Model_reads_72 (a_l0 : Nat) (w : Wd) (I : MI) (L : ML) (P : MP) (h0 : w.1 a_l0 = some (7, 0)) : go 200 72 [.ref a_l0] [] w I L P = kC (call 198 [.ref a_l0, .int (nI 0), .int (nI 127)] w I L P) (fun v w1 I1 L1 P1 => go 200 80 [.ref a_l0] (v.toList ++ [.ref a_l0]) w1 I1 L1 P1) := by
  refine (go_aload_n (m := 200) (pc := 72) (k := 0) (by decide +kernel) rfl).trans ?_
  refine (go_aload_n (m := 200) (pc := 73) (k := 0) (by decide +kernel) rfl).trans ?_
  refine (go_ic (m := 200) (pc := 74) (n := 0) (by decide +kernel) ic_0).trans ?_
  refine (go_bi (m := 200) (pc := 75) (n := 127) (by decide +kernel) bi_127).trans ?_
  exact go_vir (m := 200) (pc := 77) (o := 7) (x := 235) (y := 198) (kd := 0) (b := a_l0) (bs := [.int (nI 0), .int (nI 127)]) (rs := [.ref a_l0]) (by decide +kernel) rfl rfl c_7_235 (Or.inl rfl) rfl rfl rfl (by decide +kernel) (by simp only [List.length_cons, List.length_nil]; decide) (Nat.le_of_ble_eq_true rfl) h0
theorem Model_reads_80 (a_l0 : Nat) (a_s0 : Nat) (y1 : Int32) (w : Wd) (I : MI) (L : ML) (P : MP) (h0 : w.1 a_s0 = some (7, 0)) (h1 : w.1 a_l0 = some (7, 0)) : go 200 80 [.ref a_l0] [.int y1, .ref a_s0] w I L P = if ((updI I a_s0 12 y1) a_l0 10) ≠ (nI 119) then go 200 98 [.ref a_l0] [.ref a_l0] w (updI I a_s0 12 y1) L P else go 200 93 [.ref a_l0] [.ref a_l0] w (updI I a_s0 12 y1) L P := by
  refine (go_putI (m := 200) (pc := 80) (o := 7) (x := 259) (ci := 7) (k := 12) (by decide +kernel) rfl f_7_259 rfl (by decide +kernel) h0).trans ?_
  refine (go_aload_n (m := 200) (pc := 83) (k := 0) (by decide +kernel) rfl).trans ?_
  refine (go_aload_n (m := 200) (pc := 84) (k := 0) (by decide +kernel) rfl).trans ?_
  refine (go_getI (m := 200) (pc := 85) (o := 7) (x := 247) (ci := 7) (k := 10) (by decide +kernel) rfl f_7_247 rfl h1).trans ?_
  refine (go_bi (m := 200) (pc := 88) (n := 119) (by decide +kernel) bi_119).trans ?_
  exact go_icmpne (m := 200) (pc := 90) (off := 8) (t := 98) (by decide +kernel) (by decide)
theorem Model_reads_93 (l0 : Value) (v0 : Value) (w : Wd) (I : MI) (L : ML) (P : MP)  : go 200 93 [l0] [v0] w I L P = go 200 100 [l0] [.int (nI 61), v0] w I L P := by
  refine (go_bi (m := 200) (pc := 93) (n := 61) (by decide +kernel) bi_61).trans ?_
  refine (go_goto (m := 200) (pc := 95) (off := 5) (t := 100) (by decide +kernel) (by decide)).trans ?_
  rfl
theorem Model_reads_98 (l0 : Value) (v0 : Value) (w : Wd) (I : MI) (L : ML) (P : MP)  : go 200 98 [l0] [v0] w I L P = go 200 100 [l0] [.int (nI 42), v0] w I L P := by
  refine (go_bi (m := 200) (pc := 98) (n := 42) (by decide +kernel) bi_42).trans ?_
  rfl
theorem Model_reads_100 (l0 : Value) (a_s0 : Nat) (y1 : Int32) (w : Wd) (I : MI) (L : ML) (P : MP) (h0 : w.1 a_s0 = some (7, 0)) : go 200 100 [l0] [.int y1, .ref a_s0] w I L P = kC (call 195 [.ref a_s0, .int y1] w I L P) (fun v w1 I1 L1 P1 => go 200 103 [l0] (v.toList ++ []) w1 I1 L1 P1) := by
  exact go_vir (m := 200) (pc := 100) (o := 7) (x := 256) (y := 195) (kd := 0) (b := a_s0) (bs := [.int y1]) (rs := []) (by decide +kernel) rfl rfl c_7_256 (Or.inl rfl) rfl rfl rfl (by decide +kernel) (by simp only [List.length_cons, List.length_nil]; decide) (Nat.le_of_ble_eq_true rfl) h0
theorem Model_reads_103 (a_l0 : Nat) (w : Wd) (I : MI) (L : ML) (P : MP) (h0 : w.1 a_l0 = some (7, 0)) : go 200 103 [.ref a_l0] [] w I L P = if (I a_l0 10) ≠ (nI 119) then go 200 119 [.ref a_l0] [] w I L P else go 200 112 [.ref a_l0] [] w I L P := by
  refine (go_aload_n (m := 200) (pc := 103) (k := 0) (by decide +kernel) rfl).trans ?_
  refine (go_getI (m := 200) (pc := 104) (o := 7) (x := 247) (ci := 7) (k := 10) (by decide +kernel) rfl f_7_247 rfl h0).trans ?_
  refine (go_bi (m := 200) (pc := 107) (n := 119) (by decide +kernel) bi_119).trans ?_
  exact go_icmpne (m := 200) (pc := 109) (off := 10) (t := 119) (by decide +kernel) (by decide)
theorem Model_reads_112 (a_l0 : Nat) (w : Wd) (I : MI) (L : ML) (P : MP) (h0 : w.1 a_l0 = some (7, 0)) : go 200 112 [.ref a_l0] [] w I L P = kC (call 199 [.ref a_l0] w I L P) (fun v w1 I1 L1 P1 => go 200 116 [.ref a_l0] (v.toList ++ []) w1 I1 L1 P1) := by
  refine (go_aload_n (m := 200) (pc := 112) (k := 0) (by decide +kernel) rfl).trans ?_
  exact go_vir (m := 200) (pc := 113) (o := 7) (x := 262) (y := 199) (kd := 0) (b := a_l0) (bs := []) (rs := []) (by decide +kernel) rfl rfl c_7_262 (Or.inl rfl) rfl rfl rfl (by decide +kernel) (by simp only [List.length_cons, List.length_nil]; decide) (Nat.le_of_ble_eq_true rfl) h0
theorem Model_reads_116 (l0 : Value) (w : Wd) (I : MI) (L : ML) (P : MP)  : go 200 116 [l0] [] w I L P = go 200 157 [l0] [] w I L P := by
  refine (go_goto (m := 200) (pc := 116) (off := 41) (t := 157) (by decide +kernel) (by decide)).trans ?_
  rfl
theorem Model_reads_119 (a_l0 : Nat) (w : Wd) (I : MI) (L : ML) (P : MP) (h0 : w.1 a_l0 = some (7, 0)) : go 200 119 [.ref a_l0] [] w I L P = kC (call 196 [.ref a_l0, .int (nI 1), .int (nI 4)] w I L P) (fun v w1 I1 L1 P1 => go 200 126 [.ref a_l0] (v.toList ++ [.ref a_l0]) w1 I1 L1 P1) := by
  refine (go_aload_n (m := 200) (pc := 119) (k := 0) (by decide +kernel) rfl).trans ?_
  refine (go_aload_n (m := 200) (pc := 120) (k := 0) (by decide +kernel) rfl).trans ?_
  refine (go_ic (m := 200) (pc := 121) (n := 1) (by decide +kernel) ic_1).trans ?_
  refine (go_ic (m := 200) (pc := 122) (n := 4) (by decide +kernel) ic_4).trans ?_
  exact go_vir (m := 200) (pc := 123) (o := 7) (x := 250) (y := 196) (kd := 0) (b := a_l0) (bs := [.int (nI 1), .int (nI 4)]) (rs := [.ref a_l0]) (by decide +kernel) rfl rfl c_7_250 (Or.inl rfl) rfl rfl rfl (by decide +kernel) (by simp only [List.length_cons, List.length_nil]; decide) (Nat.le_of_ble_eq_true rfl) h0
theorem Model_reads_126 (l0 : Value) (a_s0 : Nat) (y1 : Int32) (w : Wd) (I : MI) (L : ML) (P : MP) (h0 : w.1 a_s0 = some (7, 0)) : go 200 126 [l0] [.int y1, .ref a_s0] w I L P = go 200 157 [l0] [] w (updI I a_s0 13 y1) L P := by
  refine (go_putI (m := 200) (pc := 126) (o := 7) (x := 242) (ci := 7) (k := 13) (by decide +kernel) rfl f_7_242 rfl (by decide +kernel) h0).trans ?_
  refine (go_goto (m := 200) (pc := 129) (off := 28) (t := 157) (by decide +kernel) (by decide)).trans ?_
  rfl
theorem Model_reads_132 (a_l0 : Nat) (w : Wd) (I : MI) (L : ML) (P : MP) (h0 : w.1 a_l0 = some (7, 0)) : go 200 132 [.ref a_l0] [] w I L P = kC (call 198 [.ref a_l0, .int (nI 1), .int (nI 200)] w I L P) (fun v w1 I1 L1 P1 => go 200 141 [.ref a_l0] (v.toList ++ [.ref a_l0]) w1 I1 L1 P1) := by
  refine (go_aload_n (m := 200) (pc := 132) (k := 0) (by decide +kernel) rfl).trans ?_
  refine (go_aload_n (m := 200) (pc := 133) (k := 0) (by decide +kernel) rfl).trans ?_
  refine (go_ic (m := 200) (pc := 134) (n := 1) (by decide +kernel) ic_1).trans ?_
  refine (go_si (m := 200) (pc := 135) (n := 200) (by decide +kernel) si_200).trans ?_
  exact go_vir (m := 200) (pc := 138) (o := 7) (x := 235) (y := 198) (kd := 0) (b := a_l0) (bs := [.int (nI 1), .int (nI 200)]) (rs := [.ref a_l0]) (by decide +kernel) rfl rfl c_7_235 (Or.inl rfl) rfl rfl rfl (by decide +kernel) (by simp only [List.length_cons, List.length_nil]; decide) (Nat.le_of_ble_eq_true rfl) h0
theorem Model_reads_141 (l0 : Value) (a_s0 : Nat) (y1 : Int32) (w : Wd) (I : MI) (L : ML) (P : MP) (h0 : w.1 a_s0 = some (7, 0)) : go 200 141 [l0] [.int y1, .ref a_s0] w I L P = go 200 157 [l0] [] w (updI I a_s0 13 y1) L P := by
  refine (go_putI (m := 200) (pc := 141) (o := 7) (x := 242) (ci := 7) (k := 13) (by decide +kernel) rfl f_7_242 rfl (by decide +kernel) h0).trans ?_
  refine (go_goto (m := 200) (pc := 144) (off := 13) (t := 157) (by decide +kernel) (by decide)).trans ?_
  rfl
theorem Model_reads_147 (a_l0 : Nat) (w : Wd) (I : MI) (L : ML) (P : MP) (h0 : w.1 a_l0 = some (7, 0)) : go 200 147 [.ref a_l0] [] w I L P = kC (call 194 [.ref a_l0, .int ((I a_l0 8) - (nI 1))] w I L P) (fun v w1 I1 L1 P1 => go 200 157 [.ref a_l0] (v.toList ++ []) w1 I1 L1 P1) := by
  refine (go_aload_n (m := 200) (pc := 147) (k := 0) (by decide +kernel) rfl).trans ?_
  refine (go_aload_n (m := 200) (pc := 148) (k := 0) (by decide +kernel) rfl).trans ?_
  refine (go_getI (m := 200) (pc := 149) (o := 7) (x := 216) (ci := 7) (k := 8) (by decide +kernel) rfl f_7_216 rfl h0).trans ?_
  refine (go_ic (m := 200) (pc := 152) (n := 1) (by decide +kernel) ic_1).trans ?_
  refine (go_isub (m := 200) (pc := 153) (by decide +kernel)).trans ?_
  exact go_vir (m := 200) (pc := 154) (o := 7) (x := 225) (y := 194) (kd := 0) (b := a_l0) (bs := [.int ((I a_l0 8) - (nI 1))]) (rs := []) (by decide +kernel) rfl rfl c_7_225 (Or.inl rfl) rfl rfl rfl (by decide +kernel) (by simp only [List.length_cons, List.length_nil]; decide) (Nat.le_of_ble_eq_true rfl) h0
theorem Model_reads_157 (a_l0 : Nat) (w : Wd) (I : MI) (L : ML) (P : MP) (h0 : w.1 a_l0 = some (7, 0)) : go 200 157 [.ref a_l0] [] w I L P = kC (call 195 [.ref a_l0, .int (nI 59)] w I L P) (fun v w1 I1 L1 P1 => go 200 163 [.ref a_l0] (v.toList ++ []) w1 I1 L1 P1) := by
  refine (go_aload_n (m := 200) (pc := 157) (k := 0) (by decide +kernel) rfl).trans ?_
  refine (go_bi (m := 200) (pc := 158) (n := 59) (by decide +kernel) bi_59).trans ?_
  exact go_vir (m := 200) (pc := 160) (o := 7) (x := 256) (y := 195) (kd := 0) (b := a_l0) (bs := [.int (nI 59)]) (rs := []) (by decide +kernel) rfl rfl c_7_256 (Or.inl rfl) rfl rfl rfl (by decide +kernel) (by simp only [List.length_cons, List.length_nil]; decide) (Nat.le_of_ble_eq_true rfl) h0
theorem Model_reads_163 (l0 : Value) (w : Wd) (I : MI) (L : ML) (P : MP)  : go 200 163 [l0] [] w I L P = some (.inl none, w, I, L, P) := by
  exact go_retV (m := 200) (pc := 163) (by decide +kernel) rfl
theorem Model_reads_E (this : Nat) (w : Wd) (I : MI) (L : ML) (P : MP) : call 200 [.ref this] w I L P = go 200 0 [.ref this] [] w I L P := rfl
theorem Model_faultOf_0 (a_l0 : Nat) (w : Wd) (I : MI) (L : ML) (P : MP) (h0 : w.1 a_l0 = some (7, 0)) : go 201 0 [.ref a_l0] [] w I L P = go 201 10 [.ref a_l0] [] w (updI (updI I a_l0 8 (nI 0)) a_l0 9 (-1)) L P := by
  refine (go_aload_n (m := 201) (pc := 0) (k := 0) (by decide +kernel) rfl).trans ?_
  refine (go_ic (m := 201) (pc := 1) (n := 0) (by decide +kernel) ic_0).trans ?_
  refine (go_putI (m := 201) (pc := 2) (o := 7) (x := 216) (ci := 7) (k := 8) (by decide +kernel) rfl f_7_216 rfl (by decide +kernel) h0).trans ?_
  refine (go_aload_n (m := 201) (pc := 5) (k := 0) (by decide +kernel) rfl).trans ?_
  refine (go_ic (m := 201) (pc := 6) (n := -1) (by decide +kernel) ic_m1).trans ?_
  refine (go_putI (m := 201) (pc := 7) (o := 7) (x := 219) (ci := 7) (k := 9) (by decide +kernel) rfl f_7_219 rfl (by decide +kernel) h0).trans ?_
  rfl
theorem Model_faultOf_10 (a_l0 : Nat) (w : Wd) (I : MI) (L : ML) (P : MP) (h0 : w.1 a_l0 = some (7, 0)) : go 201 10 [.ref a_l0] [] w I L P = if (I a_l0 9) ≠ (-1) then go 201 36 [.ref a_l0] [] w I L P else go 201 18 [.ref a_l0] [] w I L P := by
  refine (go_aload_n (m := 201) (pc := 10) (k := 0) (by decide +kernel) rfl).trans ?_
  refine (go_getI (m := 201) (pc := 11) (o := 7) (x := 219) (ci := 7) (k := 9) (by decide +kernel) rfl f_7_219 rfl h0).trans ?_
  refine (go_ic (m := 201) (pc := 14) (n := -1) (by decide +kernel) ic_m1).trans ?_
  exact go_icmpne (m := 201) (pc := 15) (off := 21) (t := 36) (by decide +kernel) (by decide)
theorem Model_faultOf_18 (a_l0 : Nat) (w : Wd) (I : MI) (L : ML) (P : MP) (h0 : w.1 a_l0 = some (7, 0)) : go 201 18 [.ref a_l0] [] w I L P = if (I a_l0 5) ≤ (I a_l0 8) then go 201 36 [.ref a_l0] [] w I L P else go 201 29 [.ref a_l0] [] w I L P := by
  refine (go_aload_n (m := 201) (pc := 18) (k := 0) (by decide +kernel) rfl).trans ?_
  refine (go_getI (m := 201) (pc := 19) (o := 7) (x := 216) (ci := 7) (k := 8) (by decide +kernel) rfl f_7_216 rfl h0).trans ?_
  refine (go_aload_n (m := 201) (pc := 22) (k := 0) (by decide +kernel) rfl).trans ?_
  refine (go_getI (m := 201) (pc := 23) (o := 7) (x := 213) (ci := 7) (k := 5) (by decide +kernel) rfl f_7_213 rfl h0).trans ?_
  exact go_icmpge (m := 201) (pc := 26) (off := 10) (t := 36) (by decide +kernel) (by decide)
theorem Model_faultOf_29 (a_l0 : Nat) (w : Wd) (I : MI) (L : ML) (P : MP) (h0 : w.1 a_l0 = some (7, 0)) : go 201 29 [.ref a_l0] [] w I L P = kC (call 200 [.ref a_l0] w I L P) (fun v w1 I1 L1 P1 => go 201 33 [.ref a_l0] (v.toList ++ []) w1 I1 L1 P1) := by
  refine (go_aload_n (m := 201) (pc := 29) (k := 0) (by decide +kernel) rfl).trans ?_
  exact go_vir (m := 201) (pc := 30) (o := 7) (x := 265) (y := 200) (kd := 0) (b := a_l0) (bs := []) (rs := []) (by decide +kernel) rfl rfl c_7_265 (Or.inl rfl) rfl rfl rfl (by decide +kernel) (by simp only [List.length_cons, List.length_nil]; decide) (Nat.le_of_ble_eq_true rfl) h0
theorem Model_faultOf_33 (l0 : Value) (w : Wd) (I : MI) (L : ML) (P : MP)  : go 201 33 [l0] [] w I L P = go 201 10 [l0] [] w I L P := by
  refine (go_goto (m := 201) (pc := 33) (off := -23) (t := 10) (by decide +kernel) (by decide)).trans ?_
  rfl
theorem Model_faultOf_36 (a_l0 : Nat) (w : Wd) (I : MI) (L : ML) (P : MP) (h0 : w.1 a_l0 = some (7, 0)) : go 201 36 [.ref a_l0] [] w I L P = some (.inl (some (.int (I a_l0 9))), w, I, L, P) := by
  refine (go_aload_n (m := 201) (pc := 36) (k := 0) (by decide +kernel) rfl).trans ?_
  refine (go_getI (m := 201) (pc := 37) (o := 7) (x := 219) (ci := 7) (k := 9) (by decide +kernel) rfl f_7_219 rfl h0).trans ?_
  exact go_retI (m := 201) (pc := 40) (by decide +kernel) rfl
theorem Model_faultOf_E (this : Nat) (w : Wd) (I : MI) (L : ML) (P : MP) : call 201 [.ref this] w I L P = go 201 0 [.ref this] [] w I L P := rfl
theorem Model_carries_0 (a_l0 : Nat) (w : Wd) (I : MI) (L : ML) (P : MP) (h0 : w.1 a_l0 = some (7, 0)) : go 202 0 [.ref a_l0] [] w I L P = go 202 4 [.ref a_l0] [.int (I a_l0 10)] w I L P := by
  refine (go_aload_n (m := 202) (pc := 0) (k := 0) (by decide +kernel) rfl).trans ?_
  refine (go_getI (m := 202) (pc := 1) (o := 7) (x := 247) (ci := 7) (k := 10) (by decide +kernel) rfl f_7_247 rfl h0).trans ?_
  rfl
theorem Model_carries_4_k114 (l0 : Value) (w : Wd) (I : MI) (L : ML) (P : MP) : go 202 4 [l0] [.int (nI 114)] w I L P = go 202 54 [l0] [] w I L P := go_lsI (m := 202) (pc := 4) (z := 114) (off := 50) (t := 54) (dflt := 69) (ps := #[(114, 50), (119, 28)]) (len := 28) (by decide +kernel) (by decide) (by decide) (by decide) (by decide)
theorem Model_carries_4_k119 (l0 : Value) (w : Wd) (I : MI) (L : ML) (P : MP) : go 202 4 [l0] [.int (nI 119)] w I L P = go 202 32 [l0] [] w I L P := go_lsI (m := 202) (pc := 4) (z := 119) (off := 28) (t := 32) (dflt := 69) (ps := #[(114, 50), (119, 28)]) (len := 28) (by decide +kernel) (by decide) (by decide) (by decide) (by decide)
theorem Model_carries_4_kd (l0 : Value) (w : Wd) (I : MI) (L : ML) (P : MP) (y : Int32) (h0 : ¬ y = nI 114) (h1 : ¬ y = nI 119) : go 202 4 [l0] [.int y] w I L P = go 202 73 [l0] [] w I L P := by
  refine go_lsO (m := 202) (pc := 4) (off := 69) (t := 73) (dflt := 69) (ps := #[(114, 50), (119, 28)]) (len := 28) (by decide +kernel) (by decide) ?_ (by decide)
  refine (lv_osw h0 (by decide)).trans ?_
  refine (lv_osw h1 (by decide)).trans ?_
  rfl
theorem Model_carries_32 (a_l0 : Nat) (w : Wd) (I : MI) (L : ML) (P : MP) (h0 : w.1 a_l0 = some (7, 0)) : go 202 32 [.ref a_l0] [] w I L P = kC (call 161 [.ref a_l0, .int (I a_l0 11), .int (I a_l0 12), .int (nI 0), .int (I a_l0 13), .long (L a_l0 14)] w I L P) (fun v w1 I1 L1 P1 => go 202 53 [.ref a_l0] (v.toList ++ []) w1 I1 L1 P1) := by
  refine (go_aload_n (m := 202) (pc := 32) (k := 0) (by decide +kernel) rfl).trans ?_
  refine (go_aload_n (m := 202) (pc := 33) (k := 0) (by decide +kernel) rfl).trans ?_
  refine (go_getI (m := 202) (pc := 34) (o := 7) (x := 253) (ci := 7) (k := 11) (by decide +kernel) rfl f_7_253 rfl h0).trans ?_
  refine (go_aload_n (m := 202) (pc := 37) (k := 0) (by decide +kernel) rfl).trans ?_
  refine (go_getI (m := 202) (pc := 38) (o := 7) (x := 259) (ci := 7) (k := 12) (by decide +kernel) rfl f_7_259 rfl h0).trans ?_
  refine (go_ic (m := 202) (pc := 41) (n := 0) (by decide +kernel) ic_0).trans ?_
  refine (go_aload_n (m := 202) (pc := 42) (k := 0) (by decide +kernel) rfl).trans ?_
  refine (go_getI (m := 202) (pc := 43) (o := 7) (x := 242) (ci := 7) (k := 13) (by decide +kernel) rfl f_7_242 rfl h0).trans ?_
  refine (go_aload_n (m := 202) (pc := 46) (k := 0) (by decide +kernel) rfl).trans ?_
  refine (go_getJ (m := 202) (pc := 47) (o := 7) (x := 238) (ci := 7) (k := 14) (by decide +kernel) rfl f_7_238 rfl h0).trans ?_
  exact go_vir (m := 202) (pc := 50) (o := 7) (x := 171) (y := 161) (kd := 0) (b := a_l0) (bs := [.int (I a_l0 11), .int (I a_l0 12), .int (nI 0), .int (I a_l0 13), .long (L a_l0 14)]) (rs := []) (by decide +kernel) rfl rfl c_7_171 (Or.inl rfl) rfl rfl rfl (by decide +kernel) (by simp only [List.length_cons, List.length_nil]; decide) (Nat.le_of_ble_eq_true rfl) h0
theorem Model_carries_53 (l0 : Value) (y0 : Int32) (w : Wd) (I : MI) (L : ML) (P : MP)  : go 202 53 [l0] [.int y0] w I L P = some (.inl (some (.int y0)), w, I, L, P) := by
  exact go_retI (m := 202) (pc := 53) (by decide +kernel) rfl
theorem Model_carries_54 (a_l0 : Nat) (w : Wd) (I : MI) (L : ML) (P : MP) (h0 : w.1 a_l0 = some (7, 0)) : go 202 54 [.ref a_l0] [] w I L P = kC (call 161 [.ref a_l0, .int (I a_l0 11), .int (I a_l0 12), .int (nI 1), .int (I a_l0 13), .long 0] w I L P) (fun v w1 I1 L1 P1 => go 202 72 [.ref a_l0] (v.toList ++ []) w1 I1 L1 P1) := by
  refine (go_aload_n (m := 202) (pc := 54) (k := 0) (by decide +kernel) rfl).trans ?_
  refine (go_aload_n (m := 202) (pc := 55) (k := 0) (by decide +kernel) rfl).trans ?_
  refine (go_getI (m := 202) (pc := 56) (o := 7) (x := 253) (ci := 7) (k := 11) (by decide +kernel) rfl f_7_253 rfl h0).trans ?_
  refine (go_aload_n (m := 202) (pc := 59) (k := 0) (by decide +kernel) rfl).trans ?_
  refine (go_getI (m := 202) (pc := 60) (o := 7) (x := 259) (ci := 7) (k := 12) (by decide +kernel) rfl f_7_259 rfl h0).trans ?_
  refine (go_ic (m := 202) (pc := 63) (n := 1) (by decide +kernel) ic_1).trans ?_
  refine (go_aload_n (m := 202) (pc := 64) (k := 0) (by decide +kernel) rfl).trans ?_
  refine (go_getI (m := 202) (pc := 65) (o := 7) (x := 242) (ci := 7) (k := 13) (by decide +kernel) rfl f_7_242 rfl h0).trans ?_
  refine (go_lc (m := 202) (pc := 68) (n := 0) (v := 0) (by decide +kernel) rfl).trans ?_
  exact go_vir (m := 202) (pc := 69) (o := 7) (x := 171) (y := 161) (kd := 0) (b := a_l0) (bs := [.int (I a_l0 11), .int (I a_l0 12), .int (nI 1), .int (I a_l0 13), .long 0]) (rs := []) (by decide +kernel) rfl rfl c_7_171 (Or.inl rfl) rfl rfl rfl (by decide +kernel) (by simp only [List.length_cons, List.length_nil]; decide) (Nat.le_of_ble_eq_true rfl) h0
theorem Model_carries_72 (l0 : Value) (y0 : Int32) (w : Wd) (I : MI) (L : ML) (P : MP)  : go 202 72 [l0] [.int y0] w I L P = some (.inl (some (.int y0)), w, I, L, P) := by
  exact go_retI (m := 202) (pc := 72) (by decide +kernel) rfl
theorem Model_carries_73 (a_l0 : Nat) (w : Wd) (I : MI) (L : ML) (P : MP) (h0 : w.1 a_l0 = some (7, 0)) : go 202 73 [.ref a_l0] [] w I L P = kC (call 162 [.ref a_l0, .int (I a_l0 13)] w I L P) (fun v w1 I1 L1 P1 => go 202 81 [.ref a_l0] (v.toList ++ []) w1 I1 L1 P1) := by
  refine (go_aload_n (m := 202) (pc := 73) (k := 0) (by decide +kernel) rfl).trans ?_
  refine (go_aload_n (m := 202) (pc := 74) (k := 0) (by decide +kernel) rfl).trans ?_
  refine (go_getI (m := 202) (pc := 75) (o := 7) (x := 242) (ci := 7) (k := 13) (by decide +kernel) rfl f_7_242 rfl h0).trans ?_
  exact go_vir (m := 202) (pc := 78) (o := 7) (x := 178) (y := 162) (kd := 0) (b := a_l0) (bs := [.int (I a_l0 13)]) (rs := []) (by decide +kernel) rfl rfl c_7_178 (Or.inl rfl) rfl rfl rfl (by decide +kernel) (by simp only [List.length_cons, List.length_nil]; decide) (Nat.le_of_ble_eq_true rfl) h0
theorem Model_carries_81 (l0 : Value) (y0 : Int32) (w : Wd) (I : MI) (L : ML) (P : MP)  : go 202 81 [l0] [.int y0] w I L P = some (.inl (some (.int y0)), w, I, L, P) := by
  exact go_retI (m := 202) (pc := 81) (by decide +kernel) rfl
theorem Model_carries_E (this : Nat) (w : Wd) (I : MI) (L : ML) (P : MP) : call 202 [.ref this] w I L P = go 202 0 [.ref this] [] w I L P := rfl
theorem Model_carryOut_0 (a_l0 : Nat) (l1 : Value) (l2 : Value) (w : Wd) (I : MI) (L : ML) (P : MP) (h0 : w.1 a_l0 = some (7, 0)) : go 203 0 [.ref a_l0, l1, l2] [] w I L P = kC (call 201 [.ref a_l0] w I L P) (fun v w1 I1 L1 P1 => go 203 4 [.ref a_l0, l1, l2] (v.toList ++ []) w1 I1 L1 P1) := by
  refine (go_aload_n (m := 203) (pc := 0) (k := 0) (by decide +kernel) rfl).trans ?_
  exact go_vir (m := 203) (pc := 1) (o := 7) (x := 268) (y := 201) (kd := 0) (b := a_l0) (bs := []) (rs := []) (by decide +kernel) rfl rfl c_7_268 (Or.inl rfl) rfl rfl rfl (by decide +kernel) (by simp only [List.length_cons, List.length_nil]; decide) (Nat.le_of_ble_eq_true rfl) h0
theorem Model_carryOut_4 (l0 : Value) (l1 : Value) (l2 : Value) (y0 : Int32) (w : Wd) (I : MI) (L : ML) (P : MP)  : go 203 4 [l0, l1, l2] [.int y0] w I L P = if y0 = (-1) then go 203 20 [l0, l1, l2] [] w I L P else go 203 8 [l0, l1, l2] [] w I L P := by
  refine (go_ic (m := 203) (pc := 4) (n := -1) (by decide +kernel) ic_m1).trans ?_
  exact go_icmpeq (m := 203) (pc := 5) (off := 15) (t := 20) (by decide +kernel) (by decide)
theorem Model_carryOut_8 (a_l0 : Nat) (l1 : Value) (l2 : Value) (w : Wd) (I : MI) (L : ML) (P : MP) (h0 : w.1 a_l0 = some (7, 0)) : go 203 8 [.ref a_l0, l1, l2] [] w I L P = kC (call 123 [.ref a_l0, .int ((-10) - (I a_l0 9))] w I L P) (fun v w1 I1 L1 P1 => go 203 19 [.ref a_l0, l1, l2] (v.toList ++ []) w1 I1 L1 P1) := by
  refine (go_aload_n (m := 203) (pc := 8) (k := 0) (by decide +kernel) rfl).trans ?_
  refine (go_bi (m := 203) (pc := 9) (n := -10) (by decide +kernel) bi_m10).trans ?_
  refine (go_aload_n (m := 203) (pc := 11) (k := 0) (by decide +kernel) rfl).trans ?_
  refine (go_getI (m := 203) (pc := 12) (o := 7) (x := 219) (ci := 7) (k := 9) (by decide +kernel) rfl f_7_219 rfl h0).trans ?_
  refine (go_isub (m := 203) (pc := 15) (by decide +kernel)).trans ?_
  exact go_vir (m := 203) (pc := 16) (o := 7) (x := 47) (y := 123) (kd := 0) (b := a_l0) (bs := [.int ((-10) - (I a_l0 9))]) (rs := []) (by decide +kernel) rfl rfl c_7_47 (Or.inl rfl) rfl rfl rfl (by decide +kernel) (by simp only [List.length_cons, List.length_nil]; decide) (Nat.le_of_ble_eq_true rfl) h0
theorem Model_carryOut_19 (l0 : Value) (l1 : Value) (l2 : Value) (y0 : Int32) (w : Wd) (I : MI) (L : ML) (P : MP)  : go 203 19 [l0, l1, l2] [.int y0] w I L P = some (.inl (some (.int y0)), w, I, L, P) := by
  exact go_retI (m := 203) (pc := 19) (by decide +kernel) rfl
theorem Model_carryOut_20 (a_l0 : Nat) (l1 : Value) (l2 : Value) (w : Wd) (I : MI) (L : ML) (P : MP) (h0 : w.1 a_l0 = some (7, 0)) : go 203 20 [.ref a_l0, l1, l2] [] w I L P = kC (call 134 [.ref a_l0] w I L P) (fun v w1 I1 L1 P1 => go 203 24 [.ref a_l0, l1, l2] (v.toList ++ []) w1 I1 L1 P1) := by
  refine (go_aload_n (m := 203) (pc := 20) (k := 0) (by decide +kernel) rfl).trans ?_
  exact go_vir (m := 203) (pc := 21) (o := 7) (x := 160) (y := 134) (kd := 0) (b := a_l0) (bs := []) (rs := []) (by decide +kernel) rfl rfl c_7_160 (Or.inl rfl) rfl rfl rfl (by decide +kernel) (by simp only [List.length_cons, List.length_nil]; decide) (Nat.le_of_ble_eq_true rfl) h0
theorem Model_carryOut_24 (a_l0 : Nat) (l1 : Value) (l2 : Value) (w : Wd) (I : MI) (L : ML) (P : MP) (h0 : w.1 a_l0 = some (7, 0)) : go 203 24 [.ref a_l0, l1, l2] [] w I L P = kC (call 136 [.ref a_l0] w I L P) (fun v w1 I1 L1 P1 => go 203 28 [.ref a_l0, l1, l2] (v.toList ++ []) w1 I1 L1 P1) := by
  refine (go_aload_n (m := 203) (pc := 24) (k := 0) (by decide +kernel) rfl).trans ?_
  exact go_vir (m := 203) (pc := 25) (o := 7) (x := 41) (y := 136) (kd := 0) (b := a_l0) (bs := []) (rs := []) (by decide +kernel) rfl rfl c_7_41 (Or.inl rfl) rfl rfl rfl (by decide +kernel) (by simp only [List.length_cons, List.length_nil]; decide) (Nat.le_of_ble_eq_true rfl) h0
theorem Model_carryOut_28 (a_l0 : Nat) (l1 : Value) (l2 : Value) (w : Wd) (I : MI) (L : ML) (P : MP) (h0 : w.1 a_l0 = some (7, 0)) : go 203 28 [.ref a_l0, l1, l2] [] w I L P = if ((updI I a_l0 8 (nI 0)) a_l0 5) ≤ ((updI I a_l0 8 (nI 0)) a_l0 8) then go 203 50 [.ref a_l0, .int (nI 0), l2] [] w (updI I a_l0 8 (nI 0)) L P else go 203 46 [.ref a_l0, .int (nI 0), l2] [] w (updI I a_l0 8 (nI 0)) L P := by
  refine (go_ic (m := 203) (pc := 28) (n := 0) (by decide +kernel) ic_0).trans ?_
  refine (go_istore_n (m := 203) (pc := 29) (k := 1) (ls' := [.ref a_l0, .int (nI 0), l2]) (by decide +kernel) (by simp only [List.length_cons, List.length_nil]; decide) rfl).trans ?_
  refine (go_aload_n (m := 203) (pc := 30) (k := 0) (by decide +kernel) rfl).trans ?_
  refine (go_ic (m := 203) (pc := 31) (n := 0) (by decide +kernel) ic_0).trans ?_
  refine (go_putI (m := 203) (pc := 32) (o := 7) (x := 216) (ci := 7) (k := 8) (by decide +kernel) rfl f_7_216 rfl (by decide +kernel) h0).trans ?_
  refine (go_aload_n (m := 203) (pc := 35) (k := 0) (by decide +kernel) rfl).trans ?_
  refine (go_getI (m := 203) (pc := 36) (o := 7) (x := 216) (ci := 7) (k := 8) (by decide +kernel) rfl f_7_216 rfl h0).trans ?_
  refine (go_aload_n (m := 203) (pc := 39) (k := 0) (by decide +kernel) rfl).trans ?_
  refine (go_getI (m := 203) (pc := 40) (o := 7) (x := 213) (ci := 7) (k := 5) (by decide +kernel) rfl f_7_213 rfl h0).trans ?_
  exact go_icmpge (m := 203) (pc := 43) (off := 7) (t := 50) (by decide +kernel) (by decide)
theorem Model_carryOut_46 (l0 : Value) (l1 : Value) (l2 : Value) (w : Wd) (I : MI) (L : ML) (P : MP)  : go 203 46 [l0, l1, l2] [] w I L P = go 203 51 [l0, l1, l2] [.int (nI 1)] w I L P := by
  refine (go_ic (m := 203) (pc := 46) (n := 1) (by decide +kernel) ic_1).trans ?_
  refine (go_goto (m := 203) (pc := 47) (off := 4) (t := 51) (by decide +kernel) (by decide)).trans ?_
  rfl
theorem Model_carryOut_50 (l0 : Value) (l1 : Value) (l2 : Value) (w : Wd) (I : MI) (L : ML) (P : MP)  : go 203 50 [l0, l1, l2] [] w I L P = go 203 51 [l0, l1, l2] [.int (nI 0)] w I L P := by
  refine (go_ic (m := 203) (pc := 50) (n := 0) (by decide +kernel) ic_0).trans ?_
  rfl
theorem Model_carryOut_51 (l0 : Value) (l1 : Value) (l2 : Value) (y0 : Int32) (w : Wd) (I : MI) (L : ML) (P : MP)  : go 203 51 [l0, l1, l2] [.int y0] w I L P = go 203 52 [l0, (fix1 l1), .int y0] [] w I L P := by
  refine (go_istore_n (m := 203) (pc := 51) (k := 2) (ls' := [l0, (fix1 l1), .int y0]) (by decide +kernel) (by simp only [List.length_cons, List.length_nil]; decide) rfl).trans ?_
  rfl
theorem Model_carryOut_52 (l0 : Value) (l1 : Value) (x_l2 : Int32) (w : Wd) (I : MI) (L : ML) (P : MP)  : go 203 52 [l0, l1, .int x_l2] [] w I L P = if x_l2 = 0 then go 203 109 [l0, l1, .int x_l2] [] w I L P else go 203 56 [l0, l1, .int x_l2] [] w I L P := by
  refine (go_iload_n (m := 203) (pc := 52) (k := 2) (by decide +kernel) rfl).trans ?_
  exact go_ifeq (m := 203) (pc := 53) (off := 56) (t := 109) (by decide +kernel) (by decide)
theorem Model_carryOut_56 (a_l0 : Nat) (l1 : Value) (l2 : Value) (w : Wd) (I : MI) (L : ML) (P : MP) (h0 : w.1 a_l0 = some (7, 0)) : go 203 56 [.ref a_l0, l1, l2] [] w I L P = kC (call 200 [.ref a_l0] w I L P) (fun v w1 I1 L1 P1 => go 203 60 [.ref a_l0, l1, l2] (v.toList ++ []) w1 I1 L1 P1) := by
  refine (go_aload_n (m := 203) (pc := 56) (k := 0) (by decide +kernel) rfl).trans ?_
  exact go_vir (m := 203) (pc := 57) (o := 7) (x := 265) (y := 200) (kd := 0) (b := a_l0) (bs := []) (rs := []) (by decide +kernel) rfl rfl c_7_265 (Or.inl rfl) rfl rfl rfl (by decide +kernel) (by simp only [List.length_cons, List.length_nil]; decide) (Nat.le_of_ble_eq_true rfl) h0
theorem Model_carryOut_60 (a_l0 : Nat) (l1 : Value) (l2 : Value) (w : Wd) (I : MI) (L : ML) (P : MP) (h0 : w.1 a_l0 = some (7, 0)) : go 203 60 [.ref a_l0, l1, l2] [] w I L P = kC (call 202 [.ref a_l0] w I L P) (fun v w1 I1 L1 P1 => go 203 64 [.ref a_l0, l1, l2] (v.toList ++ []) w1 I1 L1 P1) := by
  refine (go_aload_n (m := 203) (pc := 60) (k := 0) (by decide +kernel) rfl).trans ?_
  exact go_vir (m := 203) (pc := 61) (o := 7) (x := 271) (y := 202) (kd := 0) (b := a_l0) (bs := []) (rs := []) (by decide +kernel) rfl rfl c_7_271 (Or.inl rfl) rfl rfl rfl (by decide +kernel) (by simp only [List.length_cons, List.length_nil]; decide) (Nat.le_of_ble_eq_true rfl) h0
theorem Model_carryOut_64 (l0 : Value) (l1 : Value) (l2 : Value) (y0 : Int32) (w : Wd) (I : MI) (L : ML) (P : MP)  : go 203 64 [l0, l1, l2] [.int y0] w I L P = if y0 ≠ 0 then go 203 71 [l0, l1, l2] [] w I L P else go 203 67 [l0, l1, l2] [] w I L P := by
  exact go_ifne (m := 203) (pc := 64) (off := 7) (t := 71) (by decide +kernel) (by decide)
theorem Model_carryOut_67 (l0 : Value) (l1 : Value) (l2 : Value) (w : Wd) (I : MI) (L : ML) (P : MP)  : go 203 67 [l0, l1, l2] [] w I L P = go 203 72 [l0, l1, l2] [.int (nI 1)] w I L P := by
  refine (go_ic (m := 203) (pc := 67) (n := 1) (by decide +kernel) ic_1).trans ?_
  refine (go_goto (m := 203) (pc := 68) (off := 4) (t := 72) (by decide +kernel) (by decide)).trans ?_
  rfl
theorem Model_carryOut_71 (l0 : Value) (l1 : Value) (l2 : Value) (w : Wd) (I : MI) (L : ML) (P : MP)  : go 203 71 [l0, l1, l2] [] w I L P = go 203 72 [l0, l1, l2] [.int (nI 0)] w I L P := by
  refine (go_ic (m := 203) (pc := 71) (n := 0) (by decide +kernel) ic_0).trans ?_
  rfl
theorem Model_carryOut_72 (l0 : Value) (x_l1 : Int32) (l2 : Value) (y0 : Int32) (w : Wd) (I : MI) (L : ML) (P : MP)  : go 203 72 [l0, .int x_l1, l2] [.int y0] w I L P = if y0 = 0 then go 203 82 [l0, .int x_l1, .int y0] [.int x_l1] w I L P else go 203 78 [l0, .int x_l1, .int y0] [.int x_l1] w I L P := by
  refine (go_istore_n (m := 203) (pc := 72) (k := 2) (ls' := [l0, .int x_l1, .int y0]) (by decide +kernel) (by simp only [List.length_cons, List.length_nil]; decide) rfl).trans ?_
  refine (go_iload_n (m := 203) (pc := 73) (k := 1) (by decide +kernel) rfl).trans ?_
  refine (go_iload_n (m := 203) (pc := 74) (k := 2) (by decide +kernel) rfl).trans ?_
  exact go_ifeq (m := 203) (pc := 75) (off := 7) (t := 82) (by decide +kernel) (by decide)
theorem Model_carryOut_78 (l0 : Value) (l1 : Value) (l2 : Value) (y0 : Int32) (w : Wd) (I : MI) (L : ML) (P : MP)  : go 203 78 [l0, l1, l2] [.int y0] w I L P = go 203 83 [l0, l1, l2] [.int (nI 1), .int y0] w I L P := by
  refine (go_ic (m := 203) (pc := 78) (n := 1) (by decide +kernel) ic_1).trans ?_
  refine (go_goto (m := 203) (pc := 79) (off := 4) (t := 83) (by decide +kernel) (by decide)).trans ?_
  rfl
theorem Model_carryOut_82 (l0 : Value) (l1 : Value) (l2 : Value) (y0 : Int32) (w : Wd) (I : MI) (L : ML) (P : MP)  : go 203 82 [l0, l1, l2] [.int y0] w I L P = go 203 83 [l0, l1, l2] [.int (nI 0), .int y0] w I L P := by
  refine (go_ic (m := 203) (pc := 82) (n := 0) (by decide +kernel) ic_0).trans ?_
  rfl
theorem Model_carryOut_83 (l0 : Value) (l1 : Value) (x_l2 : Int32) (y0 : Int32) (y1 : Int32) (w : Wd) (I : MI) (L : ML) (P : MP)  : go 203 83 [l0, l1, .int x_l2] [.int y1, .int y0] w I L P = if x_l2 = 0 then go 203 104 [(fix1 l0), .int (y0 + y1), .int x_l2] [] w I L P else go 203 89 [(fix1 l0), .int (y0 + y1), .int x_l2] [] w I L P := by
  refine (go_iadd (m := 203) (pc := 83) (by decide +kernel)).trans ?_
  refine (go_istore_n (m := 203) (pc := 84) (k := 1) (ls' := [(fix1 l0), .int (y0 + y1), .int x_l2]) (by decide +kernel) (by simp only [List.length_cons, List.length_nil]; decide) rfl).trans ?_
  refine (go_iload_n (m := 203) (pc := 85) (k := 2) (by decide +kernel) rfl).trans ?_
  exact go_ifeq (m := 203) (pc := 86) (off := 18) (t := 104) (by decide +kernel) (by decide)
theorem Model_carryOut_89 (a_l0 : Nat) (l1 : Value) (l2 : Value) (w : Wd) (I : MI) (L : ML) (P : MP) (h0 : w.1 a_l0 = some (7, 0)) : go 203 89 [.ref a_l0, l1, l2] [] w I L P = if (I a_l0 5) ≤ (I a_l0 8) then go 203 104 [.ref a_l0, l1, l2] [] w I L P else go 203 100 [.ref a_l0, l1, l2] [] w I L P := by
  refine (go_aload_n (m := 203) (pc := 89) (k := 0) (by decide +kernel) rfl).trans ?_
  refine (go_getI (m := 203) (pc := 90) (o := 7) (x := 216) (ci := 7) (k := 8) (by decide +kernel) rfl f_7_216 rfl h0).trans ?_
  refine (go_aload_n (m := 203) (pc := 93) (k := 0) (by decide +kernel) rfl).trans ?_
  refine (go_getI (m := 203) (pc := 94) (o := 7) (x := 213) (ci := 7) (k := 5) (by decide +kernel) rfl f_7_213 rfl h0).trans ?_
  exact go_icmpge (m := 203) (pc := 97) (off := 7) (t := 104) (by decide +kernel) (by decide)
theorem Model_carryOut_100 (l0 : Value) (l1 : Value) (l2 : Value) (w : Wd) (I : MI) (L : ML) (P : MP)  : go 203 100 [l0, l1, l2] [] w I L P = go 203 105 [l0, l1, l2] [.int (nI 1)] w I L P := by
  refine (go_ic (m := 203) (pc := 100) (n := 1) (by decide +kernel) ic_1).trans ?_
  refine (go_goto (m := 203) (pc := 101) (off := 4) (t := 105) (by decide +kernel) (by decide)).trans ?_
  rfl
theorem Model_carryOut_104 (l0 : Value) (l1 : Value) (l2 : Value) (w : Wd) (I : MI) (L : ML) (P : MP)  : go 203 104 [l0, l1, l2] [] w I L P = go 203 105 [l0, l1, l2] [.int (nI 0)] w I L P := by
  refine (go_ic (m := 203) (pc := 104) (n := 0) (by decide +kernel) ic_0).trans ?_
  rfl
theorem Model_carryOut_105 (l0 : Value) (l1 : Value) (l2 : Value) (y0 : Int32) (w : Wd) (I : MI) (L : ML) (P : MP)  : go 203 105 [l0, l1, l2] [.int y0] w I L P = go 203 52 [l0, (fix1 l1), .int y0] [] w I L P := by
  refine (go_istore_n (m := 203) (pc := 105) (k := 2) (ls' := [l0, (fix1 l1), .int y0]) (by decide +kernel) (by simp only [List.length_cons, List.length_nil]; decide) rfl).trans ?_
  refine (go_goto (m := 203) (pc := 106) (off := -54) (t := 52) (by decide +kernel) (by decide)).trans ?_
  rfl
theorem Model_carryOut_109 (a_l0 : Nat) (x_l1 : Int32) (l2 : Value) (w : Wd) (I : MI) (L : ML) (P : MP) (h0 : w.1 a_l0 = some (7, 0)) : go 203 109 [.ref a_l0, .int x_l1, l2] [] w I L P = kC (call 123 [.ref a_l0, .int x_l1] w I L P) (fun v w1 I1 L1 P1 => go 203 114 [.ref a_l0, .int x_l1, l2] (v.toList ++ []) w1 I1 L1 P1) := by
  refine (go_aload_n (m := 203) (pc := 109) (k := 0) (by decide +kernel) rfl).trans ?_
  refine (go_iload_n (m := 203) (pc := 110) (k := 1) (by decide +kernel) rfl).trans ?_
  exact go_vir (m := 203) (pc := 111) (o := 7) (x := 47) (y := 123) (kd := 0) (b := a_l0) (bs := [.int x_l1]) (rs := []) (by decide +kernel) rfl rfl c_7_47 (Or.inl rfl) rfl rfl rfl (by decide +kernel) (by simp only [List.length_cons, List.length_nil]; decide) (Nat.le_of_ble_eq_true rfl) h0
theorem Model_carryOut_114 (l0 : Value) (l1 : Value) (l2 : Value) (y0 : Int32) (w : Wd) (I : MI) (L : ML) (P : MP)  : go 203 114 [l0, l1, l2] [.int y0] w I L P = some (.inl (some (.int y0)), w, I, L, P) := by
  exact go_retI (m := 203) (pc := 114) (by decide +kernel) rfl
theorem Model_carryOut_E (this : Nat) (w : Wd) (I : MI) (L : ML) (P : MP) : call 203 [.ref this] w I L P = go 203 0 [.ref this, unk, unk] [] w I L P := rfl
theorem Model_hashes_0 (a_l0 : Nat) (x_l1 : Int32) (w : Wd) (I : MI) (L : ML) (P : MP) (h0 : w.1 a_l0 = some (7, 0)) : go 204 0 [.ref a_l0, .int x_l1] [] w I L P = some (.inl none, w, I, (updL L a_l0 15 ((31 * (L a_l0 15)) + (Int32.toInt64 x_l1))), P) := by
  refine (go_aload_n (m := 204) (pc := 0) (k := 0) (by decide +kernel) rfl).trans ?_
  refine (go_ldc2 (m := 204) (pc := 1) (o := 7) (x := 274) (v := 31) (by decide +kernel) rfl (by decide +kernel)).trans ?_
  refine (go_aload_n (m := 204) (pc := 4) (k := 0) (by decide +kernel) rfl).trans ?_
  refine (go_getJ (m := 204) (pc := 5) (o := 7) (x := 276) (ci := 7) (k := 15) (by decide +kernel) rfl f_7_276 rfl h0).trans ?_
  refine (go_lmul (m := 204) (pc := 8) (by decide +kernel)).trans ?_
  refine (go_iload_n (m := 204) (pc := 9) (k := 1) (by decide +kernel) rfl).trans ?_
  refine (go_i2l (m := 204) (pc := 10) (by decide +kernel)).trans ?_
  refine (go_ladd (m := 204) (pc := 11) (by decide +kernel)).trans ?_
  refine (go_putJ (m := 204) (pc := 12) (o := 7) (x := 276) (ci := 7) (k := 15) (by decide +kernel) rfl f_7_276 rfl (by decide +kernel) h0).trans ?_
  exact go_retV (m := 204) (pc := 15) (by decide +kernel) rfl
theorem Model_hashes_E (this : Nat) (p0 : Int32) (w : Wd) (I : MI) (L : ML) (P : MP) : call 204 [.ref this, .int p0] w I L P = go 204 0 [.ref this, .int p0] [] w I L P := rfl
theorem Model_digest_0 (a_l0 : Nat) (l1 : Value) (l2 : Value) (l3 : Value) (l4 : Value) (w : Wd) (I : MI) (L : ML) (P : MP) (h0 : w.1 a_l0 = some (7, 0)) : go 205 0 [.ref a_l0, l1, l2, l3, l4] [] w I L P = kC (call 184 [.ref a_l0] w (updI I a_l0 6 (nI 0)) L P) (fun v w1 I1 L1 P1 => go 205 9 [.ref a_l0, l1, l2, l3, l4] (v.toList ++ []) w1 I1 L1 P1) := by
  refine (go_aload_n (m := 205) (pc := 0) (k := 0) (by decide +kernel) rfl).trans ?_
  refine (go_ic (m := 205) (pc := 1) (n := 0) (by decide +kernel) ic_0).trans ?_
  refine (go_putI (m := 205) (pc := 2) (o := 7) (x := 26) (ci := 7) (k := 6) (by decide +kernel) rfl f_7_26 rfl (by decide +kernel) h0).trans ?_
  refine (go_aload_n (m := 205) (pc := 5) (k := 0) (by decide +kernel) rfl).trans ?_
  exact go_vir (m := 205) (pc := 6) (o := 7) (x := 207) (y := 184) (kd := 0) (b := a_l0) (bs := []) (rs := []) (by decide +kernel) rfl rfl c_7_207 (Or.inl rfl) rfl rfl rfl (by decide +kernel) (by simp only [List.length_cons, List.length_nil]; decide) (Nat.le_of_ble_eq_true rfl) h0
theorem Model_digest_9 (a_l0 : Nat) (l1 : Value) (l2 : Value) (l3 : Value) (l4 : Value) (y0 : Int32) (w : Wd) (I : MI) (L : ML) (P : MP) (h0 : w.1 a_l0 = some (7, 0)) : go 205 9 [.ref a_l0, l1, l2, l3, l4] [.int y0] w I L P = kC (call 204 [.ref a_l0, .int (I a_l0 5)] w I (updL L a_l0 15 3803) P) (fun v w1 I1 L1 P1 => go 205 25 [.ref a_l0, .int y0, l2, l3, l4] (v.toList ++ []) w1 I1 L1 P1) := by
  refine (go_istore_n (m := 205) (pc := 9) (k := 1) (ls' := [.ref a_l0, .int y0, l2, l3, l4]) (by decide +kernel) (by simp only [List.length_cons, List.length_nil]; decide) rfl).trans ?_
  refine (go_aload_n (m := 205) (pc := 10) (k := 0) (by decide +kernel) rfl).trans ?_
  refine (go_ldc2 (m := 205) (pc := 11) (o := 7) (x := 279) (v := 3803) (by decide +kernel) rfl (by decide +kernel)).trans ?_
  refine (go_putJ (m := 205) (pc := 14) (o := 7) (x := 276) (ci := 7) (k := 15) (by decide +kernel) rfl f_7_276 rfl (by decide +kernel) h0).trans ?_
  refine (go_aload_n (m := 205) (pc := 17) (k := 0) (by decide +kernel) rfl).trans ?_
  refine (go_aload_n (m := 205) (pc := 18) (k := 0) (by decide +kernel) rfl).trans ?_
  refine (go_getI (m := 205) (pc := 19) (o := 7) (x := 213) (ci := 7) (k := 5) (by decide +kernel) rfl f_7_213 rfl h0).trans ?_
  exact go_vir (m := 205) (pc := 22) (o := 7) (x := 281) (y := 204) (kd := 0) (b := a_l0) (bs := [.int (I a_l0 5)]) (rs := []) (by decide +kernel) rfl rfl c_7_281 (Or.inl rfl) rfl rfl rfl (by decide +kernel) (by simp only [List.length_cons, List.length_nil]; decide) (Nat.le_of_ble_eq_true rfl) h0
theorem Model_digest_25 (l0 : Value) (l1 : Value) (l2 : Value) (l3 : Value) (l4 : Value) (w : Wd) (I : MI) (L : ML) (P : MP)  : go 205 25 [l0, l1, l2, l3, l4] [] w I L P = go 205 27 [l0, (fix1 l1), .int (nI 0), l3, l4] [] w I L P := by
  refine (go_ic (m := 205) (pc := 25) (n := 0) (by decide +kernel) ic_0).trans ?_
  refine (go_istore_n (m := 205) (pc := 26) (k := 2) (ls' := [l0, (fix1 l1), .int (nI 0), l3, l4]) (by decide +kernel) (by simp only [List.length_cons, List.length_nil]; decide) rfl).trans ?_
  rfl
theorem Model_digest_27 (l0 : Value) (l1 : Value) (x_l2 : Int32) (l3 : Value) (l4 : Value) (w : Wd) (I : MI) (L : ML) (P : MP)  : go 205 27 [l0, l1, .int x_l2, l3, l4] [] w I L P = if (nI 10) ≤ x_l2 then go 205 48 [l0, l1, .int x_l2, l3, l4] [] w I L P else go 205 33 [l0, l1, .int x_l2, l3, l4] [] w I L P := by
  refine (go_iload_n (m := 205) (pc := 27) (k := 2) (by decide +kernel) rfl).trans ?_
  refine (go_bi (m := 205) (pc := 28) (n := 10) (by decide +kernel) bi_10).trans ?_
  exact go_icmpge (m := 205) (pc := 30) (off := 18) (t := 48) (by decide +kernel) (by decide)
theorem Model_digest_33 (a_l0 : Nat) (l1 : Value) (x_l2 : Int32) (l3 : Value) (l4 : Value) (w : Wd) (I : MI) (L : ML) (P : MP) (h0 : w.1 a_l0 = some (7, 0)) : go 205 33 [.ref a_l0, l1, .int x_l2, l3, l4] [] w I L P = kC (call 179 [.ref a_l0, .int x_l2] w I L P) (fun v w1 I1 L1 P1 => go 205 39 [.ref a_l0, l1, .int x_l2, l3, l4] (v.toList ++ [.ref a_l0]) w1 I1 L1 P1) := by
  refine (go_aload_n (m := 205) (pc := 33) (k := 0) (by decide +kernel) rfl).trans ?_
  refine (go_aload_n (m := 205) (pc := 34) (k := 0) (by decide +kernel) rfl).trans ?_
  refine (go_iload_n (m := 205) (pc := 35) (k := 2) (by decide +kernel) rfl).trans ?_
  exact go_vir (m := 205) (pc := 36) (o := 7) (x := 193) (y := 179) (kd := 0) (b := a_l0) (bs := [.int x_l2]) (rs := [.ref a_l0]) (by decide +kernel) rfl rfl c_7_193 (Or.inl rfl) rfl rfl rfl (by decide +kernel) (by simp only [List.length_cons, List.length_nil]; decide) (Nat.le_of_ble_eq_true rfl) h0
theorem Model_digest_39 (l0 : Value) (l1 : Value) (l2 : Value) (l3 : Value) (l4 : Value) (a_s0 : Nat) (y1 : Int32) (w : Wd) (I : MI) (L : ML) (P : MP) (h0 : w.1 a_s0 = some (7, 0)) : go 205 39 [l0, l1, l2, l3, l4] [.int y1, .ref a_s0] w I L P = kC (call 204 [.ref a_s0, .int y1] w I L P) (fun v w1 I1 L1 P1 => go 205 42 [l0, l1, l2, l3, l4] (v.toList ++ []) w1 I1 L1 P1) := by
  exact go_vir (m := 205) (pc := 39) (o := 7) (x := 281) (y := 204) (kd := 0) (b := a_s0) (bs := [.int y1]) (rs := []) (by decide +kernel) rfl rfl c_7_281 (Or.inl rfl) rfl rfl rfl (by decide +kernel) (by simp only [List.length_cons, List.length_nil]; decide) (Nat.le_of_ble_eq_true rfl) h0
theorem Model_digest_42 (l0 : Value) (l1 : Value) (x_l2 : Int32) (l3 : Value) (l4 : Value) (w : Wd) (I : MI) (L : ML) (P : MP)  : go 205 42 [l0, l1, .int x_l2, l3, l4] [] w I L P = go 205 27 [l0, (fix1 l1), .int (x_l2 + (nI 1)), l3, l4] [] w I L P := by
  refine (go_iinc (m := 205) (pc := 42) (k := 2) (n := 1) (x := x_l2) (v := x_l2 + (nI 1)) (ls' := [l0, (fix1 l1), .int (x_l2 + (nI 1)), l3, l4]) (by decide +kernel) rfl (by rw [ic_1]) rfl).trans ?_
  refine (go_goto (m := 205) (pc := 45) (off := -18) (t := 27) (by decide +kernel) (by decide)).trans ?_
  rfl
theorem Model_digest_48 (l0 : Value) (l1 : Value) (l2 : Value) (l3 : Value) (l4 : Value) (w : Wd) (I : MI) (L : ML) (P : MP)  : go 205 48 [l0, l1, l2, l3, l4] [] w I L P = go 205 50 [l0, (fix1 l1), .int (nI 0), l3, l4] [] w I L P := by
  refine (go_ic (m := 205) (pc := 48) (n := 0) (by decide +kernel) ic_0).trans ?_
  refine (go_istore_n (m := 205) (pc := 49) (k := 2) (ls' := [l0, (fix1 l1), .int (nI 0), l3, l4]) (by decide +kernel) (by simp only [List.length_cons, List.length_nil]; decide) rfl).trans ?_
  rfl
theorem Model_digest_50 (a_l0 : Nat) (l1 : Value) (x_l2 : Int32) (l3 : Value) (l4 : Value) (w : Wd) (I : MI) (L : ML) (P : MP) (h0 : w.1 a_l0 = some (7, 0)) : go 205 50 [.ref a_l0, l1, .int x_l2, l3, l4] [] w I L P = go 205 55 [.ref a_l0, l1, .int x_l2, l3, l4] [(va_rf (P a_l0 0)), .int x_l2] w I L P := by
  refine (go_iload_n (m := 205) (pc := 50) (k := 2) (by decide +kernel) rfl).trans ?_
  refine (go_aload_n (m := 205) (pc := 51) (k := 0) (by decide +kernel) rfl).trans ?_
  refine (go_getR (m := 205) (pc := 52) (o := 7) (x := 7) (ci := 7) (k := 0) (by decide +kernel) rfl f_7_7 rfl h0).trans ?_
  rfl
theorem Model_digest_55 (l0 : Value) (l1 : Value) (l2 : Value) (l3 : Value) (l4 : Value) (y0 : Int32) (a_s1 : Nat) (w : Wd) (I : MI) (L : ML) (P : MP) (h0 : inA w a_s1 8 (nI 1)) : go 205 55 [l0, l1, l2, l3, l4] [.ref a_s1, .int y0] w I L P = if (I a_s1 (Int32.toNatClampNeg (nI 1))) ≤ y0 then go 205 136 [l0, l1, l2, l3, l4] [] w I L P else go 205 60 [l0, l1, l2, l3, l4] [] w I L P := by
  refine (go_ic (m := 205) (pc := 55) (n := 1) (by decide +kernel) ic_1).trans ?_
  refine (go_iald (m := 205) (pc := 56) (by decide +kernel) h0).trans ?_
  exact go_icmpge (m := 205) (pc := 57) (off := 79) (t := 136) (by decide +kernel) (by decide)
theorem Model_digest_60 (l0 : Value) (l1 : Value) (l2 : Value) (l3 : Value) (l4 : Value) (w : Wd) (I : MI) (L : ML) (P : MP)  : go 205 60 [l0, l1, l2, l3, l4] [] w I L P = go 205 62 [l0, l1, (fix1 l2), .int (nI 0), l4] [] w I L P := by
  refine (go_ic (m := 205) (pc := 60) (n := 0) (by decide +kernel) ic_0).trans ?_
  refine (go_istore_n (m := 205) (pc := 61) (k := 3) (ls' := [l0, l1, (fix1 l2), .int (nI 0), l4]) (by decide +kernel) (by simp only [List.length_cons, List.length_nil]; decide) rfl).trans ?_
  rfl
theorem Model_digest_62 (l0 : Value) (l1 : Value) (l2 : Value) (x_l3 : Int32) (l4 : Value) (w : Wd) (I : MI) (L : ML) (P : MP)  : go 205 62 [l0, l1, l2, .int x_l3, l4] [] w I L P = if (nI 9) ≤ x_l3 then go 205 84 [l0, l1, l2, .int x_l3, l4] [] w I L P else go 205 68 [l0, l1, l2, .int x_l3, l4] [] w I L P := by
  refine (go_iload_n (m := 205) (pc := 62) (k := 3) (by decide +kernel) rfl).trans ?_
  refine (go_bi (m := 205) (pc := 63) (n := 9) (by decide +kernel) bi_9).trans ?_
  exact go_icmpge (m := 205) (pc := 65) (off := 19) (t := 84) (by decide +kernel) (by decide)
theorem Model_digest_68 (a_l0 : Nat) (l1 : Value) (x_l2 : Int32) (x_l3 : Int32) (l4 : Value) (w : Wd) (I : MI) (L : ML) (P : MP) (h0 : w.1 a_l0 = some (7, 0)) : go 205 68 [.ref a_l0, l1, .int x_l2, .int x_l3, l4] [] w I L P = kC (call 174 [.ref a_l0, .int x_l2, .int x_l3] w I L P) (fun v w1 I1 L1 P1 => go 205 75 [.ref a_l0, l1, .int x_l2, .int x_l3, l4] (v.toList ++ [.ref a_l0]) w1 I1 L1 P1) := by
  refine (go_aload_n (m := 205) (pc := 68) (k := 0) (by decide +kernel) rfl).trans ?_
  refine (go_aload_n (m := 205) (pc := 69) (k := 0) (by decide +kernel) rfl).trans ?_
  refine (go_iload_n (m := 205) (pc := 70) (k := 2) (by decide +kernel) rfl).trans ?_
  refine (go_iload_n (m := 205) (pc := 71) (k := 3) (by decide +kernel) rfl).trans ?_
  exact go_vir (m := 205) (pc := 72) (o := 7) (x := 186) (y := 174) (kd := 0) (b := a_l0) (bs := [.int x_l2, .int x_l3]) (rs := [.ref a_l0]) (by decide +kernel) rfl rfl c_7_186 (Or.inl rfl) rfl rfl rfl (by decide +kernel) (by simp only [List.length_cons, List.length_nil]; decide) (Nat.le_of_ble_eq_true rfl) h0
theorem Model_digest_75 (l0 : Value) (l1 : Value) (l2 : Value) (l3 : Value) (l4 : Value) (a_s0 : Nat) (y1 : Int32) (w : Wd) (I : MI) (L : ML) (P : MP) (h0 : w.1 a_s0 = some (7, 0)) : go 205 75 [l0, l1, l2, l3, l4] [.int y1, .ref a_s0] w I L P = kC (call 204 [.ref a_s0, .int y1] w I L P) (fun v w1 I1 L1 P1 => go 205 78 [l0, l1, l2, l3, l4] (v.toList ++ []) w1 I1 L1 P1) := by
  exact go_vir (m := 205) (pc := 75) (o := 7) (x := 281) (y := 204) (kd := 0) (b := a_s0) (bs := [.int y1]) (rs := []) (by decide +kernel) rfl rfl c_7_281 (Or.inl rfl) rfl rfl rfl (by decide +kernel) (by simp only [List.length_cons, List.length_nil]; decide) (Nat.le_of_ble_eq_true rfl) h0
theorem Model_digest_78 (l0 : Value) (l1 : Value) (l2 : Value) (x_l3 : Int32) (l4 : Value) (w : Wd) (I : MI) (L : ML) (P : MP)  : go 205 78 [l0, l1, l2, .int x_l3, l4] [] w I L P = go 205 62 [l0, l1, (fix1 l2), .int (x_l3 + (nI 1)), l4] [] w I L P := by
  refine (go_iinc (m := 205) (pc := 78) (k := 3) (n := 1) (x := x_l3) (v := x_l3 + (nI 1)) (ls' := [l0, l1, (fix1 l2), .int (x_l3 + (nI 1)), l4]) (by decide +kernel) rfl (by rw [ic_1]) rfl).trans ?_
  refine (go_goto (m := 205) (pc := 81) (off := -19) (t := 62) (by decide +kernel) (by decide)).trans ?_
  rfl
theorem Model_digest_84 (l0 : Value) (l1 : Value) (l2 : Value) (l3 : Value) (l4 : Value) (w : Wd) (I : MI) (L : ML) (P : MP)  : go 205 84 [l0, l1, l2, l3, l4] [] w I L P = go 205 86 [l0, l1, (fix1 l2), .int (nI 0), l4] [] w I L P := by
  refine (go_ic (m := 205) (pc := 84) (n := 0) (by decide +kernel) ic_0).trans ?_
  refine (go_istore_n (m := 205) (pc := 85) (k := 3) (ls' := [l0, l1, (fix1 l2), .int (nI 0), l4]) (by decide +kernel) (by simp only [List.length_cons, List.length_nil]; decide) rfl).trans ?_
  rfl
theorem Model_digest_86 (a_l0 : Nat) (l1 : Value) (x_l2 : Int32) (x_l3 : Int32) (l4 : Value) (w : Wd) (I : MI) (L : ML) (P : MP) (h0 : w.1 a_l0 = some (7, 0)) : go 205 86 [.ref a_l0, l1, .int x_l2, .int x_l3, l4] [] w I L P = kC (call 126 [.ref a_l0, .int x_l2, .int (nI 0)] w I L P) (fun v w1 I1 L1 P1 => go 205 93 [.ref a_l0, l1, .int x_l2, .int x_l3, l4] (v.toList ++ [.int x_l3]) w1 I1 L1 P1) := by
  refine (go_iload_n (m := 205) (pc := 86) (k := 3) (by decide +kernel) rfl).trans ?_
  refine (go_aload_n (m := 205) (pc := 87) (k := 0) (by decide +kernel) rfl).trans ?_
  refine (go_iload_n (m := 205) (pc := 88) (k := 2) (by decide +kernel) rfl).trans ?_
  refine (go_ic (m := 205) (pc := 89) (n := 0) (by decide +kernel) ic_0).trans ?_
  exact go_vir (m := 205) (pc := 90) (o := 7) (x := 102) (y := 126) (kd := 0) (b := a_l0) (bs := [.int x_l2, .int (nI 0)]) (rs := [.int x_l3]) (by decide +kernel) rfl rfl c_7_102 (Or.inl rfl) rfl rfl rfl (by decide +kernel) (by simp only [List.length_cons, List.length_nil]; decide) (Nat.le_of_ble_eq_true rfl) h0
theorem Model_digest_93 (l0 : Value) (l1 : Value) (l2 : Value) (l3 : Value) (l4 : Value) (y0 : Int32) (y1 : Int32) (w : Wd) (I : MI) (L : ML) (P : MP)  : go 205 93 [l0, l1, l2, l3, l4] [.int y1, .int y0] w I L P = if y1 ≤ y0 then go 205 130 [l0, l1, l2, l3, l4] [] w I L P else go 205 96 [l0, l1, l2, l3, l4] [] w I L P := by
  exact go_icmpge (m := 205) (pc := 93) (off := 37) (t := 130) (by decide +kernel) (by decide)
theorem Model_digest_96 (l0 : Value) (l1 : Value) (l2 : Value) (l3 : Value) (l4 : Value) (w : Wd) (I : MI) (L : ML) (P : MP)  : go 205 96 [l0, l1, l2, l3, l4] [] w I L P = go 205 99 [l0, l1, l2, (fix1 l3), .int (nI 0)] [] w I L P := by
  refine (go_ic (m := 205) (pc := 96) (n := 0) (by decide +kernel) ic_0).trans ?_
  refine (go_istore (m := 205) (pc := 97) (k := 4) (ls' := [l0, l1, l2, (fix1 l3), .int (nI 0)]) (by decide +kernel) (by simp only [List.length_cons, List.length_nil]; decide) rfl).trans ?_
  rfl
theorem Model_digest_99 (l0 : Value) (l1 : Value) (l2 : Value) (l3 : Value) (x_l4 : Int32) (w : Wd) (I : MI) (L : ML) (P : MP)  : go 205 99 [l0, l1, l2, l3, .int x_l4] [] w I L P = if (nI 8) ≤ x_l4 then go 205 124 [l0, l1, l2, l3, .int x_l4] [] w I L P else go 205 106 [l0, l1, l2, l3, .int x_l4] [] w I L P := by
  refine (go_iload (m := 205) (pc := 99) (k := 4) (by decide +kernel) rfl).trans ?_
  refine (go_bi (m := 205) (pc := 101) (n := 8) (by decide +kernel) bi_8).trans ?_
  exact go_icmpge (m := 205) (pc := 103) (off := 21) (t := 124) (by decide +kernel) (by decide)
theorem Model_digest_106 (a_l0 : Nat) (l1 : Value) (x_l2 : Int32) (x_l3 : Int32) (x_l4 : Int32) (w : Wd) (I : MI) (L : ML) (P : MP) (h0 : w.1 a_l0 = some (7, 0)) : go 205 106 [.ref a_l0, l1, .int x_l2, .int x_l3, .int x_l4] [] w I L P = kC (call 128 [.ref a_l0, .int x_l2, .int x_l3, .int x_l4] w I L P) (fun v w1 I1 L1 P1 => go 205 115 [.ref a_l0, l1, .int x_l2, .int x_l3, .int x_l4] (v.toList ++ [.ref a_l0]) w1 I1 L1 P1) := by
  refine (go_aload_n (m := 205) (pc := 106) (k := 0) (by decide +kernel) rfl).trans ?_
  refine (go_aload_n (m := 205) (pc := 107) (k := 0) (by decide +kernel) rfl).trans ?_
  refine (go_iload_n (m := 205) (pc := 108) (k := 2) (by decide +kernel) rfl).trans ?_
  refine (go_iload_n (m := 205) (pc := 109) (k := 3) (by decide +kernel) rfl).trans ?_
  refine (go_iload (m := 205) (pc := 110) (k := 4) (by decide +kernel) rfl).trans ?_
  exact go_vir (m := 205) (pc := 112) (o := 7) (x := 50) (y := 128) (kd := 0) (b := a_l0) (bs := [.int x_l2, .int x_l3, .int x_l4]) (rs := [.ref a_l0]) (by decide +kernel) rfl rfl c_7_50 (Or.inl rfl) rfl rfl rfl (by decide +kernel) (by simp only [List.length_cons, List.length_nil]; decide) (Nat.le_of_ble_eq_true rfl) h0
theorem Model_digest_115 (l0 : Value) (l1 : Value) (l2 : Value) (l3 : Value) (l4 : Value) (a_s0 : Nat) (y1 : Int32) (w : Wd) (I : MI) (L : ML) (P : MP) (h0 : w.1 a_s0 = some (7, 0)) : go 205 115 [l0, l1, l2, l3, l4] [.int y1, .ref a_s0] w I L P = kC (call 204 [.ref a_s0, .int y1] w I L P) (fun v w1 I1 L1 P1 => go 205 118 [l0, l1, l2, l3, l4] (v.toList ++ []) w1 I1 L1 P1) := by
  exact go_vir (m := 205) (pc := 115) (o := 7) (x := 281) (y := 204) (kd := 0) (b := a_s0) (bs := [.int y1]) (rs := []) (by decide +kernel) rfl rfl c_7_281 (Or.inl rfl) rfl rfl rfl (by decide +kernel) (by simp only [List.length_cons, List.length_nil]; decide) (Nat.le_of_ble_eq_true rfl) h0
theorem Model_digest_118 (l0 : Value) (l1 : Value) (l2 : Value) (l3 : Value) (x_l4 : Int32) (w : Wd) (I : MI) (L : ML) (P : MP)  : go 205 118 [l0, l1, l2, l3, .int x_l4] [] w I L P = go 205 99 [l0, l1, l2, (fix1 l3), .int (x_l4 + (nI 1))] [] w I L P := by
  refine (go_iinc (m := 205) (pc := 118) (k := 4) (n := 1) (x := x_l4) (v := x_l4 + (nI 1)) (ls' := [l0, l1, l2, (fix1 l3), .int (x_l4 + (nI 1))]) (by decide +kernel) rfl (by rw [ic_1]) rfl).trans ?_
  refine (go_goto (m := 205) (pc := 121) (off := -22) (t := 99) (by decide +kernel) (by decide)).trans ?_
  rfl
theorem Model_digest_124 (l0 : Value) (l1 : Value) (l2 : Value) (x_l3 : Int32) (l4 : Value) (w : Wd) (I : MI) (L : ML) (P : MP)  : go 205 124 [l0, l1, l2, .int x_l3, l4] [] w I L P = go 205 86 [l0, l1, (fix1 l2), .int (x_l3 + (nI 1)), l4] [] w I L P := by
  refine (go_iinc (m := 205) (pc := 124) (k := 3) (n := 1) (x := x_l3) (v := x_l3 + (nI 1)) (ls' := [l0, l1, (fix1 l2), .int (x_l3 + (nI 1)), l4]) (by decide +kernel) rfl (by rw [ic_1]) rfl).trans ?_
  refine (go_goto (m := 205) (pc := 127) (off := -41) (t := 86) (by decide +kernel) (by decide)).trans ?_
  rfl
theorem Model_digest_130 (l0 : Value) (l1 : Value) (x_l2 : Int32) (l3 : Value) (l4 : Value) (w : Wd) (I : MI) (L : ML) (P : MP)  : go 205 130 [l0, l1, .int x_l2, l3, l4] [] w I L P = go 205 50 [l0, (fix1 l1), .int (x_l2 + (nI 1)), l3, l4] [] w I L P := by
  refine (go_iinc (m := 205) (pc := 130) (k := 2) (n := 1) (x := x_l2) (v := x_l2 + (nI 1)) (ls' := [l0, (fix1 l1), .int (x_l2 + (nI 1)), l3, l4]) (by decide +kernel) rfl (by rw [ic_1]) rfl).trans ?_
  refine (go_goto (m := 205) (pc := 133) (off := -83) (t := 50) (by decide +kernel) (by decide)).trans ?_
  rfl
theorem Model_digest_136 (l0 : Value) (l1 : Value) (l2 : Value) (l3 : Value) (l4 : Value) (w : Wd) (I : MI) (L : ML) (P : MP)  : go 205 136 [l0, l1, l2, l3, l4] [] w I L P = go 205 138 [l0, (fix1 l1), .int (nI 0), l3, l4] [] w I L P := by
  refine (go_ic (m := 205) (pc := 136) (n := 0) (by decide +kernel) ic_0).trans ?_
  refine (go_istore_n (m := 205) (pc := 137) (k := 2) (ls' := [l0, (fix1 l1), .int (nI 0), l3, l4]) (by decide +kernel) (by simp only [List.length_cons, List.length_nil]; decide) rfl).trans ?_
  rfl
theorem Model_digest_138 (a_l0 : Nat) (l1 : Value) (x_l2 : Int32) (l3 : Value) (l4 : Value) (w : Wd) (I : MI) (L : ML) (P : MP) (h0 : w.1 a_l0 = some (7, 0)) : go 205 138 [.ref a_l0, l1, .int x_l2, l3, l4] [] w I L P = go 205 143 [.ref a_l0, l1, .int x_l2, l3, l4] [(va_rf (P a_l0 0)), .int x_l2] w I L P := by
  refine (go_iload_n (m := 205) (pc := 138) (k := 2) (by decide +kernel) rfl).trans ?_
  refine (go_aload_n (m := 205) (pc := 139) (k := 0) (by decide +kernel) rfl).trans ?_
  refine (go_getR (m := 205) (pc := 140) (o := 7) (x := 7) (ci := 7) (k := 0) (by decide +kernel) rfl f_7_7 rfl h0).trans ?_
  rfl
theorem Model_digest_143 (l0 : Value) (l1 : Value) (l2 : Value) (l3 : Value) (l4 : Value) (y0 : Int32) (a_s1 : Nat) (w : Wd) (I : MI) (L : ML) (P : MP) (h0 : inA w a_s1 8 (nI 2)) : go 205 143 [l0, l1, l2, l3, l4] [.ref a_s1, .int y0] w I L P = if (I a_s1 (Int32.toNatClampNeg (nI 2))) ≤ y0 then go 205 209 [l0, l1, l2, l3, l4] [] w I L P else go 205 148 [l0, l1, l2, l3, l4] [] w I L P := by
  refine (go_ic (m := 205) (pc := 143) (n := 2) (by decide +kernel) ic_2).trans ?_
  refine (go_iald (m := 205) (pc := 144) (by decide +kernel) h0).trans ?_
  exact go_icmpge (m := 205) (pc := 145) (off := 64) (t := 209) (by decide +kernel) (by decide)
theorem Model_digest_148 (l0 : Value) (l1 : Value) (l2 : Value) (l3 : Value) (l4 : Value) (w : Wd) (I : MI) (L : ML) (P : MP)  : go 205 148 [l0, l1, l2, l3, l4] [] w I L P = go 205 150 [l0, l1, (fix1 l2), .int (nI 0), l4] [] w I L P := by
  refine (go_ic (m := 205) (pc := 148) (n := 0) (by decide +kernel) ic_0).trans ?_
  refine (go_istore_n (m := 205) (pc := 149) (k := 3) (ls' := [l0, l1, (fix1 l2), .int (nI 0), l4]) (by decide +kernel) (by simp only [List.length_cons, List.length_nil]; decide) rfl).trans ?_
  rfl
theorem Model_digest_150 (l0 : Value) (l1 : Value) (l2 : Value) (x_l3 : Int32) (l4 : Value) (w : Wd) (I : MI) (L : ML) (P : MP)  : go 205 150 [l0, l1, l2, .int x_l3, l4] [] w I L P = if (nI 6) ≤ x_l3 then go 205 172 [l0, l1, l2, .int x_l3, l4] [] w I L P else go 205 156 [l0, l1, l2, .int x_l3, l4] [] w I L P := by
  refine (go_iload_n (m := 205) (pc := 150) (k := 3) (by decide +kernel) rfl).trans ?_
  refine (go_bi (m := 205) (pc := 151) (n := 6) (by decide +kernel) bi_6).trans ?_
  exact go_icmpge (m := 205) (pc := 153) (off := 19) (t := 172) (by decide +kernel) (by decide)
theorem Model_digest_156 (a_l0 : Nat) (l1 : Value) (x_l2 : Int32) (x_l3 : Int32) (l4 : Value) (w : Wd) (I : MI) (L : ML) (P : MP) (h0 : w.1 a_l0 = some (7, 0)) : go 205 156 [.ref a_l0, l1, .int x_l2, .int x_l3, l4] [] w I L P = kC (call 129 [.ref a_l0, .int x_l2, .int x_l3] w I L P) (fun v w1 I1 L1 P1 => go 205 163 [.ref a_l0, l1, .int x_l2, .int x_l3, l4] (v.toList ++ [.ref a_l0]) w1 I1 L1 P1) := by
  refine (go_aload_n (m := 205) (pc := 156) (k := 0) (by decide +kernel) rfl).trans ?_
  refine (go_aload_n (m := 205) (pc := 157) (k := 0) (by decide +kernel) rfl).trans ?_
  refine (go_iload_n (m := 205) (pc := 158) (k := 2) (by decide +kernel) rfl).trans ?_
  refine (go_iload_n (m := 205) (pc := 159) (k := 3) (by decide +kernel) rfl).trans ?_
  exact go_vir (m := 205) (pc := 160) (o := 7) (x := 76) (y := 129) (kd := 0) (b := a_l0) (bs := [.int x_l2, .int x_l3]) (rs := [.ref a_l0]) (by decide +kernel) rfl rfl c_7_76 (Or.inl rfl) rfl rfl rfl (by decide +kernel) (by simp only [List.length_cons, List.length_nil]; decide) (Nat.le_of_ble_eq_true rfl) h0
theorem Model_digest_163 (l0 : Value) (l1 : Value) (l2 : Value) (l3 : Value) (l4 : Value) (a_s0 : Nat) (y1 : Int32) (w : Wd) (I : MI) (L : ML) (P : MP) (h0 : w.1 a_s0 = some (7, 0)) : go 205 163 [l0, l1, l2, l3, l4] [.int y1, .ref a_s0] w I L P = kC (call 204 [.ref a_s0, .int y1] w I L P) (fun v w1 I1 L1 P1 => go 205 166 [l0, l1, l2, l3, l4] (v.toList ++ []) w1 I1 L1 P1) := by
  exact go_vir (m := 205) (pc := 163) (o := 7) (x := 281) (y := 204) (kd := 0) (b := a_s0) (bs := [.int y1]) (rs := []) (by decide +kernel) rfl rfl c_7_281 (Or.inl rfl) rfl rfl rfl (by decide +kernel) (by simp only [List.length_cons, List.length_nil]; decide) (Nat.le_of_ble_eq_true rfl) h0
theorem Model_digest_166 (l0 : Value) (l1 : Value) (l2 : Value) (x_l3 : Int32) (l4 : Value) (w : Wd) (I : MI) (L : ML) (P : MP)  : go 205 166 [l0, l1, l2, .int x_l3, l4] [] w I L P = go 205 150 [l0, l1, (fix1 l2), .int (x_l3 + (nI 1)), l4] [] w I L P := by
  refine (go_iinc (m := 205) (pc := 166) (k := 3) (n := 1) (x := x_l3) (v := x_l3 + (nI 1)) (ls' := [l0, l1, (fix1 l2), .int (x_l3 + (nI 1)), l4]) (by decide +kernel) rfl (by rw [ic_1]) rfl).trans ?_
  refine (go_goto (m := 205) (pc := 169) (off := -19) (t := 150) (by decide +kernel) (by decide)).trans ?_
  rfl
theorem Model_digest_172 (l0 : Value) (l1 : Value) (l2 : Value) (l3 : Value) (l4 : Value) (w : Wd) (I : MI) (L : ML) (P : MP)  : go 205 172 [l0, l1, l2, l3, l4] [] w I L P = go 205 174 [l0, l1, (fix1 l2), .int (nI 0), l4] [] w I L P := by
  refine (go_ic (m := 205) (pc := 172) (n := 0) (by decide +kernel) ic_0).trans ?_
  refine (go_istore_n (m := 205) (pc := 173) (k := 3) (ls' := [l0, l1, (fix1 l2), .int (nI 0), l4]) (by decide +kernel) (by simp only [List.length_cons, List.length_nil]; decide) rfl).trans ?_
  rfl
theorem Model_digest_174 (a_l0 : Nat) (l1 : Value) (x_l2 : Int32) (x_l3 : Int32) (l4 : Value) (w : Wd) (I : MI) (L : ML) (P : MP) (h0 : w.1 a_l0 = some (7, 0)) : go 205 174 [.ref a_l0, l1, .int x_l2, .int x_l3, l4] [] w I L P = kC (call 129 [.ref a_l0, .int x_l2, .int (nI 2)] w I L P) (fun v w1 I1 L1 P1 => go 205 181 [.ref a_l0, l1, .int x_l2, .int x_l3, l4] (v.toList ++ [.int x_l3]) w1 I1 L1 P1) := by
  refine (go_iload_n (m := 205) (pc := 174) (k := 3) (by decide +kernel) rfl).trans ?_
  refine (go_aload_n (m := 205) (pc := 175) (k := 0) (by decide +kernel) rfl).trans ?_
  refine (go_iload_n (m := 205) (pc := 176) (k := 2) (by decide +kernel) rfl).trans ?_
  refine (go_ic (m := 205) (pc := 177) (n := 2) (by decide +kernel) ic_2).trans ?_
  exact go_vir (m := 205) (pc := 178) (o := 7) (x := 76) (y := 129) (kd := 0) (b := a_l0) (bs := [.int x_l2, .int (nI 2)]) (rs := [.int x_l3]) (by decide +kernel) rfl rfl c_7_76 (Or.inl rfl) rfl rfl rfl (by decide +kernel) (by simp only [List.length_cons, List.length_nil]; decide) (Nat.le_of_ble_eq_true rfl) h0
theorem Model_digest_181 (l0 : Value) (l1 : Value) (l2 : Value) (l3 : Value) (l4 : Value) (y0 : Int32) (y1 : Int32) (w : Wd) (I : MI) (L : ML) (P : MP)  : go 205 181 [l0, l1, l2, l3, l4] [.int y1, .int y0] w I L P = if y1 ≤ y0 then go 205 203 [l0, l1, l2, l3, l4] [] w I L P else go 205 184 [l0, l1, l2, l3, l4] [] w I L P := by
  exact go_icmpge (m := 205) (pc := 181) (off := 22) (t := 203) (by decide +kernel) (by decide)
theorem Model_digest_184 (a_l0 : Nat) (l1 : Value) (x_l2 : Int32) (x_l3 : Int32) (l4 : Value) (w : Wd) (I : MI) (L : ML) (P : MP) (h0 : w.1 a_l0 = some (7, 0)) : go 205 184 [.ref a_l0, l1, .int x_l2, .int x_l3, l4] [] w I L P = kC (call 129 [.ref a_l0, .int x_l2, .int ((nI 6) + x_l3)] w I L P) (fun v w1 I1 L1 P1 => go 205 194 [.ref a_l0, l1, .int x_l2, .int x_l3, l4] (v.toList ++ [.ref a_l0]) w1 I1 L1 P1) := by
  refine (go_aload_n (m := 205) (pc := 184) (k := 0) (by decide +kernel) rfl).trans ?_
  refine (go_aload_n (m := 205) (pc := 185) (k := 0) (by decide +kernel) rfl).trans ?_
  refine (go_iload_n (m := 205) (pc := 186) (k := 2) (by decide +kernel) rfl).trans ?_
  refine (go_bi (m := 205) (pc := 187) (n := 6) (by decide +kernel) bi_6).trans ?_
  refine (go_iload_n (m := 205) (pc := 189) (k := 3) (by decide +kernel) rfl).trans ?_
  refine (go_iadd (m := 205) (pc := 190) (by decide +kernel)).trans ?_
  exact go_vir (m := 205) (pc := 191) (o := 7) (x := 76) (y := 129) (kd := 0) (b := a_l0) (bs := [.int x_l2, .int ((nI 6) + x_l3)]) (rs := [.ref a_l0]) (by decide +kernel) rfl rfl c_7_76 (Or.inl rfl) rfl rfl rfl (by decide +kernel) (by simp only [List.length_cons, List.length_nil]; decide) (Nat.le_of_ble_eq_true rfl) h0
theorem Model_digest_194 (l0 : Value) (l1 : Value) (l2 : Value) (l3 : Value) (l4 : Value) (a_s0 : Nat) (y1 : Int32) (w : Wd) (I : MI) (L : ML) (P : MP) (h0 : w.1 a_s0 = some (7, 0)) : go 205 194 [l0, l1, l2, l3, l4] [.int y1, .ref a_s0] w I L P = kC (call 204 [.ref a_s0, .int y1] w I L P) (fun v w1 I1 L1 P1 => go 205 197 [l0, l1, l2, l3, l4] (v.toList ++ []) w1 I1 L1 P1) := by
  exact go_vir (m := 205) (pc := 194) (o := 7) (x := 281) (y := 204) (kd := 0) (b := a_s0) (bs := [.int y1]) (rs := []) (by decide +kernel) rfl rfl c_7_281 (Or.inl rfl) rfl rfl rfl (by decide +kernel) (by simp only [List.length_cons, List.length_nil]; decide) (Nat.le_of_ble_eq_true rfl) h0
theorem Model_digest_197 (l0 : Value) (l1 : Value) (l2 : Value) (x_l3 : Int32) (l4 : Value) (w : Wd) (I : MI) (L : ML) (P : MP)  : go 205 197 [l0, l1, l2, .int x_l3, l4] [] w I L P = go 205 174 [l0, l1, (fix1 l2), .int (x_l3 + (nI 1)), l4] [] w I L P := by
  refine (go_iinc (m := 205) (pc := 197) (k := 3) (n := 1) (x := x_l3) (v := x_l3 + (nI 1)) (ls' := [l0, l1, (fix1 l2), .int (x_l3 + (nI 1)), l4]) (by decide +kernel) rfl (by rw [ic_1]) rfl).trans ?_
  refine (go_goto (m := 205) (pc := 200) (off := -26) (t := 174) (by decide +kernel) (by decide)).trans ?_
  rfl
theorem Model_digest_203 (l0 : Value) (l1 : Value) (x_l2 : Int32) (l3 : Value) (l4 : Value) (w : Wd) (I : MI) (L : ML) (P : MP)  : go 205 203 [l0, l1, .int x_l2, l3, l4] [] w I L P = go 205 138 [l0, (fix1 l1), .int (x_l2 + (nI 1)), l3, l4] [] w I L P := by
  refine (go_iinc (m := 205) (pc := 203) (k := 2) (n := 1) (x := x_l2) (v := x_l2 + (nI 1)) (ls' := [l0, (fix1 l1), .int (x_l2 + (nI 1)), l3, l4]) (by decide +kernel) rfl (by rw [ic_1]) rfl).trans ?_
  refine (go_goto (m := 205) (pc := 206) (off := -68) (t := 138) (by decide +kernel) (by decide)).trans ?_
  rfl
theorem Model_digest_209 (l0 : Value) (l1 : Value) (l2 : Value) (l3 : Value) (l4 : Value) (w : Wd) (I : MI) (L : ML) (P : MP)  : go 205 209 [l0, l1, l2, l3, l4] [] w I L P = go 205 211 [l0, (fix1 l1), .int (nI 0), l3, l4] [] w I L P := by
  refine (go_ic (m := 205) (pc := 209) (n := 0) (by decide +kernel) ic_0).trans ?_
  refine (go_istore_n (m := 205) (pc := 210) (k := 2) (ls' := [l0, (fix1 l1), .int (nI 0), l3, l4]) (by decide +kernel) (by simp only [List.length_cons, List.length_nil]; decide) rfl).trans ?_
  rfl
theorem Model_digest_211 (a_l0 : Nat) (l1 : Value) (x_l2 : Int32) (l3 : Value) (l4 : Value) (w : Wd) (I : MI) (L : ML) (P : MP) (h0 : w.1 a_l0 = some (7, 0)) : go 205 211 [.ref a_l0, l1, .int x_l2, l3, l4] [] w I L P = kC (call 182 [.ref a_l0] w I L P) (fun v w1 I1 L1 P1 => go 205 216 [.ref a_l0, l1, .int x_l2, l3, l4] (v.toList ++ [.int x_l2]) w1 I1 L1 P1) := by
  refine (go_iload_n (m := 205) (pc := 211) (k := 2) (by decide +kernel) rfl).trans ?_
  refine (go_aload_n (m := 205) (pc := 212) (k := 0) (by decide +kernel) rfl).trans ?_
  exact go_vir (m := 205) (pc := 213) (o := 7) (x := 196) (y := 182) (kd := 0) (b := a_l0) (bs := []) (rs := [.int x_l2]) (by decide +kernel) rfl rfl c_7_196 (Or.inl rfl) rfl rfl rfl (by decide +kernel) (by simp only [List.length_cons, List.length_nil]; decide) (Nat.le_of_ble_eq_true rfl) h0
theorem Model_digest_216 (l0 : Value) (l1 : Value) (l2 : Value) (l3 : Value) (l4 : Value) (y0 : Int32) (y1 : Int32) (w : Wd) (I : MI) (L : ML) (P : MP)  : go 205 216 [l0, l1, l2, l3, l4] [.int y1, .int y0] w I L P = if y1 ≤ y0 then go 205 235 [l0, l1, l2, l3, l4] [] w I L P else go 205 219 [l0, l1, l2, l3, l4] [] w I L P := by
  exact go_icmpge (m := 205) (pc := 216) (off := 19) (t := 235) (by decide +kernel) (by decide)
theorem Model_digest_219 (a_l0 : Nat) (l1 : Value) (x_l2 : Int32) (l3 : Value) (l4 : Value) (w : Wd) (I : MI) (L : ML) (P : MP) (h0 : w.1 a_l0 = some (7, 0)) : go 205 219 [.ref a_l0, l1, .int x_l2, l3, l4] [] w I L P = kC (call 181 [.ref a_l0, .int x_l2, .int (nI 0)] w I L P) (fun v w1 I1 L1 P1 => go 205 226 [.ref a_l0, l1, .int x_l2, l3, l4] (v.toList ++ [.ref a_l0]) w1 I1 L1 P1) := by
  refine (go_aload_n (m := 205) (pc := 219) (k := 0) (by decide +kernel) rfl).trans ?_
  refine (go_aload_n (m := 205) (pc := 220) (k := 0) (by decide +kernel) rfl).trans ?_
  refine (go_iload_n (m := 205) (pc := 221) (k := 2) (by decide +kernel) rfl).trans ?_
  refine (go_ic (m := 205) (pc := 222) (n := 0) (by decide +kernel) ic_0).trans ?_
  exact go_vir (m := 205) (pc := 223) (o := 7) (x := 201) (y := 181) (kd := 0) (b := a_l0) (bs := [.int x_l2, .int (nI 0)]) (rs := [.ref a_l0]) (by decide +kernel) rfl rfl c_7_201 (Or.inl rfl) rfl rfl rfl (by decide +kernel) (by simp only [List.length_cons, List.length_nil]; decide) (Nat.le_of_ble_eq_true rfl) h0
theorem Model_digest_226 (l0 : Value) (l1 : Value) (l2 : Value) (l3 : Value) (l4 : Value) (a_s0 : Nat) (y1 : Int32) (w : Wd) (I : MI) (L : ML) (P : MP) (h0 : w.1 a_s0 = some (7, 0)) : go 205 226 [l0, l1, l2, l3, l4] [.int y1, .ref a_s0] w I L P = kC (call 204 [.ref a_s0, .int y1] w I L P) (fun v w1 I1 L1 P1 => go 205 229 [l0, l1, l2, l3, l4] (v.toList ++ []) w1 I1 L1 P1) := by
  exact go_vir (m := 205) (pc := 226) (o := 7) (x := 281) (y := 204) (kd := 0) (b := a_s0) (bs := [.int y1]) (rs := []) (by decide +kernel) rfl rfl c_7_281 (Or.inl rfl) rfl rfl rfl (by decide +kernel) (by simp only [List.length_cons, List.length_nil]; decide) (Nat.le_of_ble_eq_true rfl) h0
theorem Model_digest_229 (l0 : Value) (l1 : Value) (x_l2 : Int32) (l3 : Value) (l4 : Value) (w : Wd) (I : MI) (L : ML) (P : MP)  : go 205 229 [l0, l1, .int x_l2, l3, l4] [] w I L P = go 205 211 [l0, (fix1 l1), .int (x_l2 + (nI 1)), l3, l4] [] w I L P := by
  refine (go_iinc (m := 205) (pc := 229) (k := 2) (n := 1) (x := x_l2) (v := x_l2 + (nI 1)) (ls' := [l0, (fix1 l1), .int (x_l2 + (nI 1)), l3, l4]) (by decide +kernel) rfl (by rw [ic_1]) rfl).trans ?_
  refine (go_goto (m := 205) (pc := 232) (off := -21) (t := 211) (by decide +kernel) (by decide)).trans ?_
  rfl
theorem Model_digest_235 (a_l0 : Nat) (x_l1 : Int32) (l2 : Value) (l3 : Value) (l4 : Value) (w : Wd) (I : MI) (L : ML) (P : MP) (h0 : w.1 a_l0 = some (7, 0)) : go 205 235 [.ref a_l0, .int x_l1, l2, l3, l4] [] w I L P = kC (call 204 [.ref a_l0, .int x_l1] w I L P) (fun v w1 I1 L1 P1 => go 205 240 [.ref a_l0, .int x_l1, l2, l3, l4] (v.toList ++ []) w1 I1 L1 P1) := by
  refine (go_aload_n (m := 205) (pc := 235) (k := 0) (by decide +kernel) rfl).trans ?_
  refine (go_iload_n (m := 205) (pc := 236) (k := 1) (by decide +kernel) rfl).trans ?_
  exact go_vir (m := 205) (pc := 237) (o := 7) (x := 281) (y := 204) (kd := 0) (b := a_l0) (bs := [.int x_l1]) (rs := []) (by decide +kernel) rfl rfl c_7_281 (Or.inl rfl) rfl rfl rfl (by decide +kernel) (by simp only [List.length_cons, List.length_nil]; decide) (Nat.le_of_ble_eq_true rfl) h0
theorem Model_digest_240 (a_l0 : Nat) (l1 : Value) (l2 : Value) (l3 : Value) (l4 : Value) (w : Wd) (I : MI) (L : ML) (P : MP) (h0 : w.1 a_l0 = some (7, 0)) : go 205 240 [.ref a_l0, l1, l2, l3, l4] [] w I L P = kC (call 204 [.ref a_l0, .int (I a_l0 2)] w I L P) (fun v w1 I1 L1 P1 => go 205 248 [.ref a_l0, l1, l2, l3, l4] (v.toList ++ []) w1 I1 L1 P1) := by
  refine (go_aload_n (m := 205) (pc := 240) (k := 0) (by decide +kernel) rfl).trans ?_
  refine (go_aload_n (m := 205) (pc := 241) (k := 0) (by decide +kernel) rfl).trans ?_
  refine (go_getI (m := 205) (pc := 242) (o := 7) (x := 34) (ci := 7) (k := 2) (by decide +kernel) rfl f_7_34 rfl h0).trans ?_
  exact go_vir (m := 205) (pc := 245) (o := 7) (x := 281) (y := 204) (kd := 0) (b := a_l0) (bs := [.int (I a_l0 2)]) (rs := []) (by decide +kernel) rfl rfl c_7_281 (Or.inl rfl) rfl rfl rfl (by decide +kernel) (by simp only [List.length_cons, List.length_nil]; decide) (Nat.le_of_ble_eq_true rfl) h0
theorem Model_digest_248 (a_l0 : Nat) (l1 : Value) (l2 : Value) (l3 : Value) (l4 : Value) (w : Wd) (I : MI) (L : ML) (P : MP) (h0 : w.1 a_l0 = some (7, 0)) : go 205 248 [.ref a_l0, l1, l2, l3, l4] [] w I L P = some (.inl (some (.long (L a_l0 15))), w, I, L, P) := by
  refine (go_aload_n (m := 205) (pc := 248) (k := 0) (by decide +kernel) rfl).trans ?_
  refine (go_getJ (m := 205) (pc := 249) (o := 7) (x := 276) (ci := 7) (k := 15) (by decide +kernel) rfl f_7_276 rfl h0).trans ?_
  exact go_retJ (m := 205) (pc := 252) (by decide +kernel) rfl
theorem Model_digest_E (this : Nat) (w : Wd) (I : MI) (L : ML) (P : MP) : call 205 [.ref this] w I L P = go 205 0 [.ref this, unk, unk, unk, unk] [] w I L P := rfl
