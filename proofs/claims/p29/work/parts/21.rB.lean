theorem Bus_init_0 (a_l0 : Nat) (l1 : Value) (T : Nat → Option (Nat × Nat)) (q0 kc ks : Nat) (I : MI) (L : ML) (P : MP) (h0 : ¬ (nI 3) < 0 ∧ Int32.toNatClampNeg (nI 3) ≤ 65536) (h1 : (tagU T q0 11 (Int32.toNatClampNeg (nI 3))) a_l0 = some (0, 0)) (h2 : ¬ (nI 6) < 0 ∧ Int32.toNatClampNeg (nI 6) ≤ 65536) (h3 : (tagU (tagU T q0 11 (Int32.toNatClampNeg (nI 3))) (q0 + 1) 12 (Int32.toNatClampNeg (nI 6))) a_l0 = some (0, 0)) : go 27 0 [.ref a_l0, l1] [] (T, some q0, kc, ks) I L P = kC (call 21 [.ref ((q0 + 1) + 1)] ((tagU (tagU (tagU T q0 11 (Int32.toNatClampNeg (nI 3))) (q0 + 1) 12 (Int32.toNatClampNeg (nI 6))) ((q0 + 1) + 1) 5 0), some (((q0 + 1) + 1) + 1), (((kc + 1) + 1) + 1), (((ks + Int32.toNatClampNeg (nI 3)) + Int32.toNatClampNeg (nI 6)) + 6)) (rowI (updI (updI (updI I a_l0 1 (nI 2)) a_l0 3 (nI 0)) a_l0 4 (nI 4)) ((q0 + 1) + 1)) (rowL L ((q0 + 1) + 1)) (rowP (updP (rowP (updP (rowP P q0) a_l0 0 (some q0)) (q0 + 1)) a_l0 2 (some (q0 + 1))) ((q0 + 1) + 1))) (fun v w1 I1 L1 P1 => go 27 44 [.ref a_l0, l1] (v.toList ++ [.ref ((q0 + 1) + 1), .ref a_l0]) w1 I1 L1 P1) := by
  refine (go_aload_n (m := 27) (pc := 0) (k := 0) (by decide +kernel) rfl).trans ?_
  refine (go_obj (m := 27) (pc := 1) (o := 0) (x := 3) (y := 999) (by decide +kernel) rfl (by decide +kernel) (by decide +kernel)).trans ?_
  refine (go_aload_n (m := 27) (pc := 4) (k := 0) (by decide +kernel) rfl).trans ?_
  refine (go_ic (m := 27) (pc := 5) (n := 3) (by decide +kernel) ic_3).trans ?_
  refine (go_newR (m := 27) (pc := 6) (o := 0) (j := 9) (ci := 1) (by decide +kernel) rfl (by decide +kernel) ⟨by decide, h0⟩).trans ?_
  refine (go_putR (m := 27) (pc := 9) (o := 0) (x := 11) (ci := 0) (k := 0) (by decide +kernel) rfl f_0_11 rfl (by decide +kernel) h1).trans ?_
  refine (go_aload_n (m := 27) (pc := 12) (k := 0) (by decide +kernel) rfl).trans ?_
  refine (go_ic (m := 27) (pc := 13) (n := 2) (by decide +kernel) ic_2).trans ?_
  refine (go_putI (m := 27) (pc := 14) (o := 0) (x := 17) (ci := 0) (k := 1) (by decide +kernel) rfl f_0_17 rfl (by decide +kernel) h1).trans ?_
  refine (go_aload_n (m := 27) (pc := 17) (k := 0) (by decide +kernel) rfl).trans ?_
  refine (go_bi (m := 27) (pc := 18) (n := 6) (by decide +kernel) bi_6).trans ?_
  refine (go_newR (m := 27) (pc := 20) (o := 0) (j := 21) (ci := 2) (by decide +kernel) rfl (by decide +kernel) ⟨by decide, h2⟩).trans ?_
  refine (go_putR (m := 27) (pc := 23) (o := 0) (x := 23) (ci := 0) (k := 2) (by decide +kernel) rfl f_0_23 rfl (by decide +kernel) h3).trans ?_
  refine (go_aload_n (m := 27) (pc := 26) (k := 0) (by decide +kernel) rfl).trans ?_
  refine (go_ic (m := 27) (pc := 27) (n := 0) (by decide +kernel) ic_0).trans ?_
  refine (go_putI (m := 27) (pc := 28) (o := 0) (x := 27) (ci := 0) (k := 3) (by decide +kernel) rfl f_0_27 rfl (by decide +kernel) h3).trans ?_
  refine (go_aload_n (m := 27) (pc := 31) (k := 0) (by decide +kernel) rfl).trans ?_
  refine (go_ic (m := 27) (pc := 32) (n := 4) (by decide +kernel) ic_4).trans ?_
  refine (go_putI (m := 27) (pc := 33) (o := 0) (x := 30) (ci := 0) (k := 4) (by decide +kernel) rfl f_0_30 rfl (by decide +kernel) h3).trans ?_
  refine (go_aload_n (m := 27) (pc := 36) (k := 0) (by decide +kernel) rfl).trans ?_
  refine (go_new (m := 27) (pc := 37) (o := 0) (x := 33) (ci := 5) (nf := 6) (by decide +kernel) rfl (by decide +kernel) (by decide) rfl).trans ?_
  refine (go_dup (m := 27) (pc := 40) (by decide +kernel) rfl).trans ?_
  exact go_spc (m := 27) (pc := 41) (o := 0) (x := 35) (y := 21) (kd := 6) (b := ((q0 + 1) + 1)) (bs := []) (rs := [.ref ((q0 + 1) + 1), .ref a_l0]) (by decide +kernel) rfl rfl c_0_35 (Or.inr rfl) rfl rfl rfl (by decide +kernel) (by simp only [List.length_cons, List.length_nil]; decide) (Nat.le_of_ble_eq_true rfl)
theorem Bus_init_44 (a_l0 : Nat) (l1 : Value) (a_s0 : Nat) (a_s1 : Nat) (w : Wd) (I : MI) (L : ML) (P : MP) (h0 : w.1 a_s0 = some (0, 0)) (h1 : w.1 a_l0 = some (0, 0)) (h2 : (nI 0) &&& 1 = (nI 0)) : go 27 44 [.ref a_l0, l1] [.ref a_s1, .ref a_s0] w I L P = go 27 89 [.ref a_l0, .int (nI 0)] [] w (updI (updI (updI (updI (updI (updI (updI (updI I a_l0 6 (nI 0)) a_l0 7 (nI 0)) a_l0 8 (-1)) a_l0 9 (nI 0)) a_l0 10 (nI 0)) a_l0 11 (nI 0)) a_l0 12 (nI 0)) a_l0 13 (nI 0)) L (updP P a_s0 5 (some a_s1)) := by
  refine (go_putR (m := 27) (pc := 44) (o := 0) (x := 36) (ci := 0) (k := 5) (by decide +kernel) rfl f_0_36 rfl (by decide +kernel) h0).trans ?_
  refine (go_aload_n (m := 27) (pc := 47) (k := 0) (by decide +kernel) rfl).trans ?_
  refine (go_ic (m := 27) (pc := 48) (n := 0) (by decide +kernel) ic_0).trans ?_
  refine (go_putI (m := 27) (pc := 49) (o := 0) (x := 40) (ci := 0) (k := 6) (by decide +kernel) rfl f_0_40 rfl (by decide +kernel) h1).trans ?_
  refine (go_aload_n (m := 27) (pc := 52) (k := 0) (by decide +kernel) rfl).trans ?_
  refine (go_ic (m := 27) (pc := 53) (n := 0) (by decide +kernel) ic_0).trans ?_
  refine (go_putI (m := 27) (pc := 54) (o := 0) (x := 43) (ci := 0) (k := 7) (by decide +kernel) rfl f_0_43 rfl (by decide +kernel) h1).trans ?_
  refine (go_aload_n (m := 27) (pc := 57) (k := 0) (by decide +kernel) rfl).trans ?_
  refine (go_ic (m := 27) (pc := 58) (n := -1) (by decide +kernel) ic_m1).trans ?_
  refine (go_putI (m := 27) (pc := 59) (o := 0) (x := 46) (ci := 0) (k := 8) (by decide +kernel) rfl f_0_46 rfl (by decide +kernel) h1).trans ?_
  refine (go_aload_n (m := 27) (pc := 62) (k := 0) (by decide +kernel) rfl).trans ?_
  refine (go_ic (m := 27) (pc := 63) (n := 0) (by decide +kernel) ic_0).trans ?_
  refine (go_putZ (m := 27) (pc := 64) (o := 0) (x := 49) (ci := 0) (k := 9) (by decide +kernel) rfl f_0_49 rfl (by decide +kernel) h2 h1).trans ?_
  refine (go_aload_n (m := 27) (pc := 67) (k := 0) (by decide +kernel) rfl).trans ?_
  refine (go_ic (m := 27) (pc := 68) (n := 0) (by decide +kernel) ic_0).trans ?_
  refine (go_putI (m := 27) (pc := 69) (o := 0) (x := 53) (ci := 0) (k := 10) (by decide +kernel) rfl f_0_53 rfl (by decide +kernel) h1).trans ?_
  refine (go_aload_n (m := 27) (pc := 72) (k := 0) (by decide +kernel) rfl).trans ?_
  refine (go_ic (m := 27) (pc := 73) (n := 0) (by decide +kernel) ic_0).trans ?_
  refine (go_putI (m := 27) (pc := 74) (o := 0) (x := 56) (ci := 0) (k := 11) (by decide +kernel) rfl f_0_56 rfl (by decide +kernel) h1).trans ?_
  refine (go_aload_n (m := 27) (pc := 77) (k := 0) (by decide +kernel) rfl).trans ?_
  refine (go_ic (m := 27) (pc := 78) (n := 0) (by decide +kernel) ic_0).trans ?_
  refine (go_putI (m := 27) (pc := 79) (o := 0) (x := 59) (ci := 0) (k := 12) (by decide +kernel) rfl f_0_59 rfl (by decide +kernel) h1).trans ?_
  refine (go_aload_n (m := 27) (pc := 82) (k := 0) (by decide +kernel) rfl).trans ?_
  refine (go_ic (m := 27) (pc := 83) (n := 0) (by decide +kernel) ic_0).trans ?_
  refine (go_putI (m := 27) (pc := 84) (o := 0) (x := 62) (ci := 0) (k := 13) (by decide +kernel) rfl f_0_62 rfl (by decide +kernel) h1).trans ?_
  refine (go_ic (m := 27) (pc := 87) (n := 0) (by decide +kernel) ic_0).trans ?_
  refine (go_istore_n (m := 27) (pc := 88) (k := 1) (ls' := [.ref a_l0, .int (nI 0)]) (by decide +kernel) (by simp only [List.length_cons, List.length_nil]; decide) rfl).trans ?_
  rfl
theorem Bus_init_89 (a_l0 : Nat) (x_l1 : Int32) (w : Wd) (I : MI) (L : ML) (P : MP) (h0 : w.1 a_l0 = some (0, 0)) : go 27 89 [.ref a_l0, .int x_l1] [] w I L P = go 27 94 [.ref a_l0, .int x_l1] [(va_rf (P a_l0 0)), .int x_l1] w I L P := by
  refine (go_iload_n (m := 27) (pc := 89) (k := 1) (by decide +kernel) rfl).trans ?_
  refine (go_aload_n (m := 27) (pc := 90) (k := 0) (by decide +kernel) rfl).trans ?_
  refine (go_getR (m := 27) (pc := 91) (o := 0) (x := 11) (ci := 0) (k := 0) (by decide +kernel) rfl f_0_11 rfl h0).trans ?_
  rfl
theorem Bus_init_94 (l0 : Value) (l1 : Value) (y0 : Int32) (a_s1 : Nat) (w : Wd) (I : MI) (L : ML) (P : MP) (h0 : isAr w a_s1 11) : go 27 94 [l0, l1] [.ref a_s1, .int y0] w I L P = if (alen w a_s1) ≤ y0 then go 27 117 [l0, l1] [] w I L P else go 27 98 [l0, l1] [] w I L P := by
  refine (go_alen11 (m := 27) (pc := 94) (by decide +kernel) h0).trans ?_
  exact go_icmpge (m := 27) (pc := 95) (off := 22) (t := 117) (by decide +kernel) (by decide)
theorem Bus_init_98 (a_l0 : Nat) (l1 : Value) (w : Wd) (I : MI) (L : ML) (P : MP) (h0 : w.1 a_l0 = some (0, 0)) : go 27 98 [.ref a_l0, l1] [] w I L P = go 27 102 [.ref a_l0, l1] [(va_rf (P a_l0 0))] w I L P := by
  refine (go_aload_n (m := 27) (pc := 98) (k := 0) (by decide +kernel) rfl).trans ?_
  refine (go_getR (m := 27) (pc := 99) (o := 0) (x := 11) (ci := 0) (k := 0) (by decide +kernel) rfl f_0_11 rfl h0).trans ?_
  rfl
theorem Bus_init_102 (l0 : Value) (x_l1 : Int32) (v0 : Value) (T : Nat → Option (Nat × Nat)) (q0 kc ks : Nat) (I : MI) (L : ML) (P : MP)  : go 27 102 [l0, .int x_l1] [v0] (T, some q0, kc, ks) I L P = kC (call 5 [.ref q0] ((tagU T q0 1 0), some (q0 + 1), (kc + 1), (ks + 6)) (rowI I q0) (rowL L q0) (rowP P q0)) (fun v w1 I1 L1 P1 => go 27 110 [l0, .int x_l1] (v.toList ++ [.ref q0, .int x_l1, v0]) w1 I1 L1 P1) := by
  refine (go_iload_n (m := 27) (pc := 102) (k := 1) (by decide +kernel) rfl).trans ?_
  refine (go_new (m := 27) (pc := 103) (o := 0) (x := 9) (ci := 1) (nf := 6) (by decide +kernel) rfl (by decide +kernel) (by decide) rfl).trans ?_
  refine (go_dup (m := 27) (pc := 106) (by decide +kernel) rfl).trans ?_
  exact go_spc (m := 27) (pc := 107) (o := 0) (x := 65) (y := 5) (kd := 6) (b := q0) (bs := []) (rs := [.ref q0, .int x_l1, v0]) (by decide +kernel) rfl rfl c_0_65 (Or.inr rfl) rfl rfl rfl (by decide +kernel) (by simp only [List.length_cons, List.length_nil]; decide) (Nat.le_of_ble_eq_true rfl)
theorem Bus_init_110 (l0 : Value) (x_l1 : Int32) (a_s0 : Nat) (y1 : Int32) (a_s2 : Nat) (w : Wd) (I : MI) (L : ML) (P : MP) (h0 : inA w a_s0 11 y1) (h1 : w.1 a_s2 = some (1, 0)) : go 27 110 [l0, .int x_l1] [.ref a_s2, .int y1, .ref a_s0] w I L P = go 27 89 [(fix1 l0), .int (x_l1 + (nI 1))] [] w I L (updP P a_s0 (Int32.toNatClampNeg y1) (some a_s2)) := by
  refine (go_aast11 (m := 27) (pc := 110) (by decide +kernel) h0 h1).trans ?_
  refine (go_iinc (m := 27) (pc := 111) (k := 1) (n := 1) (x := x_l1) (v := x_l1 + (nI 1)) (ls' := [(fix1 l0), .int (x_l1 + (nI 1))]) (by decide +kernel) rfl (by rw [ic_1]) rfl).trans ?_
  refine (go_goto (m := 27) (pc := 114) (off := -25) (t := 89) (by decide +kernel) (by decide)).trans ?_
  rfl
theorem Bus_init_117 (l0 : Value) (l1 : Value) (w : Wd) (I : MI) (L : ML) (P : MP)  : go 27 117 [l0, l1] [] w I L P = go 27 119 [(fix1 l0), .int (nI 0)] [] w I L P := by
  refine (go_ic (m := 27) (pc := 117) (n := 0) (by decide +kernel) ic_0).trans ?_
  refine (go_istore_n (m := 27) (pc := 118) (k := 1) (ls' := [(fix1 l0), .int (nI 0)]) (by decide +kernel) (by simp only [List.length_cons, List.length_nil]; decide) rfl).trans ?_
  rfl
theorem Bus_init_119 (a_l0 : Nat) (x_l1 : Int32) (w : Wd) (I : MI) (L : ML) (P : MP) (h0 : w.1 a_l0 = some (0, 0)) : go 27 119 [.ref a_l0, .int x_l1] [] w I L P = go 27 124 [.ref a_l0, .int x_l1] [(va_rf (P a_l0 2)), .int x_l1] w I L P := by
  refine (go_iload_n (m := 27) (pc := 119) (k := 1) (by decide +kernel) rfl).trans ?_
  refine (go_aload_n (m := 27) (pc := 120) (k := 0) (by decide +kernel) rfl).trans ?_
  refine (go_getR (m := 27) (pc := 121) (o := 0) (x := 23) (ci := 0) (k := 2) (by decide +kernel) rfl f_0_23 rfl h0).trans ?_
  rfl
theorem Bus_init_124 (l0 : Value) (l1 : Value) (y0 : Int32) (a_s1 : Nat) (w : Wd) (I : MI) (L : ML) (P : MP) (h0 : isAr w a_s1 12) : go 27 124 [l0, l1] [.ref a_s1, .int y0] w I L P = if (alen w a_s1) ≤ y0 then go 27 147 [l0, l1] [] w I L P else go 27 128 [l0, l1] [] w I L P := by
  refine (go_alen12 (m := 27) (pc := 124) (by decide +kernel) h0).trans ?_
  exact go_icmpge (m := 27) (pc := 125) (off := 22) (t := 147) (by decide +kernel) (by decide)
theorem Bus_init_128 (a_l0 : Nat) (l1 : Value) (w : Wd) (I : MI) (L : ML) (P : MP) (h0 : w.1 a_l0 = some (0, 0)) : go 27 128 [.ref a_l0, l1] [] w I L P = go 27 132 [.ref a_l0, l1] [(va_rf (P a_l0 2))] w I L P := by
  refine (go_aload_n (m := 27) (pc := 128) (k := 0) (by decide +kernel) rfl).trans ?_
  refine (go_getR (m := 27) (pc := 129) (o := 0) (x := 23) (ci := 0) (k := 2) (by decide +kernel) rfl f_0_23 rfl h0).trans ?_
  rfl
theorem Bus_init_132 (l0 : Value) (x_l1 : Int32) (v0 : Value) (T : Nat → Option (Nat × Nat)) (q0 kc ks : Nat) (I : MI) (L : ML) (P : MP)  : go 27 132 [l0, .int x_l1] [v0] (T, some q0, kc, ks) I L P = kC (call 14 [.ref q0] ((tagU T q0 2 0), some (q0 + 1), (kc + 1), (ks + 7)) (rowI I q0) (rowL L q0) (rowP P q0)) (fun v w1 I1 L1 P1 => go 27 140 [l0, .int x_l1] (v.toList ++ [.ref q0, .int x_l1, v0]) w1 I1 L1 P1) := by
  refine (go_iload_n (m := 27) (pc := 132) (k := 1) (by decide +kernel) rfl).trans ?_
  refine (go_new (m := 27) (pc := 133) (o := 0) (x := 21) (ci := 2) (nf := 7) (by decide +kernel) rfl (by decide +kernel) (by decide) rfl).trans ?_
  refine (go_dup (m := 27) (pc := 136) (by decide +kernel) rfl).trans ?_
  exact go_spc (m := 27) (pc := 137) (o := 0) (x := 66) (y := 14) (kd := 6) (b := q0) (bs := []) (rs := [.ref q0, .int x_l1, v0]) (by decide +kernel) rfl rfl c_0_66 (Or.inr rfl) rfl rfl rfl (by decide +kernel) (by simp only [List.length_cons, List.length_nil]; decide) (Nat.le_of_ble_eq_true rfl)
theorem Bus_init_140 (l0 : Value) (x_l1 : Int32) (a_s0 : Nat) (y1 : Int32) (a_s2 : Nat) (w : Wd) (I : MI) (L : ML) (P : MP) (h0 : inA w a_s0 12 y1) (h1 : w.1 a_s2 = some (2, 0)) : go 27 140 [l0, .int x_l1] [.ref a_s2, .int y1, .ref a_s0] w I L P = go 27 119 [(fix1 l0), .int (x_l1 + (nI 1))] [] w I L (updP P a_s0 (Int32.toNatClampNeg y1) (some a_s2)) := by
  refine (go_aast12 (m := 27) (pc := 140) (by decide +kernel) h0 h1).trans ?_
  refine (go_iinc (m := 27) (pc := 141) (k := 1) (n := 1) (x := x_l1) (v := x_l1 + (nI 1)) (ls' := [(fix1 l0), .int (x_l1 + (nI 1))]) (by decide +kernel) rfl (by rw [ic_1]) rfl).trans ?_
  refine (go_goto (m := 27) (pc := 144) (off := -25) (t := 119) (by decide +kernel) (by decide)).trans ?_
  rfl
theorem Bus_init_147 (l0 : Value) (l1 : Value) (w : Wd) (I : MI) (L : ML) (P : MP)  : go 27 147 [l0, l1] [] w I L P = some (.inl none, w, I, L, P) := by
  exact go_retV (m := 27) (pc := 147) (by decide +kernel) rfl
theorem Bus_init_E (this : Nat) (w : Wd) (I : MI) (L : ML) (P : MP) : call 27 [.ref this] w I L P = go 27 0 [.ref this, unk] [] w I L P := rfl
theorem Bus_copyFrom_0 (l0 : Value) (l1 : Value) (l2 : Value) (l3 : Value) (l4 : Value) (w : Wd) (I : MI) (L : ML) (P : MP)  : go 28 0 [l0, l1, l2, l3, l4] [] w I L P = go 28 2 [l0, (fix1 l1), .int (nI 0), l3, l4] [] w I L P := by
  refine (go_ic (m := 28) (pc := 0) (n := 0) (by decide +kernel) ic_0).trans ?_
  refine (go_istore_n (m := 28) (pc := 1) (k := 2) (ls' := [l0, (fix1 l1), .int (nI 0), l3, l4]) (by decide +kernel) (by simp only [List.length_cons, List.length_nil]; decide) rfl).trans ?_
  rfl
theorem Bus_copyFrom_2 (a_l0 : Nat) (l1 : Value) (x_l2 : Int32) (l3 : Value) (l4 : Value) (w : Wd) (I : MI) (L : ML) (P : MP) (h0 : w.1 a_l0 = some (0, 0)) : go 28 2 [.ref a_l0, l1, .int x_l2, l3, l4] [] w I L P = go 28 7 [.ref a_l0, l1, .int x_l2, l3, l4] [(va_rf (P a_l0 0)), .int x_l2] w I L P := by
  refine (go_iload_n (m := 28) (pc := 2) (k := 2) (by decide +kernel) rfl).trans ?_
  refine (go_aload_n (m := 28) (pc := 3) (k := 0) (by decide +kernel) rfl).trans ?_
  refine (go_getR (m := 28) (pc := 4) (o := 0) (x := 11) (ci := 0) (k := 0) (by decide +kernel) rfl f_0_11 rfl h0).trans ?_
  rfl
theorem Bus_copyFrom_7 (l0 : Value) (l1 : Value) (l2 : Value) (l3 : Value) (l4 : Value) (y0 : Int32) (a_s1 : Nat) (w : Wd) (I : MI) (L : ML) (P : MP) (h0 : isAr w a_s1 11) : go 28 7 [l0, l1, l2, l3, l4] [.ref a_s1, .int y0] w I L P = if (alen w a_s1) ≤ y0 then go 28 56 [l0, l1, l2, l3, l4] [] w I L P else go 28 11 [l0, l1, l2, l3, l4] [] w I L P := by
  refine (go_alen11 (m := 28) (pc := 7) (by decide +kernel) h0).trans ?_
  exact go_icmpge (m := 28) (pc := 8) (off := 48) (t := 56) (by decide +kernel) (by decide)
theorem Bus_copyFrom_11 (l0 : Value) (a_l1 : Nat) (x_l2 : Int32) (l3 : Value) (l4 : Value) (w : Wd) (I : MI) (L : ML) (P : MP) (h0 : w.1 a_l1 = some (0, 0)) : go 28 11 [l0, .ref a_l1, .int x_l2, l3, l4] [] w I L P = go 28 16 [l0, .ref a_l1, .int x_l2, l3, l4] [(va_rf (P a_l1 0)), .int x_l2] w I L P := by
  refine (go_iload_n (m := 28) (pc := 11) (k := 2) (by decide +kernel) rfl).trans ?_
  refine (go_aload_n (m := 28) (pc := 12) (k := 1) (by decide +kernel) rfl).trans ?_
  refine (go_getR (m := 28) (pc := 13) (o := 0) (x := 11) (ci := 0) (k := 0) (by decide +kernel) rfl f_0_11 rfl h0).trans ?_
  rfl
theorem Bus_copyFrom_16 (l0 : Value) (l1 : Value) (l2 : Value) (l3 : Value) (l4 : Value) (y0 : Int32) (a_s1 : Nat) (w : Wd) (I : MI) (L : ML) (P : MP) (h0 : isAr w a_s1 11) : go 28 16 [l0, l1, l2, l3, l4] [.ref a_s1, .int y0] w I L P = if (alen w a_s1) ≤ y0 then go 28 56 [l0, l1, l2, l3, l4] [] w I L P else go 28 20 [l0, l1, l2, l3, l4] [] w I L P := by
  refine (go_alen11 (m := 28) (pc := 16) (by decide +kernel) h0).trans ?_
  exact go_icmpge (m := 28) (pc := 17) (off := 39) (t := 56) (by decide +kernel) (by decide)
theorem Bus_copyFrom_20 (a_l0 : Nat) (l1 : Value) (l2 : Value) (l3 : Value) (l4 : Value) (w : Wd) (I : MI) (L : ML) (P : MP) (h0 : w.1 a_l0 = some (0, 0)) : go 28 20 [.ref a_l0, l1, l2, l3, l4] [] w I L P = go 28 24 [.ref a_l0, l1, l2, l3, l4] [(va_rf (P a_l0 0))] w I L P := by
  refine (go_aload_n (m := 28) (pc := 20) (k := 0) (by decide +kernel) rfl).trans ?_
  refine (go_getR (m := 28) (pc := 21) (o := 0) (x := 11) (ci := 0) (k := 0) (by decide +kernel) rfl f_0_11 rfl h0).trans ?_
  rfl
theorem Bus_copyFrom_24 (l0 : Value) (l1 : Value) (x_l2 : Int32) (l3 : Value) (l4 : Value) (a_s0 : Nat) (w : Wd) (I : MI) (L : ML) (P : MP) (h0 : inA w a_s0 11 x_l2) : go 28 24 [l0, l1, .int x_l2, l3, l4] [.ref a_s0] w I L P = go 28 26 [l0, l1, .int x_l2, l3, l4] [(va_rf (P a_s0 (Int32.toNatClampNeg x_l2)))] w I L P := by
  refine (go_iload_n (m := 28) (pc := 24) (k := 2) (by decide +kernel) rfl).trans ?_
  refine (go_aald11 (m := 28) (pc := 25) (by decide +kernel) h0).trans ?_
  rfl
theorem Bus_copyFrom_26_0 (l0 : Value) (a_l1 : Nat) (l2 : Value) (l3 : Value) (l4 : Value) (w : Wd) (I : MI) (L : ML) (P : MP) (h0 : w.1 a_l1 = some (0, 0)) : go 28 26 [l0, .ref a_l1, l2, l3, l4] [.null] w I L P = go 28 31 [l0, .ref a_l1, (fix1 l2), .null, l4] [(va_rf (P a_l1 0))] w I L P := by
  refine (go_astore_nN (m := 28) (pc := 26) (k := 3) (ls' := [l0, .ref a_l1, (fix1 l2), .null, l4]) (by decide +kernel) (by simp only [List.length_cons, List.length_nil]; decide) rfl).trans ?_
  refine (go_aload_n (m := 28) (pc := 27) (k := 1) (by decide +kernel) rfl).trans ?_
  refine (go_getR (m := 28) (pc := 28) (o := 0) (x := 11) (ci := 0) (k := 0) (by decide +kernel) rfl f_0_11 rfl h0).trans ?_
  rfl
theorem Bus_copyFrom_26_1 (l0 : Value) (a_l1 : Nat) (l2 : Value) (l3 : Value) (l4 : Value) (a_s0 : Nat) (w : Wd) (I : MI) (L : ML) (P : MP) (h0 : w.1 a_l1 = some (0, 0)) : go 28 26 [l0, .ref a_l1, l2, l3, l4] [.ref a_s0] w I L P = go 28 31 [l0, .ref a_l1, (fix1 l2), .ref a_s0, l4] [(va_rf (P a_l1 0))] w I L P := by
  refine (go_astore_n (m := 28) (pc := 26) (k := 3) (ls' := [l0, .ref a_l1, (fix1 l2), .ref a_s0, l4]) (by decide +kernel) (by simp only [List.length_cons, List.length_nil]; decide) rfl).trans ?_
  refine (go_aload_n (m := 28) (pc := 27) (k := 1) (by decide +kernel) rfl).trans ?_
  refine (go_getR (m := 28) (pc := 28) (o := 0) (x := 11) (ci := 0) (k := 0) (by decide +kernel) rfl f_0_11 rfl h0).trans ?_
  rfl
theorem Bus_copyFrom_31 (l0 : Value) (l1 : Value) (x_l2 : Int32) (l3 : Value) (l4 : Value) (a_s0 : Nat) (w : Wd) (I : MI) (L : ML) (P : MP) (h0 : inA w a_s0 11 x_l2) : go 28 31 [l0, l1, .int x_l2, l3, l4] [.ref a_s0] w I L P = go 28 33 [l0, l1, .int x_l2, l3, l4] [(va_rf (P a_s0 (Int32.toNatClampNeg x_l2)))] w I L P := by
  refine (go_iload_n (m := 28) (pc := 31) (k := 2) (by decide +kernel) rfl).trans ?_
  refine (go_aald11 (m := 28) (pc := 32) (by decide +kernel) h0).trans ?_
  rfl
theorem Bus_copyFrom_33_0 (l0 : Value) (l1 : Value) (l2 : Value) (l4 : Value) (w : Wd) (I : MI) (L : ML) (P : MP)  : go 28 33 [l0, l1, l2, .null, l4] [.null] w I L P = go 28 50 [l0, l1, l2, .null, .null] [] w I L P := by
  refine (go_astoreN (m := 28) (pc := 33) (k := 4) (ls' := [l0, l1, l2, .null, .null]) (by decide +kernel) (by simp only [List.length_cons, List.length_nil]; decide) rfl).trans ?_
  refine (go_aload_nN (m := 28) (pc := 35) (k := 3) (by decide +kernel) rfl).trans ?_
  exact go_ifnullN (m := 28) (pc := 36) (off := 14) (t := 50) (by decide +kernel) (by decide)
theorem Bus_copyFrom_33_1 (l0 : Value) (l1 : Value) (l2 : Value) (l4 : Value) (a_s0 : Nat) (w : Wd) (I : MI) (L : ML) (P : MP)  : go 28 33 [l0, l1, l2, .null, l4] [.ref a_s0] w I L P = go 28 50 [l0, l1, l2, .null, .ref a_s0] [] w I L P := by
  refine (go_astore (m := 28) (pc := 33) (k := 4) (ls' := [l0, l1, l2, .null, .ref a_s0]) (by decide +kernel) (by simp only [List.length_cons, List.length_nil]; decide) rfl).trans ?_
  refine (go_aload_nN (m := 28) (pc := 35) (k := 3) (by decide +kernel) rfl).trans ?_
  exact go_ifnullN (m := 28) (pc := 36) (off := 14) (t := 50) (by decide +kernel) (by decide)
theorem Bus_copyFrom_33_2 (l0 : Value) (l1 : Value) (l2 : Value) (a_l3 : Nat) (l4 : Value) (w : Wd) (I : MI) (L : ML) (P : MP)  : go 28 33 [l0, l1, l2, .ref a_l3, l4] [.null] w I L P = go 28 39 [l0, l1, l2, .ref a_l3, .null] [] w I L P := by
  refine (go_astoreN (m := 28) (pc := 33) (k := 4) (ls' := [l0, l1, l2, .ref a_l3, .null]) (by decide +kernel) (by simp only [List.length_cons, List.length_nil]; decide) rfl).trans ?_
  refine (go_aload_n (m := 28) (pc := 35) (k := 3) (by decide +kernel) rfl).trans ?_
  exact go_ifnullR (m := 28) (pc := 36) (off := 14) (by decide +kernel)
theorem Bus_copyFrom_33_3 (l0 : Value) (l1 : Value) (l2 : Value) (a_l3 : Nat) (l4 : Value) (a_s0 : Nat) (w : Wd) (I : MI) (L : ML) (P : MP)  : go 28 33 [l0, l1, l2, .ref a_l3, l4] [.ref a_s0] w I L P = go 28 39 [l0, l1, l2, .ref a_l3, .ref a_s0] [] w I L P := by
  refine (go_astore (m := 28) (pc := 33) (k := 4) (ls' := [l0, l1, l2, .ref a_l3, .ref a_s0]) (by decide +kernel) (by simp only [List.length_cons, List.length_nil]; decide) rfl).trans ?_
  refine (go_aload_n (m := 28) (pc := 35) (k := 3) (by decide +kernel) rfl).trans ?_
  exact go_ifnullR (m := 28) (pc := 36) (off := 14) (by decide +kernel)
theorem Bus_copyFrom_39_0 (l0 : Value) (l1 : Value) (l2 : Value) (l3 : Value) (w : Wd) (I : MI) (L : ML) (P : MP)  : go 28 39 [l0, l1, l2, l3, .null] [] w I L P = go 28 50 [l0, l1, l2, l3, .null] [] w I L P := by
  refine (go_aloadN (m := 28) (pc := 39) (k := 4) (by decide +kernel) rfl).trans ?_
  exact go_ifnullN (m := 28) (pc := 41) (off := 9) (t := 50) (by decide +kernel) (by decide)
theorem Bus_copyFrom_39_1 (l0 : Value) (l1 : Value) (l2 : Value) (l3 : Value) (a_l4 : Nat) (w : Wd) (I : MI) (L : ML) (P : MP)  : go 28 39 [l0, l1, l2, l3, .ref a_l4] [] w I L P = go 28 44 [l0, l1, l2, l3, .ref a_l4] [] w I L P := by
  refine (go_aload (m := 28) (pc := 39) (k := 4) (by decide +kernel) rfl).trans ?_
  exact go_ifnullR (m := 28) (pc := 41) (off := 9) (by decide +kernel)
theorem Bus_copyFrom_44_0 (l0 : Value) (l1 : Value) (l2 : Value) (a_l3 : Nat) (w : Wd) (I : MI) (L : ML) (P : MP) (h0 : w.1 a_l3 = some (1, 0)) : go 28 44 [l0, l1, l2, .ref a_l3, .null] [] w I L P = kC (call 6 [.ref a_l3, .null] w I L P) (fun v w1 I1 L1 P1 => go 28 50 [l0, l1, l2, .ref a_l3, .null] (v.toList ++ []) w1 I1 L1 P1) := by
  refine (go_aload_n (m := 28) (pc := 44) (k := 3) (by decide +kernel) rfl).trans ?_
  refine (go_aloadN (m := 28) (pc := 45) (k := 4) (by decide +kernel) rfl).trans ?_
  exact go_vir (m := 28) (pc := 47) (o := 0) (x := 67) (y := 6) (kd := 1) (b := a_l3) (bs := [.null]) (rs := []) (by decide +kernel) rfl rfl c_0_67 (Or.inr rfl) rfl rfl rfl (by decide +kernel) (by simp only [List.length_cons, List.length_nil]; decide) (Nat.le_of_ble_eq_true rfl) h0
theorem Bus_copyFrom_44_1 (l0 : Value) (l1 : Value) (l2 : Value) (a_l3 : Nat) (a_l4 : Nat) (w : Wd) (I : MI) (L : ML) (P : MP) (h0 : w.1 a_l3 = some (1, 0)) : go 28 44 [l0, l1, l2, .ref a_l3, .ref a_l4] [] w I L P = kC (call 6 [.ref a_l3, .ref a_l4] w I L P) (fun v w1 I1 L1 P1 => go 28 50 [l0, l1, l2, .ref a_l3, .ref a_l4] (v.toList ++ []) w1 I1 L1 P1) := by
  refine (go_aload_n (m := 28) (pc := 44) (k := 3) (by decide +kernel) rfl).trans ?_
  refine (go_aload (m := 28) (pc := 45) (k := 4) (by decide +kernel) rfl).trans ?_
  exact go_vir (m := 28) (pc := 47) (o := 0) (x := 67) (y := 6) (kd := 1) (b := a_l3) (bs := [.ref a_l4]) (rs := []) (by decide +kernel) rfl rfl c_0_67 (Or.inr rfl) rfl rfl rfl (by decide +kernel) (by simp only [List.length_cons, List.length_nil]; decide) (Nat.le_of_ble_eq_true rfl) h0
theorem Bus_copyFrom_50 (l0 : Value) (l1 : Value) (x_l2 : Int32) (l3 : Value) (l4 : Value) (w : Wd) (I : MI) (L : ML) (P : MP)  : go 28 50 [l0, l1, .int x_l2, l3, l4] [] w I L P = go 28 2 [l0, (fix1 l1), .int (x_l2 + (nI 1)), l3, l4] [] w I L P := by
  refine (go_iinc (m := 28) (pc := 50) (k := 2) (n := 1) (x := x_l2) (v := x_l2 + (nI 1)) (ls' := [l0, (fix1 l1), .int (x_l2 + (nI 1)), l3, l4]) (by decide +kernel) rfl (by rw [ic_1]) rfl).trans ?_
  refine (go_goto (m := 28) (pc := 53) (off := -51) (t := 2) (by decide +kernel) (by decide)).trans ?_
  rfl
theorem Bus_copyFrom_56 (l0 : Value) (l1 : Value) (l2 : Value) (l3 : Value) (l4 : Value) (w : Wd) (I : MI) (L : ML) (P : MP)  : go 28 56 [l0, l1, l2, l3, l4] [] w I L P = go 28 58 [l0, (fix1 l1), .int (nI 0), l3, l4] [] w I L P := by
  refine (go_ic (m := 28) (pc := 56) (n := 0) (by decide +kernel) ic_0).trans ?_
  refine (go_istore_n (m := 28) (pc := 57) (k := 2) (ls' := [l0, (fix1 l1), .int (nI 0), l3, l4]) (by decide +kernel) (by simp only [List.length_cons, List.length_nil]; decide) rfl).trans ?_
  rfl
theorem Bus_copyFrom_58 (a_l0 : Nat) (l1 : Value) (x_l2 : Int32) (l3 : Value) (l4 : Value) (w : Wd) (I : MI) (L : ML) (P : MP) (h0 : w.1 a_l0 = some (0, 0)) : go 28 58 [.ref a_l0, l1, .int x_l2, l3, l4] [] w I L P = go 28 63 [.ref a_l0, l1, .int x_l2, l3, l4] [(va_rf (P a_l0 2)), .int x_l2] w I L P := by
  refine (go_iload_n (m := 28) (pc := 58) (k := 2) (by decide +kernel) rfl).trans ?_
  refine (go_aload_n (m := 28) (pc := 59) (k := 0) (by decide +kernel) rfl).trans ?_
  refine (go_getR (m := 28) (pc := 60) (o := 0) (x := 23) (ci := 0) (k := 2) (by decide +kernel) rfl f_0_23 rfl h0).trans ?_
  rfl
theorem Bus_copyFrom_63 (l0 : Value) (l1 : Value) (l2 : Value) (l3 : Value) (l4 : Value) (y0 : Int32) (a_s1 : Nat) (w : Wd) (I : MI) (L : ML) (P : MP) (h0 : isAr w a_s1 12) : go 28 63 [l0, l1, l2, l3, l4] [.ref a_s1, .int y0] w I L P = if (alen w a_s1) ≤ y0 then go 28 112 [l0, l1, l2, l3, l4] [] w I L P else go 28 67 [l0, l1, l2, l3, l4] [] w I L P := by
  refine (go_alen12 (m := 28) (pc := 63) (by decide +kernel) h0).trans ?_
  exact go_icmpge (m := 28) (pc := 64) (off := 48) (t := 112) (by decide +kernel) (by decide)
theorem Bus_copyFrom_67 (l0 : Value) (a_l1 : Nat) (x_l2 : Int32) (l3 : Value) (l4 : Value) (w : Wd) (I : MI) (L : ML) (P : MP) (h0 : w.1 a_l1 = some (0, 0)) : go 28 67 [l0, .ref a_l1, .int x_l2, l3, l4] [] w I L P = go 28 72 [l0, .ref a_l1, .int x_l2, l3, l4] [(va_rf (P a_l1 2)), .int x_l2] w I L P := by
  refine (go_iload_n (m := 28) (pc := 67) (k := 2) (by decide +kernel) rfl).trans ?_
  refine (go_aload_n (m := 28) (pc := 68) (k := 1) (by decide +kernel) rfl).trans ?_
  refine (go_getR (m := 28) (pc := 69) (o := 0) (x := 23) (ci := 0) (k := 2) (by decide +kernel) rfl f_0_23 rfl h0).trans ?_
  rfl
theorem Bus_copyFrom_72 (l0 : Value) (l1 : Value) (l2 : Value) (l3 : Value) (l4 : Value) (y0 : Int32) (a_s1 : Nat) (w : Wd) (I : MI) (L : ML) (P : MP) (h0 : isAr w a_s1 12) : go 28 72 [l0, l1, l2, l3, l4] [.ref a_s1, .int y0] w I L P = if (alen w a_s1) ≤ y0 then go 28 112 [l0, l1, l2, l3, l4] [] w I L P else go 28 76 [l0, l1, l2, l3, l4] [] w I L P := by
  refine (go_alen12 (m := 28) (pc := 72) (by decide +kernel) h0).trans ?_
  exact go_icmpge (m := 28) (pc := 73) (off := 39) (t := 112) (by decide +kernel) (by decide)
theorem Bus_copyFrom_76 (a_l0 : Nat) (l1 : Value) (l2 : Value) (l3 : Value) (l4 : Value) (w : Wd) (I : MI) (L : ML) (P : MP) (h0 : w.1 a_l0 = some (0, 0)) : go 28 76 [.ref a_l0, l1, l2, l3, l4] [] w I L P = go 28 80 [.ref a_l0, l1, l2, l3, l4] [(va_rf (P a_l0 2))] w I L P := by
  refine (go_aload_n (m := 28) (pc := 76) (k := 0) (by decide +kernel) rfl).trans ?_
  refine (go_getR (m := 28) (pc := 77) (o := 0) (x := 23) (ci := 0) (k := 2) (by decide +kernel) rfl f_0_23 rfl h0).trans ?_
  rfl
theorem Bus_copyFrom_80 (l0 : Value) (l1 : Value) (x_l2 : Int32) (l3 : Value) (l4 : Value) (a_s0 : Nat) (w : Wd) (I : MI) (L : ML) (P : MP) (h0 : inA w a_s0 12 x_l2) : go 28 80 [l0, l1, .int x_l2, l3, l4] [.ref a_s0] w I L P = go 28 82 [l0, l1, .int x_l2, l3, l4] [(va_rf (P a_s0 (Int32.toNatClampNeg x_l2)))] w I L P := by
  refine (go_iload_n (m := 28) (pc := 80) (k := 2) (by decide +kernel) rfl).trans ?_
  refine (go_aald12 (m := 28) (pc := 81) (by decide +kernel) h0).trans ?_
  rfl
theorem Bus_copyFrom_82_0 (l0 : Value) (a_l1 : Nat) (l2 : Value) (l3 : Value) (l4 : Value) (w : Wd) (I : MI) (L : ML) (P : MP) (h0 : w.1 a_l1 = some (0, 0)) : go 28 82 [l0, .ref a_l1, l2, l3, l4] [.null] w I L P = go 28 87 [l0, .ref a_l1, (fix1 l2), .null, l4] [(va_rf (P a_l1 2))] w I L P := by
  refine (go_astore_nN (m := 28) (pc := 82) (k := 3) (ls' := [l0, .ref a_l1, (fix1 l2), .null, l4]) (by decide +kernel) (by simp only [List.length_cons, List.length_nil]; decide) rfl).trans ?_
  refine (go_aload_n (m := 28) (pc := 83) (k := 1) (by decide +kernel) rfl).trans ?_
  refine (go_getR (m := 28) (pc := 84) (o := 0) (x := 23) (ci := 0) (k := 2) (by decide +kernel) rfl f_0_23 rfl h0).trans ?_
  rfl
theorem Bus_copyFrom_82_1 (l0 : Value) (a_l1 : Nat) (l2 : Value) (l3 : Value) (l4 : Value) (a_s0 : Nat) (w : Wd) (I : MI) (L : ML) (P : MP) (h0 : w.1 a_l1 = some (0, 0)) : go 28 82 [l0, .ref a_l1, l2, l3, l4] [.ref a_s0] w I L P = go 28 87 [l0, .ref a_l1, (fix1 l2), .ref a_s0, l4] [(va_rf (P a_l1 2))] w I L P := by
  refine (go_astore_n (m := 28) (pc := 82) (k := 3) (ls' := [l0, .ref a_l1, (fix1 l2), .ref a_s0, l4]) (by decide +kernel) (by simp only [List.length_cons, List.length_nil]; decide) rfl).trans ?_
  refine (go_aload_n (m := 28) (pc := 83) (k := 1) (by decide +kernel) rfl).trans ?_
  refine (go_getR (m := 28) (pc := 84) (o := 0) (x := 23) (ci := 0) (k := 2) (by decide +kernel) rfl f_0_23 rfl h0).trans ?_
  rfl
theorem Bus_copyFrom_87 (l0 : Value) (l1 : Value) (x_l2 : Int32) (l3 : Value) (l4 : Value) (a_s0 : Nat) (w : Wd) (I : MI) (L : ML) (P : MP) (h0 : inA w a_s0 12 x_l2) : go 28 87 [l0, l1, .int x_l2, l3, l4] [.ref a_s0] w I L P = go 28 89 [l0, l1, .int x_l2, l3, l4] [(va_rf (P a_s0 (Int32.toNatClampNeg x_l2)))] w I L P := by
  refine (go_iload_n (m := 28) (pc := 87) (k := 2) (by decide +kernel) rfl).trans ?_
  refine (go_aald12 (m := 28) (pc := 88) (by decide +kernel) h0).trans ?_
  rfl
theorem Bus_copyFrom_89_0 (l0 : Value) (l1 : Value) (l2 : Value) (l4 : Value) (w : Wd) (I : MI) (L : ML) (P : MP)  : go 28 89 [l0, l1, l2, .null, l4] [.null] w I L P = go 28 106 [l0, l1, l2, .null, .null] [] w I L P := by
  refine (go_astoreN (m := 28) (pc := 89) (k := 4) (ls' := [l0, l1, l2, .null, .null]) (by decide +kernel) (by simp only [List.length_cons, List.length_nil]; decide) rfl).trans ?_
  refine (go_aload_nN (m := 28) (pc := 91) (k := 3) (by decide +kernel) rfl).trans ?_
  exact go_ifnullN (m := 28) (pc := 92) (off := 14) (t := 106) (by decide +kernel) (by decide)
theorem Bus_copyFrom_89_1 (l0 : Value) (l1 : Value) (l2 : Value) (l4 : Value) (a_s0 : Nat) (w : Wd) (I : MI) (L : ML) (P : MP)  : go 28 89 [l0, l1, l2, .null, l4] [.ref a_s0] w I L P = go 28 106 [l0, l1, l2, .null, .ref a_s0] [] w I L P := by
  refine (go_astore (m := 28) (pc := 89) (k := 4) (ls' := [l0, l1, l2, .null, .ref a_s0]) (by decide +kernel) (by simp only [List.length_cons, List.length_nil]; decide) rfl).trans ?_
  refine (go_aload_nN (m := 28) (pc := 91) (k := 3) (by decide +kernel) rfl).trans ?_
  exact go_ifnullN (m := 28) (pc := 92) (off := 14) (t := 106) (by decide +kernel) (by decide)
theorem Bus_copyFrom_89_2 (l0 : Value) (l1 : Value) (l2 : Value) (a_l3 : Nat) (l4 : Value) (w : Wd) (I : MI) (L : ML) (P : MP)  : go 28 89 [l0, l1, l2, .ref a_l3, l4] [.null] w I L P = go 28 95 [l0, l1, l2, .ref a_l3, .null] [] w I L P := by
  refine (go_astoreN (m := 28) (pc := 89) (k := 4) (ls' := [l0, l1, l2, .ref a_l3, .null]) (by decide +kernel) (by simp only [List.length_cons, List.length_nil]; decide) rfl).trans ?_
  refine (go_aload_n (m := 28) (pc := 91) (k := 3) (by decide +kernel) rfl).trans ?_
  exact go_ifnullR (m := 28) (pc := 92) (off := 14) (by decide +kernel)
theorem Bus_copyFrom_89_3 (l0 : Value) (l1 : Value) (l2 : Value) (a_l3 : Nat) (l4 : Value) (a_s0 : Nat) (w : Wd) (I : MI) (L : ML) (P : MP)  : go 28 89 [l0, l1, l2, .ref a_l3, l4] [.ref a_s0] w I L P = go 28 95 [l0, l1, l2, .ref a_l3, .ref a_s0] [] w I L P := by
  refine (go_astore (m := 28) (pc := 89) (k := 4) (ls' := [l0, l1, l2, .ref a_l3, .ref a_s0]) (by decide +kernel) (by simp only [List.length_cons, List.length_nil]; decide) rfl).trans ?_
  refine (go_aload_n (m := 28) (pc := 91) (k := 3) (by decide +kernel) rfl).trans ?_
  exact go_ifnullR (m := 28) (pc := 92) (off := 14) (by decide +kernel)
theorem Bus_copyFrom_95_0 (l0 : Value) (l1 : Value) (l2 : Value) (l3 : Value) (w : Wd) (I : MI) (L : ML) (P : MP)  : go 28 95 [l0, l1, l2, l3, .null] [] w I L P = go 28 106 [l0, l1, l2, l3, .null] [] w I L P := by
  refine (go_aloadN (m := 28) (pc := 95) (k := 4) (by decide +kernel) rfl).trans ?_
  exact go_ifnullN (m := 28) (pc := 97) (off := 9) (t := 106) (by decide +kernel) (by decide)
theorem Bus_copyFrom_95_1 (l0 : Value) (l1 : Value) (l2 : Value) (l3 : Value) (a_l4 : Nat) (w : Wd) (I : MI) (L : ML) (P : MP)  : go 28 95 [l0, l1, l2, l3, .ref a_l4] [] w I L P = go 28 100 [l0, l1, l2, l3, .ref a_l4] [] w I L P := by
  refine (go_aload (m := 28) (pc := 95) (k := 4) (by decide +kernel) rfl).trans ?_
  exact go_ifnullR (m := 28) (pc := 97) (off := 9) (by decide +kernel)
theorem Bus_copyFrom_100_0 (l0 : Value) (l1 : Value) (l2 : Value) (a_l3 : Nat) (w : Wd) (I : MI) (L : ML) (P : MP) (h0 : w.1 a_l3 = some (2, 0)) : go 28 100 [l0, l1, l2, .ref a_l3, .null] [] w I L P = kC (call 15 [.ref a_l3, .null] w I L P) (fun v w1 I1 L1 P1 => go 28 106 [l0, l1, l2, .ref a_l3, .null] (v.toList ++ []) w1 I1 L1 P1) := by
  refine (go_aload_n (m := 28) (pc := 100) (k := 3) (by decide +kernel) rfl).trans ?_
  refine (go_aloadN (m := 28) (pc := 101) (k := 4) (by decide +kernel) rfl).trans ?_
  exact go_vir (m := 28) (pc := 103) (o := 0) (x := 71) (y := 15) (kd := 1) (b := a_l3) (bs := [.null]) (rs := []) (by decide +kernel) rfl rfl c_0_71 (Or.inr rfl) rfl rfl rfl (by decide +kernel) (by simp only [List.length_cons, List.length_nil]; decide) (Nat.le_of_ble_eq_true rfl) h0
theorem Bus_copyFrom_100_1 (l0 : Value) (l1 : Value) (l2 : Value) (a_l3 : Nat) (a_l4 : Nat) (w : Wd) (I : MI) (L : ML) (P : MP) (h0 : w.1 a_l3 = some (2, 0)) : go 28 100 [l0, l1, l2, .ref a_l3, .ref a_l4] [] w I L P = kC (call 15 [.ref a_l3, .ref a_l4] w I L P) (fun v w1 I1 L1 P1 => go 28 106 [l0, l1, l2, .ref a_l3, .ref a_l4] (v.toList ++ []) w1 I1 L1 P1) := by
  refine (go_aload_n (m := 28) (pc := 100) (k := 3) (by decide +kernel) rfl).trans ?_
  refine (go_aload (m := 28) (pc := 101) (k := 4) (by decide +kernel) rfl).trans ?_
  exact go_vir (m := 28) (pc := 103) (o := 0) (x := 71) (y := 15) (kd := 1) (b := a_l3) (bs := [.ref a_l4]) (rs := []) (by decide +kernel) rfl rfl c_0_71 (Or.inr rfl) rfl rfl rfl (by decide +kernel) (by simp only [List.length_cons, List.length_nil]; decide) (Nat.le_of_ble_eq_true rfl) h0
theorem Bus_copyFrom_106 (l0 : Value) (l1 : Value) (x_l2 : Int32) (l3 : Value) (l4 : Value) (w : Wd) (I : MI) (L : ML) (P : MP)  : go 28 106 [l0, l1, .int x_l2, l3, l4] [] w I L P = go 28 58 [l0, (fix1 l1), .int (x_l2 + (nI 1)), l3, l4] [] w I L P := by
  refine (go_iinc (m := 28) (pc := 106) (k := 2) (n := 1) (x := x_l2) (v := x_l2 + (nI 1)) (ls' := [l0, (fix1 l1), .int (x_l2 + (nI 1)), l3, l4]) (by decide +kernel) rfl (by rw [ic_1]) rfl).trans ?_
  refine (go_goto (m := 28) (pc := 109) (off := -51) (t := 58) (by decide +kernel) (by decide)).trans ?_
  rfl
theorem Bus_copyFrom_112 (a_l0 : Nat) (a_l1 : Nat) (l2 : Value) (l3 : Value) (l4 : Value) (w : Wd) (I : MI) (L : ML) (P : MP) (h0 : w.1 a_l1 = some (0, 0)) (h1 : w.1 a_l0 = some (0, 0)) : go 28 112 [.ref a_l0, .ref a_l1, l2, l3, l4] [] w I L P = go 28 140 [.ref a_l0, .ref a_l1, l2, l3, l4] [(va_rf (P a_l0 5))] w (updI (updI (updI I a_l0 1 (I a_l1 1)) a_l0 3 ((updI I a_l0 1 (I a_l1 1)) a_l1 3)) a_l0 4 ((updI (updI I a_l0 1 (I a_l1 1)) a_l0 3 ((updI I a_l0 1 (I a_l1 1)) a_l1 3)) a_l1 4)) L P := by
  refine (go_aload_n (m := 28) (pc := 112) (k := 0) (by decide +kernel) rfl).trans ?_
  refine (go_aload_n (m := 28) (pc := 113) (k := 1) (by decide +kernel) rfl).trans ?_
  refine (go_getI (m := 28) (pc := 114) (o := 0) (x := 17) (ci := 0) (k := 1) (by decide +kernel) rfl f_0_17 rfl h0).trans ?_
  refine (go_putI (m := 28) (pc := 117) (o := 0) (x := 17) (ci := 0) (k := 1) (by decide +kernel) rfl f_0_17 rfl (by decide +kernel) h1).trans ?_
  refine (go_aload_n (m := 28) (pc := 120) (k := 0) (by decide +kernel) rfl).trans ?_
  refine (go_aload_n (m := 28) (pc := 121) (k := 1) (by decide +kernel) rfl).trans ?_
  refine (go_getI (m := 28) (pc := 122) (o := 0) (x := 27) (ci := 0) (k := 3) (by decide +kernel) rfl f_0_27 rfl h0).trans ?_
  refine (go_putI (m := 28) (pc := 125) (o := 0) (x := 27) (ci := 0) (k := 3) (by decide +kernel) rfl f_0_27 rfl (by decide +kernel) h1).trans ?_
  refine (go_aload_n (m := 28) (pc := 128) (k := 0) (by decide +kernel) rfl).trans ?_
  refine (go_aload_n (m := 28) (pc := 129) (k := 1) (by decide +kernel) rfl).trans ?_
  refine (go_getI (m := 28) (pc := 130) (o := 0) (x := 30) (ci := 0) (k := 4) (by decide +kernel) rfl f_0_30 rfl h0).trans ?_
  refine (go_putI (m := 28) (pc := 133) (o := 0) (x := 30) (ci := 0) (k := 4) (by decide +kernel) rfl f_0_30 rfl (by decide +kernel) h1).trans ?_
  refine (go_aload_n (m := 28) (pc := 136) (k := 0) (by decide +kernel) rfl).trans ?_
  refine (go_getR (m := 28) (pc := 137) (o := 0) (x := 36) (ci := 0) (k := 5) (by decide +kernel) rfl f_0_36 rfl h1).trans ?_
  rfl
theorem Bus_copyFrom_140 (l0 : Value) (a_l1 : Nat) (l2 : Value) (l3 : Value) (l4 : Value) (v0 : Value) (w : Wd) (I : MI) (L : ML) (P : MP) (h0 : w.1 a_l1 = some (0, 0)) : go 28 140 [l0, .ref a_l1, l2, l3, l4] [v0] w I L P = go 28 144 [l0, .ref a_l1, l2, l3, l4] [(va_rf (P a_l1 5)), v0] w I L P := by
  refine (go_aload_n (m := 28) (pc := 140) (k := 1) (by decide +kernel) rfl).trans ?_
  refine (go_getR (m := 28) (pc := 141) (o := 0) (x := 36) (ci := 0) (k := 5) (by decide +kernel) rfl f_0_36 rfl h0).trans ?_
  rfl
theorem Bus_copyFrom_144_0 (l0 : Value) (l1 : Value) (l2 : Value) (l3 : Value) (l4 : Value) (a_s0 : Nat) (w : Wd) (I : MI) (L : ML) (P : MP) (h0 : w.1 a_s0 = some (5, 0)) : go 28 144 [l0, l1, l2, l3, l4] [.null, .ref a_s0] w I L P = kC (call 22 [.ref a_s0, .null] w I L P) (fun v w1 I1 L1 P1 => go 28 147 [l0, l1, l2, l3, l4] (v.toList ++ []) w1 I1 L1 P1) := by
  exact go_vir (m := 28) (pc := 144) (o := 0) (x := 74) (y := 22) (kd := 1) (b := a_s0) (bs := [.null]) (rs := []) (by decide +kernel) rfl rfl c_0_74 (Or.inr rfl) rfl rfl rfl (by decide +kernel) (by simp only [List.length_cons, List.length_nil]; decide) (Nat.le_of_ble_eq_true rfl) h0
theorem Bus_copyFrom_144_1 (l0 : Value) (l1 : Value) (l2 : Value) (l3 : Value) (l4 : Value) (a_s0 : Nat) (a_s1 : Nat) (w : Wd) (I : MI) (L : ML) (P : MP) (h0 : w.1 a_s0 = some (5, 0)) : go 28 144 [l0, l1, l2, l3, l4] [.ref a_s1, .ref a_s0] w I L P = kC (call 22 [.ref a_s0, .ref a_s1] w I L P) (fun v w1 I1 L1 P1 => go 28 147 [l0, l1, l2, l3, l4] (v.toList ++ []) w1 I1 L1 P1) := by
  exact go_vir (m := 28) (pc := 144) (o := 0) (x := 74) (y := 22) (kd := 1) (b := a_s0) (bs := [.ref a_s1]) (rs := []) (by decide +kernel) rfl rfl c_0_74 (Or.inr rfl) rfl rfl rfl (by decide +kernel) (by simp only [List.length_cons, List.length_nil]; decide) (Nat.le_of_ble_eq_true rfl) h0
theorem Bus_copyFrom_147_0 (a_l0 : Nat) (l2 : Value) (l3 : Value) (l4 : Value) (w : Wd) (I : MI) (L : ML) (P : MP) (h0 : w.1 a_l0 = some (0, 0)) : go 28 147 [.ref a_l0, .null, l2, l3, l4] [] w I L P = kC (call 29 [.ref a_l0, .null] w I L P) (fun v w1 I1 L1 P1 => go 28 152 [.ref a_l0, .null, l2, l3, l4] (v.toList ++ []) w1 I1 L1 P1) := by
  refine (go_aload_n (m := 28) (pc := 147) (k := 0) (by decide +kernel) rfl).trans ?_
  refine (go_aload_nN (m := 28) (pc := 148) (k := 1) (by decide +kernel) rfl).trans ?_
  exact go_vir (m := 28) (pc := 149) (o := 0) (x := 77) (y := 29) (kd := 0) (b := a_l0) (bs := [.null]) (rs := []) (by decide +kernel) rfl rfl c_0_77 (Or.inl rfl) rfl rfl rfl (by decide +kernel) (by simp only [List.length_cons, List.length_nil]; decide) (Nat.le_of_ble_eq_true rfl) h0
theorem Bus_copyFrom_147_1 (a_l0 : Nat) (a_l1 : Nat) (l2 : Value) (l3 : Value) (l4 : Value) (w : Wd) (I : MI) (L : ML) (P : MP) (h0 : w.1 a_l0 = some (0, 0)) : go 28 147 [.ref a_l0, .ref a_l1, l2, l3, l4] [] w I L P = kC (call 29 [.ref a_l0, .ref a_l1] w I L P) (fun v w1 I1 L1 P1 => go 28 152 [.ref a_l0, .ref a_l1, l2, l3, l4] (v.toList ++ []) w1 I1 L1 P1) := by
  refine (go_aload_n (m := 28) (pc := 147) (k := 0) (by decide +kernel) rfl).trans ?_
  refine (go_aload_n (m := 28) (pc := 148) (k := 1) (by decide +kernel) rfl).trans ?_
  exact go_vir (m := 28) (pc := 149) (o := 0) (x := 77) (y := 29) (kd := 0) (b := a_l0) (bs := [.ref a_l1]) (rs := []) (by decide +kernel) rfl rfl c_0_77 (Or.inl rfl) rfl rfl rfl (by decide +kernel) (by simp only [List.length_cons, List.length_nil]; decide) (Nat.le_of_ble_eq_true rfl) h0
theorem Bus_copyFrom_152 (l0 : Value) (l1 : Value) (l2 : Value) (l3 : Value) (l4 : Value) (w : Wd) (I : MI) (L : ML) (P : MP)  : go 28 152 [l0, l1, l2, l3, l4] [] w I L P = some (.inl none, w, I, L, P) := by
  exact go_retV (m := 28) (pc := 152) (by decide +kernel) rfl
theorem Bus_copyFrom_E (this : Nat) (p0 : Nat) (w : Wd) (I : MI) (L : ML) (P : MP) : call 28 [.ref this, .ref p0] w I L P = go 28 0 [.ref this, .ref p0, unk, unk, unk] [] w I L P := rfl
theorem Bus_copyFrom_E1 (this : Nat) (w : Wd) (I : MI) (L : ML) (P : MP) : call 28 [.ref this, .null] w I L P = go 28 0 [.ref this, .null, unk, unk, unk] [] w I L P := rfl
theorem Bus_copyTransfer_0 (a_l0 : Nat) (a_l1 : Nat) (w : Wd) (I : MI) (L : ML) (P : MP) (h0 : w.1 a_l1 = some (0, 0)) (h1 : w.1 a_l0 = some (0, 0)) (h2 : ((updI (updI (updI I a_l0 6 (I a_l1 6)) a_l0 7 ((updI I a_l0 6 (I a_l1 6)) a_l1 7)) a_l0 8 ((updI (updI I a_l0 6 (I a_l1 6)) a_l0 7 ((updI I a_l0 6 (I a_l1 6)) a_l1 7)) a_l1 8)) a_l1 9 &&& 1) &&& 1 = ((updI (updI (updI I a_l0 6 (I a_l1 6)) a_l0 7 ((updI I a_l0 6 (I a_l1 6)) a_l1 7)) a_l0 8 ((updI (updI I a_l0 6 (I a_l1 6)) a_l0 7 ((updI I a_l0 6 (I a_l1 6)) a_l1 7)) a_l1 8)) a_l1 9 &&& 1)) : go 29 0 [.ref a_l0, .ref a_l1] [] w I L P = some (.inl none, w, (updI (updI (updI (updI (updI (updI (updI (updI I a_l0 6 (I a_l1 6)) a_l0 7 ((updI I a_l0 6 (I a_l1 6)) a_l1 7)) a_l0 8 ((updI (updI I a_l0 6 (I a_l1 6)) a_l0 7 ((updI I a_l0 6 (I a_l1 6)) a_l1 7)) a_l1 8)) a_l0 9 ((updI (updI (updI I a_l0 6 (I a_l1 6)) a_l0 7 ((updI I a_l0 6 (I a_l1 6)) a_l1 7)) a_l0 8 ((updI (updI I a_l0 6 (I a_l1 6)) a_l0 7 ((updI I a_l0 6 (I a_l1 6)) a_l1 7)) a_l1 8)) a_l1 9 &&& 1)) a_l0 10 ((updI (updI (updI (updI I a_l0 6 (I a_l1 6)) a_l0 7 ((updI I a_l0 6 (I a_l1 6)) a_l1 7)) a_l0 8 ((updI (updI I a_l0 6 (I a_l1 6)) a_l0 7 ((updI I a_l0 6 (I a_l1 6)) a_l1 7)) a_l1 8)) a_l0 9 ((updI (updI (updI I a_l0 6 (I a_l1 6)) a_l0 7 ((updI I a_l0 6 (I a_l1 6)) a_l1 7)) a_l0 8 ((updI (updI I a_l0 6 (I a_l1 6)) a_l0 7 ((updI I a_l0 6 (I a_l1 6)) a_l1 7)) a_l1 8)) a_l1 9 &&& 1)) a_l1 10)) a_l0 11 ((updI (updI (updI (updI (updI I a_l0 6 (I a_l1 6)) a_l0 7 ((updI I a_l0 6 (I a_l1 6)) a_l1 7)) a_l0 8 ((updI (updI I a_l0 6 (I a_l1 6)) a_l0 7 ((updI I a_l0 6 (I a_l1 6)) a_l1 7)) a_l1 8)) a_l0 9 ((updI (updI (updI I a_l0 6 (I a_l1 6)) a_l0 7 ((updI I a_l0 6 (I a_l1 6)) a_l1 7)) a_l0 8 ((updI (updI I a_l0 6 (I a_l1 6)) a_l0 7 ((updI I a_l0 6 (I a_l1 6)) a_l1 7)) a_l1 8)) a_l1 9 &&& 1)) a_l0 10 ((updI (updI (updI (updI I a_l0 6 (I a_l1 6)) a_l0 7 ((updI I a_l0 6 (I a_l1 6)) a_l1 7)) a_l0 8 ((updI (updI I a_l0 6 (I a_l1 6)) a_l0 7 ((updI I a_l0 6 (I a_l1 6)) a_l1 7)) a_l1 8)) a_l0 9 ((updI (updI (updI I a_l0 6 (I a_l1 6)) a_l0 7 ((updI I a_l0 6 (I a_l1 6)) a_l1 7)) a_l0 8 ((updI (updI I a_l0 6 (I a_l1 6)) a_l0 7 ((updI I a_l0 6 (I a_l1 6)) a_l1 7)) a_l1 8)) a_l1 9 &&& 1)) a_l1 10)) a_l1 11)) a_l0 12 ((updI (updI (updI (updI (updI (updI I a_l0 6 (I a_l1 6)) a_l0 7 ((updI I a_l0 6 (I a_l1 6)) a_l1 7)) a_l0 8 ((updI (updI I a_l0 6 (I a_l1 6)) a_l0 7 ((updI I a_l0 6 (I a_l1 6)) a_l1 7)) a_l1 8)) a_l0 9 ((updI (updI (updI I a_l0 6 (I a_l1 6)) a_l0 7 ((updI I a_l0 6 (I a_l1 6)) a_l1 7)) a_l0 8 ((updI (updI I a_l0 6 (I a_l1 6)) a_l0 7 ((updI I a_l0 6 (I a_l1 6)) a_l1 7)) a_l1 8)) a_l1 9 &&& 1)) a_l0 10 ((updI (updI (updI (updI I a_l0 6 (I a_l1 6)) a_l0 7 ((updI I a_l0 6 (I a_l1 6)) a_l1 7)) a_l0 8 ((updI (updI I a_l0 6 (I a_l1 6)) a_l0 7 ((updI I a_l0 6 (I a_l1 6)) a_l1 7)) a_l1 8)) a_l0 9 ((updI (updI (updI I a_l0 6 (I a_l1 6)) a_l0 7 ((updI I a_l0 6 (I a_l1 6)) a_l1 7)) a_l0 8 ((updI (updI I a_l0 6 (I a_l1 6)) a_l0 7 ((updI I a_l0 6 (I a_l1 6)) a_l1 7)) a_l1 8)) a_l1 9 &&& 1)) a_l1 10)) a_l0 11 ((updI (updI (updI (updI (updI I a_l0 6 (I a_l1 6)) a_l0 7 ((updI I a_l0 6 (I a_l1 6)) a_l1 7)) a_l0 8 ((updI (updI I a_l0 6 (I a_l1 6)) a_l0 7 ((updI I a_l0 6 (I a_l1 6)) a_l1 7)) a_l1 8)) a_l0 9 ((updI (updI (updI I a_l0 6 (I a_l1 6)) a_l0 7 ((updI I a_l0 6 (I a_l1 6)) a_l1 7)) a_l0 8 ((updI (updI I a_l0 6 (I a_l1 6)) a_l0 7 ((updI I a_l0 6 (I a_l1 6)) a_l1 7)) a_l1 8)) a_l1 9 &&& 1)) a_l0 10 ((updI (updI (updI (updI I a_l0 6 (I a_l1 6)) a_l0 7 ((updI I a_l0 6 (I a_l1 6)) a_l1 7)) a_l0 8 ((updI (updI I a_l0 6 (I a_l1 6)) a_l0 7 ((updI I a_l0 6 (I a_l1 6)) a_l1 7)) a_l1 8)) a_l0 9 ((updI (updI (updI I a_l0 6 (I a_l1 6)) a_l0 7 ((updI I a_l0 6 (I a_l1 6)) a_l1 7)) a_l0 8 ((updI (updI I a_l0 6 (I a_l1 6)) a_l0 7 ((updI I a_l0 6 (I a_l1 6)) a_l1 7)) a_l1 8)) a_l1 9 &&& 1)) a_l1 10)) a_l1 11)) a_l1 12)) a_l0 13 ((updI (updI (updI (updI (updI (updI (updI I a_l0 6 (I a_l1 6)) a_l0 7 ((updI I a_l0 6 (I a_l1 6)) a_l1 7)) a_l0 8 ((updI (updI I a_l0 6 (I a_l1 6)) a_l0 7 ((updI I a_l0 6 (I a_l1 6)) a_l1 7)) a_l1 8)) a_l0 9 ((updI (updI (updI I a_l0 6 (I a_l1 6)) a_l0 7 ((updI I a_l0 6 (I a_l1 6)) a_l1 7)) a_l0 8 ((updI (updI I a_l0 6 (I a_l1 6)) a_l0 7 ((updI I a_l0 6 (I a_l1 6)) a_l1 7)) a_l1 8)) a_l1 9 &&& 1)) a_l0 10 ((updI (updI (updI (updI I a_l0 6 (I a_l1 6)) a_l0 7 ((updI I a_l0 6 (I a_l1 6)) a_l1 7)) a_l0 8 ((updI (updI I a_l0 6 (I a_l1 6)) a_l0 7 ((updI I a_l0 6 (I a_l1 6)) a_l1 7)) a_l1 8)) a_l0 9 ((updI (updI (updI I a_l0 6 (I a_l1 6)) a_l0 7 ((updI I a_l0 6 (I a_l1 6)) a_l1 7)) a_l0 8 ((updI (updI I a_l0 6 (I a_l1 6)) a_l0 7 ((updI I a_l0 6 (I a_l1 6)) a_l1 7)) a_l1 8)) a_l1 9 &&& 1)) a_l1 10)) a_l0 11 ((updI (updI (updI (updI (updI I a_l0 6 (I a_l1 6)) a_l0 7 ((updI I a_l0 6 (I a_l1 6)) a_l1 7)) a_l0 8 ((updI (updI I a_l0 6 (I a_l1 6)) a_l0 7 ((updI I a_l0 6 (I a_l1 6)) a_l1 7)) a_l1 8)) a_l0 9 ((updI (updI (updI I a_l0 6 (I a_l1 6)) a_l0 7 ((updI I a_l0 6 (I a_l1 6)) a_l1 7)) a_l0 8 ((updI (updI I a_l0 6 (I a_l1 6)) a_l0 7 ((updI I a_l0 6 (I a_l1 6)) a_l1 7)) a_l1 8)) a_l1 9 &&& 1)) a_l0 10 ((updI (updI (updI (updI I a_l0 6 (I a_l1 6)) a_l0 7 ((updI I a_l0 6 (I a_l1 6)) a_l1 7)) a_l0 8 ((updI (updI I a_l0 6 (I a_l1 6)) a_l0 7 ((updI I a_l0 6 (I a_l1 6)) a_l1 7)) a_l1 8)) a_l0 9 ((updI (updI (updI I a_l0 6 (I a_l1 6)) a_l0 7 ((updI I a_l0 6 (I a_l1 6)) a_l1 7)) a_l0 8 ((updI (updI I a_l0 6 (I a_l1 6)) a_l0 7 ((updI I a_l0 6 (I a_l1 6)) a_l1 7)) a_l1 8)) a_l1 9 &&& 1)) a_l1 10)) a_l1 11)) a_l0 12 ((updI (updI (updI (updI (updI (updI I a_l0 6 (I a_l1 6)) a_l0 7 ((updI I a_l0 6 (I a_l1 6)) a_l1 7)) a_l0 8 ((updI (updI I a_l0 6 (I a_l1 6)) a_l0 7 ((updI I a_l0 6 (I a_l1 6)) a_l1 7)) a_l1 8)) a_l0 9 ((updI (updI (updI I a_l0 6 (I a_l1 6)) a_l0 7 ((updI I a_l0 6 (I a_l1 6)) a_l1 7)) a_l0 8 ((updI (updI I a_l0 6 (I a_l1 6)) a_l0 7 ((updI I a_l0 6 (I a_l1 6)) a_l1 7)) a_l1 8)) a_l1 9 &&& 1)) a_l0 10 ((updI (updI (updI (updI I a_l0 6 (I a_l1 6)) a_l0 7 ((updI I a_l0 6 (I a_l1 6)) a_l1 7)) a_l0 8 ((updI (updI I a_l0 6 (I a_l1 6)) a_l0 7 ((updI I a_l0 6 (I a_l1 6)) a_l1 7)) a_l1 8)) a_l0 9 ((updI (updI (updI I a_l0 6 (I a_l1 6)) a_l0 7 ((updI I a_l0 6 (I a_l1 6)) a_l1 7)) a_l0 8 ((updI (updI I a_l0 6 (I a_l1 6)) a_l0 7 ((updI I a_l0 6 (I a_l1 6)) a_l1 7)) a_l1 8)) a_l1 9 &&& 1)) a_l1 10)) a_l0 11 ((updI (updI (updI (updI (updI I a_l0 6 (I a_l1 6)) a_l0 7 ((updI I a_l0 6 (I a_l1 6)) a_l1 7)) a_l0 8 ((updI (updI I a_l0 6 (I a_l1 6)) a_l0 7 ((updI I a_l0 6 (I a_l1 6)) a_l1 7)) a_l1 8)) a_l0 9 ((updI (updI (updI I a_l0 6 (I a_l1 6)) a_l0 7 ((updI I a_l0 6 (I a_l1 6)) a_l1 7)) a_l0 8 ((updI (updI I a_l0 6 (I a_l1 6)) a_l0 7 ((updI I a_l0 6 (I a_l1 6)) a_l1 7)) a_l1 8)) a_l1 9 &&& 1)) a_l0 10 ((updI (updI (updI (updI I a_l0 6 (I a_l1 6)) a_l0 7 ((updI I a_l0 6 (I a_l1 6)) a_l1 7)) a_l0 8 ((updI (updI I a_l0 6 (I a_l1 6)) a_l0 7 ((updI I a_l0 6 (I a_l1 6)) a_l1 7)) a_l1 8)) a_l0 9 ((updI (updI (updI I a_l0 6 (I a_l1 6)) a_l0 7 ((updI I a_l0 6 (I a_l1 6)) a_l1 7)) a_l0 8 ((updI (updI I a_l0 6 (I a_l1 6)) a_l0 7 ((updI I a_l0 6 (I a_l1 6)) a_l1 7)) a_l1 8)) a_l1 9 &&& 1)) a_l1 10)) a_l1 11)) a_l1 12)) a_l1 13)), L, P) := by
  refine (go_aload_n (m := 29) (pc := 0) (k := 0) (by decide +kernel) rfl).trans ?_
  refine (go_aload_n (m := 29) (pc := 1) (k := 1) (by decide +kernel) rfl).trans ?_
  refine (go_getI (m := 29) (pc := 2) (o := 0) (x := 40) (ci := 0) (k := 6) (by decide +kernel) rfl f_0_40 rfl h0).trans ?_
  refine (go_putI (m := 29) (pc := 5) (o := 0) (x := 40) (ci := 0) (k := 6) (by decide +kernel) rfl f_0_40 rfl (by decide +kernel) h1).trans ?_
  refine (go_aload_n (m := 29) (pc := 8) (k := 0) (by decide +kernel) rfl).trans ?_
  refine (go_aload_n (m := 29) (pc := 9) (k := 1) (by decide +kernel) rfl).trans ?_
  refine (go_getI (m := 29) (pc := 10) (o := 0) (x := 43) (ci := 0) (k := 7) (by decide +kernel) rfl f_0_43 rfl h0).trans ?_
  refine (go_putI (m := 29) (pc := 13) (o := 0) (x := 43) (ci := 0) (k := 7) (by decide +kernel) rfl f_0_43 rfl (by decide +kernel) h1).trans ?_
  refine (go_aload_n (m := 29) (pc := 16) (k := 0) (by decide +kernel) rfl).trans ?_
  refine (go_aload_n (m := 29) (pc := 17) (k := 1) (by decide +kernel) rfl).trans ?_
  refine (go_getI (m := 29) (pc := 18) (o := 0) (x := 46) (ci := 0) (k := 8) (by decide +kernel) rfl f_0_46 rfl h0).trans ?_
  refine (go_putI (m := 29) (pc := 21) (o := 0) (x := 46) (ci := 0) (k := 8) (by decide +kernel) rfl f_0_46 rfl (by decide +kernel) h1).trans ?_
  refine (go_aload_n (m := 29) (pc := 24) (k := 0) (by decide +kernel) rfl).trans ?_
  refine (go_aload_n (m := 29) (pc := 25) (k := 1) (by decide +kernel) rfl).trans ?_
  refine (go_getZ (m := 29) (pc := 26) (o := 0) (x := 49) (ci := 0) (k := 9) (by decide +kernel) rfl f_0_49 rfl h0).trans ?_
  refine (go_putZ (m := 29) (pc := 29) (o := 0) (x := 49) (ci := 0) (k := 9) (by decide +kernel) rfl f_0_49 rfl (by decide +kernel) h2 h1).trans ?_
  refine (go_aload_n (m := 29) (pc := 32) (k := 0) (by decide +kernel) rfl).trans ?_
  refine (go_aload_n (m := 29) (pc := 33) (k := 1) (by decide +kernel) rfl).trans ?_
  refine (go_getI (m := 29) (pc := 34) (o := 0) (x := 53) (ci := 0) (k := 10) (by decide +kernel) rfl f_0_53 rfl h0).trans ?_
  refine (go_putI (m := 29) (pc := 37) (o := 0) (x := 53) (ci := 0) (k := 10) (by decide +kernel) rfl f_0_53 rfl (by decide +kernel) h1).trans ?_
  refine (go_aload_n (m := 29) (pc := 40) (k := 0) (by decide +kernel) rfl).trans ?_
  refine (go_aload_n (m := 29) (pc := 41) (k := 1) (by decide +kernel) rfl).trans ?_
  refine (go_getI (m := 29) (pc := 42) (o := 0) (x := 56) (ci := 0) (k := 11) (by decide +kernel) rfl f_0_56 rfl h0).trans ?_
  refine (go_putI (m := 29) (pc := 45) (o := 0) (x := 56) (ci := 0) (k := 11) (by decide +kernel) rfl f_0_56 rfl (by decide +kernel) h1).trans ?_
  refine (go_aload_n (m := 29) (pc := 48) (k := 0) (by decide +kernel) rfl).trans ?_
  refine (go_aload_n (m := 29) (pc := 49) (k := 1) (by decide +kernel) rfl).trans ?_
  refine (go_getI (m := 29) (pc := 50) (o := 0) (x := 59) (ci := 0) (k := 12) (by decide +kernel) rfl f_0_59 rfl h0).trans ?_
  refine (go_putI (m := 29) (pc := 53) (o := 0) (x := 59) (ci := 0) (k := 12) (by decide +kernel) rfl f_0_59 rfl (by decide +kernel) h1).trans ?_
  refine (go_aload_n (m := 29) (pc := 56) (k := 0) (by decide +kernel) rfl).trans ?_
  refine (go_aload_n (m := 29) (pc := 57) (k := 1) (by decide +kernel) rfl).trans ?_
  refine (go_getI (m := 29) (pc := 58) (o := 0) (x := 62) (ci := 0) (k := 13) (by decide +kernel) rfl f_0_62 rfl h0).trans ?_
  refine (go_putI (m := 29) (pc := 61) (o := 0) (x := 62) (ci := 0) (k := 13) (by decide +kernel) rfl f_0_62 rfl (by decide +kernel) h1).trans ?_
  exact go_retV (m := 29) (pc := 64) (by decide +kernel) rfl
theorem Bus_copyTransfer_E (this : Nat) (p0 : Nat) (w : Wd) (I : MI) (L : ML) (P : MP) : call 29 [.ref this, .ref p0] w I L P = go 29 0 [.ref this, .ref p0] [] w I L P := rfl
theorem Bus_copyTransfer_E1 (this : Nat) (w : Wd) (I : MI) (L : ML) (P : MP) : call 29 [.ref this, .null] w I L P = go 29 0 [.ref this, .null] [] w I L P := rfl
theorem Bus_callerAt_0 (l0 : Value) (x_l1 : Int32) (w : Wd) (I : MI) (L : ML) (P : MP)  : go 30 0 [l0, .int x_l1] [] w I L P = if x_l1 < 0 then go 30 30 [l0, .int x_l1] [] w I L P else go 30 4 [l0, .int x_l1] [] w I L P := by
  refine (go_iload_n (m := 30) (pc := 0) (k := 1) (by decide +kernel) rfl).trans ?_
  exact go_iflt (m := 30) (pc := 1) (off := 29) (t := 30) (by decide +kernel) (by decide)
theorem Bus_callerAt_4 (a_l0 : Nat) (x_l1 : Int32) (w : Wd) (I : MI) (L : ML) (P : MP) (h0 : w.1 a_l0 = some (0, 0)) : go 30 4 [.ref a_l0, .int x_l1] [] w I L P = if (I a_l0 1) ≤ x_l1 then go 30 30 [.ref a_l0, .int x_l1] [] w I L P else go 30 12 [.ref a_l0, .int x_l1] [] w I L P := by
  refine (go_iload_n (m := 30) (pc := 4) (k := 1) (by decide +kernel) rfl).trans ?_
  refine (go_aload_n (m := 30) (pc := 5) (k := 0) (by decide +kernel) rfl).trans ?_
  refine (go_getI (m := 30) (pc := 6) (o := 0) (x := 17) (ci := 0) (k := 1) (by decide +kernel) rfl f_0_17 rfl h0).trans ?_
  exact go_icmpge (m := 30) (pc := 9) (off := 21) (t := 30) (by decide +kernel) (by decide)
theorem Bus_callerAt_12 (a_l0 : Nat) (x_l1 : Int32) (w : Wd) (I : MI) (L : ML) (P : MP) (h0 : w.1 a_l0 = some (0, 0)) : go 30 12 [.ref a_l0, .int x_l1] [] w I L P = go 30 17 [.ref a_l0, .int x_l1] [(va_rf (P a_l0 0)), .int x_l1] w I L P := by
  refine (go_iload_n (m := 30) (pc := 12) (k := 1) (by decide +kernel) rfl).trans ?_
  refine (go_aload_n (m := 30) (pc := 13) (k := 0) (by decide +kernel) rfl).trans ?_
  refine (go_getR (m := 30) (pc := 14) (o := 0) (x := 11) (ci := 0) (k := 0) (by decide +kernel) rfl f_0_11 rfl h0).trans ?_
  rfl
theorem Bus_callerAt_17 (l0 : Value) (l1 : Value) (y0 : Int32) (a_s1 : Nat) (w : Wd) (I : MI) (L : ML) (P : MP) (h0 : isAr w a_s1 11) : go 30 17 [l0, l1] [.ref a_s1, .int y0] w I L P = if (alen w a_s1) ≤ y0 then go 30 30 [l0, l1] [] w I L P else go 30 21 [l0, l1] [] w I L P := by
  refine (go_alen11 (m := 30) (pc := 17) (by decide +kernel) h0).trans ?_
  exact go_icmpge (m := 30) (pc := 18) (off := 12) (t := 30) (by decide +kernel) (by decide)
theorem Bus_callerAt_21 (a_l0 : Nat) (l1 : Value) (w : Wd) (I : MI) (L : ML) (P : MP) (h0 : w.1 a_l0 = some (0, 0)) : go 30 21 [.ref a_l0, l1] [] w I L P = go 30 25 [.ref a_l0, l1] [(va_rf (P a_l0 0))] w I L P := by
  refine (go_aload_n (m := 30) (pc := 21) (k := 0) (by decide +kernel) rfl).trans ?_
  refine (go_getR (m := 30) (pc := 22) (o := 0) (x := 11) (ci := 0) (k := 0) (by decide +kernel) rfl f_0_11 rfl h0).trans ?_
  rfl
theorem Bus_callerAt_25 (l0 : Value) (x_l1 : Int32) (a_s0 : Nat) (w : Wd) (I : MI) (L : ML) (P : MP) (h0 : inA w a_s0 11 x_l1) : go 30 25 [l0, .int x_l1] [.ref a_s0] w I L P = go 30 27 [l0, .int x_l1] [(va_rf (P a_s0 (Int32.toNatClampNeg x_l1)))] w I L P := by
  refine (go_iload_n (m := 30) (pc := 25) (k := 1) (by decide +kernel) rfl).trans ?_
  refine (go_aald11 (m := 30) (pc := 26) (by decide +kernel) h0).trans ?_
  rfl
theorem Bus_callerAt_27 (l0 : Value) (l1 : Value) (v0 : Value) (w : Wd) (I : MI) (L : ML) (P : MP)  : go 30 27 [l0, l1] [v0] w I L P = go 30 31 [l0, l1] [v0] w I L P := by
  refine (go_goto (m := 30) (pc := 27) (off := 4) (t := 31) (by decide +kernel) (by decide)).trans ?_
  rfl
theorem Bus_callerAt_30 (l0 : Value) (l1 : Value) (w : Wd) (I : MI) (L : ML) (P : MP)  : go 30 30 [l0, l1] [] w I L P = go 30 31 [l0, l1] [.null] w I L P := by
  refine (go_anull (m := 30) (pc := 30) (by decide +kernel)).trans ?_
  rfl
theorem Bus_callerAt_31_0 (l0 : Value) (l1 : Value) (w : Wd) (I : MI) (L : ML) (P : MP)  : go 30 31 [l0, l1] [.null] w I L P = some (.inl (some (.null)), w, I, L, P) := by
  exact go_retN (m := 30) (pc := 31) (by decide +kernel) rfl
theorem Bus_callerAt_31_1 (l0 : Value) (l1 : Value) (a_s0 : Nat) (w : Wd) (I : MI) (L : ML) (P : MP)  : go 30 31 [l0, l1] [.ref a_s0] w I L P = some (.inl (some (.ref a_s0)), w, I, L, P) := by
  exact go_retR (m := 30) (pc := 31) (by decide +kernel) rfl
theorem Bus_callerAt_E (this : Nat) (p0 : Int32) (w : Wd) (I : MI) (L : ML) (P : MP) : call 30 [.ref this, .int p0] w I L P = go 30 0 [.ref this, .int p0] [] w I L P := rfl
theorem Bus_listenerAt_0 (l0 : Value) (x_l1 : Int32) (w : Wd) (I : MI) (L : ML) (P : MP)  : go 31 0 [l0, .int x_l1] [] w I L P = if x_l1 < 0 then go 31 30 [l0, .int x_l1] [] w I L P else go 31 4 [l0, .int x_l1] [] w I L P := by
  refine (go_iload_n (m := 31) (pc := 0) (k := 1) (by decide +kernel) rfl).trans ?_
  exact go_iflt (m := 31) (pc := 1) (off := 29) (t := 30) (by decide +kernel) (by decide)
theorem Bus_listenerAt_4 (a_l0 : Nat) (x_l1 : Int32) (w : Wd) (I : MI) (L : ML) (P : MP) (h0 : w.1 a_l0 = some (0, 0)) : go 31 4 [.ref a_l0, .int x_l1] [] w I L P = if (I a_l0 3) ≤ x_l1 then go 31 30 [.ref a_l0, .int x_l1] [] w I L P else go 31 12 [.ref a_l0, .int x_l1] [] w I L P := by
  refine (go_iload_n (m := 31) (pc := 4) (k := 1) (by decide +kernel) rfl).trans ?_
  refine (go_aload_n (m := 31) (pc := 5) (k := 0) (by decide +kernel) rfl).trans ?_
  refine (go_getI (m := 31) (pc := 6) (o := 0) (x := 27) (ci := 0) (k := 3) (by decide +kernel) rfl f_0_27 rfl h0).trans ?_
  exact go_icmpge (m := 31) (pc := 9) (off := 21) (t := 30) (by decide +kernel) (by decide)
theorem Bus_listenerAt_12 (a_l0 : Nat) (x_l1 : Int32) (w : Wd) (I : MI) (L : ML) (P : MP) (h0 : w.1 a_l0 = some (0, 0)) : go 31 12 [.ref a_l0, .int x_l1] [] w I L P = go 31 17 [.ref a_l0, .int x_l1] [(va_rf (P a_l0 2)), .int x_l1] w I L P := by
  refine (go_iload_n (m := 31) (pc := 12) (k := 1) (by decide +kernel) rfl).trans ?_
  refine (go_aload_n (m := 31) (pc := 13) (k := 0) (by decide +kernel) rfl).trans ?_
  refine (go_getR (m := 31) (pc := 14) (o := 0) (x := 23) (ci := 0) (k := 2) (by decide +kernel) rfl f_0_23 rfl h0).trans ?_
  rfl
theorem Bus_listenerAt_17 (l0 : Value) (l1 : Value) (y0 : Int32) (a_s1 : Nat) (w : Wd) (I : MI) (L : ML) (P : MP) (h0 : isAr w a_s1 12) : go 31 17 [l0, l1] [.ref a_s1, .int y0] w I L P = if (alen w a_s1) ≤ y0 then go 31 30 [l0, l1] [] w I L P else go 31 21 [l0, l1] [] w I L P := by
  refine (go_alen12 (m := 31) (pc := 17) (by decide +kernel) h0).trans ?_
  exact go_icmpge (m := 31) (pc := 18) (off := 12) (t := 30) (by decide +kernel) (by decide)
theorem Bus_listenerAt_21 (a_l0 : Nat) (l1 : Value) (w : Wd) (I : MI) (L : ML) (P : MP) (h0 : w.1 a_l0 = some (0, 0)) : go 31 21 [.ref a_l0, l1] [] w I L P = go 31 25 [.ref a_l0, l1] [(va_rf (P a_l0 2))] w I L P := by
  refine (go_aload_n (m := 31) (pc := 21) (k := 0) (by decide +kernel) rfl).trans ?_
  refine (go_getR (m := 31) (pc := 22) (o := 0) (x := 23) (ci := 0) (k := 2) (by decide +kernel) rfl f_0_23 rfl h0).trans ?_
  rfl
theorem Bus_listenerAt_25 (l0 : Value) (x_l1 : Int32) (a_s0 : Nat) (w : Wd) (I : MI) (L : ML) (P : MP) (h0 : inA w a_s0 12 x_l1) : go 31 25 [l0, .int x_l1] [.ref a_s0] w I L P = go 31 27 [l0, .int x_l1] [(va_rf (P a_s0 (Int32.toNatClampNeg x_l1)))] w I L P := by
  refine (go_iload_n (m := 31) (pc := 25) (k := 1) (by decide +kernel) rfl).trans ?_
  refine (go_aald12 (m := 31) (pc := 26) (by decide +kernel) h0).trans ?_
  rfl
theorem Bus_listenerAt_27 (l0 : Value) (l1 : Value) (v0 : Value) (w : Wd) (I : MI) (L : ML) (P : MP)  : go 31 27 [l0, l1] [v0] w I L P = go 31 31 [l0, l1] [v0] w I L P := by
  refine (go_goto (m := 31) (pc := 27) (off := 4) (t := 31) (by decide +kernel) (by decide)).trans ?_
  rfl
theorem Bus_listenerAt_30 (l0 : Value) (l1 : Value) (w : Wd) (I : MI) (L : ML) (P : MP)  : go 31 30 [l0, l1] [] w I L P = go 31 31 [l0, l1] [.null] w I L P := by
  refine (go_anull (m := 31) (pc := 30) (by decide +kernel)).trans ?_
  rfl
theorem Bus_listenerAt_31_0 (l0 : Value) (l1 : Value) (w : Wd) (I : MI) (L : ML) (P : MP)  : go 31 31 [l0, l1] [.null] w I L P = some (.inl (some (.null)), w, I, L, P) := by
  exact go_retN (m := 31) (pc := 31) (by decide +kernel) rfl
theorem Bus_listenerAt_31_1 (l0 : Value) (l1 : Value) (a_s0 : Nat) (w : Wd) (I : MI) (L : ML) (P : MP)  : go 31 31 [l0, l1] [.ref a_s0] w I L P = some (.inl (some (.ref a_s0)), w, I, L, P) := by
  exact go_retR (m := 31) (pc := 31) (by decide +kernel) rfl
theorem Bus_listenerAt_E (this : Nat) (p0 : Int32) (w : Wd) (I : MI) (L : ML) (P : MP) : call 31 [.ref this, .int p0] w I L P = go 31 0 [.ref this, .int p0] [] w I L P := rfl
theorem Bus_firstMessage_0 (a_l0 : Nat) (x_l1 : Int32) (l2 : Value) (w : Wd) (I : MI) (L : ML) (P : MP) (h0 : w.1 a_l0 = some (0, 0)) : go 32 0 [.ref a_l0, .int x_l1, l2] [] w I L P = kC (call 30 [.ref a_l0, .int x_l1] w I L P) (fun v w1 I1 L1 P1 => go 32 5 [.ref a_l0, .int x_l1, l2] (v.toList ++ []) w1 I1 L1 P1) := by
  refine (go_aload_n (m := 32) (pc := 0) (k := 0) (by decide +kernel) rfl).trans ?_
  refine (go_iload_n (m := 32) (pc := 1) (k := 1) (by decide +kernel) rfl).trans ?_
  exact go_vir (m := 32) (pc := 2) (o := 0) (x := 81) (y := 30) (kd := 0) (b := a_l0) (bs := [.int x_l1]) (rs := []) (by decide +kernel) rfl rfl c_0_81 (Or.inl rfl) rfl rfl rfl (by decide +kernel) (by simp only [List.length_cons, List.length_nil]; decide) (Nat.le_of_ble_eq_true rfl) h0
theorem Bus_firstMessage_5_0 (l0 : Value) (l1 : Value) (l2 : Value) (w : Wd) (I : MI) (L : ML) (P : MP)  : go 32 5 [l0, l1, l2] [.null] w I L P = go 32 10 [l0, (fix1 l1), .null] [] w I L P := by
  refine (go_astore_nN (m := 32) (pc := 5) (k := 2) (ls' := [l0, (fix1 l1), .null]) (by decide +kernel) (by simp only [List.length_cons, List.length_nil]; decide) rfl).trans ?_
  refine (go_aload_nN (m := 32) (pc := 6) (k := 2) (by decide +kernel) rfl).trans ?_
  exact go_ifnonnullN (m := 32) (pc := 7) (off := 7) (by decide +kernel)
theorem Bus_firstMessage_5_1 (l0 : Value) (l1 : Value) (l2 : Value) (a_s0 : Nat) (w : Wd) (I : MI) (L : ML) (P : MP)  : go 32 5 [l0, l1, l2] [.ref a_s0] w I L P = go 32 14 [l0, (fix1 l1), .ref a_s0] [] w I L P := by
  refine (go_astore_n (m := 32) (pc := 5) (k := 2) (ls' := [l0, (fix1 l1), .ref a_s0]) (by decide +kernel) (by simp only [List.length_cons, List.length_nil]; decide) rfl).trans ?_
  refine (go_aload_n (m := 32) (pc := 6) (k := 2) (by decide +kernel) rfl).trans ?_
  exact go_ifnonnullR (m := 32) (pc := 7) (off := 7) (t := 14) (by decide +kernel) (by decide)
theorem Bus_firstMessage_10 (l0 : Value) (l1 : Value) (l2 : Value) (w : Wd) (I : MI) (L : ML) (P : MP)  : go 32 10 [l0, l1, l2] [] w I L P = go 32 19 [l0, l1, l2] [.null] w I L P := by
  refine (go_anull (m := 32) (pc := 10) (by decide +kernel)).trans ?_
  refine (go_goto (m := 32) (pc := 11) (off := 8) (t := 19) (by decide +kernel) (by decide)).trans ?_
  rfl
theorem Bus_firstMessage_14 (l0 : Value) (l1 : Value) (a_l2 : Nat) (w : Wd) (I : MI) (L : ML) (P : MP) (h0 : w.1 a_l2 = some (1, 0)) : go 32 14 [l0, l1, .ref a_l2] [] w I L P = kC (call 7 [.ref a_l2, .int (nI 0)] w I L P) (fun v w1 I1 L1 P1 => go 32 19 [l0, l1, .ref a_l2] (v.toList ++ []) w1 I1 L1 P1) := by
  refine (go_aload_n (m := 32) (pc := 14) (k := 2) (by decide +kernel) rfl).trans ?_
  refine (go_ic (m := 32) (pc := 15) (n := 0) (by decide +kernel) ic_0).trans ?_
  exact go_vir (m := 32) (pc := 16) (o := 0) (x := 85) (y := 7) (kd := 1) (b := a_l2) (bs := [.int (nI 0)]) (rs := []) (by decide +kernel) rfl rfl c_0_85 (Or.inr rfl) rfl rfl rfl (by decide +kernel) (by simp only [List.length_cons, List.length_nil]; decide) (Nat.le_of_ble_eq_true rfl) h0
theorem Bus_firstMessage_19_0 (l0 : Value) (l1 : Value) (l2 : Value) (w : Wd) (I : MI) (L : ML) (P : MP)  : go 32 19 [l0, l1, l2] [.null] w I L P = some (.inl (some (.null)), w, I, L, P) := by
  exact go_retN (m := 32) (pc := 19) (by decide +kernel) rfl
theorem Bus_firstMessage_19_1 (l0 : Value) (l1 : Value) (l2 : Value) (a_s0 : Nat) (w : Wd) (I : MI) (L : ML) (P : MP)  : go 32 19 [l0, l1, l2] [.ref a_s0] w I L P = some (.inl (some (.ref a_s0)), w, I, L, P) := by
  exact go_retR (m := 32) (pc := 19) (by decide +kernel) rfl
theorem Bus_firstMessage_E (this : Nat) (p0 : Int32) (w : Wd) (I : MI) (L : ML) (P : MP) : call 32 [.ref this, .int p0] w I L P = go 32 0 [.ref this, .int p0, unk] [] w I L P := rfl
theorem Bus_contends_0 (a_l0 : Nat) (x_l1 : Int32) (w : Wd) (I : MI) (L : ML) (P : MP) (h0 : w.1 a_l0 = some (0, 0)) : go 33 0 [.ref a_l0, .int x_l1] [] w I L P = if (((I a_l0 7) >>> (x_l1 &&& 31)) &&& (nI 1)) ≠ (nI 1) then go 33 16 [.ref a_l0, .int x_l1] [] w I L P else go 33 12 [.ref a_l0, .int x_l1] [] w I L P := by
  refine (go_aload_n (m := 33) (pc := 0) (k := 0) (by decide +kernel) rfl).trans ?_
  refine (go_getI (m := 33) (pc := 1) (o := 0) (x := 43) (ci := 0) (k := 7) (by decide +kernel) rfl f_0_43 rfl h0).trans ?_
  refine (go_iload_n (m := 33) (pc := 4) (k := 1) (by decide +kernel) rfl).trans ?_
  refine (go_ishr (m := 33) (pc := 5) (by decide +kernel)).trans ?_
  refine (go_ic (m := 33) (pc := 6) (n := 1) (by decide +kernel) ic_1).trans ?_
  refine (go_iand (m := 33) (pc := 7) (by decide +kernel)).trans ?_
  refine (go_ic (m := 33) (pc := 8) (n := 1) (by decide +kernel) ic_1).trans ?_
  exact go_icmpne (m := 33) (pc := 9) (off := 7) (t := 16) (by decide +kernel) (by decide)
theorem Bus_contends_12 (l0 : Value) (l1 : Value) (w : Wd) (I : MI) (L : ML) (P : MP)  : go 33 12 [l0, l1] [] w I L P = go 33 17 [l0, l1] [.int (nI 1)] w I L P := by
  refine (go_ic (m := 33) (pc := 12) (n := 1) (by decide +kernel) ic_1).trans ?_
  refine (go_goto (m := 33) (pc := 13) (off := 4) (t := 17) (by decide +kernel) (by decide)).trans ?_
  rfl
theorem Bus_contends_16 (l0 : Value) (l1 : Value) (w : Wd) (I : MI) (L : ML) (P : MP)  : go 33 16 [l0, l1] [] w I L P = go 33 17 [l0, l1] [.int (nI 0)] w I L P := by
  refine (go_ic (m := 33) (pc := 16) (n := 0) (by decide +kernel) ic_0).trans ?_
  rfl
theorem Bus_contends_17 (l0 : Value) (l1 : Value) (y0 : Int32) (w : Wd) (I : MI) (L : ML) (P : MP) (h0 : y0 &&& 1 = y0) : go 33 17 [l0, l1] [.int y0] w I L P = some (.inl (some (.int y0)), w, I, L, P) := by
  exact go_retZ (m := 33) (pc := 17) (by decide +kernel) rfl h0
theorem Bus_contends_E (this : Nat) (p0 : Int32) (w : Wd) (I : MI) (L : ML) (P : MP) : call 33 [.ref this, .int p0] w I L P = go 33 0 [.ref this, .int p0] [] w I L P := rfl
theorem Bus_listenerWith_0 (l0 : Value) (l1 : Value) (l2 : Value) (l3 : Value) (w : Wd) (I : MI) (L : ML) (P : MP)  : go 34 0 [l0, l1, l2, l3] [] w I L P = go 34 2 [l0, (fix1 l1), .int (nI 0), l3] [] w I L P := by
  refine (go_ic (m := 34) (pc := 0) (n := 0) (by decide +kernel) ic_0).trans ?_
  refine (go_istore_n (m := 34) (pc := 1) (k := 2) (ls' := [l0, (fix1 l1), .int (nI 0), l3]) (by decide +kernel) (by simp only [List.length_cons, List.length_nil]; decide) rfl).trans ?_
  rfl
theorem Bus_listenerWith_2 (a_l0 : Nat) (l1 : Value) (x_l2 : Int32) (l3 : Value) (w : Wd) (I : MI) (L : ML) (P : MP) (h0 : w.1 a_l0 = some (0, 0)) : go 34 2 [.ref a_l0, l1, .int x_l2, l3] [] w I L P = if (I a_l0 3) ≤ x_l2 then go 34 36 [.ref a_l0, l1, .int x_l2, l3] [] w I L P else go 34 10 [.ref a_l0, l1, .int x_l2, l3] [] w I L P := by
  refine (go_iload_n (m := 34) (pc := 2) (k := 2) (by decide +kernel) rfl).trans ?_
  refine (go_aload_n (m := 34) (pc := 3) (k := 0) (by decide +kernel) rfl).trans ?_
  refine (go_getI (m := 34) (pc := 4) (o := 0) (x := 27) (ci := 0) (k := 3) (by decide +kernel) rfl f_0_27 rfl h0).trans ?_
  exact go_icmpge (m := 34) (pc := 7) (off := 29) (t := 36) (by decide +kernel) (by decide)
theorem Bus_listenerWith_10 (a_l0 : Nat) (l1 : Value) (x_l2 : Int32) (l3 : Value) (w : Wd) (I : MI) (L : ML) (P : MP) (h0 : w.1 a_l0 = some (0, 0)) : go 34 10 [.ref a_l0, l1, .int x_l2, l3] [] w I L P = kC (call 31 [.ref a_l0, .int x_l2] w I L P) (fun v w1 I1 L1 P1 => go 34 15 [.ref a_l0, l1, .int x_l2, l3] (v.toList ++ []) w1 I1 L1 P1) := by
  refine (go_aload_n (m := 34) (pc := 10) (k := 0) (by decide +kernel) rfl).trans ?_
  refine (go_iload_n (m := 34) (pc := 11) (k := 2) (by decide +kernel) rfl).trans ?_
  exact go_vir (m := 34) (pc := 12) (o := 0) (x := 89) (y := 31) (kd := 0) (b := a_l0) (bs := [.int x_l2]) (rs := []) (by decide +kernel) rfl rfl c_0_89 (Or.inl rfl) rfl rfl rfl (by decide +kernel) (by simp only [List.length_cons, List.length_nil]; decide) (Nat.le_of_ble_eq_true rfl) h0
theorem Bus_listenerWith_15_0 (l0 : Value) (l1 : Value) (l2 : Value) (l3 : Value) (w : Wd) (I : MI) (L : ML) (P : MP)  : go 34 15 [l0, l1, l2, l3] [.null] w I L P = go 34 30 [l0, l1, (fix1 l2), .null] [] w I L P := by
  refine (go_astore_nN (m := 34) (pc := 15) (k := 3) (ls' := [l0, l1, (fix1 l2), .null]) (by decide +kernel) (by simp only [List.length_cons, List.length_nil]; decide) rfl).trans ?_
  refine (go_aload_nN (m := 34) (pc := 16) (k := 3) (by decide +kernel) rfl).trans ?_
  exact go_ifnullN (m := 34) (pc := 17) (off := 13) (t := 30) (by decide +kernel) (by decide)
theorem Bus_listenerWith_15_1 (l0 : Value) (l1 : Value) (l2 : Value) (l3 : Value) (a_s0 : Nat) (w : Wd) (I : MI) (L : ML) (P : MP)  : go 34 15 [l0, l1, l2, l3] [.ref a_s0] w I L P = go 34 20 [l0, l1, (fix1 l2), .ref a_s0] [] w I L P := by
  refine (go_astore_n (m := 34) (pc := 15) (k := 3) (ls' := [l0, l1, (fix1 l2), .ref a_s0]) (by decide +kernel) (by simp only [List.length_cons, List.length_nil]; decide) rfl).trans ?_
  refine (go_aload_n (m := 34) (pc := 16) (k := 3) (by decide +kernel) rfl).trans ?_
  exact go_ifnullR (m := 34) (pc := 17) (off := 13) (by decide +kernel)
theorem Bus_listenerWith_20 (l0 : Value) (x_l1 : Int32) (l2 : Value) (a_l3 : Nat) (w : Wd) (I : MI) (L : ML) (P : MP) (h0 : w.1 a_l3 = some (2, 0)) : go 34 20 [l0, .int x_l1, l2, .ref a_l3] [] w I L P = if (I a_l3 0) ≠ x_l1 then go 34 30 [l0, .int x_l1, l2, .ref a_l3] [] w I L P else go 34 28 [l0, .int x_l1, l2, .ref a_l3] [] w I L P := by
  refine (go_aload_n (m := 34) (pc := 20) (k := 3) (by decide +kernel) rfl).trans ?_
  refine (go_getI (m := 34) (pc := 21) (o := 0) (x := 93) (ci := 2) (k := 0) (by decide +kernel) rfl f_0_93 rfl h0).trans ?_
  refine (go_iload_n (m := 34) (pc := 24) (k := 1) (by decide +kernel) rfl).trans ?_
  exact go_icmpne (m := 34) (pc := 25) (off := 5) (t := 30) (by decide +kernel) (by decide)
theorem Bus_listenerWith_28 (l0 : Value) (l1 : Value) (x_l2 : Int32) (l3 : Value) (w : Wd) (I : MI) (L : ML) (P : MP)  : go 34 28 [l0, l1, .int x_l2, l3] [] w I L P = some (.inl (some (.int x_l2)), w, I, L, P) := by
  refine (go_iload_n (m := 34) (pc := 28) (k := 2) (by decide +kernel) rfl).trans ?_
  exact go_retI (m := 34) (pc := 29) (by decide +kernel) rfl
theorem Bus_listenerWith_30 (l0 : Value) (l1 : Value) (x_l2 : Int32) (l3 : Value) (w : Wd) (I : MI) (L : ML) (P : MP)  : go 34 30 [l0, l1, .int x_l2, l3] [] w I L P = go 34 2 [l0, (fix1 l1), .int (x_l2 + (nI 1)), l3] [] w I L P := by
  refine (go_iinc (m := 34) (pc := 30) (k := 2) (n := 1) (x := x_l2) (v := x_l2 + (nI 1)) (ls' := [l0, (fix1 l1), .int (x_l2 + (nI 1)), l3]) (by decide +kernel) rfl (by rw [ic_1]) rfl).trans ?_
  refine (go_goto (m := 34) (pc := 33) (off := -31) (t := 2) (by decide +kernel) (by decide)).trans ?_
  rfl
theorem Bus_listenerWith_36 (l0 : Value) (l1 : Value) (l2 : Value) (l3 : Value) (w : Wd) (I : MI) (L : ML) (P : MP)  : go 34 36 [l0, l1, l2, l3] [] w I L P = some (.inl (some (.int (-1))), w, I, L, P) := by
  refine (go_ic (m := 34) (pc := 36) (n := -1) (by decide +kernel) ic_m1).trans ?_
  exact go_retI (m := 34) (pc := 37) (by decide +kernel) rfl
theorem Bus_listenerWith_E (this : Nat) (p0 : Int32) (w : Wd) (I : MI) (L : ML) (P : MP) : call 34 [.ref this, .int p0] w I L P = go 34 0 [.ref this, .int p0, unk, unk] [] w I L P := rfl
theorem Bus_answererTo_0 (a_l0 : Nat) (x_l1 : Int32) (l2 : Value) (l3 : Value) (w : Wd) (I : MI) (L : ML) (P : MP) (h0 : w.1 a_l0 = some (0, 0)) : go 35 0 [.ref a_l0, .int x_l1, l2, l3] [] w I L P = kC (call 34 [.ref a_l0, .int x_l1] w I L P) (fun v w1 I1 L1 P1 => go 35 5 [.ref a_l0, .int x_l1, l2, l3] (v.toList ++ []) w1 I1 L1 P1) := by
  refine (go_aload_n (m := 35) (pc := 0) (k := 0) (by decide +kernel) rfl).trans ?_
  refine (go_iload_n (m := 35) (pc := 1) (k := 1) (by decide +kernel) rfl).trans ?_
  exact go_vir (m := 35) (pc := 2) (o := 0) (x := 96) (y := 34) (kd := 0) (b := a_l0) (bs := [.int x_l1]) (rs := []) (by decide +kernel) rfl rfl c_0_96 (Or.inl rfl) rfl rfl rfl (by decide +kernel) (by simp only [List.length_cons, List.length_nil]; decide) (Nat.le_of_ble_eq_true rfl) h0
theorem Bus_answererTo_5 (a_l0 : Nat) (l1 : Value) (l2 : Value) (l3 : Value) (y0 : Int32) (w : Wd) (I : MI) (L : ML) (P : MP) (h0 : w.1 a_l0 = some (0, 0)) : go 35 5 [.ref a_l0, l1, l2, l3] [.int y0] w I L P = kC (call 31 [.ref a_l0, .int y0] w I L P) (fun v w1 I1 L1 P1 => go 35 11 [.ref a_l0, (fix1 l1), .int y0, l3] (v.toList ++ []) w1 I1 L1 P1) := by
  refine (go_istore_n (m := 35) (pc := 5) (k := 2) (ls' := [.ref a_l0, (fix1 l1), .int y0, l3]) (by decide +kernel) (by simp only [List.length_cons, List.length_nil]; decide) rfl).trans ?_
  refine (go_aload_n (m := 35) (pc := 6) (k := 0) (by decide +kernel) rfl).trans ?_
  refine (go_iload_n (m := 35) (pc := 7) (k := 2) (by decide +kernel) rfl).trans ?_
  exact go_vir (m := 35) (pc := 8) (o := 0) (x := 89) (y := 31) (kd := 0) (b := a_l0) (bs := [.int y0]) (rs := []) (by decide +kernel) rfl rfl c_0_89 (Or.inl rfl) rfl rfl rfl (by decide +kernel) (by simp only [List.length_cons, List.length_nil]; decide) (Nat.le_of_ble_eq_true rfl) h0
theorem Bus_answererTo_11_0 (l0 : Value) (l1 : Value) (l2 : Value) (l3 : Value) (w : Wd) (I : MI) (L : ML) (P : MP)  : go 35 11 [l0, l1, l2, l3] [.null] w I L P = go 35 27 [l0, l1, (fix1 l2), .null] [] w I L P := by
  refine (go_astore_nN (m := 35) (pc := 11) (k := 3) (ls' := [l0, l1, (fix1 l2), .null]) (by decide +kernel) (by simp only [List.length_cons, List.length_nil]; decide) rfl).trans ?_
  refine (go_aload_nN (m := 35) (pc := 12) (k := 3) (by decide +kernel) rfl).trans ?_
  exact go_ifnullN (m := 35) (pc := 13) (off := 14) (t := 27) (by decide +kernel) (by decide)
theorem Bus_answererTo_11_1 (l0 : Value) (l1 : Value) (l2 : Value) (l3 : Value) (a_s0 : Nat) (w : Wd) (I : MI) (L : ML) (P : MP)  : go 35 11 [l0, l1, l2, l3] [.ref a_s0] w I L P = go 35 16 [l0, l1, (fix1 l2), .ref a_s0] [] w I L P := by
  refine (go_astore_n (m := 35) (pc := 11) (k := 3) (ls' := [l0, l1, (fix1 l2), .ref a_s0]) (by decide +kernel) (by simp only [List.length_cons, List.length_nil]; decide) rfl).trans ?_
  refine (go_aload_n (m := 35) (pc := 12) (k := 3) (by decide +kernel) rfl).trans ?_
  exact go_ifnullR (m := 35) (pc := 13) (off := 14) (by decide +kernel)
theorem Bus_answererTo_16 (l0 : Value) (l1 : Value) (l2 : Value) (a_l3 : Nat) (w : Wd) (I : MI) (L : ML) (P : MP) (h0 : w.1 a_l3 = some (2, 0)) : go 35 16 [l0, l1, l2, .ref a_l3] [] w I L P = if (I a_l3 2 &&& 1) = 0 then go 35 27 [l0, l1, l2, .ref a_l3] [] w I L P else go 35 23 [l0, l1, l2, .ref a_l3] [] w I L P := by
  refine (go_aload_n (m := 35) (pc := 16) (k := 3) (by decide +kernel) rfl).trans ?_
  refine (go_getZ (m := 35) (pc := 17) (o := 0) (x := 100) (ci := 2) (k := 2) (by decide +kernel) rfl f_0_100 rfl h0).trans ?_
  exact go_ifeq (m := 35) (pc := 20) (off := 7) (t := 27) (by decide +kernel) (by decide)
theorem Bus_answererTo_23 (l0 : Value) (l1 : Value) (x_l2 : Int32) (l3 : Value) (w : Wd) (I : MI) (L : ML) (P : MP)  : go 35 23 [l0, l1, .int x_l2, l3] [] w I L P = go 35 28 [l0, l1, .int x_l2, l3] [.int x_l2] w I L P := by
  refine (go_iload_n (m := 35) (pc := 23) (k := 2) (by decide +kernel) rfl).trans ?_
  refine (go_goto (m := 35) (pc := 24) (off := 4) (t := 28) (by decide +kernel) (by decide)).trans ?_
  rfl
theorem Bus_answererTo_27 (l0 : Value) (l1 : Value) (l2 : Value) (l3 : Value) (w : Wd) (I : MI) (L : ML) (P : MP)  : go 35 27 [l0, l1, l2, l3] [] w I L P = go 35 28 [l0, l1, l2, l3] [.int (-1)] w I L P := by
  refine (go_ic (m := 35) (pc := 27) (n := -1) (by decide +kernel) ic_m1).trans ?_
  rfl
theorem Bus_answererTo_28 (l0 : Value) (l1 : Value) (l2 : Value) (l3 : Value) (y0 : Int32) (w : Wd) (I : MI) (L : ML) (P : MP)  : go 35 28 [l0, l1, l2, l3] [.int y0] w I L P = some (.inl (some (.int y0)), w, I, L, P) := by
  exact go_retI (m := 35) (pc := 28) (by decide +kernel) rfl
theorem Bus_answererTo_E (this : Nat) (p0 : Int32) (w : Wd) (I : MI) (L : ML) (P : MP) : call 35 [.ref this, .int p0] w I L P = go 35 0 [.ref this, .int p0, unk, unk] [] w I L P := rfl
theorem Bus_placeListener_0 (a_l0 : Nat) (l1 : Value) (l2 : Value) (l3 : Value) (l4 : Value) (w : Wd) (I : MI) (L : ML) (P : MP) (h0 : w.1 a_l0 = some (0, 0)) : go 36 0 [.ref a_l0, l1, l2, l3, l4] [] w I L P = if (I a_l0 3) < 0 then go 36 27 [.ref a_l0, l1, (fix1 l2), .int (I a_l0 3), l4] [] w I L P else go 36 9 [.ref a_l0, l1, (fix1 l2), .int (I a_l0 3), l4] [] w I L P := by
  refine (go_aload_n (m := 36) (pc := 0) (k := 0) (by decide +kernel) rfl).trans ?_
  refine (go_getI (m := 36) (pc := 1) (o := 0) (x := 27) (ci := 0) (k := 3) (by decide +kernel) rfl f_0_27 rfl h0).trans ?_
  refine (go_istore_n (m := 36) (pc := 4) (k := 3) (ls' := [.ref a_l0, l1, (fix1 l2), .int (I a_l0 3), l4]) (by decide +kernel) (by simp only [List.length_cons, List.length_nil]; decide) rfl).trans ?_
  refine (go_iload_n (m := 36) (pc := 5) (k := 3) (by decide +kernel) rfl).trans ?_
  exact go_iflt (m := 36) (pc := 6) (off := 21) (t := 27) (by decide +kernel) (by decide)
theorem Bus_placeListener_9 (a_l0 : Nat) (l1 : Value) (l2 : Value) (x_l3 : Int32) (l4 : Value) (w : Wd) (I : MI) (L : ML) (P : MP) (h0 : w.1 a_l0 = some (0, 0)) : go 36 9 [.ref a_l0, l1, l2, .int x_l3, l4] [] w I L P = go 36 14 [.ref a_l0, l1, l2, .int x_l3, l4] [(va_rf (P a_l0 2)), .int x_l3] w I L P := by
  refine (go_iload_n (m := 36) (pc := 9) (k := 3) (by decide +kernel) rfl).trans ?_
  refine (go_aload_n (m := 36) (pc := 10) (k := 0) (by decide +kernel) rfl).trans ?_
  refine (go_getR (m := 36) (pc := 11) (o := 0) (x := 23) (ci := 0) (k := 2) (by decide +kernel) rfl f_0_23 rfl h0).trans ?_
  rfl
theorem Bus_placeListener_14 (l0 : Value) (l1 : Value) (l2 : Value) (l3 : Value) (l4 : Value) (y0 : Int32) (a_s1 : Nat) (w : Wd) (I : MI) (L : ML) (P : MP) (h0 : isAr w a_s1 12) : go 36 14 [l0, l1, l2, l3, l4] [.ref a_s1, .int y0] w I L P = if (alen w a_s1) ≤ y0 then go 36 27 [l0, l1, l2, l3, l4] [] w I L P else go 36 18 [l0, l1, l2, l3, l4] [] w I L P := by
  refine (go_alen12 (m := 36) (pc := 14) (by decide +kernel) h0).trans ?_
  exact go_icmpge (m := 36) (pc := 15) (off := 12) (t := 27) (by decide +kernel) (by decide)
theorem Bus_placeListener_18 (a_l0 : Nat) (l1 : Value) (l2 : Value) (l3 : Value) (l4 : Value) (w : Wd) (I : MI) (L : ML) (P : MP) (h0 : w.1 a_l0 = some (0, 0)) : go 36 18 [.ref a_l0, l1, l2, l3, l4] [] w I L P = go 36 22 [.ref a_l0, l1, l2, l3, l4] [(va_rf (P a_l0 2))] w I L P := by
  refine (go_aload_n (m := 36) (pc := 18) (k := 0) (by decide +kernel) rfl).trans ?_
  refine (go_getR (m := 36) (pc := 19) (o := 0) (x := 23) (ci := 0) (k := 2) (by decide +kernel) rfl f_0_23 rfl h0).trans ?_
  rfl
theorem Bus_placeListener_22 (l0 : Value) (l1 : Value) (l2 : Value) (x_l3 : Int32) (l4 : Value) (a_s0 : Nat) (w : Wd) (I : MI) (L : ML) (P : MP) (h0 : inA w a_s0 12 x_l3) : go 36 22 [l0, l1, l2, .int x_l3, l4] [.ref a_s0] w I L P = go 36 24 [l0, l1, l2, .int x_l3, l4] [(va_rf (P a_s0 (Int32.toNatClampNeg x_l3)))] w I L P := by
  refine (go_iload_n (m := 36) (pc := 22) (k := 3) (by decide +kernel) rfl).trans ?_
  refine (go_aald12 (m := 36) (pc := 23) (by decide +kernel) h0).trans ?_
  rfl
theorem Bus_placeListener_24 (l0 : Value) (l1 : Value) (l2 : Value) (l3 : Value) (l4 : Value) (v0 : Value) (w : Wd) (I : MI) (L : ML) (P : MP)  : go 36 24 [l0, l1, l2, l3, l4] [v0] w I L P = go 36 28 [l0, l1, l2, l3, l4] [v0] w I L P := by
  refine (go_goto (m := 36) (pc := 24) (off := 4) (t := 28) (by decide +kernel) (by decide)).trans ?_
  rfl
theorem Bus_placeListener_27 (l0 : Value) (l1 : Value) (l2 : Value) (l3 : Value) (l4 : Value) (w : Wd) (I : MI) (L : ML) (P : MP)  : go 36 27 [l0, l1, l2, l3, l4] [] w I L P = go 36 28 [l0, l1, l2, l3, l4] [.null] w I L P := by
  refine (go_anull (m := 36) (pc := 27) (by decide +kernel)).trans ?_
  rfl
theorem Bus_placeListener_28_0 (l0 : Value) (l1 : Value) (l2 : Value) (l3 : Value) (l4 : Value) (w : Wd) (I : MI) (L : ML) (P : MP)  : go 36 28 [l0, l1, l2, l3, l4] [.null] w I L P = go 36 35 [l0, l1, l2, (fix1 l3), .null] [] w I L P := by
  refine (go_astoreN (m := 36) (pc := 28) (k := 4) (ls' := [l0, l1, l2, (fix1 l3), .null]) (by decide +kernel) (by simp only [List.length_cons, List.length_nil]; decide) rfl).trans ?_
  refine (go_aloadN (m := 36) (pc := 30) (k := 4) (by decide +kernel) rfl).trans ?_
  exact go_ifnonnullN (m := 36) (pc := 32) (off := 5) (by decide +kernel)
theorem Bus_placeListener_28_1 (l0 : Value) (l1 : Value) (l2 : Value) (l3 : Value) (l4 : Value) (a_s0 : Nat) (w : Wd) (I : MI) (L : ML) (P : MP)  : go 36 28 [l0, l1, l2, l3, l4] [.ref a_s0] w I L P = go 36 37 [l0, l1, l2, (fix1 l3), .ref a_s0] [] w I L P := by
  refine (go_astore (m := 36) (pc := 28) (k := 4) (ls' := [l0, l1, l2, (fix1 l3), .ref a_s0]) (by decide +kernel) (by simp only [List.length_cons, List.length_nil]; decide) rfl).trans ?_
  refine (go_aload (m := 36) (pc := 30) (k := 4) (by decide +kernel) rfl).trans ?_
  exact go_ifnonnullR (m := 36) (pc := 32) (off := 5) (t := 37) (by decide +kernel) (by decide)
theorem Bus_placeListener_35 (l0 : Value) (l1 : Value) (l2 : Value) (l3 : Value) (l4 : Value) (w : Wd) (I : MI) (L : ML) (P : MP)  : go 36 35 [l0, l1, l2, l3, l4] [] w I L P = some (.inl (some (.int (-1))), w, I, L, P) := by
  refine (go_ic (m := 36) (pc := 35) (n := -1) (by decide +kernel) ic_m1).trans ?_
  exact go_retI (m := 36) (pc := 36) (by decide +kernel) rfl
theorem Bus_placeListener_37 (a_l0 : Nat) (x_l1 : Int32) (x_l2 : Int32) (x_l3 : Int32) (a_l4 : Nat) (w : Wd) (I : MI) (L : ML) (P : MP) (h0 : w.1 a_l4 = some (2, 0)) (h1 : w.1 a_l0 = some (0, 0)) : go 36 37 [.ref a_l0, .int x_l1, .int x_l2, .int x_l3, .ref a_l4] [] w I L P = some (.inl (some (.int x_l3)), w, (updI (updI (updI I a_l4 0 x_l1) a_l4 1 x_l2) a_l0 3 (((updI (updI I a_l4 0 x_l1) a_l4 1 x_l2) a_l0 3) + (nI 1))), L, P) := by
  refine (go_aload (m := 36) (pc := 37) (k := 4) (by decide +kernel) rfl).trans ?_
  refine (go_iload_n (m := 36) (pc := 39) (k := 1) (by decide +kernel) rfl).trans ?_
  refine (go_putI (m := 36) (pc := 40) (o := 0) (x := 93) (ci := 2) (k := 0) (by decide +kernel) rfl f_0_93 rfl (by decide +kernel) h0).trans ?_
  refine (go_aload (m := 36) (pc := 43) (k := 4) (by decide +kernel) rfl).trans ?_
  refine (go_iload_n (m := 36) (pc := 45) (k := 2) (by decide +kernel) rfl).trans ?_
  refine (go_putI (m := 36) (pc := 46) (o := 0) (x := 103) (ci := 2) (k := 1) (by decide +kernel) rfl f_0_103 rfl (by decide +kernel) h0).trans ?_
  refine (go_aload_n (m := 36) (pc := 49) (k := 0) (by decide +kernel) rfl).trans ?_
  refine (go_dup (m := 36) (pc := 50) (by decide +kernel) rfl).trans ?_
  refine (go_getI (m := 36) (pc := 51) (o := 0) (x := 27) (ci := 0) (k := 3) (by decide +kernel) rfl f_0_27 rfl h1).trans ?_
  refine (go_ic (m := 36) (pc := 54) (n := 1) (by decide +kernel) ic_1).trans ?_
  refine (go_iadd (m := 36) (pc := 55) (by decide +kernel)).trans ?_
  refine (go_putI (m := 36) (pc := 56) (o := 0) (x := 27) (ci := 0) (k := 3) (by decide +kernel) rfl f_0_27 rfl (by decide +kernel) h1).trans ?_
  refine (go_iload_n (m := 36) (pc := 59) (k := 3) (by decide +kernel) rfl).trans ?_
  exact go_retI (m := 36) (pc := 60) (by decide +kernel) rfl
theorem Bus_placeListener_E (this : Nat) (p0 : Int32) (p1 : Int32) (w : Wd) (I : MI) (L : ML) (P : MP) : call 36 [.ref this, .int p0, .int p1] w I L P = go 36 0 [.ref this, .int p0, .int p1, unk, unk] [] w I L P := rfl
theorem Bus_listenersOn_0 (l0 : Value) (l1 : Value) (l2 : Value) (l3 : Value) (w : Wd) (I : MI) (L : ML) (P : MP)  : go 37 0 [l0, l1, l2, l3] [] w I L P = go 37 4 [(fix1 l0), .int (nI 0), .int (nI 0), l3] [] w I L P := by
  refine (go_ic (m := 37) (pc := 0) (n := 0) (by decide +kernel) ic_0).trans ?_
  refine (go_istore_n (m := 37) (pc := 1) (k := 1) (ls' := [(fix1 l0), .int (nI 0), l2, l3]) (by decide +kernel) (by simp only [List.length_cons, List.length_nil]; decide) rfl).trans ?_
  refine (go_ic (m := 37) (pc := 2) (n := 0) (by decide +kernel) ic_0).trans ?_
  refine (go_istore_n (m := 37) (pc := 3) (k := 2) (ls' := [(fix1 l0), .int (nI 0), .int (nI 0), l3]) (by decide +kernel) (by simp only [List.length_cons, List.length_nil]; decide) rfl).trans ?_
  rfl
theorem Bus_listenersOn_4 (a_l0 : Nat) (l1 : Value) (x_l2 : Int32) (l3 : Value) (w : Wd) (I : MI) (L : ML) (P : MP) (h0 : w.1 a_l0 = some (0, 0)) : go 37 4 [.ref a_l0, l1, .int x_l2, l3] [] w I L P = if (I a_l0 3) ≤ x_l2 then go 37 38 [.ref a_l0, l1, .int x_l2, l3] [] w I L P else go 37 12 [.ref a_l0, l1, .int x_l2, l3] [] w I L P := by
  refine (go_iload_n (m := 37) (pc := 4) (k := 2) (by decide +kernel) rfl).trans ?_
  refine (go_aload_n (m := 37) (pc := 5) (k := 0) (by decide +kernel) rfl).trans ?_
  refine (go_getI (m := 37) (pc := 6) (o := 0) (x := 27) (ci := 0) (k := 3) (by decide +kernel) rfl f_0_27 rfl h0).trans ?_
  exact go_icmpge (m := 37) (pc := 9) (off := 29) (t := 38) (by decide +kernel) (by decide)
theorem Bus_listenersOn_12 (a_l0 : Nat) (l1 : Value) (x_l2 : Int32) (l3 : Value) (w : Wd) (I : MI) (L : ML) (P : MP) (h0 : w.1 a_l0 = some (0, 0)) : go 37 12 [.ref a_l0, l1, .int x_l2, l3] [] w I L P = kC (call 31 [.ref a_l0, .int x_l2] w I L P) (fun v w1 I1 L1 P1 => go 37 17 [.ref a_l0, l1, .int x_l2, l3] (v.toList ++ []) w1 I1 L1 P1) := by
  refine (go_aload_n (m := 37) (pc := 12) (k := 0) (by decide +kernel) rfl).trans ?_
  refine (go_iload_n (m := 37) (pc := 13) (k := 2) (by decide +kernel) rfl).trans ?_
  exact go_vir (m := 37) (pc := 14) (o := 0) (x := 89) (y := 31) (kd := 0) (b := a_l0) (bs := [.int x_l2]) (rs := []) (by decide +kernel) rfl rfl c_0_89 (Or.inl rfl) rfl rfl rfl (by decide +kernel) (by simp only [List.length_cons, List.length_nil]; decide) (Nat.le_of_ble_eq_true rfl) h0
theorem Bus_listenersOn_17_0 (l0 : Value) (l1 : Value) (l2 : Value) (l3 : Value) (w : Wd) (I : MI) (L : ML) (P : MP)  : go 37 17 [l0, l1, l2, l3] [.null] w I L P = go 37 32 [l0, l1, (fix1 l2), .null] [] w I L P := by
  refine (go_astore_nN (m := 37) (pc := 17) (k := 3) (ls' := [l0, l1, (fix1 l2), .null]) (by decide +kernel) (by simp only [List.length_cons, List.length_nil]; decide) rfl).trans ?_
  refine (go_aload_nN (m := 37) (pc := 18) (k := 3) (by decide +kernel) rfl).trans ?_
  exact go_ifnullN (m := 37) (pc := 19) (off := 13) (t := 32) (by decide +kernel) (by decide)
theorem Bus_listenersOn_17_1 (l0 : Value) (l1 : Value) (l2 : Value) (l3 : Value) (a_s0 : Nat) (w : Wd) (I : MI) (L : ML) (P : MP)  : go 37 17 [l0, l1, l2, l3] [.ref a_s0] w I L P = go 37 22 [l0, l1, (fix1 l2), .ref a_s0] [] w I L P := by
  refine (go_astore_n (m := 37) (pc := 17) (k := 3) (ls' := [l0, l1, (fix1 l2), .ref a_s0]) (by decide +kernel) (by simp only [List.length_cons, List.length_nil]; decide) rfl).trans ?_
  refine (go_aload_n (m := 37) (pc := 18) (k := 3) (by decide +kernel) rfl).trans ?_
  exact go_ifnullR (m := 37) (pc := 19) (off := 13) (by decide +kernel)
theorem Bus_listenersOn_22 (l0 : Value) (l1 : Value) (l2 : Value) (a_l3 : Nat) (w : Wd) (I : MI) (L : ML) (P : MP) (h0 : w.1 a_l3 = some (2, 0)) : go 37 22 [l0, l1, l2, .ref a_l3] [] w I L P = if (I a_l3 2 &&& 1) = 0 then go 37 32 [l0, l1, l2, .ref a_l3] [] w I L P else go 37 29 [l0, l1, l2, .ref a_l3] [] w I L P := by
  refine (go_aload_n (m := 37) (pc := 22) (k := 3) (by decide +kernel) rfl).trans ?_
  refine (go_getZ (m := 37) (pc := 23) (o := 0) (x := 100) (ci := 2) (k := 2) (by decide +kernel) rfl f_0_100 rfl h0).trans ?_
  exact go_ifeq (m := 37) (pc := 26) (off := 6) (t := 32) (by decide +kernel) (by decide)
theorem Bus_listenersOn_29 (l0 : Value) (x_l1 : Int32) (l2 : Value) (l3 : Value) (w : Wd) (I : MI) (L : ML) (P : MP)  : go 37 29 [l0, .int x_l1, l2, l3] [] w I L P = go 37 32 [(fix1 l0), .int (x_l1 + (nI 1)), l2, l3] [] w I L P := by
  refine (go_iinc (m := 37) (pc := 29) (k := 1) (n := 1) (x := x_l1) (v := x_l1 + (nI 1)) (ls' := [(fix1 l0), .int (x_l1 + (nI 1)), l2, l3]) (by decide +kernel) rfl (by rw [ic_1]) rfl).trans ?_
  rfl
theorem Bus_listenersOn_32 (l0 : Value) (l1 : Value) (x_l2 : Int32) (l3 : Value) (w : Wd) (I : MI) (L : ML) (P : MP)  : go 37 32 [l0, l1, .int x_l2, l3] [] w I L P = go 37 4 [l0, (fix1 l1), .int (x_l2 + (nI 1)), l3] [] w I L P := by
  refine (go_iinc (m := 37) (pc := 32) (k := 2) (n := 1) (x := x_l2) (v := x_l2 + (nI 1)) (ls' := [l0, (fix1 l1), .int (x_l2 + (nI 1)), l3]) (by decide +kernel) rfl (by rw [ic_1]) rfl).trans ?_
  refine (go_goto (m := 37) (pc := 35) (off := -31) (t := 4) (by decide +kernel) (by decide)).trans ?_
  rfl
theorem Bus_listenersOn_38 (l0 : Value) (x_l1 : Int32) (l2 : Value) (l3 : Value) (w : Wd) (I : MI) (L : ML) (P : MP)  : go 37 38 [l0, .int x_l1, l2, l3] [] w I L P = some (.inl (some (.int x_l1)), w, I, L, P) := by
  refine (go_iload_n (m := 37) (pc := 38) (k := 1) (by decide +kernel) rfl).trans ?_
  exact go_retI (m := 37) (pc := 39) (by decide +kernel) rfl
theorem Bus_listenersOn_E (this : Nat) (w : Wd) (I : MI) (L : ML) (P : MP) : call 37 [.ref this] w I L P = go 37 0 [.ref this, unk, unk, unk] [] w I L P := rfl
theorem Bus_tell_0 (l0 : Value) (x_l1 : Int32) (w : Wd) (I : MI) (L : ML) (P : MP)  : go 38 0 [l0, .int x_l1] [] w I L P = go 38 1 [l0, .int x_l1] [.int x_l1] w I L P := by
  refine (go_iload_n (m := 38) (pc := 0) (k := 1) (by decide +kernel) rfl).trans ?_
  rfl
theorem Bus_tell_1_k0 (l0 : Value) (l1 : Value) (w : Wd) (I : MI) (L : ML) (P : MP) : go 38 1 [l0, l1] [.int (nI 0)] w I L P = go 38 52 [l0, l1] [] w I L P := go_tsI (m := 38) (pc := 1) (z := 0) (off := 51) (t := 52) (dflt := 113) (lo := 0) (hi := 8) (offs := #[51, 59, 64, 69, 74, 87, 92, 100, 108]) (len := 51) (by decide +kernel) (by decide) (by decide) (by decide) (by decide) (by decide)
theorem Bus_tell_1_k1 (l0 : Value) (l1 : Value) (w : Wd) (I : MI) (L : ML) (P : MP) : go 38 1 [l0, l1] [.int (nI 1)] w I L P = go 38 60 [l0, l1] [] w I L P := go_tsI (m := 38) (pc := 1) (z := 1) (off := 59) (t := 60) (dflt := 113) (lo := 0) (hi := 8) (offs := #[51, 59, 64, 69, 74, 87, 92, 100, 108]) (len := 51) (by decide +kernel) (by decide) (by decide) (by decide) (by decide) (by decide)
theorem Bus_tell_1_k2 (l0 : Value) (l1 : Value) (w : Wd) (I : MI) (L : ML) (P : MP) : go 38 1 [l0, l1] [.int (nI 2)] w I L P = go 38 65 [l0, l1] [] w I L P := go_tsI (m := 38) (pc := 1) (z := 2) (off := 64) (t := 65) (dflt := 113) (lo := 0) (hi := 8) (offs := #[51, 59, 64, 69, 74, 87, 92, 100, 108]) (len := 51) (by decide +kernel) (by decide) (by decide) (by decide) (by decide) (by decide)
theorem Bus_tell_1_k3 (l0 : Value) (l1 : Value) (w : Wd) (I : MI) (L : ML) (P : MP) : go 38 1 [l0, l1] [.int (nI 3)] w I L P = go 38 70 [l0, l1] [] w I L P := go_tsI (m := 38) (pc := 1) (z := 3) (off := 69) (t := 70) (dflt := 113) (lo := 0) (hi := 8) (offs := #[51, 59, 64, 69, 74, 87, 92, 100, 108]) (len := 51) (by decide +kernel) (by decide) (by decide) (by decide) (by decide) (by decide)
theorem Bus_tell_1_k4 (l0 : Value) (l1 : Value) (w : Wd) (I : MI) (L : ML) (P : MP) : go 38 1 [l0, l1] [.int (nI 4)] w I L P = go 38 75 [l0, l1] [] w I L P := go_tsI (m := 38) (pc := 1) (z := 4) (off := 74) (t := 75) (dflt := 113) (lo := 0) (hi := 8) (offs := #[51, 59, 64, 69, 74, 87, 92, 100, 108]) (len := 51) (by decide +kernel) (by decide) (by decide) (by decide) (by decide) (by decide)
theorem Bus_tell_1_k5 (l0 : Value) (l1 : Value) (w : Wd) (I : MI) (L : ML) (P : MP) : go 38 1 [l0, l1] [.int (nI 5)] w I L P = go 38 88 [l0, l1] [] w I L P := go_tsI (m := 38) (pc := 1) (z := 5) (off := 87) (t := 88) (dflt := 113) (lo := 0) (hi := 8) (offs := #[51, 59, 64, 69, 74, 87, 92, 100, 108]) (len := 51) (by decide +kernel) (by decide) (by decide) (by decide) (by decide) (by decide)
theorem Bus_tell_1_k6 (l0 : Value) (l1 : Value) (w : Wd) (I : MI) (L : ML) (P : MP) : go 38 1 [l0, l1] [.int (nI 6)] w I L P = go 38 93 [l0, l1] [] w I L P := go_tsI (m := 38) (pc := 1) (z := 6) (off := 92) (t := 93) (dflt := 113) (lo := 0) (hi := 8) (offs := #[51, 59, 64, 69, 74, 87, 92, 100, 108]) (len := 51) (by decide +kernel) (by decide) (by decide) (by decide) (by decide) (by decide)
theorem Bus_tell_1_k7 (l0 : Value) (l1 : Value) (w : Wd) (I : MI) (L : ML) (P : MP) : go 38 1 [l0, l1] [.int (nI 7)] w I L P = go 38 101 [l0, l1] [] w I L P := go_tsI (m := 38) (pc := 1) (z := 7) (off := 100) (t := 101) (dflt := 113) (lo := 0) (hi := 8) (offs := #[51, 59, 64, 69, 74, 87, 92, 100, 108]) (len := 51) (by decide +kernel) (by decide) (by decide) (by decide) (by decide) (by decide)
theorem Bus_tell_1_k8 (l0 : Value) (l1 : Value) (w : Wd) (I : MI) (L : ML) (P : MP) : go 38 1 [l0, l1] [.int (nI 8)] w I L P = go 38 109 [l0, l1] [] w I L P := go_tsI (m := 38) (pc := 1) (z := 8) (off := 108) (t := 109) (dflt := 113) (lo := 0) (hi := 8) (offs := #[51, 59, 64, 69, 74, 87, 92, 100, 108]) (len := 51) (by decide +kernel) (by decide) (by decide) (by decide) (by decide) (by decide)
theorem Bus_tell_1_kd (l0 : Value) (l1 : Value) (w : Wd) (I : MI) (L : ML) (P : MP) (y : Int32) (h0 : y.toInt < 0 ∨ 8 < y.toInt) : go 38 1 [l0, l1] [.int y] w I L P = go 38 114 [l0, l1] [] w I L P := go_tsO (m := 38) (pc := 1) (t := 114) (dflt := 113) (lo := 0) (hi := 8) (offs := #[51, 59, 64, 69, 74, 87, 92, 100, 108]) (len := 51) (by decide +kernel) h0 (by decide)
theorem Bus_tell_52 (a_l0 : Nat) (l1 : Value) (w : Wd) (I : MI) (L : ML) (P : MP) (h0 : w.1 a_l0 = some (0, 0)) : go 38 52 [.ref a_l0, l1] [] w I L P = go 38 56 [.ref a_l0, l1] [(va_rf (P a_l0 5))] w I L P := by
  refine (go_aload_n (m := 38) (pc := 52) (k := 0) (by decide +kernel) rfl).trans ?_
  refine (go_getR (m := 38) (pc := 53) (o := 0) (x := 36) (ci := 0) (k := 5) (by decide +kernel) rfl f_0_36 rfl h0).trans ?_
  rfl
theorem Bus_tell_56 (l0 : Value) (l1 : Value) (a_s0 : Nat) (w : Wd) (I : MI) (L : ML) (P : MP) (h0 : w.1 a_s0 = some (5, 0)) : go 38 56 [l0, l1] [.ref a_s0] w I L P = some (.inl (some (.int (I a_s0 0))), w, I, L, P) := by
  refine (go_getI (m := 38) (pc := 56) (o := 0) (x := 106) (ci := 5) (k := 0) (by decide +kernel) rfl f_0_106 rfl h0).trans ?_
  exact go_retI (m := 38) (pc := 59) (by decide +kernel) rfl
theorem Bus_tell_60 (a_l0 : Nat) (l1 : Value) (w : Wd) (I : MI) (L : ML) (P : MP) (h0 : w.1 a_l0 = some (0, 0)) : go 38 60 [.ref a_l0, l1] [] w I L P = some (.inl (some (.int (I a_l0 1))), w, I, L, P) := by
  refine (go_aload_n (m := 38) (pc := 60) (k := 0) (by decide +kernel) rfl).trans ?_
  refine (go_getI (m := 38) (pc := 61) (o := 0) (x := 17) (ci := 0) (k := 1) (by decide +kernel) rfl f_0_17 rfl h0).trans ?_
  exact go_retI (m := 38) (pc := 64) (by decide +kernel) rfl
theorem Bus_tell_65 (a_l0 : Nat) (l1 : Value) (w : Wd) (I : MI) (L : ML) (P : MP) (h0 : w.1 a_l0 = some (0, 0)) : go 38 65 [.ref a_l0, l1] [] w I L P = some (.inl (some (.int (I a_l0 3))), w, I, L, P) := by
  refine (go_aload_n (m := 38) (pc := 65) (k := 0) (by decide +kernel) rfl).trans ?_
  refine (go_getI (m := 38) (pc := 66) (o := 0) (x := 27) (ci := 0) (k := 3) (by decide +kernel) rfl f_0_27 rfl h0).trans ?_
  exact go_retI (m := 38) (pc := 69) (by decide +kernel) rfl
theorem Bus_tell_70 (a_l0 : Nat) (l1 : Value) (w : Wd) (I : MI) (L : ML) (P : MP) (h0 : w.1 a_l0 = some (0, 0)) : go 38 70 [.ref a_l0, l1] [] w I L P = some (.inl (some (.int (I a_l0 4))), w, I, L, P) := by
  refine (go_aload_n (m := 38) (pc := 70) (k := 0) (by decide +kernel) rfl).trans ?_
  refine (go_getI (m := 38) (pc := 71) (o := 0) (x := 30) (ci := 0) (k := 4) (by decide +kernel) rfl f_0_30 rfl h0).trans ?_
  exact go_retI (m := 38) (pc := 74) (by decide +kernel) rfl
theorem Bus_tell_75 (a_l0 : Nat) (l1 : Value) (w : Wd) (I : MI) (L : ML) (P : MP) (h0 : w.1 a_l0 = some (0, 0)) : go 38 75 [.ref a_l0, l1] [] w I L P = if (I a_l0 6) ≠ 0 then go 38 86 [.ref a_l0, l1] [] w I L P else go 38 82 [.ref a_l0, l1] [] w I L P := by
  refine (go_aload_n (m := 38) (pc := 75) (k := 0) (by decide +kernel) rfl).trans ?_
  refine (go_getI (m := 38) (pc := 76) (o := 0) (x := 40) (ci := 0) (k := 6) (by decide +kernel) rfl f_0_40 rfl h0).trans ?_
  exact go_ifne (m := 38) (pc := 79) (off := 7) (t := 86) (by decide +kernel) (by decide)
theorem Bus_tell_82 (l0 : Value) (l1 : Value) (w : Wd) (I : MI) (L : ML) (P : MP)  : go 38 82 [l0, l1] [] w I L P = go 38 87 [l0, l1] [.int (nI 1)] w I L P := by
  refine (go_ic (m := 38) (pc := 82) (n := 1) (by decide +kernel) ic_1).trans ?_
  refine (go_goto (m := 38) (pc := 83) (off := 4) (t := 87) (by decide +kernel) (by decide)).trans ?_
  rfl
theorem Bus_tell_86 (l0 : Value) (l1 : Value) (w : Wd) (I : MI) (L : ML) (P : MP)  : go 38 86 [l0, l1] [] w I L P = go 38 87 [l0, l1] [.int (nI 0)] w I L P := by
  refine (go_ic (m := 38) (pc := 86) (n := 0) (by decide +kernel) ic_0).trans ?_
  rfl
theorem Bus_tell_87 (l0 : Value) (l1 : Value) (y0 : Int32) (w : Wd) (I : MI) (L : ML) (P : MP)  : go 38 87 [l0, l1] [.int y0] w I L P = some (.inl (some (.int y0)), w, I, L, P) := by
  exact go_retI (m := 38) (pc := 87) (by decide +kernel) rfl
theorem Bus_tell_88 (a_l0 : Nat) (l1 : Value) (w : Wd) (I : MI) (L : ML) (P : MP) (h0 : w.1 a_l0 = some (0, 0)) : go 38 88 [.ref a_l0, l1] [] w I L P = some (.inl (some (.int (I a_l0 7))), w, I, L, P) := by
  refine (go_aload_n (m := 38) (pc := 88) (k := 0) (by decide +kernel) rfl).trans ?_
  refine (go_getI (m := 38) (pc := 89) (o := 0) (x := 43) (ci := 0) (k := 7) (by decide +kernel) rfl f_0_43 rfl h0).trans ?_
  exact go_retI (m := 38) (pc := 92) (by decide +kernel) rfl
theorem Bus_tell_93 (a_l0 : Nat) (l1 : Value) (w : Wd) (I : MI) (L : ML) (P : MP) (h0 : w.1 a_l0 = some (0, 0)) : go 38 93 [.ref a_l0, l1] [] w I L P = go 38 97 [.ref a_l0, l1] [(va_rf (P a_l0 5))] w I L P := by
  refine (go_aload_n (m := 38) (pc := 93) (k := 0) (by decide +kernel) rfl).trans ?_
  refine (go_getR (m := 38) (pc := 94) (o := 0) (x := 36) (ci := 0) (k := 5) (by decide +kernel) rfl f_0_36 rfl h0).trans ?_
  rfl
theorem Bus_tell_97 (l0 : Value) (l1 : Value) (a_s0 : Nat) (w : Wd) (I : MI) (L : ML) (P : MP) (h0 : w.1 a_s0 = some (5, 0)) : go 38 97 [l0, l1] [.ref a_s0] w I L P = some (.inl (some (.int (I a_s0 1))), w, I, L, P) := by
  refine (go_getI (m := 38) (pc := 97) (o := 0) (x := 109) (ci := 5) (k := 1) (by decide +kernel) rfl f_0_109 rfl h0).trans ?_
  exact go_retI (m := 38) (pc := 100) (by decide +kernel) rfl
theorem Bus_tell_101 (a_l0 : Nat) (l1 : Value) (w : Wd) (I : MI) (L : ML) (P : MP) (h0 : w.1 a_l0 = some (0, 0)) : go 38 101 [.ref a_l0, l1] [] w I L P = go 38 105 [.ref a_l0, l1] [(va_rf (P a_l0 5))] w I L P := by
  refine (go_aload_n (m := 38) (pc := 101) (k := 0) (by decide +kernel) rfl).trans ?_
  refine (go_getR (m := 38) (pc := 102) (o := 0) (x := 36) (ci := 0) (k := 5) (by decide +kernel) rfl f_0_36 rfl h0).trans ?_
  rfl
theorem Bus_tell_105 (l0 : Value) (l1 : Value) (a_s0 : Nat) (w : Wd) (I : MI) (L : ML) (P : MP) (h0 : w.1 a_s0 = some (5, 0)) : go 38 105 [l0, l1] [.ref a_s0] w I L P = some (.inl (some (.int (I a_s0 2))), w, I, L, P) := by
  refine (go_getI (m := 38) (pc := 105) (o := 0) (x := 112) (ci := 5) (k := 2) (by decide +kernel) rfl f_0_112 rfl h0).trans ?_
  exact go_retI (m := 38) (pc := 108) (by decide +kernel) rfl
theorem Bus_tell_109 (a_l0 : Nat) (l1 : Value) (w : Wd) (I : MI) (L : ML) (P : MP) (h0 : w.1 a_l0 = some (0, 0)) : go 38 109 [.ref a_l0, l1] [] w I L P = some (.inl (some (.int (I a_l0 8))), w, I, L, P) := by
  refine (go_aload_n (m := 38) (pc := 109) (k := 0) (by decide +kernel) rfl).trans ?_
  refine (go_getI (m := 38) (pc := 110) (o := 0) (x := 46) (ci := 0) (k := 8) (by decide +kernel) rfl f_0_46 rfl h0).trans ?_
  exact go_retI (m := 38) (pc := 113) (by decide +kernel) rfl
theorem Bus_tell_114 (a_l0 : Nat) (l1 : Value) (w : Wd) (I : MI) (L : ML) (P : MP) (h0 : w.1 a_l0 = some (0, 0)) : go 38 114 [.ref a_l0, l1] [] w I L P = go 38 118 [.ref a_l0, l1] [(va_rf (P a_l0 5))] w I L P := by
  refine (go_aload_n (m := 38) (pc := 114) (k := 0) (by decide +kernel) rfl).trans ?_
  refine (go_getR (m := 38) (pc := 115) (o := 0) (x := 36) (ci := 0) (k := 5) (by decide +kernel) rfl f_0_36 rfl h0).trans ?_
  rfl
theorem Bus_tell_118 (l0 : Value) (l1 : Value) (a_s0 : Nat) (w : Wd) (I : MI) (L : ML) (P : MP) (h0 : w.1 a_s0 = some (5, 0)) : go 38 118 [l0, l1] [.ref a_s0] w I L P = kC (call 26 [.ref a_s0] w I L P) (fun v w1 I1 L1 P1 => go 38 121 [l0, l1] (v.toList ++ []) w1 I1 L1 P1) := by
  exact go_vir (m := 38) (pc := 118) (o := 0) (x := 115) (y := 26) (kd := 1) (b := a_s0) (bs := []) (rs := []) (by decide +kernel) rfl rfl c_0_115 (Or.inr rfl) rfl rfl rfl (by decide +kernel) (by simp only [List.length_cons, List.length_nil]; decide) (Nat.le_of_ble_eq_true rfl) h0
theorem Bus_tell_121 (l0 : Value) (l1 : Value) (y0 : Int32) (w : Wd) (I : MI) (L : ML) (P : MP)  : go 38 121 [l0, l1] [.int y0] w I L P = some (.inl (some (.int y0)), w, I, L, P) := by
  exact go_retI (m := 38) (pc := 121) (by decide +kernel) rfl
theorem Bus_tell_E (this : Nat) (p0 : Int32) (w : Wd) (I : MI) (L : ML) (P : MP) : call 38 [.ref this, .int p0] w I L P = go 38 0 [.ref this, .int p0] [] w I L P := rfl
theorem Bus_callersWithMessages_0 (l0 : Value) (l1 : Value) (l2 : Value) (w : Wd) (I : MI) (L : ML) (P : MP)  : go 39 0 [l0, l1, l2] [] w I L P = go 39 4 [(fix1 l0), .int (nI 0), .int (nI 0)] [] w I L P := by
  refine (go_ic (m := 39) (pc := 0) (n := 0) (by decide +kernel) ic_0).trans ?_
  refine (go_istore_n (m := 39) (pc := 1) (k := 1) (ls' := [(fix1 l0), .int (nI 0), l2]) (by decide +kernel) (by simp only [List.length_cons, List.length_nil]; decide) rfl).trans ?_
  refine (go_ic (m := 39) (pc := 2) (n := 0) (by decide +kernel) ic_0).trans ?_
  refine (go_istore_n (m := 39) (pc := 3) (k := 2) (ls' := [(fix1 l0), .int (nI 0), .int (nI 0)]) (by decide +kernel) (by simp only [List.length_cons, List.length_nil]; decide) rfl).trans ?_
  rfl
theorem Bus_callersWithMessages_4 (a_l0 : Nat) (l1 : Value) (x_l2 : Int32) (w : Wd) (I : MI) (L : ML) (P : MP) (h0 : w.1 a_l0 = some (0, 0)) : go 39 4 [.ref a_l0, l1, .int x_l2] [] w I L P = if (I a_l0 1) ≤ x_l2 then go 39 32 [.ref a_l0, l1, .int x_l2] [] w I L P else go 39 12 [.ref a_l0, l1, .int x_l2] [] w I L P := by
  refine (go_iload_n (m := 39) (pc := 4) (k := 2) (by decide +kernel) rfl).trans ?_
  refine (go_aload_n (m := 39) (pc := 5) (k := 0) (by decide +kernel) rfl).trans ?_
  refine (go_getI (m := 39) (pc := 6) (o := 0) (x := 17) (ci := 0) (k := 1) (by decide +kernel) rfl f_0_17 rfl h0).trans ?_
  exact go_icmpge (m := 39) (pc := 9) (off := 23) (t := 32) (by decide +kernel) (by decide)
theorem Bus_callersWithMessages_12 (a_l0 : Nat) (l1 : Value) (x_l2 : Int32) (w : Wd) (I : MI) (L : ML) (P : MP) (h0 : w.1 a_l0 = some (0, 0)) : go 39 12 [.ref a_l0, l1, .int x_l2] [] w I L P = kC (call 32 [.ref a_l0, .int x_l2] w I L P) (fun v w1 I1 L1 P1 => go 39 17 [.ref a_l0, l1, .int x_l2] (v.toList ++ []) w1 I1 L1 P1) := by
  refine (go_aload_n (m := 39) (pc := 12) (k := 0) (by decide +kernel) rfl).trans ?_
  refine (go_iload_n (m := 39) (pc := 13) (k := 2) (by decide +kernel) rfl).trans ?_
  exact go_vir (m := 39) (pc := 14) (o := 0) (x := 119) (y := 32) (kd := 0) (b := a_l0) (bs := [.int x_l2]) (rs := []) (by decide +kernel) rfl rfl c_0_119 (Or.inl rfl) rfl rfl rfl (by decide +kernel) (by simp only [List.length_cons, List.length_nil]; decide) (Nat.le_of_ble_eq_true rfl) h0
theorem Bus_callersWithMessages_17_0 (l0 : Value) (l1 : Value) (l2 : Value) (w : Wd) (I : MI) (L : ML) (P : MP)  : go 39 17 [l0, l1, l2] [.null] w I L P = go 39 26 [l0, l1, l2] [] w I L P := by
  exact go_ifnullN (m := 39) (pc := 17) (off := 9) (t := 26) (by decide +kernel) (by decide)
theorem Bus_callersWithMessages_17_1 (l0 : Value) (l1 : Value) (l2 : Value) (a_s0 : Nat) (w : Wd) (I : MI) (L : ML) (P : MP)  : go 39 17 [l0, l1, l2] [.ref a_s0] w I L P = go 39 20 [l0, l1, l2] [] w I L P := by
  exact go_ifnullR (m := 39) (pc := 17) (off := 9) (by decide +kernel)
theorem Bus_callersWithMessages_20 (l0 : Value) (x_l1 : Int32) (x_l2 : Int32) (w : Wd) (I : MI) (L : ML) (P : MP)  : go 39 20 [l0, .int x_l1, .int x_l2] [] w I L P = go 39 26 [(fix1 l0), .int (x_l1 ||| ((nI 1) <<< (x_l2 &&& 31))), .int x_l2] [] w I L P := by
  refine (go_iload_n (m := 39) (pc := 20) (k := 1) (by decide +kernel) rfl).trans ?_
  refine (go_ic (m := 39) (pc := 21) (n := 1) (by decide +kernel) ic_1).trans ?_
  refine (go_iload_n (m := 39) (pc := 22) (k := 2) (by decide +kernel) rfl).trans ?_
  refine (go_ishl (m := 39) (pc := 23) (by decide +kernel)).trans ?_
  refine (go_ior (m := 39) (pc := 24) (by decide +kernel)).trans ?_
  refine (go_istore_n (m := 39) (pc := 25) (k := 1) (ls' := [(fix1 l0), .int (x_l1 ||| ((nI 1) <<< (x_l2 &&& 31))), .int x_l2]) (by decide +kernel) (by simp only [List.length_cons, List.length_nil]; decide) rfl).trans ?_
  rfl
theorem Bus_callersWithMessages_26 (l0 : Value) (l1 : Value) (x_l2 : Int32) (w : Wd) (I : MI) (L : ML) (P : MP)  : go 39 26 [l0, l1, .int x_l2] [] w I L P = go 39 4 [l0, (fix1 l1), .int (x_l2 + (nI 1))] [] w I L P := by
  refine (go_iinc (m := 39) (pc := 26) (k := 2) (n := 1) (x := x_l2) (v := x_l2 + (nI 1)) (ls' := [l0, (fix1 l1), .int (x_l2 + (nI 1))]) (by decide +kernel) rfl (by rw [ic_1]) rfl).trans ?_
  refine (go_goto (m := 39) (pc := 29) (off := -25) (t := 4) (by decide +kernel) (by decide)).trans ?_
  rfl
theorem Bus_callersWithMessages_32 (l0 : Value) (x_l1 : Int32) (l2 : Value) (w : Wd) (I : MI) (L : ML) (P : MP)  : go 39 32 [l0, .int x_l1, l2] [] w I L P = some (.inl (some (.int x_l1)), w, I, L, P) := by
  refine (go_iload_n (m := 39) (pc := 32) (k := 1) (by decide +kernel) rfl).trans ?_
  exact go_retI (m := 39) (pc := 33) (by decide +kernel) rfl
theorem Bus_callersWithMessages_E (this : Nat) (w : Wd) (I : MI) (L : ML) (P : MP) : call 39 [.ref this] w I L P = go 39 0 [.ref this, unk, unk] [] w I L P := rfl
theorem Bus_lowestHeaders_0 (l0 : Value) (l1 : Value) (l2 : Value) (l3 : Value) (l4 : Value) (w : Wd) (I : MI) (L : ML) (P : MP)  : go 40 0 [l0, l1, l2, l3, l4] [] w I L P = go 40 8 [(fix1 l0), .int (nI 256), .int (nI 0), .int (nI 0), l4] [] w I L P := by
  refine (go_si (m := 40) (pc := 0) (n := 256) (by decide +kernel) si_256).trans ?_
  refine (go_istore_n (m := 40) (pc := 3) (k := 1) (ls' := [(fix1 l0), .int (nI 256), l2, l3, l4]) (by decide +kernel) (by simp only [List.length_cons, List.length_nil]; decide) rfl).trans ?_
  refine (go_ic (m := 40) (pc := 4) (n := 0) (by decide +kernel) ic_0).trans ?_
  refine (go_istore_n (m := 40) (pc := 5) (k := 2) (ls' := [(fix1 l0), .int (nI 256), .int (nI 0), l3, l4]) (by decide +kernel) (by simp only [List.length_cons, List.length_nil]; decide) rfl).trans ?_
  refine (go_ic (m := 40) (pc := 6) (n := 0) (by decide +kernel) ic_0).trans ?_
  refine (go_istore_n (m := 40) (pc := 7) (k := 3) (ls' := [(fix1 l0), .int (nI 256), .int (nI 0), .int (nI 0), l4]) (by decide +kernel) (by simp only [List.length_cons, List.length_nil]; decide) rfl).trans ?_
  rfl
theorem Bus_lowestHeaders_8 (a_l0 : Nat) (l1 : Value) (l2 : Value) (x_l3 : Int32) (l4 : Value) (w : Wd) (I : MI) (L : ML) (P : MP) (h0 : w.1 a_l0 = some (0, 0)) : go 40 8 [.ref a_l0, l1, l2, .int x_l3, l4] [] w I L P = if (I a_l0 1) ≤ x_l3 then go 40 69 [.ref a_l0, l1, l2, .int x_l3, l4] [] w I L P else go 40 16 [.ref a_l0, l1, l2, .int x_l3, l4] [] w I L P := by
  refine (go_iload_n (m := 40) (pc := 8) (k := 3) (by decide +kernel) rfl).trans ?_
  refine (go_aload_n (m := 40) (pc := 9) (k := 0) (by decide +kernel) rfl).trans ?_
  refine (go_getI (m := 40) (pc := 10) (o := 0) (x := 17) (ci := 0) (k := 1) (by decide +kernel) rfl f_0_17 rfl h0).trans ?_
  exact go_icmpge (m := 40) (pc := 13) (off := 56) (t := 69) (by decide +kernel) (by decide)
theorem Bus_lowestHeaders_16 (a_l0 : Nat) (l1 : Value) (l2 : Value) (x_l3 : Int32) (l4 : Value) (w : Wd) (I : MI) (L : ML) (P : MP) (h0 : w.1 a_l0 = some (0, 0)) : go 40 16 [.ref a_l0, l1, l2, .int x_l3, l4] [] w I L P = kC (call 32 [.ref a_l0, .int x_l3] w I L P) (fun v w1 I1 L1 P1 => go 40 21 [.ref a_l0, l1, l2, .int x_l3, l4] (v.toList ++ []) w1 I1 L1 P1) := by
  refine (go_aload_n (m := 40) (pc := 16) (k := 0) (by decide +kernel) rfl).trans ?_
  refine (go_iload_n (m := 40) (pc := 17) (k := 3) (by decide +kernel) rfl).trans ?_
  exact go_vir (m := 40) (pc := 18) (o := 0) (x := 119) (y := 32) (kd := 0) (b := a_l0) (bs := [.int x_l3]) (rs := []) (by decide +kernel) rfl rfl c_0_119 (Or.inl rfl) rfl rfl rfl (by decide +kernel) (by simp only [List.length_cons, List.length_nil]; decide) (Nat.le_of_ble_eq_true rfl) h0
theorem Bus_lowestHeaders_21_0 (l0 : Value) (l1 : Value) (l2 : Value) (l3 : Value) (l4 : Value) (w : Wd) (I : MI) (L : ML) (P : MP)  : go 40 21 [l0, l1, l2, l3, l4] [.null] w I L P = go 40 63 [l0, l1, l2, (fix1 l3), .null] [] w I L P := by
  refine (go_astoreN (m := 40) (pc := 21) (k := 4) (ls' := [l0, l1, l2, (fix1 l3), .null]) (by decide +kernel) (by simp only [List.length_cons, List.length_nil]; decide) rfl).trans ?_
  refine (go_aloadN (m := 40) (pc := 23) (k := 4) (by decide +kernel) rfl).trans ?_
  exact go_ifnullN (m := 40) (pc := 25) (off := 38) (t := 63) (by decide +kernel) (by decide)
theorem Bus_lowestHeaders_21_1 (l0 : Value) (l1 : Value) (l2 : Value) (l3 : Value) (l4 : Value) (a_s0 : Nat) (w : Wd) (I : MI) (L : ML) (P : MP)  : go 40 21 [l0, l1, l2, l3, l4] [.ref a_s0] w I L P = go 40 28 [l0, l1, l2, (fix1 l3), .ref a_s0] [] w I L P := by
  refine (go_astore (m := 40) (pc := 21) (k := 4) (ls' := [l0, l1, l2, (fix1 l3), .ref a_s0]) (by decide +kernel) (by simp only [List.length_cons, List.length_nil]; decide) rfl).trans ?_
  refine (go_aload (m := 40) (pc := 23) (k := 4) (by decide +kernel) rfl).trans ?_
  exact go_ifnullR (m := 40) (pc := 25) (off := 38) (by decide +kernel)
theorem Bus_lowestHeaders_28 (l0 : Value) (l1 : Value) (l2 : Value) (l3 : Value) (a_l4 : Nat) (w : Wd) (I : MI) (L : ML) (P : MP) (h0 : w.1 a_l4 = some (3, 0)) : go 40 28 [l0, l1, l2, l3, .ref a_l4] [] w I L P = kC (call 2 [.ref a_l4] w I L P) (fun v w1 I1 L1 P1 => go 40 33 [l0, l1, l2, l3, .ref a_l4] (v.toList ++ []) w1 I1 L1 P1) := by
  refine (go_aload (m := 40) (pc := 28) (k := 4) (by decide +kernel) rfl).trans ?_
  exact go_vir (m := 40) (pc := 30) (o := 0) (x := 122) (y := 2) (kd := 1) (b := a_l4) (bs := []) (rs := []) (by decide +kernel) rfl rfl c_0_122 (Or.inr rfl) rfl rfl rfl (by decide +kernel) (by simp only [List.length_cons, List.length_nil]; decide) (Nat.le_of_ble_eq_true rfl) h0
theorem Bus_lowestHeaders_33 (l0 : Value) (x_l1 : Int32) (l2 : Value) (l3 : Value) (l4 : Value) (y0 : Int32) (w : Wd) (I : MI) (L : ML) (P : MP)  : go 40 33 [l0, .int x_l1, l2, l3, l4] [.int y0] w I L P = if y0 ≤ x_l1 then go 40 40 [l0, .int x_l1, l2, l3, l4] [] w I L P else go 40 37 [l0, .int x_l1, l2, l3, l4] [] w I L P := by
  refine (go_iload_n (m := 40) (pc := 33) (k := 1) (by decide +kernel) rfl).trans ?_
  exact go_icmple (m := 40) (pc := 34) (off := 6) (t := 40) (by decide +kernel) (by decide)
theorem Bus_lowestHeaders_37 (l0 : Value) (l1 : Value) (l2 : Value) (l3 : Value) (l4 : Value) (w : Wd) (I : MI) (L : ML) (P : MP)  : go 40 37 [l0, l1, l2, l3, l4] [] w I L P = go 40 63 [l0, l1, l2, l3, l4] [] w I L P := by
  refine (go_goto (m := 40) (pc := 37) (off := 26) (t := 63) (by decide +kernel) (by decide)).trans ?_
  rfl
theorem Bus_lowestHeaders_40 (l0 : Value) (l1 : Value) (l2 : Value) (l3 : Value) (a_l4 : Nat) (w : Wd) (I : MI) (L : ML) (P : MP) (h0 : w.1 a_l4 = some (3, 0)) : go 40 40 [l0, l1, l2, l3, .ref a_l4] [] w I L P = kC (call 2 [.ref a_l4] w I L P) (fun v w1 I1 L1 P1 => go 40 45 [l0, l1, l2, l3, .ref a_l4] (v.toList ++ []) w1 I1 L1 P1) := by
  refine (go_aload (m := 40) (pc := 40) (k := 4) (by decide +kernel) rfl).trans ?_
  exact go_vir (m := 40) (pc := 42) (o := 0) (x := 122) (y := 2) (kd := 1) (b := a_l4) (bs := []) (rs := []) (by decide +kernel) rfl rfl c_0_122 (Or.inr rfl) rfl rfl rfl (by decide +kernel) (by simp only [List.length_cons, List.length_nil]; decide) (Nat.le_of_ble_eq_true rfl) h0
theorem Bus_lowestHeaders_45 (l0 : Value) (x_l1 : Int32) (l2 : Value) (l3 : Value) (l4 : Value) (y0 : Int32) (w : Wd) (I : MI) (L : ML) (P : MP)  : go 40 45 [l0, .int x_l1, l2, l3, l4] [.int y0] w I L P = if x_l1 ≤ y0 then go 40 57 [l0, .int x_l1, l2, l3, l4] [] w I L P else go 40 49 [l0, .int x_l1, l2, l3, l4] [] w I L P := by
  refine (go_iload_n (m := 40) (pc := 45) (k := 1) (by decide +kernel) rfl).trans ?_
  exact go_icmpge (m := 40) (pc := 46) (off := 11) (t := 57) (by decide +kernel) (by decide)
theorem Bus_lowestHeaders_49 (l0 : Value) (l1 : Value) (l2 : Value) (l3 : Value) (a_l4 : Nat) (w : Wd) (I : MI) (L : ML) (P : MP) (h0 : w.1 a_l4 = some (3, 0)) : go 40 49 [l0, l1, l2, l3, .ref a_l4] [] w I L P = kC (call 2 [.ref a_l4] w I L P) (fun v w1 I1 L1 P1 => go 40 54 [l0, l1, l2, l3, .ref a_l4] (v.toList ++ []) w1 I1 L1 P1) := by
  refine (go_aload (m := 40) (pc := 49) (k := 4) (by decide +kernel) rfl).trans ?_
  exact go_vir (m := 40) (pc := 51) (o := 0) (x := 122) (y := 2) (kd := 1) (b := a_l4) (bs := []) (rs := []) (by decide +kernel) rfl rfl c_0_122 (Or.inr rfl) rfl rfl rfl (by decide +kernel) (by simp only [List.length_cons, List.length_nil]; decide) (Nat.le_of_ble_eq_true rfl) h0
theorem Bus_lowestHeaders_54 (l0 : Value) (l1 : Value) (l2 : Value) (l3 : Value) (l4 : Value) (y0 : Int32) (w : Wd) (I : MI) (L : ML) (P : MP)  : go 40 54 [l0, l1, l2, l3, l4] [.int y0] w I L P = go 40 57 [(fix1 l0), .int y0, .int (nI 0), l3, l4] [] w I L P := by
  refine (go_istore_n (m := 40) (pc := 54) (k := 1) (ls' := [(fix1 l0), .int y0, l2, l3, l4]) (by decide +kernel) (by simp only [List.length_cons, List.length_nil]; decide) rfl).trans ?_
  refine (go_ic (m := 40) (pc := 55) (n := 0) (by decide +kernel) ic_0).trans ?_
  refine (go_istore_n (m := 40) (pc := 56) (k := 2) (ls' := [(fix1 l0), .int y0, .int (nI 0), l3, l4]) (by decide +kernel) (by simp only [List.length_cons, List.length_nil]; decide) rfl).trans ?_
  rfl
theorem Bus_lowestHeaders_57 (l0 : Value) (l1 : Value) (x_l2 : Int32) (x_l3 : Int32) (l4 : Value) (w : Wd) (I : MI) (L : ML) (P : MP)  : go 40 57 [l0, l1, .int x_l2, .int x_l3, l4] [] w I L P = go 40 63 [l0, (fix1 l1), .int (x_l2 ||| ((nI 1) <<< (x_l3 &&& 31))), .int x_l3, l4] [] w I L P := by
  refine (go_iload_n (m := 40) (pc := 57) (k := 2) (by decide +kernel) rfl).trans ?_
  refine (go_ic (m := 40) (pc := 58) (n := 1) (by decide +kernel) ic_1).trans ?_
  refine (go_iload_n (m := 40) (pc := 59) (k := 3) (by decide +kernel) rfl).trans ?_
  refine (go_ishl (m := 40) (pc := 60) (by decide +kernel)).trans ?_
  refine (go_ior (m := 40) (pc := 61) (by decide +kernel)).trans ?_
  refine (go_istore_n (m := 40) (pc := 62) (k := 2) (ls' := [l0, (fix1 l1), .int (x_l2 ||| ((nI 1) <<< (x_l3 &&& 31))), .int x_l3, l4]) (by decide +kernel) (by simp only [List.length_cons, List.length_nil]; decide) rfl).trans ?_
  rfl
theorem Bus_lowestHeaders_63 (l0 : Value) (l1 : Value) (l2 : Value) (x_l3 : Int32) (l4 : Value) (w : Wd) (I : MI) (L : ML) (P : MP)  : go 40 63 [l0, l1, l2, .int x_l3, l4] [] w I L P = go 40 8 [l0, l1, (fix1 l2), .int (x_l3 + (nI 1)), l4] [] w I L P := by
  refine (go_iinc (m := 40) (pc := 63) (k := 3) (n := 1) (x := x_l3) (v := x_l3 + (nI 1)) (ls' := [l0, l1, (fix1 l2), .int (x_l3 + (nI 1)), l4]) (by decide +kernel) rfl (by rw [ic_1]) rfl).trans ?_
  refine (go_goto (m := 40) (pc := 66) (off := -58) (t := 8) (by decide +kernel) (by decide)).trans ?_
  rfl
theorem Bus_lowestHeaders_69 (l0 : Value) (l1 : Value) (x_l2 : Int32) (l3 : Value) (l4 : Value) (w : Wd) (I : MI) (L : ML) (P : MP)  : go 40 69 [l0, l1, .int x_l2, l3, l4] [] w I L P = some (.inl (some (.int x_l2)), w, I, L, P) := by
  refine (go_iload_n (m := 40) (pc := 69) (k := 2) (by decide +kernel) rfl).trans ?_
  exact go_retI (m := 40) (pc := 70) (by decide +kernel) rfl
theorem Bus_lowestHeaders_E (this : Nat) (w : Wd) (I : MI) (L : ML) (P : MP) : call 40 [.ref this] w I L P = go 40 0 [.ref this, unk, unk, unk, unk] [] w I L P := rfl
theorem Bus_slotsAlone_0 (a_l0 : Nat) (a_l1 : Nat) (l2 : Value) (l3 : Value) (l4 : Value) (w : Wd) (I : MI) (L : ML) (P : MP) (h0 : w.1 a_l1 = some (3, 0)) (h1 : w.1 a_l0 = some (0, 0)) : go 41 0 [.ref a_l0, .ref a_l1, l2, l3, l4] [] w I L P = kC (call 35 [.ref a_l0, .int (I a_l1 1)] w I L P) (fun v w1 I1 L1 P1 => go 41 12 [.ref a_l0, .ref a_l1, .int (nI 11), l3, l4] (v.toList ++ [.ref a_l0]) w1 I1 L1 P1) := by
  refine (go_bi (m := 41) (pc := 0) (n := 11) (by decide +kernel) bi_11).trans ?_
  refine (go_istore_n (m := 41) (pc := 2) (k := 2) (ls' := [.ref a_l0, .ref a_l1, .int (nI 11), l3, l4]) (by decide +kernel) (by simp only [List.length_cons, List.length_nil]; decide) rfl).trans ?_
  refine (go_aload_n (m := 41) (pc := 3) (k := 0) (by decide +kernel) rfl).trans ?_
  refine (go_aload_n (m := 41) (pc := 4) (k := 0) (by decide +kernel) rfl).trans ?_
  refine (go_aload_n (m := 41) (pc := 5) (k := 1) (by decide +kernel) rfl).trans ?_
  refine (go_getI (m := 41) (pc := 6) (o := 0) (x := 127) (ci := 3) (k := 1) (by decide +kernel) rfl f_0_127 rfl h0).trans ?_
  exact go_vir (m := 41) (pc := 9) (o := 0) (x := 128) (y := 35) (kd := 0) (b := a_l0) (bs := [.int (I a_l1 1)]) (rs := [.ref a_l0]) (by decide +kernel) rfl rfl c_0_128 (Or.inl rfl) rfl rfl rfl (by decide +kernel) (by simp only [List.length_cons, List.length_nil]; decide) (Nat.le_of_ble_eq_true rfl) h1
theorem Bus_slotsAlone_12 (l0 : Value) (l1 : Value) (l2 : Value) (l3 : Value) (l4 : Value) (a_s0 : Nat) (y1 : Int32) (w : Wd) (I : MI) (L : ML) (P : MP) (h0 : w.1 a_s0 = some (0, 0)) : go 41 12 [l0, l1, l2, l3, l4] [.int y1, .ref a_s0] w I L P = kC (call 31 [.ref a_s0, .int y1] w I L P) (fun v w1 I1 L1 P1 => go 41 15 [l0, l1, l2, l3, l4] (v.toList ++ []) w1 I1 L1 P1) := by
  exact go_vir (m := 41) (pc := 12) (o := 0) (x := 89) (y := 31) (kd := 0) (b := a_s0) (bs := [.int y1]) (rs := []) (by decide +kernel) rfl rfl c_0_89 (Or.inl rfl) rfl rfl rfl (by decide +kernel) (by simp only [List.length_cons, List.length_nil]; decide) (Nat.le_of_ble_eq_true rfl) h0
theorem Bus_slotsAlone_15_0 (l0 : Value) (l1 : Value) (l2 : Value) (l3 : Value) (l4 : Value) (w : Wd) (I : MI) (L : ML) (P : MP)  : go 41 15 [l0, l1, l2, l3, l4] [.null] w I L P = go 41 20 [l0, l1, (fix1 l2), .null, l4] [] w I L P := by
  refine (go_astore_nN (m := 41) (pc := 15) (k := 3) (ls' := [l0, l1, (fix1 l2), .null, l4]) (by decide +kernel) (by simp only [List.length_cons, List.length_nil]; decide) rfl).trans ?_
  refine (go_aload_nN (m := 41) (pc := 16) (k := 3) (by decide +kernel) rfl).trans ?_
  exact go_ifnonnullN (m := 41) (pc := 17) (off := 5) (by decide +kernel)
theorem Bus_slotsAlone_15_1 (l0 : Value) (l1 : Value) (l2 : Value) (l3 : Value) (l4 : Value) (a_s0 : Nat) (w : Wd) (I : MI) (L : ML) (P : MP)  : go 41 15 [l0, l1, l2, l3, l4] [.ref a_s0] w I L P = go 41 22 [l0, l1, (fix1 l2), .ref a_s0, l4] [] w I L P := by
  refine (go_astore_n (m := 41) (pc := 15) (k := 3) (ls' := [l0, l1, (fix1 l2), .ref a_s0, l4]) (by decide +kernel) (by simp only [List.length_cons, List.length_nil]; decide) rfl).trans ?_
  refine (go_aload_n (m := 41) (pc := 16) (k := 3) (by decide +kernel) rfl).trans ?_
  exact go_ifnonnullR (m := 41) (pc := 17) (off := 5) (t := 22) (by decide +kernel) (by decide)
theorem Bus_slotsAlone_20 (l0 : Value) (l1 : Value) (x_l2 : Int32) (l3 : Value) (l4 : Value) (w : Wd) (I : MI) (L : ML) (P : MP)  : go 41 20 [l0, l1, .int x_l2, l3, l4] [] w I L P = some (.inl (some (.int x_l2)), w, I, L, P) := by
  refine (go_iload_n (m := 41) (pc := 20) (k := 2) (by decide +kernel) rfl).trans ?_
  exact go_retI (m := 41) (pc := 21) (by decide +kernel) rfl
theorem Bus_slotsAlone_22 (l0 : Value) (a_l1 : Nat) (l2 : Value) (l3 : Value) (l4 : Value) (w : Wd) (I : MI) (L : ML) (P : MP) (h0 : w.1 a_l1 = some (3, 0)) : go 41 22 [l0, .ref a_l1, l2, l3, l4] [] w I L P = if (I a_l1 0 &&& 1) ≠ 0 then go 41 51 [l0, .ref a_l1, l2, (fix1 l3), .int (I a_l1 2)] [] w I L P else go 41 35 [l0, .ref a_l1, l2, (fix1 l3), .int (I a_l1 2)] [] w I L P := by
  refine (go_aload_n (m := 41) (pc := 22) (k := 1) (by decide +kernel) rfl).trans ?_
  refine (go_getI (m := 41) (pc := 23) (o := 0) (x := 131) (ci := 3) (k := 2) (by decide +kernel) rfl f_0_131 rfl h0).trans ?_
  refine (go_istore (m := 41) (pc := 26) (k := 4) (ls' := [l0, .ref a_l1, l2, (fix1 l3), .int (I a_l1 2)]) (by decide +kernel) (by simp only [List.length_cons, List.length_nil]; decide) rfl).trans ?_
  refine (go_aload_n (m := 41) (pc := 28) (k := 1) (by decide +kernel) rfl).trans ?_
  refine (go_getZ (m := 41) (pc := 29) (o := 0) (x := 134) (ci := 3) (k := 0) (by decide +kernel) rfl f_0_134 rfl h0).trans ?_
  exact go_ifne (m := 41) (pc := 32) (off := 19) (t := 51) (by decide +kernel) (by decide)
theorem Bus_slotsAlone_35 (l0 : Value) (l1 : Value) (l2 : Value) (a_l3 : Nat) (x_l4 : Int32) (w : Wd) (I : MI) (L : ML) (P : MP) (h0 : w.1 a_l3 = some (2, 0)) : go 41 35 [l0, l1, l2, .ref a_l3, .int x_l4] [] w I L P = go 41 51 [l0, l1, l2, .ref a_l3, .int (if (((nI 16) - (I a_l3 5)) + (nI 1)) < x_l4 then (((nI 16) - (I a_l3 5)) + (nI 1)) else x_l4)] [] w I L P := by
  refine (go_iload (m := 41) (pc := 35) (k := 4) (by decide +kernel) rfl).trans ?_
  refine (go_bi (m := 41) (pc := 37) (n := 16) (by decide +kernel) bi_16).trans ?_
  refine (go_aload_n (m := 41) (pc := 39) (k := 3) (by decide +kernel) rfl).trans ?_
  refine (go_getI (m := 41) (pc := 40) (o := 0) (x := 137) (ci := 2) (k := 5) (by decide +kernel) rfl f_0_137 rfl h0).trans ?_
  refine (go_isub (m := 41) (pc := 43) (by decide +kernel)).trans ?_
  refine (go_ic (m := 41) (pc := 44) (n := 1) (by decide +kernel) ic_1).trans ?_
  refine (go_iadd (m := 41) (pc := 45) (by decide +kernel)).trans ?_
  refine (go_min (m := 41) (pc := 46) (o := 0) (j := 140) (y' := 999) (by decide +kernel) rfl (by decide +kernel) (by simp only [List.length_cons, List.length_nil]; decide +kernel)).trans ?_
  refine (go_istore (m := 41) (pc := 49) (k := 4) (ls' := [l0, l1, l2, .ref a_l3, .int (if (((nI 16) - (I a_l3 5)) + (nI 1)) < x_l4 then (((nI 16) - (I a_l3 5)) + (nI 1)) else x_l4)]) (by decide +kernel) (by simp only [List.length_cons, List.length_nil]; decide) rfl).trans ?_
  rfl
theorem Bus_slotsAlone_51 (l0 : Value) (l1 : Value) (x_l2 : Int32) (a_l3 : Nat) (x_l4 : Int32) (w : Wd) (I : MI) (L : ML) (P : MP) (h0 : w.1 a_l3 = some (2, 0)) : go 41 51 [l0, l1, .int x_l2, .ref a_l3, .int x_l4] [] w I L P = some (.inl (some (.int (x_l2 + (x_l4 * (((I a_l3 1) + (nI 8)) + (nI 1)))))), w, I, L, P) := by
  refine (go_iload_n (m := 41) (pc := 51) (k := 2) (by decide +kernel) rfl).trans ?_
  refine (go_iload (m := 41) (pc := 52) (k := 4) (by decide +kernel) rfl).trans ?_
  refine (go_aload_n (m := 41) (pc := 54) (k := 3) (by decide +kernel) rfl).trans ?_
  refine (go_getI (m := 41) (pc := 55) (o := 0) (x := 103) (ci := 2) (k := 1) (by decide +kernel) rfl f_0_103 rfl h0).trans ?_
  refine (go_bi (m := 41) (pc := 58) (n := 8) (by decide +kernel) bi_8).trans ?_
  refine (go_iadd (m := 41) (pc := 60) (by decide +kernel)).trans ?_
  refine (go_ic (m := 41) (pc := 61) (n := 1) (by decide +kernel) ic_1).trans ?_
  refine (go_iadd (m := 41) (pc := 62) (by decide +kernel)).trans ?_
  refine (go_imul (m := 41) (pc := 63) (by decide +kernel)).trans ?_
  refine (go_iadd (m := 41) (pc := 64) (by decide +kernel)).trans ?_
  exact go_retI (m := 41) (pc := 65) (by decide +kernel) rfl
theorem Bus_slotsAlone_E (this : Nat) (p0 : Nat) (w : Wd) (I : MI) (L : ML) (P : MP) : call 41 [.ref this, .ref p0] w I L P = go 41 0 [.ref this, .ref p0, unk, unk, unk] [] w I L P := rfl
theorem Bus_slotsAlone_E1 (this : Nat) (w : Wd) (I : MI) (L : ML) (P : MP) : call 41 [.ref this, .null] w I L P = go 41 0 [.ref this, .null, unk, unk, unk] [] w I L P := rfl
theorem Bus_passSlots_0 (l0 : Value) (l1 : Value) (l2 : Value) (w : Wd) (I : MI) (L : ML) (P : MP)  : go 42 0 [l0, l1, l2] [] w I L P = go 42 2 [l0, (fix1 l1), .int (nI 0)] [] w I L P := by
  refine (go_ic (m := 42) (pc := 0) (n := 0) (by decide +kernel) ic_0).trans ?_
  refine (go_istore_n (m := 42) (pc := 1) (k := 2) (ls' := [l0, (fix1 l1), .int (nI 0)]) (by decide +kernel) (by simp only [List.length_cons, List.length_nil]; decide) rfl).trans ?_
  rfl
theorem Bus_passSlots_2 (l0 : Value) (x_l1 : Int32) (x_l2 : Int32) (w : Wd) (I : MI) (L : ML) (P : MP)  : go 42 2 [l0, .int x_l1, .int x_l2] [] w I L P = if x_l1 ≤ x_l2 then go 42 17 [l0, .int x_l1, .int x_l2] [] w I L P else go 42 7 [l0, .int x_l1, .int x_l2] [] w I L P := by
  refine (go_iload_n (m := 42) (pc := 2) (k := 2) (by decide +kernel) rfl).trans ?_
  refine (go_iload_n (m := 42) (pc := 3) (k := 1) (by decide +kernel) rfl).trans ?_
  exact go_icmpge (m := 42) (pc := 4) (off := 13) (t := 17) (by decide +kernel) (by decide)
theorem Bus_passSlots_7 (a_l0 : Nat) (l1 : Value) (l2 : Value) (w : Wd) (I : MI) (L : ML) (P : MP) (h0 : w.1 a_l0 = some (0, 0)) : go 42 7 [.ref a_l0, l1, l2] [] w I L P = kC (call 44 [.ref a_l0] w I L P) (fun v w1 I1 L1 P1 => go 42 11 [.ref a_l0, l1, l2] (v.toList ++ []) w1 I1 L1 P1) := by
  refine (go_aload_n (m := 42) (pc := 7) (k := 0) (by decide +kernel) rfl).trans ?_
  exact go_vir (m := 42) (pc := 8) (o := 0) (x := 146) (y := 44) (kd := 0) (b := a_l0) (bs := []) (rs := []) (by decide +kernel) rfl rfl c_0_146 (Or.inl rfl) rfl rfl rfl (by decide +kernel) (by simp only [List.length_cons, List.length_nil]; decide) (Nat.le_of_ble_eq_true rfl) h0
theorem Bus_passSlots_11 (l0 : Value) (l1 : Value) (x_l2 : Int32) (w : Wd) (I : MI) (L : ML) (P : MP)  : go 42 11 [l0, l1, .int x_l2] [] w I L P = go 42 2 [l0, (fix1 l1), .int (x_l2 + (nI 1))] [] w I L P := by
  refine (go_iinc (m := 42) (pc := 11) (k := 2) (n := 1) (x := x_l2) (v := x_l2 + (nI 1)) (ls' := [l0, (fix1 l1), .int (x_l2 + (nI 1))]) (by decide +kernel) rfl (by rw [ic_1]) rfl).trans ?_
  refine (go_goto (m := 42) (pc := 14) (off := -12) (t := 2) (by decide +kernel) (by decide)).trans ?_
  rfl
theorem Bus_passSlots_17 (l0 : Value) (l1 : Value) (l2 : Value) (w : Wd) (I : MI) (L : ML) (P : MP)  : go 42 17 [l0, l1, l2] [] w I L P = some (.inl none, w, I, L, P) := by
  exact go_retV (m := 42) (pc := 17) (by decide +kernel) rfl
theorem Bus_passSlots_E (this : Nat) (p0 : Int32) (w : Wd) (I : MI) (L : ML) (P : MP) : call 42 [.ref this, .int p0] w I L P = go 42 0 [.ref this, .int p0, unk] [] w I L P := rfl
theorem Bus_runToRest_0 (l0 : Value) (l1 : Value) (w : Wd) (I : MI) (L : ML) (P : MP)  : go 43 0 [l0, l1] [] w I L P = go 43 2 [(fix1 l0), .int (nI 0)] [] w I L P := by
  refine (go_ic (m := 43) (pc := 0) (n := 0) (by decide +kernel) ic_0).trans ?_
  refine (go_istore_n (m := 43) (pc := 1) (k := 1) (ls' := [(fix1 l0), .int (nI 0)]) (by decide +kernel) (by simp only [List.length_cons, List.length_nil]; decide) rfl).trans ?_
  rfl
theorem Bus_runToRest_2 (l0 : Value) (x_l1 : Int32) (w : Wd) (I : MI) (L : ML) (P : MP)  : go 43 2 [l0, .int x_l1] [] w I L P = if 1000000 ≤ x_l1 then go 43 32 [l0, .int x_l1] [] w I L P else go 43 8 [l0, .int x_l1] [] w I L P := by
  refine (go_iload_n (m := 43) (pc := 2) (k := 1) (by decide +kernel) rfl).trans ?_
  refine (go_ldc (m := 43) (pc := 3) (o := 0) (x := 149) (v := 1000000) (by decide +kernel) rfl (by decide +kernel)).trans ?_
  exact go_icmpge (m := 43) (pc := 5) (off := 27) (t := 32) (by decide +kernel) (by decide)
theorem Bus_runToRest_8 (a_l0 : Nat) (l1 : Value) (w : Wd) (I : MI) (L : ML) (P : MP) (h0 : w.1 a_l0 = some (0, 0)) : go 43 8 [.ref a_l0, l1] [] w I L P = if (I a_l0 6) ≠ 0 then go 43 22 [.ref a_l0, l1] [] w I L P else go 43 15 [.ref a_l0, l1] [] w I L P := by
  refine (go_aload_n (m := 43) (pc := 8) (k := 0) (by decide +kernel) rfl).trans ?_
  refine (go_getI (m := 43) (pc := 9) (o := 0) (x := 40) (ci := 0) (k := 6) (by decide +kernel) rfl f_0_40 rfl h0).trans ?_
  exact go_ifne (m := 43) (pc := 12) (off := 10) (t := 22) (by decide +kernel) (by decide)
theorem Bus_runToRest_15 (a_l0 : Nat) (l1 : Value) (w : Wd) (I : MI) (L : ML) (P : MP) (h0 : w.1 a_l0 = some (0, 0)) : go 43 15 [.ref a_l0, l1] [] w I L P = kC (call 39 [.ref a_l0] w I L P) (fun v w1 I1 L1 P1 => go 43 19 [.ref a_l0, l1] (v.toList ++ []) w1 I1 L1 P1) := by
  refine (go_aload_n (m := 43) (pc := 15) (k := 0) (by decide +kernel) rfl).trans ?_
  exact go_vir (m := 43) (pc := 16) (o := 0) (x := 150) (y := 39) (kd := 0) (b := a_l0) (bs := []) (rs := []) (by decide +kernel) rfl rfl c_0_150 (Or.inl rfl) rfl rfl rfl (by decide +kernel) (by simp only [List.length_cons, List.length_nil]; decide) (Nat.le_of_ble_eq_true rfl) h0
theorem Bus_runToRest_19 (l0 : Value) (l1 : Value) (y0 : Int32) (w : Wd) (I : MI) (L : ML) (P : MP)  : go 43 19 [l0, l1] [.int y0] w I L P = if y0 = 0 then go 43 32 [l0, l1] [] w I L P else go 43 22 [l0, l1] [] w I L P := by
  exact go_ifeq (m := 43) (pc := 19) (off := 13) (t := 32) (by decide +kernel) (by decide)
theorem Bus_runToRest_22 (a_l0 : Nat) (l1 : Value) (w : Wd) (I : MI) (L : ML) (P : MP) (h0 : w.1 a_l0 = some (0, 0)) : go 43 22 [.ref a_l0, l1] [] w I L P = kC (call 44 [.ref a_l0] w I L P) (fun v w1 I1 L1 P1 => go 43 26 [.ref a_l0, l1] (v.toList ++ []) w1 I1 L1 P1) := by
  refine (go_aload_n (m := 43) (pc := 22) (k := 0) (by decide +kernel) rfl).trans ?_
  exact go_vir (m := 43) (pc := 23) (o := 0) (x := 146) (y := 44) (kd := 0) (b := a_l0) (bs := []) (rs := []) (by decide +kernel) rfl rfl c_0_146 (Or.inl rfl) rfl rfl rfl (by decide +kernel) (by simp only [List.length_cons, List.length_nil]; decide) (Nat.le_of_ble_eq_true rfl) h0
theorem Bus_runToRest_26 (l0 : Value) (x_l1 : Int32) (w : Wd) (I : MI) (L : ML) (P : MP)  : go 43 26 [l0, .int x_l1] [] w I L P = go 43 2 [(fix1 l0), .int (x_l1 + (nI 1))] [] w I L P := by
  refine (go_iinc (m := 43) (pc := 26) (k := 1) (n := 1) (x := x_l1) (v := x_l1 + (nI 1)) (ls' := [(fix1 l0), .int (x_l1 + (nI 1))]) (by decide +kernel) rfl (by rw [ic_1]) rfl).trans ?_
  refine (go_goto (m := 43) (pc := 29) (off := -27) (t := 2) (by decide +kernel) (by decide)).trans ?_
  rfl
theorem Bus_runToRest_32 (l0 : Value) (x_l1 : Int32) (w : Wd) (I : MI) (L : ML) (P : MP)  : go 43 32 [l0, .int x_l1] [] w I L P = some (.inl (some (.int x_l1)), w, I, L, P) := by
  refine (go_iload_n (m := 43) (pc := 32) (k := 1) (by decide +kernel) rfl).trans ?_
  exact go_retI (m := 43) (pc := 33) (by decide +kernel) rfl
theorem Bus_runToRest_E (this : Nat) (w : Wd) (I : MI) (L : ML) (P : MP) : call 43 [.ref this] w I L P = go 43 0 [.ref this, unk] [] w I L P := rfl
theorem Bus_passSlot_0 (a_l0 : Nat) (l1 : Value) (l2 : Value) (w : Wd) (I : MI) (L : ML) (P : MP) (h0 : w.1 a_l0 = some (0, 0)) : go 44 0 [.ref a_l0, l1, l2] [] w I L P = if (I a_l0 6) ≠ 0 then go 44 19 [.ref a_l0, l1, l2] [] w I L P else go 44 7 [.ref a_l0, l1, l2] [] w I L P := by
  refine (go_aload_n (m := 44) (pc := 0) (k := 0) (by decide +kernel) rfl).trans ?_
  refine (go_getI (m := 44) (pc := 1) (o := 0) (x := 40) (ci := 0) (k := 6) (by decide +kernel) rfl f_0_40 rfl h0).trans ?_
  exact go_ifne (m := 44) (pc := 4) (off := 15) (t := 19) (by decide +kernel) (by decide)
theorem Bus_passSlot_7 (a_l0 : Nat) (l1 : Value) (l2 : Value) (w : Wd) (I : MI) (L : ML) (P : MP) (h0 : w.1 a_l0 = some (0, 0)) : go 44 7 [.ref a_l0, l1, l2] [] w I L P = kC (call 39 [.ref a_l0] w I L P) (fun v w1 I1 L1 P1 => go 44 11 [.ref a_l0, l1, l2] (v.toList ++ []) w1 I1 L1 P1) := by
  refine (go_aload_n (m := 44) (pc := 7) (k := 0) (by decide +kernel) rfl).trans ?_
  exact go_vir (m := 44) (pc := 8) (o := 0) (x := 150) (y := 39) (kd := 0) (b := a_l0) (bs := []) (rs := []) (by decide +kernel) rfl rfl c_0_150 (Or.inl rfl) rfl rfl rfl (by decide +kernel) (by simp only [List.length_cons, List.length_nil]; decide) (Nat.le_of_ble_eq_true rfl) h0
theorem Bus_passSlot_11 (l0 : Value) (l1 : Value) (l2 : Value) (y0 : Int32) (w : Wd) (I : MI) (L : ML) (P : MP)  : go 44 11 [l0, l1, l2] [.int y0] w I L P = if y0 = 0 then go 44 19 [l0, l1, l2] [] w I L P else go 44 14 [l0, l1, l2] [] w I L P := by
  exact go_ifeq (m := 44) (pc := 11) (off := 8) (t := 19) (by decide +kernel) (by decide)
theorem Bus_passSlot_14 (a_l0 : Nat) (l1 : Value) (l2 : Value) (w : Wd) (I : MI) (L : ML) (P : MP) (h0 : w.1 a_l0 = some (0, 0)) : go 44 14 [.ref a_l0, l1, l2] [] w I L P = go 44 19 [.ref a_l0, l1, l2] [] w (updI I a_l0 6 (nI 1)) L P := by
  refine (go_aload_n (m := 44) (pc := 14) (k := 0) (by decide +kernel) rfl).trans ?_
  refine (go_ic (m := 44) (pc := 15) (n := 1) (by decide +kernel) ic_1).trans ?_
  refine (go_putI (m := 44) (pc := 16) (o := 0) (x := 40) (ci := 0) (k := 6) (by decide +kernel) rfl f_0_40 rfl (by decide +kernel) h0).trans ?_
  rfl
theorem Bus_passSlot_19 (a_l0 : Nat) (l1 : Value) (l2 : Value) (w : Wd) (I : MI) (L : ML) (P : MP) (h0 : w.1 a_l0 = some (0, 0)) : go 44 19 [.ref a_l0, l1, l2] [] w I L P = go 44 27 [.ref a_l0, .int (I a_l0 6), .int (nI 1)] [.int (I a_l0 6)] w I L P := by
  refine (go_aload_n (m := 44) (pc := 19) (k := 0) (by decide +kernel) rfl).trans ?_
  refine (go_getI (m := 44) (pc := 20) (o := 0) (x := 40) (ci := 0) (k := 6) (by decide +kernel) rfl f_0_40 rfl h0).trans ?_
  refine (go_istore_n (m := 44) (pc := 23) (k := 1) (ls' := [.ref a_l0, .int (I a_l0 6), l2]) (by decide +kernel) (by simp only [List.length_cons, List.length_nil]; decide) rfl).trans ?_
  refine (go_ic (m := 44) (pc := 24) (n := 1) (by decide +kernel) ic_1).trans ?_
  refine (go_istore_n (m := 44) (pc := 25) (k := 2) (ls' := [.ref a_l0, .int (I a_l0 6), .int (nI 1)]) (by decide +kernel) (by simp only [List.length_cons, List.length_nil]; decide) rfl).trans ?_
  refine (go_iload_n (m := 44) (pc := 26) (k := 1) (by decide +kernel) rfl).trans ?_
  rfl
theorem Bus_passSlot_27_k1 (l0 : Value) (l1 : Value) (l2 : Value) (w : Wd) (I : MI) (L : ML) (P : MP) : go 44 27 [l0, l1, l2] [.int (nI 1)] w I L P = go 44 68 [l0, l1, l2] [] w I L P := go_tsI (m := 44) (pc := 27) (z := 1) (off := 41) (t := 68) (dflt := 132) (lo := 1) (hi := 7) (offs := #[41, 49, 61, 69, 95, 117, 125]) (len := 41) (by decide +kernel) (by decide) (by decide) (by decide) (by decide) (by decide)
theorem Bus_passSlot_27_k2 (l0 : Value) (l1 : Value) (l2 : Value) (w : Wd) (I : MI) (L : ML) (P : MP) : go 44 27 [l0, l1, l2] [.int (nI 2)] w I L P = go 44 76 [l0, l1, l2] [] w I L P := go_tsI (m := 44) (pc := 27) (z := 2) (off := 49) (t := 76) (dflt := 132) (lo := 1) (hi := 7) (offs := #[41, 49, 61, 69, 95, 117, 125]) (len := 41) (by decide +kernel) (by decide) (by decide) (by decide) (by decide) (by decide)
theorem Bus_passSlot_27_k3 (l0 : Value) (l1 : Value) (l2 : Value) (w : Wd) (I : MI) (L : ML) (P : MP) : go 44 27 [l0, l1, l2] [.int (nI 3)] w I L P = go 44 88 [l0, l1, l2] [] w I L P := go_tsI (m := 44) (pc := 27) (z := 3) (off := 61) (t := 88) (dflt := 132) (lo := 1) (hi := 7) (offs := #[41, 49, 61, 69, 95, 117, 125]) (len := 41) (by decide +kernel) (by decide) (by decide) (by decide) (by decide) (by decide)
theorem Bus_passSlot_27_k4 (l0 : Value) (l1 : Value) (l2 : Value) (w : Wd) (I : MI) (L : ML) (P : MP) : go 44 27 [l0, l1, l2] [.int (nI 4)] w I L P = go 44 96 [l0, l1, l2] [] w I L P := go_tsI (m := 44) (pc := 27) (z := 4) (off := 69) (t := 96) (dflt := 132) (lo := 1) (hi := 7) (offs := #[41, 49, 61, 69, 95, 117, 125]) (len := 41) (by decide +kernel) (by decide) (by decide) (by decide) (by decide) (by decide)
theorem Bus_passSlot_27_k5 (l0 : Value) (l1 : Value) (l2 : Value) (w : Wd) (I : MI) (L : ML) (P : MP) : go 44 27 [l0, l1, l2] [.int (nI 5)] w I L P = go 44 122 [l0, l1, l2] [] w I L P := go_tsI (m := 44) (pc := 27) (z := 5) (off := 95) (t := 122) (dflt := 132) (lo := 1) (hi := 7) (offs := #[41, 49, 61, 69, 95, 117, 125]) (len := 41) (by decide +kernel) (by decide) (by decide) (by decide) (by decide) (by decide)
theorem Bus_passSlot_27_k6 (l0 : Value) (l1 : Value) (l2 : Value) (w : Wd) (I : MI) (L : ML) (P : MP) : go 44 27 [l0, l1, l2] [.int (nI 6)] w I L P = go 44 144 [l0, l1, l2] [] w I L P := go_tsI (m := 44) (pc := 27) (z := 6) (off := 117) (t := 144) (dflt := 132) (lo := 1) (hi := 7) (offs := #[41, 49, 61, 69, 95, 117, 125]) (len := 41) (by decide +kernel) (by decide) (by decide) (by decide) (by decide) (by decide)
theorem Bus_passSlot_27_k7 (l0 : Value) (l1 : Value) (l2 : Value) (w : Wd) (I : MI) (L : ML) (P : MP) : go 44 27 [l0, l1, l2] [.int (nI 7)] w I L P = go 44 152 [l0, l1, l2] [] w I L P := go_tsI (m := 44) (pc := 27) (z := 7) (off := 125) (t := 152) (dflt := 132) (lo := 1) (hi := 7) (offs := #[41, 49, 61, 69, 95, 117, 125]) (len := 41) (by decide +kernel) (by decide) (by decide) (by decide) (by decide) (by decide)
theorem Bus_passSlot_27_kd (l0 : Value) (l1 : Value) (l2 : Value) (w : Wd) (I : MI) (L : ML) (P : MP) (y : Int32) (h0 : y.toInt < 1 ∨ 7 < y.toInt) : go 44 27 [l0, l1, l2] [.int y] w I L P = go 44 159 [l0, l1, l2] [] w I L P := go_tsO (m := 44) (pc := 27) (t := 159) (dflt := 132) (lo := 1) (hi := 7) (offs := #[41, 49, 61, 69, 95, 117, 125]) (len := 41) (by decide +kernel) h0 (by decide)
theorem Bus_passSlot_68 (a_l0 : Nat) (l1 : Value) (l2 : Value) (w : Wd) (I : MI) (L : ML) (P : MP) (h0 : w.1 a_l0 = some (0, 0)) : go 44 68 [.ref a_l0, l1, l2] [] w I L P = kC (call 45 [.ref a_l0] w I L P) (fun v w1 I1 L1 P1 => go 44 72 [.ref a_l0, l1, l2] (v.toList ++ []) w1 I1 L1 P1) := by
  refine (go_aload_n (m := 44) (pc := 68) (k := 0) (by decide +kernel) rfl).trans ?_
  exact go_vir (m := 44) (pc := 69) (o := 0) (x := 153) (y := 45) (kd := 0) (b := a_l0) (bs := []) (rs := []) (by decide +kernel) rfl rfl c_0_153 (Or.inl rfl) rfl rfl rfl (by decide +kernel) (by simp only [List.length_cons, List.length_nil]; decide) (Nat.le_of_ble_eq_true rfl) h0
theorem Bus_passSlot_72 (l0 : Value) (l1 : Value) (l2 : Value) (y0 : Int32) (w : Wd) (I : MI) (L : ML) (P : MP)  : go 44 72 [l0, l1, l2] [.int y0] w I L P = go 44 159 [l0, (fix1 l1), .int y0] [] w I L P := by
  refine (go_istore_n (m := 44) (pc := 72) (k := 2) (ls' := [l0, (fix1 l1), .int y0]) (by decide +kernel) (by simp only [List.length_cons, List.length_nil]; decide) rfl).trans ?_
  refine (go_goto (m := 44) (pc := 73) (off := 86) (t := 159) (by decide +kernel) (by decide)).trans ?_
  rfl
theorem Bus_passSlot_76 (a_l0 : Nat) (l1 : Value) (l2 : Value) (w : Wd) (I : MI) (L : ML) (P : MP) (h0 : w.1 a_l0 = some (0, 0)) : go 44 76 [.ref a_l0, l1, l2] [] w I L P = kC (call 47 [.ref a_l0] w I L P) (fun v w1 I1 L1 P1 => go 44 81 [.ref a_l0, l1, l2] (v.toList ++ [.ref a_l0]) w1 I1 L1 P1) := by
  refine (go_aload_n (m := 44) (pc := 76) (k := 0) (by decide +kernel) rfl).trans ?_
  refine (go_aload_n (m := 44) (pc := 77) (k := 0) (by decide +kernel) rfl).trans ?_
  exact go_vir (m := 44) (pc := 78) (o := 0) (x := 156) (y := 47) (kd := 0) (b := a_l0) (bs := []) (rs := [.ref a_l0]) (by decide +kernel) rfl rfl c_0_156 (Or.inl rfl) rfl rfl rfl (by decide +kernel) (by simp only [List.length_cons, List.length_nil]; decide) (Nat.le_of_ble_eq_true rfl) h0
theorem Bus_passSlot_81 (l0 : Value) (l1 : Value) (l2 : Value) (a_s0 : Nat) (y1 : Int32) (w : Wd) (I : MI) (L : ML) (P : MP) (h0 : w.1 a_s0 = some (0, 0)) : go 44 81 [l0, l1, l2] [.int y1, .ref a_s0] w I L P = kC (call 51 [.ref a_s0, .int y1] w I L P) (fun v w1 I1 L1 P1 => go 44 84 [l0, l1, l2] (v.toList ++ []) w1 I1 L1 P1) := by
  exact go_vir (m := 44) (pc := 81) (o := 0) (x := 159) (y := 51) (kd := 0) (b := a_s0) (bs := [.int y1]) (rs := []) (by decide +kernel) rfl rfl c_0_159 (Or.inl rfl) rfl rfl rfl (by decide +kernel) (by simp only [List.length_cons, List.length_nil]; decide) (Nat.le_of_ble_eq_true rfl) h0
theorem Bus_passSlot_84 (l0 : Value) (l1 : Value) (l2 : Value) (y0 : Int32) (w : Wd) (I : MI) (L : ML) (P : MP)  : go 44 84 [l0, l1, l2] [.int y0] w I L P = go 44 159 [l0, (fix1 l1), .int y0] [] w I L P := by
  refine (go_istore_n (m := 44) (pc := 84) (k := 2) (ls' := [l0, (fix1 l1), .int y0]) (by decide +kernel) (by simp only [List.length_cons, List.length_nil]; decide) rfl).trans ?_
  refine (go_goto (m := 44) (pc := 85) (off := 74) (t := 159) (by decide +kernel) (by decide)).trans ?_
  rfl
theorem Bus_passSlot_88 (a_l0 : Nat) (l1 : Value) (l2 : Value) (w : Wd) (I : MI) (L : ML) (P : MP) (h0 : w.1 a_l0 = some (0, 0)) : go 44 88 [.ref a_l0, l1, l2] [] w I L P = kC (call 54 [.ref a_l0] w I L P) (fun v w1 I1 L1 P1 => go 44 92 [.ref a_l0, l1, l2] (v.toList ++ []) w1 I1 L1 P1) := by
  refine (go_aload_n (m := 44) (pc := 88) (k := 0) (by decide +kernel) rfl).trans ?_
  exact go_vir (m := 44) (pc := 89) (o := 0) (x := 162) (y := 54) (kd := 0) (b := a_l0) (bs := []) (rs := []) (by decide +kernel) rfl rfl c_0_162 (Or.inl rfl) rfl rfl rfl (by decide +kernel) (by simp only [List.length_cons, List.length_nil]; decide) (Nat.le_of_ble_eq_true rfl) h0
theorem Bus_passSlot_92 (l0 : Value) (l1 : Value) (l2 : Value) (y0 : Int32) (w : Wd) (I : MI) (L : ML) (P : MP)  : go 44 92 [l0, l1, l2] [.int y0] w I L P = go 44 159 [l0, (fix1 l1), .int y0] [] w I L P := by
  refine (go_istore_n (m := 44) (pc := 92) (k := 2) (ls' := [l0, (fix1 l1), .int y0]) (by decide +kernel) (by simp only [List.length_cons, List.length_nil]; decide) rfl).trans ?_
  refine (go_goto (m := 44) (pc := 93) (off := 66) (t := 159) (by decide +kernel) (by decide)).trans ?_
  rfl
theorem Bus_passSlot_96 (a_l0 : Nat) (l1 : Value) (l2 : Value) (w : Wd) (I : MI) (L : ML) (P : MP) (h0 : w.1 a_l0 = some (0, 0)) : go 44 96 [.ref a_l0, l1, l2] [] w I L P = if (I a_l0 9 &&& 1) = 0 then go 44 111 [.ref a_l0, l1, l2] [.ref a_l0] w I L P else go 44 104 [.ref a_l0, l1, l2] [.ref a_l0] w I L P := by
  refine (go_aload_n (m := 44) (pc := 96) (k := 0) (by decide +kernel) rfl).trans ?_
  refine (go_aload_n (m := 44) (pc := 97) (k := 0) (by decide +kernel) rfl).trans ?_
  refine (go_getZ (m := 44) (pc := 98) (o := 0) (x := 49) (ci := 0) (k := 9) (by decide +kernel) rfl f_0_49 rfl h0).trans ?_
  exact go_ifeq (m := 44) (pc := 101) (off := 10) (t := 111) (by decide +kernel) (by decide)
theorem Bus_passSlot_104 (a_l0 : Nat) (l1 : Value) (l2 : Value) (v0 : Value) (w : Wd) (I : MI) (L : ML) (P : MP) (h0 : w.1 a_l0 = some (0, 0)) : go 44 104 [.ref a_l0, l1, l2] [v0] w I L P = kC (call 50 [.ref a_l0] w I L P) (fun v w1 I1 L1 P1 => go 44 108 [.ref a_l0, l1, l2] (v.toList ++ [v0]) w1 I1 L1 P1) := by
  refine (go_aload_n (m := 44) (pc := 104) (k := 0) (by decide +kernel) rfl).trans ?_
  exact go_vir (m := 44) (pc := 105) (o := 0) (x := 165) (y := 50) (kd := 0) (b := a_l0) (bs := []) (rs := [v0]) (by decide +kernel) rfl rfl c_0_165 (Or.inl rfl) rfl rfl rfl (by decide +kernel) (by simp only [List.length_cons, List.length_nil]; decide) (Nat.le_of_ble_eq_true rfl) h0
theorem Bus_passSlot_108 (l0 : Value) (l1 : Value) (l2 : Value) (v0 : Value) (y1 : Int32) (w : Wd) (I : MI) (L : ML) (P : MP)  : go 44 108 [l0, l1, l2] [.int y1, v0] w I L P = go 44 115 [l0, l1, l2] [.int y1, v0] w I L P := by
  refine (go_goto (m := 44) (pc := 108) (off := 7) (t := 115) (by decide +kernel) (by decide)).trans ?_
  rfl
theorem Bus_passSlot_111 (a_l0 : Nat) (l1 : Value) (l2 : Value) (v0 : Value) (w : Wd) (I : MI) (L : ML) (P : MP) (h0 : w.1 a_l0 = some (0, 0)) : go 44 111 [.ref a_l0, l1, l2] [v0] w I L P = kC (call 47 [.ref a_l0] w I L P) (fun v w1 I1 L1 P1 => go 44 115 [.ref a_l0, l1, l2] (v.toList ++ [v0]) w1 I1 L1 P1) := by
  refine (go_aload_n (m := 44) (pc := 111) (k := 0) (by decide +kernel) rfl).trans ?_
  exact go_vir (m := 44) (pc := 112) (o := 0) (x := 156) (y := 47) (kd := 0) (b := a_l0) (bs := []) (rs := [v0]) (by decide +kernel) rfl rfl c_0_156 (Or.inl rfl) rfl rfl rfl (by decide +kernel) (by simp only [List.length_cons, List.length_nil]; decide) (Nat.le_of_ble_eq_true rfl) h0
theorem Bus_passSlot_115 (l0 : Value) (l1 : Value) (l2 : Value) (a_s0 : Nat) (y1 : Int32) (w : Wd) (I : MI) (L : ML) (P : MP) (h0 : w.1 a_s0 = some (0, 0)) : go 44 115 [l0, l1, l2] [.int y1, .ref a_s0] w I L P = kC (call 51 [.ref a_s0, .int y1] w I L P) (fun v w1 I1 L1 P1 => go 44 118 [l0, l1, l2] (v.toList ++ []) w1 I1 L1 P1) := by
  exact go_vir (m := 44) (pc := 115) (o := 0) (x := 159) (y := 51) (kd := 0) (b := a_s0) (bs := [.int y1]) (rs := []) (by decide +kernel) rfl rfl c_0_159 (Or.inl rfl) rfl rfl rfl (by decide +kernel) (by simp only [List.length_cons, List.length_nil]; decide) (Nat.le_of_ble_eq_true rfl) h0
theorem Bus_passSlot_118 (l0 : Value) (l1 : Value) (l2 : Value) (y0 : Int32) (w : Wd) (I : MI) (L : ML) (P : MP)  : go 44 118 [l0, l1, l2] [.int y0] w I L P = go 44 159 [l0, (fix1 l1), .int y0] [] w I L P := by
  refine (go_istore_n (m := 44) (pc := 118) (k := 2) (ls' := [l0, (fix1 l1), .int y0]) (by decide +kernel) (by simp only [List.length_cons, List.length_nil]; decide) rfl).trans ?_
  refine (go_goto (m := 44) (pc := 119) (off := 40) (t := 159) (by decide +kernel) (by decide)).trans ?_
  rfl
theorem Bus_passSlot_122 (a_l0 : Nat) (l1 : Value) (l2 : Value) (w : Wd) (I : MI) (L : ML) (P : MP) (h0 : w.1 a_l0 = some (0, 0)) : go 44 122 [.ref a_l0, l1, l2] [] w I L P = if (I a_l0 9 &&& 1) = 0 then go 44 136 [.ref a_l0, l1, l2] [] w I L P else go 44 129 [.ref a_l0, l1, l2] [] w I L P := by
  refine (go_aload_n (m := 44) (pc := 122) (k := 0) (by decide +kernel) rfl).trans ?_
  refine (go_getZ (m := 44) (pc := 123) (o := 0) (x := 49) (ci := 0) (k := 9) (by decide +kernel) rfl f_0_49 rfl h0).trans ?_
  exact go_ifeq (m := 44) (pc := 126) (off := 10) (t := 136) (by decide +kernel) (by decide)
theorem Bus_passSlot_129 (a_l0 : Nat) (l1 : Value) (l2 : Value) (w : Wd) (I : MI) (L : ML) (P : MP) (h0 : w.1 a_l0 = some (0, 0)) : go 44 129 [.ref a_l0, l1, l2] [] w I L P = kC (call 56 [.ref a_l0] w I L P) (fun v w1 I1 L1 P1 => go 44 133 [.ref a_l0, l1, l2] (v.toList ++ []) w1 I1 L1 P1) := by
  refine (go_aload_n (m := 44) (pc := 129) (k := 0) (by decide +kernel) rfl).trans ?_
  exact go_vir (m := 44) (pc := 130) (o := 0) (x := 168) (y := 56) (kd := 0) (b := a_l0) (bs := []) (rs := []) (by decide +kernel) rfl rfl c_0_168 (Or.inl rfl) rfl rfl rfl (by decide +kernel) (by simp only [List.length_cons, List.length_nil]; decide) (Nat.le_of_ble_eq_true rfl) h0
theorem Bus_passSlot_133 (l0 : Value) (l1 : Value) (l2 : Value) (y0 : Int32) (w : Wd) (I : MI) (L : ML) (P : MP)  : go 44 133 [l0, l1, l2] [.int y0] w I L P = go 44 140 [l0, l1, l2] [.int y0] w I L P := by
  refine (go_goto (m := 44) (pc := 133) (off := 7) (t := 140) (by decide +kernel) (by decide)).trans ?_
  rfl
theorem Bus_passSlot_136 (a_l0 : Nat) (l1 : Value) (l2 : Value) (w : Wd) (I : MI) (L : ML) (P : MP) (h0 : w.1 a_l0 = some (0, 0)) : go 44 136 [.ref a_l0, l1, l2] [] w I L P = kC (call 55 [.ref a_l0] w I L P) (fun v w1 I1 L1 P1 => go 44 140 [.ref a_l0, l1, l2] (v.toList ++ []) w1 I1 L1 P1) := by
  refine (go_aload_n (m := 44) (pc := 136) (k := 0) (by decide +kernel) rfl).trans ?_
  exact go_vir (m := 44) (pc := 137) (o := 0) (x := 171) (y := 55) (kd := 0) (b := a_l0) (bs := []) (rs := []) (by decide +kernel) rfl rfl c_0_171 (Or.inl rfl) rfl rfl rfl (by decide +kernel) (by simp only [List.length_cons, List.length_nil]; decide) (Nat.le_of_ble_eq_true rfl) h0
theorem Bus_passSlot_140 (l0 : Value) (l1 : Value) (l2 : Value) (y0 : Int32) (w : Wd) (I : MI) (L : ML) (P : MP)  : go 44 140 [l0, l1, l2] [.int y0] w I L P = go 44 159 [l0, (fix1 l1), .int y0] [] w I L P := by
  refine (go_istore_n (m := 44) (pc := 140) (k := 2) (ls' := [l0, (fix1 l1), .int y0]) (by decide +kernel) (by simp only [List.length_cons, List.length_nil]; decide) rfl).trans ?_
  refine (go_goto (m := 44) (pc := 141) (off := 18) (t := 159) (by decide +kernel) (by decide)).trans ?_
  rfl
theorem Bus_passSlot_144 (a_l0 : Nat) (l1 : Value) (l2 : Value) (w : Wd) (I : MI) (L : ML) (P : MP) (h0 : w.1 a_l0 = some (0, 0)) : go 44 144 [.ref a_l0, l1, l2] [] w I L P = kC (call 61 [.ref a_l0] w I L P) (fun v w1 I1 L1 P1 => go 44 148 [.ref a_l0, l1, l2] (v.toList ++ []) w1 I1 L1 P1) := by
  refine (go_aload_n (m := 44) (pc := 144) (k := 0) (by decide +kernel) rfl).trans ?_
  exact go_vir (m := 44) (pc := 145) (o := 0) (x := 174) (y := 61) (kd := 0) (b := a_l0) (bs := []) (rs := []) (by decide +kernel) rfl rfl c_0_174 (Or.inl rfl) rfl rfl rfl (by decide +kernel) (by simp only [List.length_cons, List.length_nil]; decide) (Nat.le_of_ble_eq_true rfl) h0
theorem Bus_passSlot_148 (l0 : Value) (l1 : Value) (l2 : Value) (y0 : Int32) (w : Wd) (I : MI) (L : ML) (P : MP)  : go 44 148 [l0, l1, l2] [.int y0] w I L P = go 44 159 [l0, (fix1 l1), .int y0] [] w I L P := by
  refine (go_istore_n (m := 44) (pc := 148) (k := 2) (ls' := [l0, (fix1 l1), .int y0]) (by decide +kernel) (by simp only [List.length_cons, List.length_nil]; decide) rfl).trans ?_
  refine (go_goto (m := 44) (pc := 149) (off := 10) (t := 159) (by decide +kernel) (by decide)).trans ?_
  rfl
theorem Bus_passSlot_152 (a_l0 : Nat) (l1 : Value) (l2 : Value) (w : Wd) (I : MI) (L : ML) (P : MP) (h0 : w.1 a_l0 = some (0, 0)) : go 44 152 [.ref a_l0, l1, l2] [] w I L P = kC (call 62 [.ref a_l0] w I L P) (fun v w1 I1 L1 P1 => go 44 156 [.ref a_l0, l1, l2] (v.toList ++ []) w1 I1 L1 P1) := by
  refine (go_aload_n (m := 44) (pc := 152) (k := 0) (by decide +kernel) rfl).trans ?_
  exact go_vir (m := 44) (pc := 153) (o := 0) (x := 177) (y := 62) (kd := 0) (b := a_l0) (bs := []) (rs := []) (by decide +kernel) rfl rfl c_0_177 (Or.inl rfl) rfl rfl rfl (by decide +kernel) (by simp only [List.length_cons, List.length_nil]; decide) (Nat.le_of_ble_eq_true rfl) h0
theorem Bus_passSlot_156 (l0 : Value) (l1 : Value) (l2 : Value) (w : Wd) (I : MI) (L : ML) (P : MP)  : go 44 156 [l0, l1, l2] [] w I L P = go 44 159 [l0, l1, l2] [] w I L P := by
  refine (go_goto (m := 44) (pc := 156) (off := 3) (t := 159) (by decide +kernel) (by decide)).trans ?_
  rfl
theorem Bus_passSlot_159 (a_l0 : Nat) (l1 : Value) (l2 : Value) (w : Wd) (I : MI) (L : ML) (P : MP) (h0 : w.1 a_l0 = some (0, 0)) : go 44 159 [.ref a_l0, l1, l2] [] w I L P = go 44 163 [.ref a_l0, l1, l2] [(va_rf (P a_l0 5))] w I L P := by
  refine (go_aload_n (m := 44) (pc := 159) (k := 0) (by decide +kernel) rfl).trans ?_
  refine (go_getR (m := 44) (pc := 160) (o := 0) (x := 36) (ci := 0) (k := 5) (by decide +kernel) rfl f_0_36 rfl h0).trans ?_
  rfl
theorem Bus_passSlot_163 (a_l0 : Nat) (x_l1 : Int32) (x_l2 : Int32) (a_s0 : Nat) (w : Wd) (I : MI) (L : ML) (P : MP) (h0 : w.1 a_l0 = some (0, 0)) (h1 : w.1 a_s0 = some (5, 0)) : go 44 163 [.ref a_l0, .int x_l1, .int x_l2] [.ref a_s0] w I L P = kC (call 24 [.ref a_s0, .int x_l1, .int x_l2, .int (I a_l0 7)] w I L P) (fun v w1 I1 L1 P1 => go 44 172 [.ref a_l0, .int x_l1, .int x_l2] (v.toList ++ []) w1 I1 L1 P1) := by
  refine (go_iload_n (m := 44) (pc := 163) (k := 1) (by decide +kernel) rfl).trans ?_
  refine (go_iload_n (m := 44) (pc := 164) (k := 2) (by decide +kernel) rfl).trans ?_
  refine (go_aload_n (m := 44) (pc := 165) (k := 0) (by decide +kernel) rfl).trans ?_
  refine (go_getI (m := 44) (pc := 166) (o := 0) (x := 43) (ci := 0) (k := 7) (by decide +kernel) rfl f_0_43 rfl h0).trans ?_
  exact go_vir (m := 44) (pc := 169) (o := 0) (x := 180) (y := 24) (kd := 1) (b := a_s0) (bs := [.int x_l1, .int x_l2, .int (I a_l0 7)]) (rs := []) (by decide +kernel) rfl rfl c_0_180 (Or.inr rfl) rfl rfl rfl (by decide +kernel) (by simp only [List.length_cons, List.length_nil]; decide) (Nat.le_of_ble_eq_true rfl) h1
theorem Bus_passSlot_172 (l0 : Value) (l1 : Value) (l2 : Value) (w : Wd) (I : MI) (L : ML) (P : MP)  : go 44 172 [l0, l1, l2] [] w I L P = some (.inl none, w, I, L, P) := by
  exact go_retV (m := 44) (pc := 172) (by decide +kernel) rfl
theorem Bus_passSlot_E (this : Nat) (w : Wd) (I : MI) (L : ML) (P : MP) : call 44 [.ref this] w I L P = go 44 0 [.ref this, unk, unk] [] w I L P := rfl
theorem Bus_startTransfer_0 (a_l0 : Nat) (w : Wd) (I : MI) (L : ML) (P : MP) (h0 : w.1 a_l0 = some (0, 0)) : go 45 0 [.ref a_l0] [] w I L P = kC (call 39 [.ref a_l0] w I L P) (fun v w1 I1 L1 P1 => go 45 5 [.ref a_l0] (v.toList ++ [.ref a_l0]) w1 I1 L1 P1) := by
  refine (go_aload_n (m := 45) (pc := 0) (k := 0) (by decide +kernel) rfl).trans ?_
  refine (go_aload_n (m := 45) (pc := 1) (k := 0) (by decide +kernel) rfl).trans ?_
  exact go_vir (m := 45) (pc := 2) (o := 0) (x := 150) (y := 39) (kd := 0) (b := a_l0) (bs := []) (rs := [.ref a_l0]) (by decide +kernel) rfl rfl c_0_150 (Or.inl rfl) rfl rfl rfl (by decide +kernel) (by simp only [List.length_cons, List.length_nil]; decide) (Nat.le_of_ble_eq_true rfl) h0
theorem Bus_startTransfer_5 (a_l0 : Nat) (a_s0 : Nat) (y1 : Int32) (w : Wd) (I : MI) (L : ML) (P : MP) (h0 : w.1 a_s0 = some (0, 0)) (h1 : w.1 a_l0 = some (0, 0)) : go 45 5 [.ref a_l0] [.int y1, .ref a_s0] w I L P = kC (call 46 [.ref a_l0, .int (nI 2)] w (updI (updI I a_s0 7 y1) a_l0 12 (nI 0)) L P) (fun v w1 I1 L1 P1 => go 45 18 [.ref a_l0] (v.toList ++ []) w1 I1 L1 P1) := by
  refine (go_putI (m := 45) (pc := 5) (o := 0) (x := 43) (ci := 0) (k := 7) (by decide +kernel) rfl f_0_43 rfl (by decide +kernel) h0).trans ?_
  refine (go_aload_n (m := 45) (pc := 8) (k := 0) (by decide +kernel) rfl).trans ?_
  refine (go_ic (m := 45) (pc := 9) (n := 0) (by decide +kernel) ic_0).trans ?_
  refine (go_putI (m := 45) (pc := 10) (o := 0) (x := 59) (ci := 0) (k := 12) (by decide +kernel) rfl f_0_59 rfl (by decide +kernel) h1).trans ?_
  refine (go_aload_n (m := 45) (pc := 13) (k := 0) (by decide +kernel) rfl).trans ?_
  refine (go_ic (m := 45) (pc := 14) (n := 2) (by decide +kernel) ic_2).trans ?_
  exact go_vir (m := 45) (pc := 15) (o := 0) (x := 184) (y := 46) (kd := 0) (b := a_l0) (bs := [.int (nI 2)]) (rs := []) (by decide +kernel) rfl rfl c_0_184 (Or.inl rfl) rfl rfl rfl (by decide +kernel) (by simp only [List.length_cons, List.length_nil]; decide) (Nat.le_of_ble_eq_true rfl) h1
theorem Bus_startTransfer_18 (l0 : Value) (w : Wd) (I : MI) (L : ML) (P : MP)  : go 45 18 [l0] [] w I L P = some (.inl (some (.int (nI 0))), w, I, L, P) := by
  refine (go_ic (m := 45) (pc := 18) (n := 0) (by decide +kernel) ic_0).trans ?_
  exact go_retI (m := 45) (pc := 19) (by decide +kernel) rfl
theorem Bus_startTransfer_E (this : Nat) (w : Wd) (I : MI) (L : ML) (P : MP) : call 45 [.ref this] w I L P = go 45 0 [.ref this] [] w I L P := rfl
theorem Bus_expectBits_0 (a_l0 : Nat) (x_l1 : Int32) (w : Wd) (I : MI) (L : ML) (P : MP) (h0 : w.1 a_l0 = some (0, 0)) : go 46 0 [.ref a_l0, .int x_l1] [] w I L P = some (.inl none, w, (updI (updI (updI I a_l0 6 x_l1) a_l0 10 (nI 0)) a_l0 11 (nI 0)), L, P) := by
  refine (go_aload_n (m := 46) (pc := 0) (k := 0) (by decide +kernel) rfl).trans ?_
  refine (go_iload_n (m := 46) (pc := 1) (k := 1) (by decide +kernel) rfl).trans ?_
  refine (go_putI (m := 46) (pc := 2) (o := 0) (x := 40) (ci := 0) (k := 6) (by decide +kernel) rfl f_0_40 rfl (by decide +kernel) h0).trans ?_
  refine (go_aload_n (m := 46) (pc := 5) (k := 0) (by decide +kernel) rfl).trans ?_
  refine (go_ic (m := 46) (pc := 6) (n := 0) (by decide +kernel) ic_0).trans ?_
  refine (go_putI (m := 46) (pc := 7) (o := 0) (x := 53) (ci := 0) (k := 10) (by decide +kernel) rfl f_0_53 rfl (by decide +kernel) h0).trans ?_
  refine (go_aload_n (m := 46) (pc := 10) (k := 0) (by decide +kernel) rfl).trans ?_
  refine (go_ic (m := 46) (pc := 11) (n := 0) (by decide +kernel) ic_0).trans ?_
  refine (go_putI (m := 46) (pc := 12) (o := 0) (x := 56) (ci := 0) (k := 11) (by decide +kernel) rfl f_0_56 rfl (by decide +kernel) h0).trans ?_
  exact go_retV (m := 46) (pc := 15) (by decide +kernel) rfl
theorem Bus_expectBits_E (this : Nat) (p0 : Int32) (w : Wd) (I : MI) (L : ML) (P : MP) : call 46 [.ref this, .int p0] w I L P = go 46 0 [.ref this, .int p0] [] w I L P := rfl
theorem Bus_sendBits_0 (l0 : Value) (l1 : Value) (l2 : Value) (w : Wd) (I : MI) (L : ML) (P : MP)  : go 47 0 [l0, l1, l2] [] w I L P = go 47 4 [(fix1 l0), .int (nI 0), .int (nI 0)] [] w I L P := by
  refine (go_ic (m := 47) (pc := 0) (n := 0) (by decide +kernel) ic_0).trans ?_
  refine (go_istore_n (m := 47) (pc := 1) (k := 1) (ls' := [(fix1 l0), .int (nI 0), l2]) (by decide +kernel) (by simp only [List.length_cons, List.length_nil]; decide) rfl).trans ?_
  refine (go_ic (m := 47) (pc := 2) (n := 0) (by decide +kernel) ic_0).trans ?_
  refine (go_istore_n (m := 47) (pc := 3) (k := 2) (ls' := [(fix1 l0), .int (nI 0), .int (nI 0)]) (by decide +kernel) (by simp only [List.length_cons, List.length_nil]; decide) rfl).trans ?_
  rfl
theorem Bus_sendBits_4 (a_l0 : Nat) (l1 : Value) (x_l2 : Int32) (w : Wd) (I : MI) (L : ML) (P : MP) (h0 : w.1 a_l0 = some (0, 0)) : go 47 4 [.ref a_l0, l1, .int x_l2] [] w I L P = if (I a_l0 1) ≤ x_l2 then go 47 45 [.ref a_l0, l1, .int x_l2] [] w I L P else go 47 12 [.ref a_l0, l1, .int x_l2] [] w I L P := by
  refine (go_iload_n (m := 47) (pc := 4) (k := 2) (by decide +kernel) rfl).trans ?_
  refine (go_aload_n (m := 47) (pc := 5) (k := 0) (by decide +kernel) rfl).trans ?_
  refine (go_getI (m := 47) (pc := 6) (o := 0) (x := 17) (ci := 0) (k := 1) (by decide +kernel) rfl f_0_17 rfl h0).trans ?_
  exact go_icmpge (m := 47) (pc := 9) (off := 36) (t := 45) (by decide +kernel) (by decide)
theorem Bus_sendBits_12 (a_l0 : Nat) (l1 : Value) (x_l2 : Int32) (w : Wd) (I : MI) (L : ML) (P : MP) (h0 : w.1 a_l0 = some (0, 0)) : go 47 12 [.ref a_l0, l1, .int x_l2] [] w I L P = kC (call 33 [.ref a_l0, .int x_l2] w I L P) (fun v w1 I1 L1 P1 => go 47 17 [.ref a_l0, l1, .int x_l2] (v.toList ++ []) w1 I1 L1 P1) := by
  refine (go_aload_n (m := 47) (pc := 12) (k := 0) (by decide +kernel) rfl).trans ?_
  refine (go_iload_n (m := 47) (pc := 13) (k := 2) (by decide +kernel) rfl).trans ?_
  exact go_vir (m := 47) (pc := 14) (o := 0) (x := 188) (y := 33) (kd := 0) (b := a_l0) (bs := [.int x_l2]) (rs := []) (by decide +kernel) rfl rfl c_0_188 (Or.inl rfl) rfl rfl rfl (by decide +kernel) (by simp only [List.length_cons, List.length_nil]; decide) (Nat.le_of_ble_eq_true rfl) h0
theorem Bus_sendBits_17 (l0 : Value) (l1 : Value) (l2 : Value) (y0 : Int32) (w : Wd) (I : MI) (L : ML) (P : MP)  : go 47 17 [l0, l1, l2] [.int y0] w I L P = if y0 = 0 then go 47 39 [l0, l1, l2] [] w I L P else go 47 20 [l0, l1, l2] [] w I L P := by
  exact go_ifeq (m := 47) (pc := 17) (off := 22) (t := 39) (by decide +kernel) (by decide)
theorem Bus_sendBits_20 (a_l0 : Nat) (l1 : Value) (x_l2 : Int32) (w : Wd) (I : MI) (L : ML) (P : MP) (h0 : w.1 a_l0 = some (0, 0)) : go 47 20 [.ref a_l0, l1, .int x_l2] [] w I L P = kC (call 32 [.ref a_l0, .int x_l2] w I L P) (fun v w1 I1 L1 P1 => go 47 26 [.ref a_l0, l1, .int x_l2] (v.toList ++ [.ref a_l0]) w1 I1 L1 P1) := by
  refine (go_aload_n (m := 47) (pc := 20) (k := 0) (by decide +kernel) rfl).trans ?_
  refine (go_aload_n (m := 47) (pc := 21) (k := 0) (by decide +kernel) rfl).trans ?_
  refine (go_iload_n (m := 47) (pc := 22) (k := 2) (by decide +kernel) rfl).trans ?_
  exact go_vir (m := 47) (pc := 23) (o := 0) (x := 119) (y := 32) (kd := 0) (b := a_l0) (bs := [.int x_l2]) (rs := [.ref a_l0]) (by decide +kernel) rfl rfl c_0_119 (Or.inl rfl) rfl rfl rfl (by decide +kernel) (by simp only [List.length_cons, List.length_nil]; decide) (Nat.le_of_ble_eq_true rfl) h0
theorem Bus_sendBits_26_0 (l0 : Value) (l1 : Value) (l2 : Value) (a_s0 : Nat) (w : Wd) (I : MI) (L : ML) (P : MP) (h0 : w.1 a_s0 = some (0, 0)) : go 47 26 [l0, l1, l2] [.null, .ref a_s0] w I L P = kC (call 48 [.ref a_s0, .null] w I L P) (fun v w1 I1 L1 P1 => go 47 29 [l0, l1, l2] (v.toList ++ []) w1 I1 L1 P1) := by
  exact go_vir (m := 47) (pc := 26) (o := 0) (x := 192) (y := 48) (kd := 0) (b := a_s0) (bs := [.null]) (rs := []) (by decide +kernel) rfl rfl c_0_192 (Or.inl rfl) rfl rfl rfl (by decide +kernel) (by simp only [List.length_cons, List.length_nil]; decide) (Nat.le_of_ble_eq_true rfl) h0
theorem Bus_sendBits_26_1 (l0 : Value) (l1 : Value) (l2 : Value) (a_s0 : Nat) (a_s1 : Nat) (w : Wd) (I : MI) (L : ML) (P : MP) (h0 : w.1 a_s0 = some (0, 0)) : go 47 26 [l0, l1, l2] [.ref a_s1, .ref a_s0] w I L P = kC (call 48 [.ref a_s0, .ref a_s1] w I L P) (fun v w1 I1 L1 P1 => go 47 29 [l0, l1, l2] (v.toList ++ []) w1 I1 L1 P1) := by
  exact go_vir (m := 47) (pc := 26) (o := 0) (x := 192) (y := 48) (kd := 0) (b := a_s0) (bs := [.ref a_s1]) (rs := []) (by decide +kernel) rfl rfl c_0_192 (Or.inl rfl) rfl rfl rfl (by decide +kernel) (by simp only [List.length_cons, List.length_nil]; decide) (Nat.le_of_ble_eq_true rfl) h0
theorem Bus_sendBits_29 (l0 : Value) (l1 : Value) (l2 : Value) (y0 : Int32) (w : Wd) (I : MI) (L : ML) (P : MP)  : go 47 29 [l0, l1, l2] [.int y0] w I L P = if y0 ≠ (nI 1) then go 47 39 [l0, l1, l2] [] w I L P else go 47 33 [l0, l1, l2] [] w I L P := by
  refine (go_ic (m := 47) (pc := 29) (n := 1) (by decide +kernel) ic_1).trans ?_
  exact go_icmpne (m := 47) (pc := 30) (off := 9) (t := 39) (by decide +kernel) (by decide)
theorem Bus_sendBits_33 (l0 : Value) (x_l1 : Int32) (x_l2 : Int32) (w : Wd) (I : MI) (L : ML) (P : MP)  : go 47 33 [l0, .int x_l1, .int x_l2] [] w I L P = go 47 39 [(fix1 l0), .int (x_l1 ||| ((nI 1) <<< (x_l2 &&& 31))), .int x_l2] [] w I L P := by
  refine (go_iload_n (m := 47) (pc := 33) (k := 1) (by decide +kernel) rfl).trans ?_
  refine (go_ic (m := 47) (pc := 34) (n := 1) (by decide +kernel) ic_1).trans ?_
  refine (go_iload_n (m := 47) (pc := 35) (k := 2) (by decide +kernel) rfl).trans ?_
  refine (go_ishl (m := 47) (pc := 36) (by decide +kernel)).trans ?_
  refine (go_ior (m := 47) (pc := 37) (by decide +kernel)).trans ?_
  refine (go_istore_n (m := 47) (pc := 38) (k := 1) (ls' := [(fix1 l0), .int (x_l1 ||| ((nI 1) <<< (x_l2 &&& 31))), .int x_l2]) (by decide +kernel) (by simp only [List.length_cons, List.length_nil]; decide) rfl).trans ?_
  rfl
theorem Bus_sendBits_39 (l0 : Value) (l1 : Value) (x_l2 : Int32) (w : Wd) (I : MI) (L : ML) (P : MP)  : go 47 39 [l0, l1, .int x_l2] [] w I L P = go 47 4 [l0, (fix1 l1), .int (x_l2 + (nI 1))] [] w I L P := by
  refine (go_iinc (m := 47) (pc := 39) (k := 2) (n := 1) (x := x_l2) (v := x_l2 + (nI 1)) (ls' := [l0, (fix1 l1), .int (x_l2 + (nI 1))]) (by decide +kernel) rfl (by rw [ic_1]) rfl).trans ?_
  refine (go_goto (m := 47) (pc := 42) (off := -38) (t := 4) (by decide +kernel) (by decide)).trans ?_
  rfl
theorem Bus_sendBits_45 (a_l0 : Nat) (x_l1 : Int32) (l2 : Value) (w : Wd) (I : MI) (L : ML) (P : MP) (h0 : w.1 a_l0 = some (0, 0)) : go 47 45 [.ref a_l0, .int x_l1, l2] [] w I L P = if x_l1 ≠ (I a_l0 7) then go 47 55 [.ref a_l0, .int x_l1, l2] [] w I L P else go 47 53 [.ref a_l0, .int x_l1, l2] [] w I L P := by
  refine (go_iload_n (m := 47) (pc := 45) (k := 1) (by decide +kernel) rfl).trans ?_
  refine (go_aload_n (m := 47) (pc := 46) (k := 0) (by decide +kernel) rfl).trans ?_
  refine (go_getI (m := 47) (pc := 47) (o := 0) (x := 43) (ci := 0) (k := 7) (by decide +kernel) rfl f_0_43 rfl h0).trans ?_
  exact go_icmpne (m := 47) (pc := 50) (off := 5) (t := 55) (by decide +kernel) (by decide)
theorem Bus_sendBits_53 (l0 : Value) (l1 : Value) (l2 : Value) (w : Wd) (I : MI) (L : ML) (P : MP)  : go 47 53 [l0, l1, l2] [] w I L P = some (.inl (some (.int (nI 1))), w, I, L, P) := by
  refine (go_ic (m := 47) (pc := 53) (n := 1) (by decide +kernel) ic_1).trans ?_
  exact go_retI (m := 47) (pc := 54) (by decide +kernel) rfl
theorem Bus_sendBits_55 (a_l0 : Nat) (x_l1 : Int32) (l2 : Value) (w : Wd) (I : MI) (L : ML) (P : MP) (h0 : w.1 a_l0 = some (0, 0)) : go 47 55 [.ref a_l0, .int x_l1, l2] [] w I L P = kC (call 49 [.ref a_l0, .int x_l1] w I L P) (fun v w1 I1 L1 P1 => go 47 60 [.ref a_l0, .int x_l1, l2] (v.toList ++ []) w1 I1 L1 P1) := by
  refine (go_aload_n (m := 47) (pc := 55) (k := 0) (by decide +kernel) rfl).trans ?_
  refine (go_iload_n (m := 47) (pc := 56) (k := 1) (by decide +kernel) rfl).trans ?_
  exact go_vir (m := 47) (pc := 57) (o := 0) (x := 196) (y := 49) (kd := 0) (b := a_l0) (bs := [.int x_l1]) (rs := []) (by decide +kernel) rfl rfl c_0_196 (Or.inl rfl) rfl rfl rfl (by decide +kernel) (by simp only [List.length_cons, List.length_nil]; decide) (Nat.le_of_ble_eq_true rfl) h0
theorem Bus_sendBits_60 (l0 : Value) (l1 : Value) (l2 : Value) (w : Wd) (I : MI) (L : ML) (P : MP)  : go 47 60 [l0, l1, l2] [] w I L P = some (.inl (some (.int (nI 0))), w, I, L, P) := by
  refine (go_ic (m := 47) (pc := 60) (n := 0) (by decide +kernel) ic_0).trans ?_
  exact go_retI (m := 47) (pc := 61) (by decide +kernel) rfl
theorem Bus_sendBits_E (this : Nat) (w : Wd) (I : MI) (L : ML) (P : MP) : call 47 [.ref this] w I L P = go 47 0 [.ref this, unk, unk] [] w I L P := rfl
theorem Bus_sentBit_0_0 (l0 : Value) (l2 : Value) (w : Wd) (I : MI) (L : ML) (P : MP)  : go 48 0 [l0, .null, l2] [] w I L P = go 48 4 [l0, .null, l2] [] w I L P := by
  refine (go_aload_nN (m := 48) (pc := 0) (k := 1) (by decide +kernel) rfl).trans ?_
  exact go_ifnonnullN (m := 48) (pc := 1) (off := 5) (by decide +kernel)
theorem Bus_sentBit_0_1 (l0 : Value) (a_l1 : Nat) (l2 : Value) (w : Wd) (I : MI) (L : ML) (P : MP)  : go 48 0 [l0, .ref a_l1, l2] [] w I L P = go 48 6 [l0, .ref a_l1, l2] [] w I L P := by
  refine (go_aload_n (m := 48) (pc := 0) (k := 1) (by decide +kernel) rfl).trans ?_
  exact go_ifnonnullR (m := 48) (pc := 1) (off := 5) (t := 6) (by decide +kernel) (by decide)
theorem Bus_sentBit_4 (l0 : Value) (l1 : Value) (l2 : Value) (w : Wd) (I : MI) (L : ML) (P : MP)  : go 48 4 [l0, l1, l2] [] w I L P = some (.inl (some (.int (nI 1))), w, I, L, P) := by
  refine (go_ic (m := 48) (pc := 4) (n := 1) (by decide +kernel) ic_1).trans ?_
  exact go_retI (m := 48) (pc := 5) (by decide +kernel) rfl
theorem Bus_sentBit_6 (a_l0 : Nat) (l1 : Value) (l2 : Value) (w : Wd) (I : MI) (L : ML) (P : MP) (h0 : w.1 a_l0 = some (0, 0)) : go 48 6 [.ref a_l0, l1, l2] [] w I L P = if (I a_l0 6) ≠ (nI 2) then go 48 21 [.ref a_l0, l1, l2] [] w I L P else go 48 14 [.ref a_l0, l1, l2] [] w I L P := by
  refine (go_aload_n (m := 48) (pc := 6) (k := 0) (by decide +kernel) rfl).trans ?_
  refine (go_getI (m := 48) (pc := 7) (o := 0) (x := 40) (ci := 0) (k := 6) (by decide +kernel) rfl f_0_40 rfl h0).trans ?_
  refine (go_ic (m := 48) (pc := 10) (n := 2) (by decide +kernel) ic_2).trans ?_
  exact go_icmpne (m := 48) (pc := 11) (off := 10) (t := 21) (by decide +kernel) (by decide)
theorem Bus_sentBit_14 (l0 : Value) (a_l1 : Nat) (l2 : Value) (w : Wd) (I : MI) (L : ML) (P : MP) (h0 : w.1 a_l1 = some (3, 0)) : go 48 14 [l0, .ref a_l1, l2] [] w I L P = kC (call 2 [.ref a_l1] w I L P) (fun v w1 I1 L1 P1 => go 48 18 [l0, .ref a_l1, l2] (v.toList ++ []) w1 I1 L1 P1) := by
  refine (go_aload_n (m := 48) (pc := 14) (k := 1) (by decide +kernel) rfl).trans ?_
  exact go_vir (m := 48) (pc := 15) (o := 0) (x := 122) (y := 2) (kd := 1) (b := a_l1) (bs := []) (rs := []) (by decide +kernel) rfl rfl c_0_122 (Or.inr rfl) rfl rfl rfl (by decide +kernel) (by simp only [List.length_cons, List.length_nil]; decide) (Nat.le_of_ble_eq_true rfl) h0
theorem Bus_sentBit_18 (l0 : Value) (l1 : Value) (l2 : Value) (y0 : Int32) (w : Wd) (I : MI) (L : ML) (P : MP)  : go 48 18 [l0, l1, l2] [.int y0] w I L P = go 48 29 [l0, l1, l2] [.int y0] w I L P := by
  refine (go_goto (m := 48) (pc := 18) (off := 11) (t := 29) (by decide +kernel) (by decide)).trans ?_
  rfl
theorem Bus_sentBit_21 (a_l0 : Nat) (a_l1 : Nat) (l2 : Value) (w : Wd) (I : MI) (L : ML) (P : MP) (h0 : w.1 a_l0 = some (0, 0)) (h1 : w.1 a_l1 = some (3, 0)) : go 48 21 [.ref a_l0, .ref a_l1, l2] [] w I L P = kC (call 3 [.ref a_l1, .int (I a_l0 12)] w I L P) (fun v w1 I1 L1 P1 => go 48 29 [.ref a_l0, .ref a_l1, l2] (v.toList ++ []) w1 I1 L1 P1) := by
  refine (go_aload_n (m := 48) (pc := 21) (k := 1) (by decide +kernel) rfl).trans ?_
  refine (go_aload_n (m := 48) (pc := 22) (k := 0) (by decide +kernel) rfl).trans ?_
  refine (go_getI (m := 48) (pc := 23) (o := 0) (x := 59) (ci := 0) (k := 12) (by decide +kernel) rfl f_0_59 rfl h0).trans ?_
  exact go_vir (m := 48) (pc := 26) (o := 0) (x := 199) (y := 3) (kd := 1) (b := a_l1) (bs := [.int (I a_l0 12)]) (rs := []) (by decide +kernel) rfl rfl c_0_199 (Or.inr rfl) rfl rfl rfl (by decide +kernel) (by simp only [List.length_cons, List.length_nil]; decide) (Nat.le_of_ble_eq_true rfl) h1
theorem Bus_sentBit_29 (a_l0 : Nat) (l1 : Value) (l2 : Value) (y0 : Int32) (w : Wd) (I : MI) (L : ML) (P : MP) (h0 : w.1 a_l0 = some (0, 0)) : go 48 29 [.ref a_l0, l1, l2] [.int y0] w I L P = some (.inl (some (.int ((y0 >>> (((nI 7) - (I a_l0 10)) &&& 31)) &&& (nI 1)))), w, I, L, P) := by
  refine (go_istore_n (m := 48) (pc := 29) (k := 2) (ls' := [.ref a_l0, (fix1 l1), .int y0]) (by decide +kernel) (by simp only [List.length_cons, List.length_nil]; decide) rfl).trans ?_
  refine (go_iload_n (m := 48) (pc := 30) (k := 2) (by decide +kernel) rfl).trans ?_
  refine (go_bi (m := 48) (pc := 31) (n := 7) (by decide +kernel) bi_7).trans ?_
  refine (go_aload_n (m := 48) (pc := 33) (k := 0) (by decide +kernel) rfl).trans ?_
  refine (go_getI (m := 48) (pc := 34) (o := 0) (x := 53) (ci := 0) (k := 10) (by decide +kernel) rfl f_0_53 rfl h0).trans ?_
  refine (go_isub (m := 48) (pc := 37) (by decide +kernel)).trans ?_
  refine (go_ishr (m := 48) (pc := 38) (by decide +kernel)).trans ?_
  refine (go_ic (m := 48) (pc := 39) (n := 1) (by decide +kernel) ic_1).trans ?_
  refine (go_iand (m := 48) (pc := 40) (by decide +kernel)).trans ?_
  exact go_retI (m := 48) (pc := 41) (by decide +kernel) rfl
theorem Bus_sentBit_E (this : Nat) (p0 : Nat) (w : Wd) (I : MI) (L : ML) (P : MP) : call 48 [.ref this, .ref p0] w I L P = go 48 0 [.ref this, .ref p0, unk] [] w I L P := rfl
theorem Bus_sentBit_E1 (this : Nat) (w : Wd) (I : MI) (L : ML) (P : MP) : call 48 [.ref this, .null] w I L P = go 48 0 [.ref this, .null, unk] [] w I L P := rfl
theorem Bus_loseBits_0 (a_l0 : Nat) (x_l1 : Int32) (l2 : Value) (l3 : Value) (w : Wd) (I : MI) (L : ML) (P : MP) (h0 : w.1 a_l0 = some (0, 0)) : go 49 0 [.ref a_l0, .int x_l1, l2, l3] [] w I L P = go 49 14 [.ref a_l0, .int x_l1, .int (nI 0), l3] [] w (updI I a_l0 7 ((I a_l0 7) &&& (x_l1 ^^^ (-1)))) L P := by
  refine (go_aload_n (m := 49) (pc := 0) (k := 0) (by decide +kernel) rfl).trans ?_
  refine (go_dup (m := 49) (pc := 1) (by decide +kernel) rfl).trans ?_
  refine (go_getI (m := 49) (pc := 2) (o := 0) (x := 43) (ci := 0) (k := 7) (by decide +kernel) rfl f_0_43 rfl h0).trans ?_
  refine (go_iload_n (m := 49) (pc := 5) (k := 1) (by decide +kernel) rfl).trans ?_
  refine (go_ic (m := 49) (pc := 6) (n := -1) (by decide +kernel) ic_m1).trans ?_
  refine (go_ixor (m := 49) (pc := 7) (by decide +kernel)).trans ?_
  refine (go_iand (m := 49) (pc := 8) (by decide +kernel)).trans ?_
  refine (go_putI (m := 49) (pc := 9) (o := 0) (x := 43) (ci := 0) (k := 7) (by decide +kernel) rfl f_0_43 rfl (by decide +kernel) h0).trans ?_
  refine (go_ic (m := 49) (pc := 12) (n := 0) (by decide +kernel) ic_0).trans ?_
  refine (go_istore_n (m := 49) (pc := 13) (k := 2) (ls' := [.ref a_l0, .int x_l1, .int (nI 0), l3]) (by decide +kernel) (by simp only [List.length_cons, List.length_nil]; decide) rfl).trans ?_
  rfl
theorem Bus_loseBits_14 (a_l0 : Nat) (l1 : Value) (x_l2 : Int32) (l3 : Value) (w : Wd) (I : MI) (L : ML) (P : MP) (h0 : w.1 a_l0 = some (0, 0)) : go 49 14 [.ref a_l0, l1, .int x_l2, l3] [] w I L P = if (I a_l0 1) ≤ x_l2 then go 49 55 [.ref a_l0, l1, .int x_l2, l3] [] w I L P else go 49 22 [.ref a_l0, l1, .int x_l2, l3] [] w I L P := by
  refine (go_iload_n (m := 49) (pc := 14) (k := 2) (by decide +kernel) rfl).trans ?_
  refine (go_aload_n (m := 49) (pc := 15) (k := 0) (by decide +kernel) rfl).trans ?_
  refine (go_getI (m := 49) (pc := 16) (o := 0) (x := 17) (ci := 0) (k := 1) (by decide +kernel) rfl f_0_17 rfl h0).trans ?_
  exact go_icmpge (m := 49) (pc := 19) (off := 36) (t := 55) (by decide +kernel) (by decide)
theorem Bus_loseBits_22 (a_l0 : Nat) (l1 : Value) (x_l2 : Int32) (l3 : Value) (w : Wd) (I : MI) (L : ML) (P : MP) (h0 : w.1 a_l0 = some (0, 0)) : go 49 22 [.ref a_l0, l1, .int x_l2, l3] [] w I L P = kC (call 30 [.ref a_l0, .int x_l2] w I L P) (fun v w1 I1 L1 P1 => go 49 27 [.ref a_l0, l1, .int x_l2, l3] (v.toList ++ []) w1 I1 L1 P1) := by
  refine (go_aload_n (m := 49) (pc := 22) (k := 0) (by decide +kernel) rfl).trans ?_
  refine (go_iload_n (m := 49) (pc := 23) (k := 2) (by decide +kernel) rfl).trans ?_
  exact go_vir (m := 49) (pc := 24) (o := 0) (x := 81) (y := 30) (kd := 0) (b := a_l0) (bs := [.int x_l2]) (rs := []) (by decide +kernel) rfl rfl c_0_81 (Or.inl rfl) rfl rfl rfl (by decide +kernel) (by simp only [List.length_cons, List.length_nil]; decide) (Nat.le_of_ble_eq_true rfl) h0
theorem Bus_loseBits_27_0 (l0 : Value) (l1 : Value) (l2 : Value) (l3 : Value) (w : Wd) (I : MI) (L : ML) (P : MP)  : go 49 27 [l0, l1, l2, l3] [.null] w I L P = go 49 49 [l0, l1, (fix1 l2), .null] [] w I L P := by
  refine (go_astore_nN (m := 49) (pc := 27) (k := 3) (ls' := [l0, l1, (fix1 l2), .null]) (by decide +kernel) (by simp only [List.length_cons, List.length_nil]; decide) rfl).trans ?_
  refine (go_aload_nN (m := 49) (pc := 28) (k := 3) (by decide +kernel) rfl).trans ?_
  exact go_ifnullN (m := 49) (pc := 29) (off := 20) (t := 49) (by decide +kernel) (by decide)
theorem Bus_loseBits_27_1 (l0 : Value) (l1 : Value) (l2 : Value) (l3 : Value) (a_s0 : Nat) (w : Wd) (I : MI) (L : ML) (P : MP)  : go 49 27 [l0, l1, l2, l3] [.ref a_s0] w I L P = go 49 32 [l0, l1, (fix1 l2), .ref a_s0] [] w I L P := by
  refine (go_astore_n (m := 49) (pc := 27) (k := 3) (ls' := [l0, l1, (fix1 l2), .ref a_s0]) (by decide +kernel) (by simp only [List.length_cons, List.length_nil]; decide) rfl).trans ?_
  refine (go_aload_n (m := 49) (pc := 28) (k := 3) (by decide +kernel) rfl).trans ?_
  exact go_ifnullR (m := 49) (pc := 29) (off := 20) (by decide +kernel)
theorem Bus_loseBits_32 (l0 : Value) (x_l1 : Int32) (x_l2 : Int32) (l3 : Value) (w : Wd) (I : MI) (L : ML) (P : MP)  : go 49 32 [l0, .int x_l1, .int x_l2, l3] [] w I L P = if ((x_l1 >>> (x_l2 &&& 31)) &&& (nI 1)) ≠ (nI 1) then go 49 49 [l0, .int x_l1, .int x_l2, l3] [] w I L P else go 49 41 [l0, .int x_l1, .int x_l2, l3] [] w I L P := by
  refine (go_iload_n (m := 49) (pc := 32) (k := 1) (by decide +kernel) rfl).trans ?_
  refine (go_iload_n (m := 49) (pc := 33) (k := 2) (by decide +kernel) rfl).trans ?_
  refine (go_ishr (m := 49) (pc := 34) (by decide +kernel)).trans ?_
  refine (go_ic (m := 49) (pc := 35) (n := 1) (by decide +kernel) ic_1).trans ?_
  refine (go_iand (m := 49) (pc := 36) (by decide +kernel)).trans ?_
  refine (go_ic (m := 49) (pc := 37) (n := 1) (by decide +kernel) ic_1).trans ?_
  exact go_icmpne (m := 49) (pc := 38) (off := 11) (t := 49) (by decide +kernel) (by decide)
theorem Bus_loseBits_41 (a_l0 : Nat) (l1 : Value) (l2 : Value) (a_l3 : Nat) (w : Wd) (I : MI) (L : ML) (P : MP) (h0 : w.1 a_l0 = some (0, 0)) (h1 : w.1 a_l3 = some (1, 0)) : go 49 41 [.ref a_l0, l1, l2, .ref a_l3] [] w I L P = kC (call 11 [.ref a_l3, .int (I a_l0 4)] w I L P) (fun v w1 I1 L1 P1 => go 49 49 [.ref a_l0, l1, l2, .ref a_l3] (v.toList ++ []) w1 I1 L1 P1) := by
  refine (go_aload_n (m := 49) (pc := 41) (k := 3) (by decide +kernel) rfl).trans ?_
  refine (go_aload_n (m := 49) (pc := 42) (k := 0) (by decide +kernel) rfl).trans ?_
  refine (go_getI (m := 49) (pc := 43) (o := 0) (x := 30) (ci := 0) (k := 4) (by decide +kernel) rfl f_0_30 rfl h0).trans ?_
  exact go_vir (m := 49) (pc := 46) (o := 0) (x := 202) (y := 11) (kd := 1) (b := a_l3) (bs := [.int (I a_l0 4)]) (rs := []) (by decide +kernel) rfl rfl c_0_202 (Or.inr rfl) rfl rfl rfl (by decide +kernel) (by simp only [List.length_cons, List.length_nil]; decide) (Nat.le_of_ble_eq_true rfl) h1
theorem Bus_loseBits_49 (l0 : Value) (l1 : Value) (x_l2 : Int32) (l3 : Value) (w : Wd) (I : MI) (L : ML) (P : MP)  : go 49 49 [l0, l1, .int x_l2, l3] [] w I L P = go 49 14 [l0, (fix1 l1), .int (x_l2 + (nI 1)), l3] [] w I L P := by
  refine (go_iinc (m := 49) (pc := 49) (k := 2) (n := 1) (x := x_l2) (v := x_l2 + (nI 1)) (ls' := [l0, (fix1 l1), .int (x_l2 + (nI 1)), l3]) (by decide +kernel) rfl (by rw [ic_1]) rfl).trans ?_
  refine (go_goto (m := 49) (pc := 52) (off := -38) (t := 14) (by decide +kernel) (by decide)).trans ?_
  rfl
theorem Bus_loseBits_55 (l0 : Value) (l1 : Value) (l2 : Value) (l3 : Value) (w : Wd) (I : MI) (L : ML) (P : MP)  : go 49 55 [l0, l1, l2, l3] [] w I L P = some (.inl none, w, I, L, P) := by
  exact go_retV (m := 49) (pc := 55) (by decide +kernel) rfl
theorem Bus_loseBits_E (this : Nat) (p0 : Int32) (w : Wd) (I : MI) (L : ML) (P : MP) : call 49 [.ref this, .int p0] w I L P = go 49 0 [.ref this, .int p0, unk, unk] [] w I L P := rfl
theorem Bus_readBit_0 (a_l0 : Nat) (l1 : Value) (l2 : Value) (w : Wd) (I : MI) (L : ML) (P : MP) (h0 : w.1 a_l0 = some (0, 0)) : go 50 0 [.ref a_l0, l1, l2] [] w I L P = kC (call 31 [.ref a_l0, .int (I a_l0 8)] w I L P) (fun v w1 I1 L1 P1 => go 50 8 [.ref a_l0, l1, l2] (v.toList ++ []) w1 I1 L1 P1) := by
  refine (go_aload_n (m := 50) (pc := 0) (k := 0) (by decide +kernel) rfl).trans ?_
  refine (go_aload_n (m := 50) (pc := 1) (k := 0) (by decide +kernel) rfl).trans ?_
  refine (go_getI (m := 50) (pc := 2) (o := 0) (x := 46) (ci := 0) (k := 8) (by decide +kernel) rfl f_0_46 rfl h0).trans ?_
  exact go_vir (m := 50) (pc := 5) (o := 0) (x := 89) (y := 31) (kd := 0) (b := a_l0) (bs := [.int (I a_l0 8)]) (rs := []) (by decide +kernel) rfl rfl c_0_89 (Or.inl rfl) rfl rfl rfl (by decide +kernel) (by simp only [List.length_cons, List.length_nil]; decide) (Nat.le_of_ble_eq_true rfl) h0
theorem Bus_readBit_8_0 (l0 : Value) (l1 : Value) (l2 : Value) (w : Wd) (I : MI) (L : ML) (P : MP)  : go 50 8 [l0, l1, l2] [.null] w I L P = go 50 13 [(fix1 l0), .null, l2] [] w I L P := by
  refine (go_astore_nN (m := 50) (pc := 8) (k := 1) (ls' := [(fix1 l0), .null, l2]) (by decide +kernel) (by simp only [List.length_cons, List.length_nil]; decide) rfl).trans ?_
  refine (go_aload_nN (m := 50) (pc := 9) (k := 1) (by decide +kernel) rfl).trans ?_
  exact go_ifnonnullN (m := 50) (pc := 10) (off := 9) (by decide +kernel)
theorem Bus_readBit_8_1 (l0 : Value) (l1 : Value) (l2 : Value) (a_s0 : Nat) (w : Wd) (I : MI) (L : ML) (P : MP)  : go 50 8 [l0, l1, l2] [.ref a_s0] w I L P = go 50 19 [(fix1 l0), .ref a_s0, l2] [] w I L P := by
  refine (go_astore_n (m := 50) (pc := 8) (k := 1) (ls' := [(fix1 l0), .ref a_s0, l2]) (by decide +kernel) (by simp only [List.length_cons, List.length_nil]; decide) rfl).trans ?_
  refine (go_aload_n (m := 50) (pc := 9) (k := 1) (by decide +kernel) rfl).trans ?_
  exact go_ifnonnullR (m := 50) (pc := 10) (off := 9) (t := 19) (by decide +kernel) (by decide)
theorem Bus_readBit_13 (l0 : Value) (l1 : Value) (l2 : Value) (w : Wd) (I : MI) (L : ML) (P : MP)  : go 50 13 [l0, l1, l2] [] w I L P = go 50 27 [l0, l1, l2] [.int (nI 255)] w I L P := by
  refine (go_si (m := 50) (pc := 13) (n := 255) (by decide +kernel) si_255).trans ?_
  refine (go_goto (m := 50) (pc := 16) (off := 11) (t := 27) (by decide +kernel) (by decide)).trans ?_
  rfl
theorem Bus_readBit_19 (l0 : Value) (a_l1 : Nat) (l2 : Value) (w : Wd) (I : MI) (L : ML) (P : MP) (h0 : w.1 a_l1 = some (2, 0)) : go 50 19 [l0, .ref a_l1, l2] [] w I L P = kC (call 17 [.ref a_l1, .int (I a_l1 6)] w I L P) (fun v w1 I1 L1 P1 => go 50 27 [l0, .ref a_l1, l2] (v.toList ++ []) w1 I1 L1 P1) := by
  refine (go_aload_n (m := 50) (pc := 19) (k := 1) (by decide +kernel) rfl).trans ?_
  refine (go_aload_n (m := 50) (pc := 20) (k := 1) (by decide +kernel) rfl).trans ?_
  refine (go_getI (m := 50) (pc := 21) (o := 0) (x := 205) (ci := 2) (k := 6) (by decide +kernel) rfl f_0_205 rfl h0).trans ?_
  exact go_vir (m := 50) (pc := 24) (o := 0) (x := 208) (y := 17) (kd := 1) (b := a_l1) (bs := [.int (I a_l1 6)]) (rs := []) (by decide +kernel) rfl rfl c_0_208 (Or.inr rfl) rfl rfl rfl (by decide +kernel) (by simp only [List.length_cons, List.length_nil]; decide) (Nat.le_of_ble_eq_true rfl) h0
theorem Bus_readBit_27 (a_l0 : Nat) (l1 : Value) (l2 : Value) (y0 : Int32) (w : Wd) (I : MI) (L : ML) (P : MP) (h0 : w.1 a_l0 = some (0, 0)) : go 50 27 [.ref a_l0, l1, l2] [.int y0] w I L P = some (.inl (some (.int ((y0 >>> (((nI 7) - (I a_l0 10)) &&& 31)) &&& (nI 1)))), w, I, L, P) := by
  refine (go_istore_n (m := 50) (pc := 27) (k := 2) (ls' := [.ref a_l0, (fix1 l1), .int y0]) (by decide +kernel) (by simp only [List.length_cons, List.length_nil]; decide) rfl).trans ?_
  refine (go_iload_n (m := 50) (pc := 28) (k := 2) (by decide +kernel) rfl).trans ?_
  refine (go_bi (m := 50) (pc := 29) (n := 7) (by decide +kernel) bi_7).trans ?_
  refine (go_aload_n (m := 50) (pc := 31) (k := 0) (by decide +kernel) rfl).trans ?_
  refine (go_getI (m := 50) (pc := 32) (o := 0) (x := 53) (ci := 0) (k := 10) (by decide +kernel) rfl f_0_53 rfl h0).trans ?_
  refine (go_isub (m := 50) (pc := 35) (by decide +kernel)).trans ?_
  refine (go_ishr (m := 50) (pc := 36) (by decide +kernel)).trans ?_
  refine (go_ic (m := 50) (pc := 37) (n := 1) (by decide +kernel) ic_1).trans ?_
  refine (go_iand (m := 50) (pc := 38) (by decide +kernel)).trans ?_
  exact go_retI (m := 50) (pc := 39) (by decide +kernel) rfl
theorem Bus_readBit_E (this : Nat) (w : Wd) (I : MI) (L : ML) (P : MP) : call 50 [.ref this] w I L P = go 50 0 [.ref this, unk, unk] [] w I L P := rfl
theorem Bus_takeBit_0 (a_l0 : Nat) (x_l1 : Int32) (w : Wd) (I : MI) (L : ML) (P : MP) (h0 : w.1 a_l0 = some (0, 0)) : go 51 0 [.ref a_l0, .int x_l1] [] w I L P = if ((updI (updI I a_l0 11 (((nI 2) * (I a_l0 11)) + x_l1)) a_l0 10 (((updI I a_l0 11 (((nI 2) * (I a_l0 11)) + x_l1)) a_l0 10) + (nI 1))) a_l0 10) ≠ (nI 8) then go 51 35 [.ref a_l0, .int x_l1] [] w (updI (updI I a_l0 11 (((nI 2) * (I a_l0 11)) + x_l1)) a_l0 10 (((updI I a_l0 11 (((nI 2) * (I a_l0 11)) + x_l1)) a_l0 10) + (nI 1))) L P else go 51 31 [.ref a_l0, .int x_l1] [] w (updI (updI I a_l0 11 (((nI 2) * (I a_l0 11)) + x_l1)) a_l0 10 (((updI I a_l0 11 (((nI 2) * (I a_l0 11)) + x_l1)) a_l0 10) + (nI 1))) L P := by
  refine (go_aload_n (m := 51) (pc := 0) (k := 0) (by decide +kernel) rfl).trans ?_
  refine (go_ic (m := 51) (pc := 1) (n := 2) (by decide +kernel) ic_2).trans ?_
  refine (go_aload_n (m := 51) (pc := 2) (k := 0) (by decide +kernel) rfl).trans ?_
  refine (go_getI (m := 51) (pc := 3) (o := 0) (x := 56) (ci := 0) (k := 11) (by decide +kernel) rfl f_0_56 rfl h0).trans ?_
  refine (go_imul (m := 51) (pc := 6) (by decide +kernel)).trans ?_
  refine (go_iload_n (m := 51) (pc := 7) (k := 1) (by decide +kernel) rfl).trans ?_
  refine (go_iadd (m := 51) (pc := 8) (by decide +kernel)).trans ?_
  refine (go_putI (m := 51) (pc := 9) (o := 0) (x := 56) (ci := 0) (k := 11) (by decide +kernel) rfl f_0_56 rfl (by decide +kernel) h0).trans ?_
  refine (go_aload_n (m := 51) (pc := 12) (k := 0) (by decide +kernel) rfl).trans ?_
  refine (go_dup (m := 51) (pc := 13) (by decide +kernel) rfl).trans ?_
  refine (go_getI (m := 51) (pc := 14) (o := 0) (x := 53) (ci := 0) (k := 10) (by decide +kernel) rfl f_0_53 rfl h0).trans ?_
  refine (go_ic (m := 51) (pc := 17) (n := 1) (by decide +kernel) ic_1).trans ?_
  refine (go_iadd (m := 51) (pc := 18) (by decide +kernel)).trans ?_
  refine (go_putI (m := 51) (pc := 19) (o := 0) (x := 53) (ci := 0) (k := 10) (by decide +kernel) rfl f_0_53 rfl (by decide +kernel) h0).trans ?_
  refine (go_aload_n (m := 51) (pc := 22) (k := 0) (by decide +kernel) rfl).trans ?_
  refine (go_getI (m := 51) (pc := 23) (o := 0) (x := 53) (ci := 0) (k := 10) (by decide +kernel) rfl f_0_53 rfl h0).trans ?_
  refine (go_bi (m := 51) (pc := 26) (n := 8) (by decide +kernel) bi_8).trans ?_
  exact go_icmpne (m := 51) (pc := 28) (off := 7) (t := 35) (by decide +kernel) (by decide)
theorem Bus_takeBit_31 (a_l0 : Nat) (l1 : Value) (w : Wd) (I : MI) (L : ML) (P : MP) (h0 : w.1 a_l0 = some (0, 0)) : go 51 31 [.ref a_l0, l1] [] w I L P = kC (call 52 [.ref a_l0] w I L P) (fun v w1 I1 L1 P1 => go 51 35 [.ref a_l0, l1] (v.toList ++ []) w1 I1 L1 P1) := by
  refine (go_aload_n (m := 51) (pc := 31) (k := 0) (by decide +kernel) rfl).trans ?_
  exact go_vir (m := 51) (pc := 32) (o := 0) (x := 209) (y := 52) (kd := 0) (b := a_l0) (bs := []) (rs := []) (by decide +kernel) rfl rfl c_0_209 (Or.inl rfl) rfl rfl rfl (by decide +kernel) (by simp only [List.length_cons, List.length_nil]; decide) (Nat.le_of_ble_eq_true rfl) h0
theorem Bus_takeBit_35 (l0 : Value) (x_l1 : Int32) (w : Wd) (I : MI) (L : ML) (P : MP)  : go 51 35 [l0, .int x_l1] [] w I L P = some (.inl (some (.int x_l1)), w, I, L, P) := by
  refine (go_iload_n (m := 51) (pc := 35) (k := 1) (by decide +kernel) rfl).trans ?_
  exact go_retI (m := 51) (pc := 36) (by decide +kernel) rfl
theorem Bus_takeBit_E (this : Nat) (p0 : Int32) (w : Wd) (I : MI) (L : ML) (P : MP) : call 51 [.ref this, .int p0] w I L P = go 51 0 [.ref this, .int p0] [] w I L P := rfl
theorem Bus_endBits_0 (a_l0 : Nat) (w : Wd) (I : MI) (L : ML) (P : MP) (h0 : w.1 a_l0 = some (0, 0)) : go 52 0 [.ref a_l0] [] w I L P = if (I a_l0 6) ≠ (nI 2) then go 52 14 [.ref a_l0] [] w I L P else go 52 8 [.ref a_l0] [] w I L P := by
  refine (go_aload_n (m := 52) (pc := 0) (k := 0) (by decide +kernel) rfl).trans ?_
  refine (go_getI (m := 52) (pc := 1) (o := 0) (x := 40) (ci := 0) (k := 6) (by decide +kernel) rfl f_0_40 rfl h0).trans ?_
  refine (go_ic (m := 52) (pc := 4) (n := 2) (by decide +kernel) ic_2).trans ?_
  exact go_icmpne (m := 52) (pc := 5) (off := 9) (t := 14) (by decide +kernel) (by decide)
theorem Bus_endBits_8 (a_l0 : Nat) (w : Wd) (I : MI) (L : ML) (P : MP) (h0 : w.1 a_l0 = some (0, 0)) : go 52 8 [.ref a_l0] [] w I L P = some (.inl none, w, (updI I a_l0 6 (nI 3)), L, P) := by
  refine (go_aload_n (m := 52) (pc := 8) (k := 0) (by decide +kernel) rfl).trans ?_
  refine (go_ic (m := 52) (pc := 9) (n := 3) (by decide +kernel) ic_3).trans ?_
  refine (go_putI (m := 52) (pc := 10) (o := 0) (x := 40) (ci := 0) (k := 6) (by decide +kernel) rfl f_0_40 rfl (by decide +kernel) h0).trans ?_
  exact go_retV (m := 52) (pc := 13) (by decide +kernel) rfl
theorem Bus_endBits_14 (a_l0 : Nat) (w : Wd) (I : MI) (L : ML) (P : MP) (h0 : w.1 a_l0 = some (0, 0)) : go 52 14 [.ref a_l0] [] w I L P = if ((updI (updI I a_l0 6 (nI 5)) a_l0 12 (((updI I a_l0 6 (nI 5)) a_l0 12) + (nI 1))) a_l0 9 &&& 1) = 0 then go 52 40 [.ref a_l0] [] w (updI (updI I a_l0 6 (nI 5)) a_l0 12 (((updI I a_l0 6 (nI 5)) a_l0 12) + (nI 1))) L P else go 52 36 [.ref a_l0] [] w (updI (updI I a_l0 6 (nI 5)) a_l0 12 (((updI I a_l0 6 (nI 5)) a_l0 12) + (nI 1))) L P := by
  refine (go_aload_n (m := 52) (pc := 14) (k := 0) (by decide +kernel) rfl).trans ?_
  refine (go_ic (m := 52) (pc := 15) (n := 5) (by decide +kernel) ic_5).trans ?_
  refine (go_putI (m := 52) (pc := 16) (o := 0) (x := 40) (ci := 0) (k := 6) (by decide +kernel) rfl f_0_40 rfl (by decide +kernel) h0).trans ?_
  refine (go_aload_n (m := 52) (pc := 19) (k := 0) (by decide +kernel) rfl).trans ?_
  refine (go_dup (m := 52) (pc := 20) (by decide +kernel) rfl).trans ?_
  refine (go_getI (m := 52) (pc := 21) (o := 0) (x := 59) (ci := 0) (k := 12) (by decide +kernel) rfl f_0_59 rfl h0).trans ?_
  refine (go_ic (m := 52) (pc := 24) (n := 1) (by decide +kernel) ic_1).trans ?_
  refine (go_iadd (m := 52) (pc := 25) (by decide +kernel)).trans ?_
  refine (go_putI (m := 52) (pc := 26) (o := 0) (x := 59) (ci := 0) (k := 12) (by decide +kernel) rfl f_0_59 rfl (by decide +kernel) h0).trans ?_
  refine (go_aload_n (m := 52) (pc := 29) (k := 0) (by decide +kernel) rfl).trans ?_
  refine (go_getZ (m := 52) (pc := 30) (o := 0) (x := 49) (ci := 0) (k := 9) (by decide +kernel) rfl f_0_49 rfl h0).trans ?_
  exact go_ifeq (m := 52) (pc := 33) (off := 7) (t := 40) (by decide +kernel) (by decide)
theorem Bus_endBits_36 (a_l0 : Nat) (w : Wd) (I : MI) (L : ML) (P : MP) (h0 : w.1 a_l0 = some (0, 0)) : go 52 36 [.ref a_l0] [] w I L P = kC (call 53 [.ref a_l0] w I L P) (fun v w1 I1 L1 P1 => go 52 40 [.ref a_l0] (v.toList ++ []) w1 I1 L1 P1) := by
  refine (go_aload_n (m := 52) (pc := 36) (k := 0) (by decide +kernel) rfl).trans ?_
  exact go_vir (m := 52) (pc := 37) (o := 0) (x := 212) (y := 53) (kd := 0) (b := a_l0) (bs := []) (rs := []) (by decide +kernel) rfl rfl c_0_212 (Or.inl rfl) rfl rfl rfl (by decide +kernel) (by simp only [List.length_cons, List.length_nil]; decide) (Nat.le_of_ble_eq_true rfl) h0
theorem Bus_endBits_40 (l0 : Value) (w : Wd) (I : MI) (L : ML) (P : MP)  : go 52 40 [l0] [] w I L P = some (.inl none, w, I, L, P) := by
  exact go_retV (m := 52) (pc := 40) (by decide +kernel) rfl
theorem Bus_endBits_E (this : Nat) (w : Wd) (I : MI) (L : ML) (P : MP) : call 52 [.ref this] w I L P = go 52 0 [.ref this] [] w I L P := rfl
theorem Bus_receiveLevels_0 (a_l0 : Nat) (l1 : Value) (l2 : Value) (l3 : Value) (w : Wd) (I : MI) (L : ML) (P : MP) (h0 : w.1 a_l0 = some (0, 0)) : go 53 0 [.ref a_l0, l1, l2, l3] [] w I L P = kC (call 31 [.ref a_l0, .int (I a_l0 8)] w I L P) (fun v w1 I1 L1 P1 => go 53 8 [.ref a_l0, l1, l2, l3] (v.toList ++ []) w1 I1 L1 P1) := by
  refine (go_aload_n (m := 53) (pc := 0) (k := 0) (by decide +kernel) rfl).trans ?_
  refine (go_aload_n (m := 53) (pc := 1) (k := 0) (by decide +kernel) rfl).trans ?_
  refine (go_getI (m := 53) (pc := 2) (o := 0) (x := 46) (ci := 0) (k := 8) (by decide +kernel) rfl f_0_46 rfl h0).trans ?_
  exact go_vir (m := 53) (pc := 5) (o := 0) (x := 89) (y := 31) (kd := 0) (b := a_l0) (bs := [.int (I a_l0 8)]) (rs := []) (by decide +kernel) rfl rfl c_0_89 (Or.inl rfl) rfl rfl rfl (by decide +kernel) (by simp only [List.length_cons, List.length_nil]; decide) (Nat.le_of_ble_eq_true rfl) h0
theorem Bus_receiveLevels_8_0 (l0 : Value) (l1 : Value) (l2 : Value) (l3 : Value) (w : Wd) (I : MI) (L : ML) (P : MP)  : go 53 8 [l0, l1, l2, l3] [.null] w I L P = go 53 17 [(fix1 l0), .null, l2, l3] [] w I L P := by
  refine (go_astore_nN (m := 53) (pc := 8) (k := 1) (ls' := [(fix1 l0), .null, l2, l3]) (by decide +kernel) (by simp only [List.length_cons, List.length_nil]; decide) rfl).trans ?_
  refine (go_aload_nN (m := 53) (pc := 9) (k := 1) (by decide +kernel) rfl).trans ?_
  exact go_ifnullN (m := 53) (pc := 10) (off := 7) (t := 17) (by decide +kernel) (by decide)
theorem Bus_receiveLevels_8_1 (l0 : Value) (l1 : Value) (l2 : Value) (l3 : Value) (a_s0 : Nat) (w : Wd) (I : MI) (L : ML) (P : MP)  : go 53 8 [l0, l1, l2, l3] [.ref a_s0] w I L P = go 53 13 [(fix1 l0), .ref a_s0, l2, l3] [] w I L P := by
  refine (go_astore_n (m := 53) (pc := 8) (k := 1) (ls' := [(fix1 l0), .ref a_s0, l2, l3]) (by decide +kernel) (by simp only [List.length_cons, List.length_nil]; decide) rfl).trans ?_
  refine (go_aload_n (m := 53) (pc := 9) (k := 1) (by decide +kernel) rfl).trans ?_
  exact go_ifnullR (m := 53) (pc := 10) (off := 7) (by decide +kernel)
theorem Bus_receiveLevels_13 (l0 : Value) (a_l1 : Nat) (l2 : Value) (l3 : Value) (w : Wd) (I : MI) (L : ML) (P : MP) (h0 : w.1 a_l1 = some (2, 0)) : go 53 13 [l0, .ref a_l1, l2, l3] [] w I L P = kC (call 19 [.ref a_l1] w I L P) (fun v w1 I1 L1 P1 => go 53 17 [l0, .ref a_l1, l2, l3] (v.toList ++ []) w1 I1 L1 P1) := by
  refine (go_aload_n (m := 53) (pc := 13) (k := 1) (by decide +kernel) rfl).trans ?_
  exact go_vir (m := 53) (pc := 14) (o := 0) (x := 215) (y := 19) (kd := 1) (b := a_l1) (bs := []) (rs := []) (by decide +kernel) rfl rfl c_0_215 (Or.inr rfl) rfl rfl rfl (by decide +kernel) (by simp only [List.length_cons, List.length_nil]; decide) (Nat.le_of_ble_eq_true rfl) h0
theorem Bus_receiveLevels_17 (l0 : Value) (l1 : Value) (l2 : Value) (l3 : Value) (w : Wd) (I : MI) (L : ML) (P : MP)  : go 53 17 [l0, l1, l2, l3] [] w I L P = go 53 19 [l0, (fix1 l1), .int (nI 0), l3] [] w I L P := by
  refine (go_ic (m := 53) (pc := 17) (n := 0) (by decide +kernel) ic_0).trans ?_
  refine (go_istore_n (m := 53) (pc := 18) (k := 2) (ls' := [l0, (fix1 l1), .int (nI 0), l3]) (by decide +kernel) (by simp only [List.length_cons, List.length_nil]; decide) rfl).trans ?_
  rfl
theorem Bus_receiveLevels_19 (a_l0 : Nat) (l1 : Value) (x_l2 : Int32) (l3 : Value) (w : Wd) (I : MI) (L : ML) (P : MP) (h0 : w.1 a_l0 = some (0, 0)) : go 53 19 [.ref a_l0, l1, .int x_l2, l3] [] w I L P = if (I a_l0 1) ≤ x_l2 then go 53 59 [.ref a_l0, l1, .int x_l2, l3] [] w I L P else go 53 27 [.ref a_l0, l1, .int x_l2, l3] [] w I L P := by
  refine (go_iload_n (m := 53) (pc := 19) (k := 2) (by decide +kernel) rfl).trans ?_
  refine (go_aload_n (m := 53) (pc := 20) (k := 0) (by decide +kernel) rfl).trans ?_
  refine (go_getI (m := 53) (pc := 21) (o := 0) (x := 17) (ci := 0) (k := 1) (by decide +kernel) rfl f_0_17 rfl h0).trans ?_
  exact go_icmpge (m := 53) (pc := 24) (off := 35) (t := 59) (by decide +kernel) (by decide)
theorem Bus_receiveLevels_27 (a_l0 : Nat) (l1 : Value) (x_l2 : Int32) (l3 : Value) (w : Wd) (I : MI) (L : ML) (P : MP) (h0 : w.1 a_l0 = some (0, 0)) : go 53 27 [.ref a_l0, l1, .int x_l2, l3] [] w I L P = kC (call 30 [.ref a_l0, .int x_l2] w I L P) (fun v w1 I1 L1 P1 => go 53 32 [.ref a_l0, l1, .int x_l2, l3] (v.toList ++ []) w1 I1 L1 P1) := by
  refine (go_aload_n (m := 53) (pc := 27) (k := 0) (by decide +kernel) rfl).trans ?_
  refine (go_iload_n (m := 53) (pc := 28) (k := 2) (by decide +kernel) rfl).trans ?_
  exact go_vir (m := 53) (pc := 29) (o := 0) (x := 81) (y := 30) (kd := 0) (b := a_l0) (bs := [.int x_l2]) (rs := []) (by decide +kernel) rfl rfl c_0_81 (Or.inl rfl) rfl rfl rfl (by decide +kernel) (by simp only [List.length_cons, List.length_nil]; decide) (Nat.le_of_ble_eq_true rfl) h0
theorem Bus_receiveLevels_32_0 (l0 : Value) (l1 : Value) (l2 : Value) (l3 : Value) (w : Wd) (I : MI) (L : ML) (P : MP)  : go 53 32 [l0, l1, l2, l3] [.null] w I L P = go 53 53 [l0, l1, (fix1 l2), .null] [] w I L P := by
  refine (go_astore_nN (m := 53) (pc := 32) (k := 3) (ls' := [l0, l1, (fix1 l2), .null]) (by decide +kernel) (by simp only [List.length_cons, List.length_nil]; decide) rfl).trans ?_
  refine (go_aload_nN (m := 53) (pc := 33) (k := 3) (by decide +kernel) rfl).trans ?_
  exact go_ifnullN (m := 53) (pc := 34) (off := 19) (t := 53) (by decide +kernel) (by decide)
theorem Bus_receiveLevels_32_1 (l0 : Value) (l1 : Value) (l2 : Value) (l3 : Value) (a_s0 : Nat) (w : Wd) (I : MI) (L : ML) (P : MP)  : go 53 32 [l0, l1, l2, l3] [.ref a_s0] w I L P = go 53 37 [l0, l1, (fix1 l2), .ref a_s0] [] w I L P := by
  refine (go_astore_n (m := 53) (pc := 32) (k := 3) (ls' := [l0, l1, (fix1 l2), .ref a_s0]) (by decide +kernel) (by simp only [List.length_cons, List.length_nil]; decide) rfl).trans ?_
  refine (go_aload_n (m := 53) (pc := 33) (k := 3) (by decide +kernel) rfl).trans ?_
  exact go_ifnullR (m := 53) (pc := 34) (off := 19) (by decide +kernel)
theorem Bus_receiveLevels_37 (a_l0 : Nat) (l1 : Value) (x_l2 : Int32) (l3 : Value) (w : Wd) (I : MI) (L : ML) (P : MP) (h0 : w.1 a_l0 = some (0, 0)) : go 53 37 [.ref a_l0, l1, .int x_l2, l3] [] w I L P = kC (call 33 [.ref a_l0, .int x_l2] w I L P) (fun v w1 I1 L1 P1 => go 53 42 [.ref a_l0, l1, .int x_l2, l3] (v.toList ++ []) w1 I1 L1 P1) := by
  refine (go_aload_n (m := 53) (pc := 37) (k := 0) (by decide +kernel) rfl).trans ?_
  refine (go_iload_n (m := 53) (pc := 38) (k := 2) (by decide +kernel) rfl).trans ?_
  exact go_vir (m := 53) (pc := 39) (o := 0) (x := 188) (y := 33) (kd := 0) (b := a_l0) (bs := [.int x_l2]) (rs := []) (by decide +kernel) rfl rfl c_0_188 (Or.inl rfl) rfl rfl rfl (by decide +kernel) (by simp only [List.length_cons, List.length_nil]; decide) (Nat.le_of_ble_eq_true rfl) h0
theorem Bus_receiveLevels_42 (l0 : Value) (l1 : Value) (l2 : Value) (l3 : Value) (y0 : Int32) (w : Wd) (I : MI) (L : ML) (P : MP)  : go 53 42 [l0, l1, l2, l3] [.int y0] w I L P = if y0 = 0 then go 53 53 [l0, l1, l2, l3] [] w I L P else go 53 45 [l0, l1, l2, l3] [] w I L P := by
  exact go_ifeq (m := 53) (pc := 42) (off := 11) (t := 53) (by decide +kernel) (by decide)
theorem Bus_receiveLevels_45 (a_l0 : Nat) (l1 : Value) (l2 : Value) (a_l3 : Nat) (w : Wd) (I : MI) (L : ML) (P : MP) (h0 : w.1 a_l0 = some (0, 0)) (h1 : w.1 a_l3 = some (1, 0)) : go 53 45 [.ref a_l0, l1, l2, .ref a_l3] [] w I L P = kC (call 12 [.ref a_l3, .int (I a_l0 11)] w I L P) (fun v w1 I1 L1 P1 => go 53 53 [.ref a_l0, l1, l2, .ref a_l3] (v.toList ++ []) w1 I1 L1 P1) := by
  refine (go_aload_n (m := 53) (pc := 45) (k := 3) (by decide +kernel) rfl).trans ?_
  refine (go_aload_n (m := 53) (pc := 46) (k := 0) (by decide +kernel) rfl).trans ?_
  refine (go_getI (m := 53) (pc := 47) (o := 0) (x := 56) (ci := 0) (k := 11) (by decide +kernel) rfl f_0_56 rfl h0).trans ?_
  exact go_vir (m := 53) (pc := 50) (o := 0) (x := 218) (y := 12) (kd := 1) (b := a_l3) (bs := [.int (I a_l0 11)]) (rs := []) (by decide +kernel) rfl rfl c_0_218 (Or.inr rfl) rfl rfl rfl (by decide +kernel) (by simp only [List.length_cons, List.length_nil]; decide) (Nat.le_of_ble_eq_true rfl) h1
theorem Bus_receiveLevels_53 (l0 : Value) (l1 : Value) (x_l2 : Int32) (l3 : Value) (w : Wd) (I : MI) (L : ML) (P : MP)  : go 53 53 [l0, l1, .int x_l2, l3] [] w I L P = go 53 19 [l0, (fix1 l1), .int (x_l2 + (nI 1)), l3] [] w I L P := by
  refine (go_iinc (m := 53) (pc := 53) (k := 2) (n := 1) (x := x_l2) (v := x_l2 + (nI 1)) (ls' := [l0, (fix1 l1), .int (x_l2 + (nI 1)), l3]) (by decide +kernel) rfl (by rw [ic_1]) rfl).trans ?_
  refine (go_goto (m := 53) (pc := 56) (off := -37) (t := 19) (by decide +kernel) (by decide)).trans ?_
  rfl
theorem Bus_receiveLevels_59 (l0 : Value) (l1 : Value) (l2 : Value) (l3 : Value) (w : Wd) (I : MI) (L : ML) (P : MP)  : go 53 59 [l0, l1, l2, l3] [] w I L P = some (.inl none, w, I, L, P) := by
  exact go_retV (m := 53) (pc := 59) (by decide +kernel) rfl
theorem Bus_receiveLevels_E (this : Nat) (w : Wd) (I : MI) (L : ML) (P : MP) : call 53 [.ref this] w I L P = go 53 0 [.ref this, unk, unk, unk] [] w I L P := rfl
theorem Bus_answerHeader_0 (a_l0 : Nat) (w : Wd) (I : MI) (L : ML) (P : MP) (h0 : w.1 a_l0 = some (0, 0)) : go 54 0 [.ref a_l0] [] w I L P = if ((I a_l0 11) &&& (nI 1)) ≠ (nI 1) then go 54 15 [.ref a_l0] [.ref a_l0] w I L P else go 54 11 [.ref a_l0] [.ref a_l0] w I L P := by
  refine (go_aload_n (m := 54) (pc := 0) (k := 0) (by decide +kernel) rfl).trans ?_
  refine (go_aload_n (m := 54) (pc := 1) (k := 0) (by decide +kernel) rfl).trans ?_
  refine (go_getI (m := 54) (pc := 2) (o := 0) (x := 56) (ci := 0) (k := 11) (by decide +kernel) rfl f_0_56 rfl h0).trans ?_
  refine (go_ic (m := 54) (pc := 5) (n := 1) (by decide +kernel) ic_1).trans ?_
  refine (go_iand (m := 54) (pc := 6) (by decide +kernel)).trans ?_
  refine (go_ic (m := 54) (pc := 7) (n := 1) (by decide +kernel) ic_1).trans ?_
  exact go_icmpne (m := 54) (pc := 8) (off := 7) (t := 15) (by decide +kernel) (by decide)
theorem Bus_answerHeader_11 (l0 : Value) (v0 : Value) (w : Wd) (I : MI) (L : ML) (P : MP)  : go 54 11 [l0] [v0] w I L P = go 54 16 [l0] [.int (nI 1), v0] w I L P := by
  refine (go_ic (m := 54) (pc := 11) (n := 1) (by decide +kernel) ic_1).trans ?_
  refine (go_goto (m := 54) (pc := 12) (off := 4) (t := 16) (by decide +kernel) (by decide)).trans ?_
  rfl
theorem Bus_answerHeader_15 (l0 : Value) (v0 : Value) (w : Wd) (I : MI) (L : ML) (P : MP)  : go 54 15 [l0] [v0] w I L P = go 54 16 [l0] [.int (nI 0), v0] w I L P := by
  refine (go_ic (m := 54) (pc := 15) (n := 0) (by decide +kernel) ic_0).trans ?_
  rfl
theorem Bus_answerHeader_16 (a_l0 : Nat) (a_s0 : Nat) (y1 : Int32) (w : Wd) (I : MI) (L : ML) (P : MP) (h0 : w.1 a_s0 = some (0, 0)) (h1 : y1 &&& 1 = y1) (h2 : w.1 a_l0 = some (0, 0)) : go 54 16 [.ref a_l0] [.int y1, .ref a_s0] w I L P = kC (call 35 [.ref a_l0, .int (((updI I a_s0 9 y1) a_l0 11) >>> ((nI 1) &&& 31))] w (updI I a_s0 9 y1) L P) (fun v w1 I1 L1 P1 => go 54 30 [.ref a_l0] (v.toList ++ [.ref a_l0]) w1 I1 L1 P1) := by
  refine (go_putZ (m := 54) (pc := 16) (o := 0) (x := 49) (ci := 0) (k := 9) (by decide +kernel) rfl f_0_49 rfl (by decide +kernel) h1 h0).trans ?_
  refine (go_aload_n (m := 54) (pc := 19) (k := 0) (by decide +kernel) rfl).trans ?_
  refine (go_aload_n (m := 54) (pc := 20) (k := 0) (by decide +kernel) rfl).trans ?_
  refine (go_aload_n (m := 54) (pc := 21) (k := 0) (by decide +kernel) rfl).trans ?_
  refine (go_getI (m := 54) (pc := 22) (o := 0) (x := 56) (ci := 0) (k := 11) (by decide +kernel) rfl f_0_56 rfl h2).trans ?_
  refine (go_ic (m := 54) (pc := 25) (n := 1) (by decide +kernel) ic_1).trans ?_
  refine (go_ishr (m := 54) (pc := 26) (by decide +kernel)).trans ?_
  exact go_vir (m := 54) (pc := 27) (o := 0) (x := 128) (y := 35) (kd := 0) (b := a_l0) (bs := [.int (((updI I a_s0 9 y1) a_l0 11) >>> ((nI 1) &&& 31))]) (rs := [.ref a_l0]) (by decide +kernel) rfl rfl c_0_128 (Or.inl rfl) rfl rfl rfl (by decide +kernel) (by simp only [List.length_cons, List.length_nil]; decide) (Nat.le_of_ble_eq_true rfl) h2
theorem Bus_answerHeader_30 (a_l0 : Nat) (a_s0 : Nat) (y1 : Int32) (w : Wd) (I : MI) (L : ML) (P : MP) (h0 : w.1 a_s0 = some (0, 0)) (h1 : w.1 a_l0 = some (0, 0)) : go 54 30 [.ref a_l0] [.int y1, .ref a_s0] w I L P = if ((updI I a_s0 8 y1) a_l0 8) ≠ (-1) then go 54 58 [.ref a_l0] [] w (updI I a_s0 8 y1) L P else go 54 41 [.ref a_l0] [] w (updI I a_s0 8 y1) L P := by
  refine (go_putI (m := 54) (pc := 30) (o := 0) (x := 46) (ci := 0) (k := 8) (by decide +kernel) rfl f_0_46 rfl (by decide +kernel) h0).trans ?_
  refine (go_aload_n (m := 54) (pc := 33) (k := 0) (by decide +kernel) rfl).trans ?_
  refine (go_getI (m := 54) (pc := 34) (o := 0) (x := 46) (ci := 0) (k := 8) (by decide +kernel) rfl f_0_46 rfl h1).trans ?_
  refine (go_ic (m := 54) (pc := 37) (n := -1) (by decide +kernel) ic_m1).trans ?_
  exact go_icmpne (m := 54) (pc := 38) (off := 20) (t := 58) (by decide +kernel) (by decide)
theorem Bus_answerHeader_41 (a_l0 : Nat) (w : Wd) (I : MI) (L : ML) (P : MP) (h0 : w.1 a_l0 = some (0, 0)) : go 54 41 [.ref a_l0] [] w I L P = kC (call 59 [.ref a_l0, .int (I a_l0 7), .int (nI 2)] w I L P) (fun v w1 I1 L1 P1 => go 54 50 [.ref a_l0] (v.toList ++ []) w1 I1 L1 P1) := by
  refine (go_aload_n (m := 54) (pc := 41) (k := 0) (by decide +kernel) rfl).trans ?_
  refine (go_aload_n (m := 54) (pc := 42) (k := 0) (by decide +kernel) rfl).trans ?_
  refine (go_getI (m := 54) (pc := 43) (o := 0) (x := 43) (ci := 0) (k := 7) (by decide +kernel) rfl f_0_43 rfl h0).trans ?_
  refine (go_ic (m := 54) (pc := 46) (n := 2) (by decide +kernel) ic_2).trans ?_
  exact go_vir (m := 54) (pc := 47) (o := 0) (x := 221) (y := 59) (kd := 0) (b := a_l0) (bs := [.int (I a_l0 7), .int (nI 2)]) (rs := []) (by decide +kernel) rfl rfl c_0_221 (Or.inl rfl) rfl rfl rfl (by decide +kernel) (by simp only [List.length_cons, List.length_nil]; decide) (Nat.le_of_ble_eq_true rfl) h0
theorem Bus_answerHeader_50 (a_l0 : Nat) (w : Wd) (I : MI) (L : ML) (P : MP) (h0 : w.1 a_l0 = some (0, 0)) : go 54 50 [.ref a_l0] [] w I L P = some (.inl (some (.int (nI 1))), w, (updI I a_l0 6 (nI 7)), L, P) := by
  refine (go_aload_n (m := 54) (pc := 50) (k := 0) (by decide +kernel) rfl).trans ?_
  refine (go_bi (m := 54) (pc := 51) (n := 7) (by decide +kernel) bi_7).trans ?_
  refine (go_putI (m := 54) (pc := 53) (o := 0) (x := 40) (ci := 0) (k := 6) (by decide +kernel) rfl f_0_40 rfl (by decide +kernel) h0).trans ?_
  refine (go_ic (m := 54) (pc := 56) (n := 1) (by decide +kernel) ic_1).trans ?_
  exact go_retI (m := 54) (pc := 57) (by decide +kernel) rfl
theorem Bus_answerHeader_58 (a_l0 : Nat) (w : Wd) (I : MI) (L : ML) (P : MP) (h0 : w.1 a_l0 = some (0, 0)) : go 54 58 [.ref a_l0] [] w I L P = kC (call 60 [.ref a_l0] w I L P) (fun v w1 I1 L1 P1 => go 54 62 [.ref a_l0] (v.toList ++ []) w1 I1 L1 P1) := by
  refine (go_aload_n (m := 54) (pc := 58) (k := 0) (by decide +kernel) rfl).trans ?_
  exact go_vir (m := 54) (pc := 59) (o := 0) (x := 225) (y := 60) (kd := 0) (b := a_l0) (bs := []) (rs := []) (by decide +kernel) rfl rfl c_0_225 (Or.inl rfl) rfl rfl rfl (by decide +kernel) (by simp only [List.length_cons, List.length_nil]; decide) (Nat.le_of_ble_eq_true rfl) h0
theorem Bus_answerHeader_62 (l0 : Value) (w : Wd) (I : MI) (L : ML) (P : MP)  : go 54 62 [l0] [] w I L P = some (.inl (some (.int (nI 0))), w, I, L, P) := by
  refine (go_ic (m := 54) (pc := 62) (n := 0) (by decide +kernel) ic_0).trans ?_
  exact go_retI (m := 54) (pc := 63) (by decide +kernel) rfl
theorem Bus_answerHeader_E (this : Nat) (w : Wd) (I : MI) (L : ML) (P : MP) : call 54 [.ref this] w I L P = go 54 0 [.ref this] [] w I L P := rfl
theorem Bus_answerWrite_0 (a_l0 : Nat) (l1 : Value) (w : Wd) (I : MI) (L : ML) (P : MP) (h0 : w.1 a_l0 = some (0, 0)) : go 55 0 [.ref a_l0, l1] [] w I L P = kC (call 31 [.ref a_l0, .int (I a_l0 8)] w I L P) (fun v w1 I1 L1 P1 => go 55 8 [.ref a_l0, l1] (v.toList ++ []) w1 I1 L1 P1) := by
  refine (go_aload_n (m := 55) (pc := 0) (k := 0) (by decide +kernel) rfl).trans ?_
  refine (go_aload_n (m := 55) (pc := 1) (k := 0) (by decide +kernel) rfl).trans ?_
  refine (go_getI (m := 55) (pc := 2) (o := 0) (x := 46) (ci := 0) (k := 8) (by decide +kernel) rfl f_0_46 rfl h0).trans ?_
  exact go_vir (m := 55) (pc := 5) (o := 0) (x := 89) (y := 31) (kd := 0) (b := a_l0) (bs := [.int (I a_l0 8)]) (rs := []) (by decide +kernel) rfl rfl c_0_89 (Or.inl rfl) rfl rfl rfl (by decide +kernel) (by simp only [List.length_cons, List.length_nil]; decide) (Nat.le_of_ble_eq_true rfl) h0
theorem Bus_answerWrite_8_0 (l0 : Value) (l1 : Value) (w : Wd) (I : MI) (L : ML) (P : MP)  : go 55 8 [l0, l1] [.null] w I L P = go 55 24 [(fix1 l0), .null] [] w I L P := by
  refine (go_astore_nN (m := 55) (pc := 8) (k := 1) (ls' := [(fix1 l0), .null]) (by decide +kernel) (by simp only [List.length_cons, List.length_nil]; decide) rfl).trans ?_
  refine (go_aload_nN (m := 55) (pc := 9) (k := 1) (by decide +kernel) rfl).trans ?_
  exact go_ifnullN (m := 55) (pc := 10) (off := 14) (t := 24) (by decide +kernel) (by decide)
theorem Bus_answerWrite_8_1 (l0 : Value) (l1 : Value) (a_s0 : Nat) (w : Wd) (I : MI) (L : ML) (P : MP)  : go 55 8 [l0, l1] [.ref a_s0] w I L P = go 55 13 [(fix1 l0), .ref a_s0] [] w I L P := by
  refine (go_astore_n (m := 55) (pc := 8) (k := 1) (ls' := [(fix1 l0), .ref a_s0]) (by decide +kernel) (by simp only [List.length_cons, List.length_nil]; decide) rfl).trans ?_
  refine (go_aload_n (m := 55) (pc := 9) (k := 1) (by decide +kernel) rfl).trans ?_
  exact go_ifnullR (m := 55) (pc := 10) (off := 14) (by decide +kernel)
theorem Bus_answerWrite_13 (a_l0 : Nat) (a_l1 : Nat) (w : Wd) (I : MI) (L : ML) (P : MP) (h0 : w.1 a_l0 = some (0, 0)) (h1 : w.1 a_l1 = some (2, 0)) : go 55 13 [.ref a_l0, .ref a_l1] [] w I L P = kC (call 18 [.ref a_l1, .int (I a_l0 11)] w I L P) (fun v w1 I1 L1 P1 => go 55 21 [.ref a_l0, .ref a_l1] (v.toList ++ []) w1 I1 L1 P1) := by
  refine (go_aload_n (m := 55) (pc := 13) (k := 1) (by decide +kernel) rfl).trans ?_
  refine (go_aload_n (m := 55) (pc := 14) (k := 0) (by decide +kernel) rfl).trans ?_
  refine (go_getI (m := 55) (pc := 15) (o := 0) (x := 56) (ci := 0) (k := 11) (by decide +kernel) rfl f_0_56 rfl h0).trans ?_
  exact go_vir (m := 55) (pc := 18) (o := 0) (x := 228) (y := 18) (kd := 1) (b := a_l1) (bs := [.int (I a_l0 11)]) (rs := []) (by decide +kernel) rfl rfl c_0_228 (Or.inr rfl) rfl rfl rfl (by decide +kernel) (by simp only [List.length_cons, List.length_nil]; decide) (Nat.le_of_ble_eq_true rfl) h1
theorem Bus_answerWrite_21 (l0 : Value) (l1 : Value) (y0 : Int32) (w : Wd) (I : MI) (L : ML) (P : MP)  : go 55 21 [l0, l1] [.int y0] w I L P = if y0 ≠ 0 then go 55 41 [l0, l1] [] w I L P else go 55 24 [l0, l1] [] w I L P := by
  exact go_ifne (m := 55) (pc := 21) (off := 20) (t := 41) (by decide +kernel) (by decide)
theorem Bus_answerWrite_24 (a_l0 : Nat) (l1 : Value) (w : Wd) (I : MI) (L : ML) (P : MP) (h0 : w.1 a_l0 = some (0, 0)) : go 55 24 [.ref a_l0, l1] [] w I L P = kC (call 59 [.ref a_l0, .int (I a_l0 7), .int (nI 3)] w I L P) (fun v w1 I1 L1 P1 => go 55 33 [.ref a_l0, l1] (v.toList ++ []) w1 I1 L1 P1) := by
  refine (go_aload_n (m := 55) (pc := 24) (k := 0) (by decide +kernel) rfl).trans ?_
  refine (go_aload_n (m := 55) (pc := 25) (k := 0) (by decide +kernel) rfl).trans ?_
  refine (go_getI (m := 55) (pc := 26) (o := 0) (x := 43) (ci := 0) (k := 7) (by decide +kernel) rfl f_0_43 rfl h0).trans ?_
  refine (go_ic (m := 55) (pc := 29) (n := 3) (by decide +kernel) ic_3).trans ?_
  exact go_vir (m := 55) (pc := 30) (o := 0) (x := 221) (y := 59) (kd := 0) (b := a_l0) (bs := [.int (I a_l0 7), .int (nI 3)]) (rs := []) (by decide +kernel) rfl rfl c_0_221 (Or.inl rfl) rfl rfl rfl (by decide +kernel) (by simp only [List.length_cons, List.length_nil]; decide) (Nat.le_of_ble_eq_true rfl) h0
theorem Bus_answerWrite_33 (a_l0 : Nat) (l1 : Value) (w : Wd) (I : MI) (L : ML) (P : MP) (h0 : w.1 a_l0 = some (0, 0)) : go 55 33 [.ref a_l0, l1] [] w I L P = some (.inl (some (.int (nI 1))), w, (updI I a_l0 6 (nI 7)), L, P) := by
  refine (go_aload_n (m := 55) (pc := 33) (k := 0) (by decide +kernel) rfl).trans ?_
  refine (go_bi (m := 55) (pc := 34) (n := 7) (by decide +kernel) bi_7).trans ?_
  refine (go_putI (m := 55) (pc := 36) (o := 0) (x := 40) (ci := 0) (k := 6) (by decide +kernel) rfl f_0_40 rfl (by decide +kernel) h0).trans ?_
  refine (go_ic (m := 55) (pc := 39) (n := 1) (by decide +kernel) ic_1).trans ?_
  exact go_retI (m := 55) (pc := 40) (by decide +kernel) rfl
theorem Bus_answerWrite_41 (a_l0 : Nat) (l1 : Value) (w : Wd) (I : MI) (L : ML) (P : MP) (h0 : w.1 a_l0 = some (0, 0)) : go 55 41 [.ref a_l0, l1] [] w I L P = kC (call 57 [.ref a_l0] w I L P) (fun v w1 I1 L1 P1 => go 55 46 [.ref a_l0, l1] (v.toList ++ [.ref a_l0]) w1 I1 L1 P1) := by
  refine (go_aload_n (m := 55) (pc := 41) (k := 0) (by decide +kernel) rfl).trans ?_
  refine (go_aload_n (m := 55) (pc := 42) (k := 0) (by decide +kernel) rfl).trans ?_
  exact go_vir (m := 55) (pc := 43) (o := 0) (x := 231) (y := 57) (kd := 0) (b := a_l0) (bs := []) (rs := [.ref a_l0]) (by decide +kernel) rfl rfl c_0_231 (Or.inl rfl) rfl rfl rfl (by decide +kernel) (by simp only [List.length_cons, List.length_nil]; decide) (Nat.le_of_ble_eq_true rfl) h0
theorem Bus_answerWrite_46 (l0 : Value) (l1 : Value) (a_s0 : Nat) (y1 : Int32) (w : Wd) (I : MI) (L : ML) (P : MP) (h0 : w.1 a_s0 = some (0, 0)) : go 55 46 [l0, l1] [.int y1, .ref a_s0] w I L P = kC (call 58 [.ref a_s0, .int y1] w I L P) (fun v w1 I1 L1 P1 => go 55 49 [l0, l1] (v.toList ++ []) w1 I1 L1 P1) := by
  exact go_vir (m := 55) (pc := 46) (o := 0) (x := 234) (y := 58) (kd := 0) (b := a_s0) (bs := [.int y1]) (rs := []) (by decide +kernel) rfl rfl c_0_234 (Or.inl rfl) rfl rfl rfl (by decide +kernel) (by simp only [List.length_cons, List.length_nil]; decide) (Nat.le_of_ble_eq_true rfl) h0
theorem Bus_answerWrite_49 (l0 : Value) (l1 : Value) (w : Wd) (I : MI) (L : ML) (P : MP)  : go 55 49 [l0, l1] [] w I L P = some (.inl (some (.int (nI 0))), w, I, L, P) := by
  refine (go_ic (m := 55) (pc := 49) (n := 0) (by decide +kernel) ic_0).trans ?_
  exact go_retI (m := 55) (pc := 50) (by decide +kernel) rfl
theorem Bus_answerWrite_E (this : Nat) (w : Wd) (I : MI) (L : ML) (P : MP) : call 55 [.ref this] w I L P = go 55 0 [.ref this, unk] [] w I L P := rfl
theorem Bus_answerRead_0 (a_l0 : Nat) (l1 : Value) (w : Wd) (I : MI) (L : ML) (P : MP) (h0 : w.1 a_l0 = some (0, 0)) : go 56 0 [.ref a_l0, l1] [] w I L P = kC (call 57 [.ref a_l0] w I L P) (fun v w1 I1 L1 P1 => go 56 4 [.ref a_l0, l1] (v.toList ++ []) w1 I1 L1 P1) := by
  refine (go_aload_n (m := 56) (pc := 0) (k := 0) (by decide +kernel) rfl).trans ?_
  exact go_vir (m := 56) (pc := 1) (o := 0) (x := 231) (y := 57) (kd := 0) (b := a_l0) (bs := []) (rs := []) (by decide +kernel) rfl rfl c_0_231 (Or.inl rfl) rfl rfl rfl (by decide +kernel) (by simp only [List.length_cons, List.length_nil]; decide) (Nat.le_of_ble_eq_true rfl) h0
theorem Bus_answerRead_4 (a_l0 : Nat) (l1 : Value) (y0 : Int32) (w : Wd) (I : MI) (L : ML) (P : MP) (h0 : w.1 a_l0 = some (0, 0)) : go 56 4 [.ref a_l0, l1] [.int y0] w I L P = kC (call 58 [.ref a_l0, .int y0] w I L P) (fun v w1 I1 L1 P1 => go 56 10 [.ref a_l0, .int y0] (v.toList ++ []) w1 I1 L1 P1) := by
  refine (go_istore_n (m := 56) (pc := 4) (k := 1) (ls' := [.ref a_l0, .int y0]) (by decide +kernel) (by simp only [List.length_cons, List.length_nil]; decide) rfl).trans ?_
  refine (go_aload_n (m := 56) (pc := 5) (k := 0) (by decide +kernel) rfl).trans ?_
  refine (go_iload_n (m := 56) (pc := 6) (k := 1) (by decide +kernel) rfl).trans ?_
  exact go_vir (m := 56) (pc := 7) (o := 0) (x := 234) (y := 58) (kd := 0) (b := a_l0) (bs := [.int y0]) (rs := []) (by decide +kernel) rfl rfl c_0_234 (Or.inl rfl) rfl rfl rfl (by decide +kernel) (by simp only [List.length_cons, List.length_nil]; decide) (Nat.le_of_ble_eq_true rfl) h0
theorem Bus_answerRead_10 (l0 : Value) (x_l1 : Int32) (w : Wd) (I : MI) (L : ML) (P : MP)  : go 56 10 [l0, .int x_l1] [] w I L P = if x_l1 ≠ 0 then go 56 18 [l0, .int x_l1] [] w I L P else go 56 14 [l0, .int x_l1] [] w I L P := by
  refine (go_iload_n (m := 56) (pc := 10) (k := 1) (by decide +kernel) rfl).trans ?_
  exact go_ifne (m := 56) (pc := 11) (off := 7) (t := 18) (by decide +kernel) (by decide)
theorem Bus_answerRead_14 (l0 : Value) (l1 : Value) (w : Wd) (I : MI) (L : ML) (P : MP)  : go 56 14 [l0, l1] [] w I L P = go 56 19 [l0, l1] [.int (nI 1)] w I L P := by
  refine (go_ic (m := 56) (pc := 14) (n := 1) (by decide +kernel) ic_1).trans ?_
  refine (go_goto (m := 56) (pc := 15) (off := 4) (t := 19) (by decide +kernel) (by decide)).trans ?_
  rfl
theorem Bus_answerRead_18 (l0 : Value) (l1 : Value) (w : Wd) (I : MI) (L : ML) (P : MP)  : go 56 18 [l0, l1] [] w I L P = go 56 19 [l0, l1] [.int (nI 0)] w I L P := by
  refine (go_ic (m := 56) (pc := 18) (n := 0) (by decide +kernel) ic_0).trans ?_
  rfl
theorem Bus_answerRead_19 (l0 : Value) (l1 : Value) (y0 : Int32) (w : Wd) (I : MI) (L : ML) (P : MP)  : go 56 19 [l0, l1] [.int y0] w I L P = some (.inl (some (.int y0)), w, I, L, P) := by
  exact go_retI (m := 56) (pc := 19) (by decide +kernel) rfl
theorem Bus_answerRead_E (this : Nat) (w : Wd) (I : MI) (L : ML) (P : MP) : call 56 [.ref this] w I L P = go 56 0 [.ref this, unk] [] w I L P := rfl
theorem Bus_contendersWithMoreBytes_0 (l0 : Value) (l1 : Value) (l2 : Value) (l3 : Value) (w : Wd) (I : MI) (L : ML) (P : MP)  : go 57 0 [l0, l1, l2, l3] [] w I L P = go 57 4 [(fix1 l0), .int (nI 0), .int (nI 0), l3] [] w I L P := by
  refine (go_ic (m := 57) (pc := 0) (n := 0) (by decide +kernel) ic_0).trans ?_
  refine (go_istore_n (m := 57) (pc := 1) (k := 1) (ls' := [(fix1 l0), .int (nI 0), l2, l3]) (by decide +kernel) (by simp only [List.length_cons, List.length_nil]; decide) rfl).trans ?_
  refine (go_ic (m := 57) (pc := 2) (n := 0) (by decide +kernel) ic_0).trans ?_
  refine (go_istore_n (m := 57) (pc := 3) (k := 2) (ls' := [(fix1 l0), .int (nI 0), .int (nI 0), l3]) (by decide +kernel) (by simp only [List.length_cons, List.length_nil]; decide) rfl).trans ?_
  rfl
theorem Bus_contendersWithMoreBytes_4 (a_l0 : Nat) (l1 : Value) (x_l2 : Int32) (l3 : Value) (w : Wd) (I : MI) (L : ML) (P : MP) (h0 : w.1 a_l0 = some (0, 0)) : go 57 4 [.ref a_l0, l1, .int x_l2, l3] [] w I L P = if (I a_l0 1) ≤ x_l2 then go 57 53 [.ref a_l0, l1, .int x_l2, l3] [] w I L P else go 57 12 [.ref a_l0, l1, .int x_l2, l3] [] w I L P := by
  refine (go_iload_n (m := 57) (pc := 4) (k := 2) (by decide +kernel) rfl).trans ?_
  refine (go_aload_n (m := 57) (pc := 5) (k := 0) (by decide +kernel) rfl).trans ?_
  refine (go_getI (m := 57) (pc := 6) (o := 0) (x := 17) (ci := 0) (k := 1) (by decide +kernel) rfl f_0_17 rfl h0).trans ?_
  exact go_icmpge (m := 57) (pc := 9) (off := 44) (t := 53) (by decide +kernel) (by decide)
theorem Bus_contendersWithMoreBytes_12 (a_l0 : Nat) (l1 : Value) (x_l2 : Int32) (l3 : Value) (w : Wd) (I : MI) (L : ML) (P : MP) (h0 : w.1 a_l0 = some (0, 0)) : go 57 12 [.ref a_l0, l1, .int x_l2, l3] [] w I L P = kC (call 32 [.ref a_l0, .int x_l2] w I L P) (fun v w1 I1 L1 P1 => go 57 17 [.ref a_l0, l1, .int x_l2, l3] (v.toList ++ []) w1 I1 L1 P1) := by
  refine (go_aload_n (m := 57) (pc := 12) (k := 0) (by decide +kernel) rfl).trans ?_
  refine (go_iload_n (m := 57) (pc := 13) (k := 2) (by decide +kernel) rfl).trans ?_
  exact go_vir (m := 57) (pc := 14) (o := 0) (x := 119) (y := 32) (kd := 0) (b := a_l0) (bs := [.int x_l2]) (rs := []) (by decide +kernel) rfl rfl c_0_119 (Or.inl rfl) rfl rfl rfl (by decide +kernel) (by simp only [List.length_cons, List.length_nil]; decide) (Nat.le_of_ble_eq_true rfl) h0
theorem Bus_contendersWithMoreBytes_17_0 (a_l0 : Nat) (l1 : Value) (x_l2 : Int32) (l3 : Value) (w : Wd) (I : MI) (L : ML) (P : MP) (h0 : w.1 a_l0 = some (0, 0)) : go 57 17 [.ref a_l0, l1, .int x_l2, l3] [.null] w I L P = kC (call 33 [.ref a_l0, .int x_l2] w I L P) (fun v w1 I1 L1 P1 => go 57 23 [.ref a_l0, l1, .int x_l2, .null] (v.toList ++ []) w1 I1 L1 P1) := by
  refine (go_astore_nN (m := 57) (pc := 17) (k := 3) (ls' := [.ref a_l0, l1, .int x_l2, .null]) (by decide +kernel) (by simp only [List.length_cons, List.length_nil]; decide) rfl).trans ?_
  refine (go_aload_n (m := 57) (pc := 18) (k := 0) (by decide +kernel) rfl).trans ?_
  refine (go_iload_n (m := 57) (pc := 19) (k := 2) (by decide +kernel) rfl).trans ?_
  exact go_vir (m := 57) (pc := 20) (o := 0) (x := 188) (y := 33) (kd := 0) (b := a_l0) (bs := [.int x_l2]) (rs := []) (by decide +kernel) rfl rfl c_0_188 (Or.inl rfl) rfl rfl rfl (by decide +kernel) (by simp only [List.length_cons, List.length_nil]; decide) (Nat.le_of_ble_eq_true rfl) h0
theorem Bus_contendersWithMoreBytes_17_1 (a_l0 : Nat) (l1 : Value) (x_l2 : Int32) (l3 : Value) (a_s0 : Nat) (w : Wd) (I : MI) (L : ML) (P : MP) (h0 : w.1 a_l0 = some (0, 0)) : go 57 17 [.ref a_l0, l1, .int x_l2, l3] [.ref a_s0] w I L P = kC (call 33 [.ref a_l0, .int x_l2] w I L P) (fun v w1 I1 L1 P1 => go 57 23 [.ref a_l0, l1, .int x_l2, .ref a_s0] (v.toList ++ []) w1 I1 L1 P1) := by
  refine (go_astore_n (m := 57) (pc := 17) (k := 3) (ls' := [.ref a_l0, l1, .int x_l2, .ref a_s0]) (by decide +kernel) (by simp only [List.length_cons, List.length_nil]; decide) rfl).trans ?_
  refine (go_aload_n (m := 57) (pc := 18) (k := 0) (by decide +kernel) rfl).trans ?_
  refine (go_iload_n (m := 57) (pc := 19) (k := 2) (by decide +kernel) rfl).trans ?_
  exact go_vir (m := 57) (pc := 20) (o := 0) (x := 188) (y := 33) (kd := 0) (b := a_l0) (bs := [.int x_l2]) (rs := []) (by decide +kernel) rfl rfl c_0_188 (Or.inl rfl) rfl rfl rfl (by decide +kernel) (by simp only [List.length_cons, List.length_nil]; decide) (Nat.le_of_ble_eq_true rfl) h0
theorem Bus_contendersWithMoreBytes_23 (l0 : Value) (l1 : Value) (l2 : Value) (l3 : Value) (y0 : Int32) (w : Wd) (I : MI) (L : ML) (P : MP)  : go 57 23 [l0, l1, l2, l3] [.int y0] w I L P = if y0 = 0 then go 57 47 [l0, l1, l2, l3] [] w I L P else go 57 26 [l0, l1, l2, l3] [] w I L P := by
  exact go_ifeq (m := 57) (pc := 23) (off := 24) (t := 47) (by decide +kernel) (by decide)
theorem Bus_contendersWithMoreBytes_26_0 (l0 : Value) (l1 : Value) (l2 : Value) (w : Wd) (I : MI) (L : ML) (P : MP)  : go 57 26 [l0, l1, l2, .null] [] w I L P = go 57 47 [l0, l1, l2, .null] [] w I L P := by
  refine (go_aload_nN (m := 57) (pc := 26) (k := 3) (by decide +kernel) rfl).trans ?_
  exact go_ifnullN (m := 57) (pc := 27) (off := 20) (t := 47) (by decide +kernel) (by decide)
theorem Bus_contendersWithMoreBytes_26_1 (l0 : Value) (l1 : Value) (l2 : Value) (a_l3 : Nat) (w : Wd) (I : MI) (L : ML) (P : MP)  : go 57 26 [l0, l1, l2, .ref a_l3] [] w I L P = go 57 30 [l0, l1, l2, .ref a_l3] [] w I L P := by
  refine (go_aload_n (m := 57) (pc := 26) (k := 3) (by decide +kernel) rfl).trans ?_
  exact go_ifnullR (m := 57) (pc := 27) (off := 20) (by decide +kernel)
theorem Bus_contendersWithMoreBytes_30 (a_l0 : Nat) (l1 : Value) (l2 : Value) (a_l3 : Nat) (w : Wd) (I : MI) (L : ML) (P : MP) (h0 : w.1 a_l3 = some (3, 0)) (h1 : w.1 a_l0 = some (0, 0)) : go 57 30 [.ref a_l0, l1, l2, .ref a_l3] [] w I L P = if (I a_l3 2) ≤ (I a_l0 12) then go 57 47 [.ref a_l0, l1, l2, .ref a_l3] [] w I L P else go 57 41 [.ref a_l0, l1, l2, .ref a_l3] [] w I L P := by
  refine (go_aload_n (m := 57) (pc := 30) (k := 3) (by decide +kernel) rfl).trans ?_
  refine (go_getI (m := 57) (pc := 31) (o := 0) (x := 131) (ci := 3) (k := 2) (by decide +kernel) rfl f_0_131 rfl h0).trans ?_
  refine (go_aload_n (m := 57) (pc := 34) (k := 0) (by decide +kernel) rfl).trans ?_
  refine (go_getI (m := 57) (pc := 35) (o := 0) (x := 59) (ci := 0) (k := 12) (by decide +kernel) rfl f_0_59 rfl h1).trans ?_
  exact go_icmple (m := 57) (pc := 38) (off := 9) (t := 47) (by decide +kernel) (by decide)
theorem Bus_contendersWithMoreBytes_41 (l0 : Value) (x_l1 : Int32) (x_l2 : Int32) (l3 : Value) (w : Wd) (I : MI) (L : ML) (P : MP)  : go 57 41 [l0, .int x_l1, .int x_l2, l3] [] w I L P = go 57 47 [(fix1 l0), .int (x_l1 ||| ((nI 1) <<< (x_l2 &&& 31))), .int x_l2, l3] [] w I L P := by
  refine (go_iload_n (m := 57) (pc := 41) (k := 1) (by decide +kernel) rfl).trans ?_
  refine (go_ic (m := 57) (pc := 42) (n := 1) (by decide +kernel) ic_1).trans ?_
  refine (go_iload_n (m := 57) (pc := 43) (k := 2) (by decide +kernel) rfl).trans ?_
  refine (go_ishl (m := 57) (pc := 44) (by decide +kernel)).trans ?_
  refine (go_ior (m := 57) (pc := 45) (by decide +kernel)).trans ?_
  refine (go_istore_n (m := 57) (pc := 46) (k := 1) (ls' := [(fix1 l0), .int (x_l1 ||| ((nI 1) <<< (x_l2 &&& 31))), .int x_l2, l3]) (by decide +kernel) (by simp only [List.length_cons, List.length_nil]; decide) rfl).trans ?_
  rfl
theorem Bus_contendersWithMoreBytes_47 (l0 : Value) (l1 : Value) (x_l2 : Int32) (l3 : Value) (w : Wd) (I : MI) (L : ML) (P : MP)  : go 57 47 [l0, l1, .int x_l2, l3] [] w I L P = go 57 4 [l0, (fix1 l1), .int (x_l2 + (nI 1)), l3] [] w I L P := by
  refine (go_iinc (m := 57) (pc := 47) (k := 2) (n := 1) (x := x_l2) (v := x_l2 + (nI 1)) (ls' := [l0, (fix1 l1), .int (x_l2 + (nI 1)), l3]) (by decide +kernel) rfl (by rw [ic_1]) rfl).trans ?_
  refine (go_goto (m := 57) (pc := 50) (off := -46) (t := 4) (by decide +kernel) (by decide)).trans ?_
  rfl
theorem Bus_contendersWithMoreBytes_53 (l0 : Value) (x_l1 : Int32) (l2 : Value) (l3 : Value) (w : Wd) (I : MI) (L : ML) (P : MP)  : go 57 53 [l0, .int x_l1, l2, l3] [] w I L P = some (.inl (some (.int x_l1)), w, I, L, P) := by
  refine (go_iload_n (m := 57) (pc := 53) (k := 1) (by decide +kernel) rfl).trans ?_
  exact go_retI (m := 57) (pc := 54) (by decide +kernel) rfl
theorem Bus_contendersWithMoreBytes_E (this : Nat) (w : Wd) (I : MI) (L : ML) (P : MP) : call 57 [.ref this] w I L P = go 57 0 [.ref this, unk, unk, unk] [] w I L P := rfl
theorem Bus_goOnWith_0 (a_l0 : Nat) (x_l1 : Int32) (w : Wd) (I : MI) (L : ML) (P : MP) (h0 : w.1 a_l0 = some (0, 0)) : go 58 0 [.ref a_l0, .int x_l1] [] w I L P = kC (call 59 [.ref a_l0, .int ((I a_l0 7) &&& (x_l1 ^^^ (-1))), .int (nI 1)] w I L P) (fun v w1 I1 L1 P1 => go 58 13 [.ref a_l0, .int x_l1] (v.toList ++ []) w1 I1 L1 P1) := by
  refine (go_aload_n (m := 58) (pc := 0) (k := 0) (by decide +kernel) rfl).trans ?_
  refine (go_aload_n (m := 58) (pc := 1) (k := 0) (by decide +kernel) rfl).trans ?_
  refine (go_getI (m := 58) (pc := 2) (o := 0) (x := 43) (ci := 0) (k := 7) (by decide +kernel) rfl f_0_43 rfl h0).trans ?_
  refine (go_iload_n (m := 58) (pc := 5) (k := 1) (by decide +kernel) rfl).trans ?_
  refine (go_ic (m := 58) (pc := 6) (n := -1) (by decide +kernel) ic_m1).trans ?_
  refine (go_ixor (m := 58) (pc := 7) (by decide +kernel)).trans ?_
  refine (go_iand (m := 58) (pc := 8) (by decide +kernel)).trans ?_
  refine (go_ic (m := 58) (pc := 9) (n := 1) (by decide +kernel) ic_1).trans ?_
  exact go_vir (m := 58) (pc := 10) (o := 0) (x := 221) (y := 59) (kd := 0) (b := a_l0) (bs := [.int ((I a_l0 7) &&& (x_l1 ^^^ (-1))), .int (nI 1)]) (rs := []) (by decide +kernel) rfl rfl c_0_221 (Or.inl rfl) rfl rfl rfl (by decide +kernel) (by simp only [List.length_cons, List.length_nil]; decide) (Nat.le_of_ble_eq_true rfl) h0
theorem Bus_goOnWith_13 (a_l0 : Nat) (l1 : Value) (w : Wd) (I : MI) (L : ML) (P : MP) (h0 : w.1 a_l0 = some (0, 0)) : go 58 13 [.ref a_l0, l1] [] w I L P = if (I a_l0 7) ≠ 0 then go 58 29 [.ref a_l0, l1] [] w I L P else go 58 20 [.ref a_l0, l1] [] w I L P := by
  refine (go_aload_n (m := 58) (pc := 13) (k := 0) (by decide +kernel) rfl).trans ?_
  refine (go_getI (m := 58) (pc := 14) (o := 0) (x := 43) (ci := 0) (k := 7) (by decide +kernel) rfl f_0_43 rfl h0).trans ?_
  exact go_ifne (m := 58) (pc := 17) (off := 12) (t := 29) (by decide +kernel) (by decide)
theorem Bus_goOnWith_20 (a_l0 : Nat) (l1 : Value) (w : Wd) (I : MI) (L : ML) (P : MP) (h0 : w.1 a_l0 = some (0, 0)) : go 58 20 [.ref a_l0, l1] [] w I L P = go 58 33 [.ref a_l0, l1] [] w (updI I a_l0 6 (nI 7)) L P := by
  refine (go_aload_n (m := 58) (pc := 20) (k := 0) (by decide +kernel) rfl).trans ?_
  refine (go_bi (m := 58) (pc := 21) (n := 7) (by decide +kernel) bi_7).trans ?_
  refine (go_putI (m := 58) (pc := 23) (o := 0) (x := 40) (ci := 0) (k := 6) (by decide +kernel) rfl f_0_40 rfl (by decide +kernel) h0).trans ?_
  refine (go_goto (m := 58) (pc := 26) (off := 7) (t := 33) (by decide +kernel) (by decide)).trans ?_
  rfl
theorem Bus_goOnWith_29 (a_l0 : Nat) (l1 : Value) (w : Wd) (I : MI) (L : ML) (P : MP) (h0 : w.1 a_l0 = some (0, 0)) : go 58 29 [.ref a_l0, l1] [] w I L P = kC (call 60 [.ref a_l0] w I L P) (fun v w1 I1 L1 P1 => go 58 33 [.ref a_l0, l1] (v.toList ++ []) w1 I1 L1 P1) := by
  refine (go_aload_n (m := 58) (pc := 29) (k := 0) (by decide +kernel) rfl).trans ?_
  exact go_vir (m := 58) (pc := 30) (o := 0) (x := 225) (y := 60) (kd := 0) (b := a_l0) (bs := []) (rs := []) (by decide +kernel) rfl rfl c_0_225 (Or.inl rfl) rfl rfl rfl (by decide +kernel) (by simp only [List.length_cons, List.length_nil]; decide) (Nat.le_of_ble_eq_true rfl) h0
theorem Bus_goOnWith_33 (l0 : Value) (l1 : Value) (w : Wd) (I : MI) (L : ML) (P : MP)  : go 58 33 [l0, l1] [] w I L P = some (.inl none, w, I, L, P) := by
  exact go_retV (m := 58) (pc := 33) (by decide +kernel) rfl
theorem Bus_goOnWith_E (this : Nat) (p0 : Int32) (w : Wd) (I : MI) (L : ML) (P : MP) : call 58 [.ref this, .int p0] w I L P = go 58 0 [.ref this, .int p0] [] w I L P := rfl
theorem Bus_endMessages_0 (a_l0 : Nat) (x_l1 : Int32) (l2 : Value) (l3 : Value) (l4 : Value) (w : Wd) (I : MI) (L : ML) (P : MP) (h0 : w.1 a_l0 = some (0, 0)) : go 59 0 [.ref a_l0, .int x_l1, l2, l3, l4] [] w I L P = go 59 14 [.ref a_l0, .int x_l1, (fix1 l2), .int (nI 0), l4] [] w (updI I a_l0 7 ((I a_l0 7) &&& (x_l1 ^^^ (-1)))) L P := by
  refine (go_aload_n (m := 59) (pc := 0) (k := 0) (by decide +kernel) rfl).trans ?_
  refine (go_dup (m := 59) (pc := 1) (by decide +kernel) rfl).trans ?_
  refine (go_getI (m := 59) (pc := 2) (o := 0) (x := 43) (ci := 0) (k := 7) (by decide +kernel) rfl f_0_43 rfl h0).trans ?_
  refine (go_iload_n (m := 59) (pc := 5) (k := 1) (by decide +kernel) rfl).trans ?_
  refine (go_ic (m := 59) (pc := 6) (n := -1) (by decide +kernel) ic_m1).trans ?_
  refine (go_ixor (m := 59) (pc := 7) (by decide +kernel)).trans ?_
  refine (go_iand (m := 59) (pc := 8) (by decide +kernel)).trans ?_
  refine (go_putI (m := 59) (pc := 9) (o := 0) (x := 43) (ci := 0) (k := 7) (by decide +kernel) rfl f_0_43 rfl (by decide +kernel) h0).trans ?_
  refine (go_ic (m := 59) (pc := 12) (n := 0) (by decide +kernel) ic_0).trans ?_
  refine (go_istore_n (m := 59) (pc := 13) (k := 3) (ls' := [.ref a_l0, .int x_l1, (fix1 l2), .int (nI 0), l4]) (by decide +kernel) (by simp only [List.length_cons, List.length_nil]; decide) rfl).trans ?_
  rfl
theorem Bus_endMessages_14 (a_l0 : Nat) (l1 : Value) (l2 : Value) (x_l3 : Int32) (l4 : Value) (w : Wd) (I : MI) (L : ML) (P : MP) (h0 : w.1 a_l0 = some (0, 0)) : go 59 14 [.ref a_l0, l1, l2, .int x_l3, l4] [] w I L P = if (I a_l0 1) ≤ x_l3 then go 59 55 [.ref a_l0, l1, l2, .int x_l3, l4] [] w I L P else go 59 22 [.ref a_l0, l1, l2, .int x_l3, l4] [] w I L P := by
  refine (go_iload_n (m := 59) (pc := 14) (k := 3) (by decide +kernel) rfl).trans ?_
  refine (go_aload_n (m := 59) (pc := 15) (k := 0) (by decide +kernel) rfl).trans ?_
  refine (go_getI (m := 59) (pc := 16) (o := 0) (x := 17) (ci := 0) (k := 1) (by decide +kernel) rfl f_0_17 rfl h0).trans ?_
  exact go_icmpge (m := 59) (pc := 19) (off := 36) (t := 55) (by decide +kernel) (by decide)
theorem Bus_endMessages_22 (a_l0 : Nat) (l1 : Value) (l2 : Value) (x_l3 : Int32) (l4 : Value) (w : Wd) (I : MI) (L : ML) (P : MP) (h0 : w.1 a_l0 = some (0, 0)) : go 59 22 [.ref a_l0, l1, l2, .int x_l3, l4] [] w I L P = kC (call 30 [.ref a_l0, .int x_l3] w I L P) (fun v w1 I1 L1 P1 => go 59 27 [.ref a_l0, l1, l2, .int x_l3, l4] (v.toList ++ []) w1 I1 L1 P1) := by
  refine (go_aload_n (m := 59) (pc := 22) (k := 0) (by decide +kernel) rfl).trans ?_
  refine (go_iload_n (m := 59) (pc := 23) (k := 3) (by decide +kernel) rfl).trans ?_
  exact go_vir (m := 59) (pc := 24) (o := 0) (x := 81) (y := 30) (kd := 0) (b := a_l0) (bs := [.int x_l3]) (rs := []) (by decide +kernel) rfl rfl c_0_81 (Or.inl rfl) rfl rfl rfl (by decide +kernel) (by simp only [List.length_cons, List.length_nil]; decide) (Nat.le_of_ble_eq_true rfl) h0
theorem Bus_endMessages_27_0 (l0 : Value) (l1 : Value) (l2 : Value) (l3 : Value) (l4 : Value) (w : Wd) (I : MI) (L : ML) (P : MP)  : go 59 27 [l0, l1, l2, l3, l4] [.null] w I L P = go 59 49 [l0, l1, l2, (fix1 l3), .null] [] w I L P := by
  refine (go_astoreN (m := 59) (pc := 27) (k := 4) (ls' := [l0, l1, l2, (fix1 l3), .null]) (by decide +kernel) (by simp only [List.length_cons, List.length_nil]; decide) rfl).trans ?_
  refine (go_aloadN (m := 59) (pc := 29) (k := 4) (by decide +kernel) rfl).trans ?_
  exact go_ifnullN (m := 59) (pc := 31) (off := 18) (t := 49) (by decide +kernel) (by decide)
theorem Bus_endMessages_27_1 (l0 : Value) (l1 : Value) (l2 : Value) (l3 : Value) (l4 : Value) (a_s0 : Nat) (w : Wd) (I : MI) (L : ML) (P : MP)  : go 59 27 [l0, l1, l2, l3, l4] [.ref a_s0] w I L P = go 59 34 [l0, l1, l2, (fix1 l3), .ref a_s0] [] w I L P := by
  refine (go_astore (m := 59) (pc := 27) (k := 4) (ls' := [l0, l1, l2, (fix1 l3), .ref a_s0]) (by decide +kernel) (by simp only [List.length_cons, List.length_nil]; decide) rfl).trans ?_
  refine (go_aload (m := 59) (pc := 29) (k := 4) (by decide +kernel) rfl).trans ?_
  exact go_ifnullR (m := 59) (pc := 31) (off := 18) (by decide +kernel)
theorem Bus_endMessages_34 (l0 : Value) (x_l1 : Int32) (l2 : Value) (x_l3 : Int32) (l4 : Value) (w : Wd) (I : MI) (L : ML) (P : MP)  : go 59 34 [l0, .int x_l1, l2, .int x_l3, l4] [] w I L P = if ((x_l1 >>> (x_l3 &&& 31)) &&& (nI 1)) ≠ (nI 1) then go 59 49 [l0, .int x_l1, l2, .int x_l3, l4] [] w I L P else go 59 43 [l0, .int x_l1, l2, .int x_l3, l4] [] w I L P := by
  refine (go_iload_n (m := 59) (pc := 34) (k := 1) (by decide +kernel) rfl).trans ?_
  refine (go_iload_n (m := 59) (pc := 35) (k := 3) (by decide +kernel) rfl).trans ?_
  refine (go_ishr (m := 59) (pc := 36) (by decide +kernel)).trans ?_
  refine (go_ic (m := 59) (pc := 37) (n := 1) (by decide +kernel) ic_1).trans ?_
  refine (go_iand (m := 59) (pc := 38) (by decide +kernel)).trans ?_
  refine (go_ic (m := 59) (pc := 39) (n := 1) (by decide +kernel) ic_1).trans ?_
  exact go_icmpne (m := 59) (pc := 40) (off := 9) (t := 49) (by decide +kernel) (by decide)
theorem Bus_endMessages_43 (l0 : Value) (l1 : Value) (x_l2 : Int32) (l3 : Value) (a_l4 : Nat) (w : Wd) (I : MI) (L : ML) (P : MP) (h0 : w.1 a_l4 = some (1, 0)) : go 59 43 [l0, l1, .int x_l2, l3, .ref a_l4] [] w I L P = kC (call 10 [.ref a_l4, .int x_l2] w I L P) (fun v w1 I1 L1 P1 => go 59 49 [l0, l1, .int x_l2, l3, .ref a_l4] (v.toList ++ []) w1 I1 L1 P1) := by
  refine (go_aload (m := 59) (pc := 43) (k := 4) (by decide +kernel) rfl).trans ?_
  refine (go_iload_n (m := 59) (pc := 45) (k := 2) (by decide +kernel) rfl).trans ?_
  exact go_vir (m := 59) (pc := 46) (o := 0) (x := 237) (y := 10) (kd := 1) (b := a_l4) (bs := [.int x_l2]) (rs := []) (by decide +kernel) rfl rfl c_0_237 (Or.inr rfl) rfl rfl rfl (by decide +kernel) (by simp only [List.length_cons, List.length_nil]; decide) (Nat.le_of_ble_eq_true rfl) h0
theorem Bus_endMessages_49 (l0 : Value) (l1 : Value) (l2 : Value) (x_l3 : Int32) (l4 : Value) (w : Wd) (I : MI) (L : ML) (P : MP)  : go 59 49 [l0, l1, l2, .int x_l3, l4] [] w I L P = go 59 14 [l0, l1, (fix1 l2), .int (x_l3 + (nI 1)), l4] [] w I L P := by
  refine (go_iinc (m := 59) (pc := 49) (k := 3) (n := 1) (x := x_l3) (v := x_l3 + (nI 1)) (ls' := [l0, l1, (fix1 l2), .int (x_l3 + (nI 1)), l4]) (by decide +kernel) rfl (by rw [ic_1]) rfl).trans ?_
  refine (go_goto (m := 59) (pc := 52) (off := -38) (t := 14) (by decide +kernel) (by decide)).trans ?_
  rfl
theorem Bus_endMessages_55 (l0 : Value) (l1 : Value) (l2 : Value) (l3 : Value) (l4 : Value) (w : Wd) (I : MI) (L : ML) (P : MP)  : go 59 55 [l0, l1, l2, l3, l4] [] w I L P = some (.inl none, w, I, L, P) := by
  exact go_retV (m := 59) (pc := 55) (by decide +kernel) rfl
theorem Bus_endMessages_E (this : Nat) (p0 : Int32) (p1 : Int32) (w : Wd) (I : MI) (L : ML) (P : MP) : call 59 [.ref this, .int p0, .int p1] w I L P = go 59 0 [.ref this, .int p0, .int p1, unk, unk] [] w I L P := rfl
theorem Bus_holdLine_0 (a_l0 : Nat) (l1 : Value) (w : Wd) (I : MI) (L : ML) (P : MP) (h0 : w.1 a_l0 = some (0, 0)) : go 60 0 [.ref a_l0, l1] [] w I L P = kC (call 31 [.ref a_l0, .int (I a_l0 8)] w I L P) (fun v w1 I1 L1 P1 => go 60 8 [.ref a_l0, l1] (v.toList ++ []) w1 I1 L1 P1) := by
  refine (go_aload_n (m := 60) (pc := 0) (k := 0) (by decide +kernel) rfl).trans ?_
  refine (go_aload_n (m := 60) (pc := 1) (k := 0) (by decide +kernel) rfl).trans ?_
  refine (go_getI (m := 60) (pc := 2) (o := 0) (x := 46) (ci := 0) (k := 8) (by decide +kernel) rfl f_0_46 rfl h0).trans ?_
  exact go_vir (m := 60) (pc := 5) (o := 0) (x := 89) (y := 31) (kd := 0) (b := a_l0) (bs := [.int (I a_l0 8)]) (rs := []) (by decide +kernel) rfl rfl c_0_89 (Or.inl rfl) rfl rfl rfl (by decide +kernel) (by simp only [List.length_cons, List.length_nil]; decide) (Nat.le_of_ble_eq_true rfl) h0
theorem Bus_holdLine_8_0 (l1 : Value) (w : Wd) (I : MI) (L : ML) (P : MP)  : go 60 8 [.null, l1] [.null] w I L P = go 60 14 [.null, .null] [.null] w I L P := by
  refine (go_astore_nN (m := 60) (pc := 8) (k := 1) (ls' := [.null, .null]) (by decide +kernel) (by simp only [List.length_cons, List.length_nil]; decide) rfl).trans ?_
  refine (go_aload_nN (m := 60) (pc := 9) (k := 0) (by decide +kernel) rfl).trans ?_
  refine (go_aload_nN (m := 60) (pc := 10) (k := 1) (by decide +kernel) rfl).trans ?_
  exact go_ifnonnullN (m := 60) (pc := 11) (off := 7) (by decide +kernel)
theorem Bus_holdLine_8_1 (a_l0 : Nat) (l1 : Value) (w : Wd) (I : MI) (L : ML) (P : MP)  : go 60 8 [.ref a_l0, l1] [.null] w I L P = go 60 14 [.ref a_l0, .null] [.ref a_l0] w I L P := by
  refine (go_astore_nN (m := 60) (pc := 8) (k := 1) (ls' := [.ref a_l0, .null]) (by decide +kernel) (by simp only [List.length_cons, List.length_nil]; decide) rfl).trans ?_
  refine (go_aload_n (m := 60) (pc := 9) (k := 0) (by decide +kernel) rfl).trans ?_
  refine (go_aload_nN (m := 60) (pc := 10) (k := 1) (by decide +kernel) rfl).trans ?_
  exact go_ifnonnullN (m := 60) (pc := 11) (off := 7) (by decide +kernel)
theorem Bus_holdLine_8_2 (l1 : Value) (a_s0 : Nat) (w : Wd) (I : MI) (L : ML) (P : MP)  : go 60 8 [.null, l1] [.ref a_s0] w I L P = go 60 18 [.null, .ref a_s0] [.null] w I L P := by
  refine (go_astore_n (m := 60) (pc := 8) (k := 1) (ls' := [.null, .ref a_s0]) (by decide +kernel) (by simp only [List.length_cons, List.length_nil]; decide) rfl).trans ?_
  refine (go_aload_nN (m := 60) (pc := 9) (k := 0) (by decide +kernel) rfl).trans ?_
  refine (go_aload_n (m := 60) (pc := 10) (k := 1) (by decide +kernel) rfl).trans ?_
  exact go_ifnonnullR (m := 60) (pc := 11) (off := 7) (t := 18) (by decide +kernel) (by decide)
theorem Bus_holdLine_8_3 (a_l0 : Nat) (l1 : Value) (a_s0 : Nat) (w : Wd) (I : MI) (L : ML) (P : MP)  : go 60 8 [.ref a_l0, l1] [.ref a_s0] w I L P = go 60 18 [.ref a_l0, .ref a_s0] [.ref a_l0] w I L P := by
  refine (go_astore_n (m := 60) (pc := 8) (k := 1) (ls' := [.ref a_l0, .ref a_s0]) (by decide +kernel) (by simp only [List.length_cons, List.length_nil]; decide) rfl).trans ?_
  refine (go_aload_n (m := 60) (pc := 9) (k := 0) (by decide +kernel) rfl).trans ?_
  refine (go_aload_n (m := 60) (pc := 10) (k := 1) (by decide +kernel) rfl).trans ?_
  exact go_ifnonnullR (m := 60) (pc := 11) (off := 7) (t := 18) (by decide +kernel) (by decide)
theorem Bus_holdLine_14 (l0 : Value) (l1 : Value) (v0 : Value) (w : Wd) (I : MI) (L : ML) (P : MP)  : go 60 14 [l0, l1] [v0] w I L P = go 60 22 [l0, l1] [.int (nI 0), v0] w I L P := by
  refine (go_ic (m := 60) (pc := 14) (n := 0) (by decide +kernel) ic_0).trans ?_
  refine (go_goto (m := 60) (pc := 15) (off := 7) (t := 22) (by decide +kernel) (by decide)).trans ?_
  rfl
theorem Bus_holdLine_18 (l0 : Value) (a_l1 : Nat) (v0 : Value) (w : Wd) (I : MI) (L : ML) (P : MP) (h0 : w.1 a_l1 = some (2, 0)) : go 60 18 [l0, .ref a_l1] [v0] w I L P = go 60 22 [l0, .ref a_l1] [.int (I a_l1 1), v0] w I L P := by
  refine (go_aload_n (m := 60) (pc := 18) (k := 1) (by decide +kernel) rfl).trans ?_
  refine (go_getI (m := 60) (pc := 19) (o := 0) (x := 103) (ci := 2) (k := 1) (by decide +kernel) rfl f_0_103 rfl h0).trans ?_
  rfl
theorem Bus_holdLine_22 (a_l0 : Nat) (l1 : Value) (a_s0 : Nat) (y1 : Int32) (w : Wd) (I : MI) (L : ML) (P : MP) (h0 : w.1 a_s0 = some (0, 0)) (h1 : w.1 a_l0 = some (0, 0)) : go 60 22 [.ref a_l0, l1] [.int y1, .ref a_s0] w I L P = if ((updI I a_s0 13 y1) a_l0 13) ≤ 0 then go 60 41 [.ref a_l0, l1] [] w (updI I a_s0 13 y1) L P else go 60 32 [.ref a_l0, l1] [] w (updI I a_s0 13 y1) L P := by
  refine (go_putI (m := 60) (pc := 22) (o := 0) (x := 62) (ci := 0) (k := 13) (by decide +kernel) rfl f_0_62 rfl (by decide +kernel) h0).trans ?_
  refine (go_aload_n (m := 60) (pc := 25) (k := 0) (by decide +kernel) rfl).trans ?_
  refine (go_getI (m := 60) (pc := 26) (o := 0) (x := 62) (ci := 0) (k := 13) (by decide +kernel) rfl f_0_62 rfl h1).trans ?_
  exact go_ifle (m := 60) (pc := 29) (off := 12) (t := 41) (by decide +kernel) (by decide)
theorem Bus_holdLine_32 (a_l0 : Nat) (l1 : Value) (w : Wd) (I : MI) (L : ML) (P : MP) (h0 : w.1 a_l0 = some (0, 0)) : go 60 32 [.ref a_l0, l1] [] w I L P = go 60 46 [.ref a_l0, l1] [] w (updI I a_l0 6 (nI 6)) L P := by
  refine (go_aload_n (m := 60) (pc := 32) (k := 0) (by decide +kernel) rfl).trans ?_
  refine (go_bi (m := 60) (pc := 33) (n := 6) (by decide +kernel) bi_6).trans ?_
  refine (go_putI (m := 60) (pc := 35) (o := 0) (x := 40) (ci := 0) (k := 6) (by decide +kernel) rfl f_0_40 rfl (by decide +kernel) h0).trans ?_
  refine (go_goto (m := 60) (pc := 38) (off := 8) (t := 46) (by decide +kernel) (by decide)).trans ?_
  rfl
theorem Bus_holdLine_41 (a_l0 : Nat) (l1 : Value) (w : Wd) (I : MI) (L : ML) (P : MP) (h0 : w.1 a_l0 = some (0, 0)) : go 60 41 [.ref a_l0, l1] [] w I L P = kC (call 46 [.ref a_l0, .int (nI 4)] w I L P) (fun v w1 I1 L1 P1 => go 60 46 [.ref a_l0, l1] (v.toList ++ []) w1 I1 L1 P1) := by
  refine (go_aload_n (m := 60) (pc := 41) (k := 0) (by decide +kernel) rfl).trans ?_
  refine (go_ic (m := 60) (pc := 42) (n := 4) (by decide +kernel) ic_4).trans ?_
  exact go_vir (m := 60) (pc := 43) (o := 0) (x := 184) (y := 46) (kd := 0) (b := a_l0) (bs := [.int (nI 4)]) (rs := []) (by decide +kernel) rfl rfl c_0_184 (Or.inl rfl) rfl rfl rfl (by decide +kernel) (by simp only [List.length_cons, List.length_nil]; decide) (Nat.le_of_ble_eq_true rfl) h0
theorem Bus_holdLine_46 (l0 : Value) (l1 : Value) (w : Wd) (I : MI) (L : ML) (P : MP)  : go 60 46 [l0, l1] [] w I L P = some (.inl none, w, I, L, P) := by
  exact go_retV (m := 60) (pc := 46) (by decide +kernel) rfl
theorem Bus_holdLine_E (this : Nat) (w : Wd) (I : MI) (L : ML) (P : MP) : call 60 [.ref this] w I L P = go 60 0 [.ref this, unk] [] w I L P := rfl
theorem Bus_holdSlot_0 (a_l0 : Nat) (l1 : Value) (w : Wd) (I : MI) (L : ML) (P : MP) (h0 : w.1 a_l0 = some (0, 0)) : go 61 0 [.ref a_l0, l1] [] w I L P = kC (call 31 [.ref a_l0, .int (I a_l0 8)] w I L P) (fun v w1 I1 L1 P1 => go 61 8 [.ref a_l0, l1] (v.toList ++ []) w1 I1 L1 P1) := by
  refine (go_aload_n (m := 61) (pc := 0) (k := 0) (by decide +kernel) rfl).trans ?_
  refine (go_aload_n (m := 61) (pc := 1) (k := 0) (by decide +kernel) rfl).trans ?_
  refine (go_getI (m := 61) (pc := 2) (o := 0) (x := 46) (ci := 0) (k := 8) (by decide +kernel) rfl f_0_46 rfl h0).trans ?_
  exact go_vir (m := 61) (pc := 5) (o := 0) (x := 89) (y := 31) (kd := 0) (b := a_l0) (bs := [.int (I a_l0 8)]) (rs := []) (by decide +kernel) rfl rfl c_0_89 (Or.inl rfl) rfl rfl rfl (by decide +kernel) (by simp only [List.length_cons, List.length_nil]; decide) (Nat.le_of_ble_eq_true rfl) h0
theorem Bus_holdSlot_8_0 (l0 : Value) (l1 : Value) (w : Wd) (I : MI) (L : ML) (P : MP)  : go 61 8 [l0, l1] [.null] w I L P = go 61 23 [(fix1 l0), .null] [] w I L P := by
  refine (go_astore_nN (m := 61) (pc := 8) (k := 1) (ls' := [(fix1 l0), .null]) (by decide +kernel) (by simp only [List.length_cons, List.length_nil]; decide) rfl).trans ?_
  refine (go_aload_nN (m := 61) (pc := 9) (k := 1) (by decide +kernel) rfl).trans ?_
  exact go_ifnullN (m := 61) (pc := 10) (off := 13) (t := 23) (by decide +kernel) (by decide)
theorem Bus_holdSlot_8_1 (l0 : Value) (l1 : Value) (a_s0 : Nat) (w : Wd) (I : MI) (L : ML) (P : MP)  : go 61 8 [l0, l1] [.ref a_s0] w I L P = go 61 13 [(fix1 l0), .ref a_s0] [] w I L P := by
  refine (go_astore_n (m := 61) (pc := 8) (k := 1) (ls' := [(fix1 l0), .ref a_s0]) (by decide +kernel) (by simp only [List.length_cons, List.length_nil]; decide) rfl).trans ?_
  refine (go_aload_n (m := 61) (pc := 9) (k := 1) (by decide +kernel) rfl).trans ?_
  exact go_ifnullR (m := 61) (pc := 10) (off := 13) (by decide +kernel)
theorem Bus_holdSlot_13 (l0 : Value) (a_l1 : Nat) (w : Wd) (I : MI) (L : ML) (P : MP) (h0 : w.1 a_l1 = some (2, 0)) : go 61 13 [l0, .ref a_l1] [] w I L P = go 61 23 [l0, .ref a_l1] [] w (updI I a_l1 3 ((I a_l1 3) + (nI 1))) L P := by
  refine (go_aload_n (m := 61) (pc := 13) (k := 1) (by decide +kernel) rfl).trans ?_
  refine (go_dup (m := 61) (pc := 14) (by decide +kernel) rfl).trans ?_
  refine (go_getI (m := 61) (pc := 15) (o := 0) (x := 240) (ci := 2) (k := 3) (by decide +kernel) rfl f_0_240 rfl h0).trans ?_
  refine (go_ic (m := 61) (pc := 18) (n := 1) (by decide +kernel) ic_1).trans ?_
  refine (go_iadd (m := 61) (pc := 19) (by decide +kernel)).trans ?_
  refine (go_putI (m := 61) (pc := 20) (o := 0) (x := 240) (ci := 2) (k := 3) (by decide +kernel) rfl f_0_240 rfl (by decide +kernel) h0).trans ?_
  rfl
theorem Bus_holdSlot_23 (a_l0 : Nat) (l1 : Value) (w : Wd) (I : MI) (L : ML) (P : MP) (h0 : w.1 a_l0 = some (0, 0)) : go 61 23 [.ref a_l0, l1] [] w I L P = if 0 < ((updI I a_l0 13 ((I a_l0 13) - (nI 1))) a_l0 13) then go 61 45 [.ref a_l0, l1] [] w (updI I a_l0 13 ((I a_l0 13) - (nI 1))) L P else go 61 40 [.ref a_l0, l1] [] w (updI I a_l0 13 ((I a_l0 13) - (nI 1))) L P := by
  refine (go_aload_n (m := 61) (pc := 23) (k := 0) (by decide +kernel) rfl).trans ?_
  refine (go_dup (m := 61) (pc := 24) (by decide +kernel) rfl).trans ?_
  refine (go_getI (m := 61) (pc := 25) (o := 0) (x := 62) (ci := 0) (k := 13) (by decide +kernel) rfl f_0_62 rfl h0).trans ?_
  refine (go_ic (m := 61) (pc := 28) (n := 1) (by decide +kernel) ic_1).trans ?_
  refine (go_isub (m := 61) (pc := 29) (by decide +kernel)).trans ?_
  refine (go_putI (m := 61) (pc := 30) (o := 0) (x := 62) (ci := 0) (k := 13) (by decide +kernel) rfl f_0_62 rfl (by decide +kernel) h0).trans ?_
  refine (go_aload_n (m := 61) (pc := 33) (k := 0) (by decide +kernel) rfl).trans ?_
  refine (go_getI (m := 61) (pc := 34) (o := 0) (x := 62) (ci := 0) (k := 13) (by decide +kernel) rfl f_0_62 rfl h0).trans ?_
  exact go_ifgt (m := 61) (pc := 37) (off := 8) (t := 45) (by decide +kernel) (by decide)
theorem Bus_holdSlot_40 (a_l0 : Nat) (l1 : Value) (w : Wd) (I : MI) (L : ML) (P : MP) (h0 : w.1 a_l0 = some (0, 0)) : go 61 40 [.ref a_l0, l1] [] w I L P = kC (call 46 [.ref a_l0, .int (nI 4)] w I L P) (fun v w1 I1 L1 P1 => go 61 45 [.ref a_l0, l1] (v.toList ++ []) w1 I1 L1 P1) := by
  refine (go_aload_n (m := 61) (pc := 40) (k := 0) (by decide +kernel) rfl).trans ?_
  refine (go_ic (m := 61) (pc := 41) (n := 4) (by decide +kernel) ic_4).trans ?_
  exact go_vir (m := 61) (pc := 42) (o := 0) (x := 184) (y := 46) (kd := 0) (b := a_l0) (bs := [.int (nI 4)]) (rs := []) (by decide +kernel) rfl rfl c_0_184 (Or.inl rfl) rfl rfl rfl (by decide +kernel) (by simp only [List.length_cons, List.length_nil]; decide) (Nat.le_of_ble_eq_true rfl) h0
theorem Bus_holdSlot_45 (l0 : Value) (l1 : Value) (w : Wd) (I : MI) (L : ML) (P : MP)  : go 61 45 [l0, l1] [] w I L P = some (.inl (some (.int (nI 0))), w, I, L, P) := by
  refine (go_ic (m := 61) (pc := 45) (n := 0) (by decide +kernel) ic_0).trans ?_
  exact go_retI (m := 61) (pc := 46) (by decide +kernel) rfl
theorem Bus_holdSlot_E (this : Nat) (w : Wd) (I : MI) (L : ML) (P : MP) : call 61 [.ref this] w I L P = go 61 0 [.ref this, unk] [] w I L P := rfl
theorem Bus_stopTransfer_0 (a_l0 : Nat) (w : Wd) (I : MI) (L : ML) (P : MP) (h0 : w.1 a_l0 = some (0, 0)) : go 62 0 [.ref a_l0] [] w I L P = some (.inl none, w, (updI (updI I a_l0 8 (-1)) a_l0 6 (nI 0)), L, P) := by
  refine (go_aload_n (m := 62) (pc := 0) (k := 0) (by decide +kernel) rfl).trans ?_
  refine (go_ic (m := 62) (pc := 1) (n := -1) (by decide +kernel) ic_m1).trans ?_
  refine (go_putI (m := 62) (pc := 2) (o := 0) (x := 46) (ci := 0) (k := 8) (by decide +kernel) rfl f_0_46 rfl (by decide +kernel) h0).trans ?_
  refine (go_aload_n (m := 62) (pc := 5) (k := 0) (by decide +kernel) rfl).trans ?_
  refine (go_ic (m := 62) (pc := 6) (n := 0) (by decide +kernel) ic_0).trans ?_
  refine (go_putI (m := 62) (pc := 7) (o := 0) (x := 40) (ci := 0) (k := 6) (by decide +kernel) rfl f_0_40 rfl (by decide +kernel) h0).trans ?_
  exact go_retV (m := 62) (pc := 10) (by decide +kernel) rfl
theorem Bus_stopTransfer_E (this : Nat) (w : Wd) (I : MI) (L : ML) (P : MP) : call 62 [.ref this] w I L P = go 62 0 [.ref this] [] w I L P := rfl
