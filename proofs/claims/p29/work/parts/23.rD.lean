theorem Two_init_0 (a_l0 : Nat) (l1 : Value) (T : Nat → Option (Nat × Nat)) (q0 kc ks : Nat) (I : MI) (L : ML) (P : MP)  : go 79 0 [.ref a_l0, l1] [] (T, some q0, kc, ks) I L P = kC (call 27 [.ref q0] ((tagU T q0 0 0), some (q0 + 1), (kc + 1), (ks + 14)) (rowI I q0) (rowL L q0) (rowP P q0)) (fun v w1 I1 L1 P1 => go 79 12 [.ref a_l0, l1] (v.toList ++ [.ref q0, .ref a_l0]) w1 I1 L1 P1) := by
  refine (go_aload_n (m := 79) (pc := 0) (k := 0) (by decide +kernel) rfl).trans ?_
  refine (go_obj (m := 79) (pc := 1) (o := 6) (x := 1) (y := 999) (by decide +kernel) rfl (by decide +kernel) (by decide +kernel)).trans ?_
  refine (go_aload_n (m := 79) (pc := 4) (k := 0) (by decide +kernel) rfl).trans ?_
  refine (go_new (m := 79) (pc := 5) (o := 6) (x := 7) (ci := 0) (nf := 14) (by decide +kernel) rfl (by decide +kernel) (by decide) rfl).trans ?_
  refine (go_dup (m := 79) (pc := 8) (by decide +kernel) rfl).trans ?_
  exact go_spc (m := 79) (pc := 9) (o := 6) (x := 9) (y := 27) (kd := 6) (b := q0) (bs := []) (rs := [.ref q0, .ref a_l0]) (by decide +kernel) rfl rfl c_6_9 (Or.inr rfl) rfl rfl rfl (by decide +kernel) (by simp only [List.length_cons, List.length_nil]; decide) (Nat.le_of_ble_eq_true rfl)
theorem Two_init_12_0 (l1 : Value) (a_s0 : Nat) (a_s1 : Nat) (T : Nat → Option (Nat × Nat)) (q0 kc ks : Nat) (I : MI) (L : ML) (P : MP) (h0 : T a_s0 = some (6, 0)) : go 79 12 [.null, l1] [.ref a_s1, .ref a_s0] (T, some q0, kc, ks) I L P = kC (call 27 [.ref q0] ((tagU T q0 0 0), some (q0 + 1), (kc + 1), (ks + 14)) (rowI I q0) (rowL L q0) (rowP (updP P a_s0 0 (some a_s1)) q0)) (fun v w1 I1 L1 P1 => go 79 23 [.null, l1] (v.toList ++ [.ref q0, .null]) w1 I1 L1 P1) := by
  refine (go_putR (m := 79) (pc := 12) (o := 6) (x := 10) (ci := 6) (k := 0) (by decide +kernel) rfl f_6_10 rfl (by decide +kernel) h0).trans ?_
  refine (go_aload_nN (m := 79) (pc := 15) (k := 0) (by decide +kernel) rfl).trans ?_
  refine (go_new (m := 79) (pc := 16) (o := 6) (x := 7) (ci := 0) (nf := 14) (by decide +kernel) rfl (by decide +kernel) (by decide) rfl).trans ?_
  refine (go_dup (m := 79) (pc := 19) (by decide +kernel) rfl).trans ?_
  exact go_spc (m := 79) (pc := 20) (o := 6) (x := 9) (y := 27) (kd := 6) (b := q0) (bs := []) (rs := [.ref q0, .null]) (by decide +kernel) rfl rfl c_6_9 (Or.inr rfl) rfl rfl rfl (by decide +kernel) (by simp only [List.length_cons, List.length_nil]; decide) (Nat.le_of_ble_eq_true rfl)
theorem Two_init_12_1 (a_l0 : Nat) (l1 : Value) (a_s0 : Nat) (a_s1 : Nat) (T : Nat → Option (Nat × Nat)) (q0 kc ks : Nat) (I : MI) (L : ML) (P : MP) (h0 : T a_s0 = some (6, 0)) : go 79 12 [.ref a_l0, l1] [.ref a_s1, .ref a_s0] (T, some q0, kc, ks) I L P = kC (call 27 [.ref q0] ((tagU T q0 0 0), some (q0 + 1), (kc + 1), (ks + 14)) (rowI I q0) (rowL L q0) (rowP (updP P a_s0 0 (some a_s1)) q0)) (fun v w1 I1 L1 P1 => go 79 23 [.ref a_l0, l1] (v.toList ++ [.ref q0, .ref a_l0]) w1 I1 L1 P1) := by
  refine (go_putR (m := 79) (pc := 12) (o := 6) (x := 10) (ci := 6) (k := 0) (by decide +kernel) rfl f_6_10 rfl (by decide +kernel) h0).trans ?_
  refine (go_aload_n (m := 79) (pc := 15) (k := 0) (by decide +kernel) rfl).trans ?_
  refine (go_new (m := 79) (pc := 16) (o := 6) (x := 7) (ci := 0) (nf := 14) (by decide +kernel) rfl (by decide +kernel) (by decide) rfl).trans ?_
  refine (go_dup (m := 79) (pc := 19) (by decide +kernel) rfl).trans ?_
  exact go_spc (m := 79) (pc := 20) (o := 6) (x := 9) (y := 27) (kd := 6) (b := q0) (bs := []) (rs := [.ref q0, .ref a_l0]) (by decide +kernel) rfl rfl c_6_9 (Or.inr rfl) rfl rfl rfl (by decide +kernel) (by simp only [List.length_cons, List.length_nil]; decide) (Nat.le_of_ble_eq_true rfl)
theorem Two_init_23_0 (l1 : Value) (a_s0 : Nat) (a_s1 : Nat) (T : Nat → Option (Nat × Nat)) (q0 kc ks : Nat) (I : MI) (L : ML) (P : MP) (h0 : T a_s0 = some (6, 0)) : go 79 23 [.null, l1] [.ref a_s1, .ref a_s0] (T, some q0, kc, ks) I L P = kC (call 27 [.ref q0] ((tagU T q0 0 0), some (q0 + 1), (kc + 1), (ks + 14)) (rowI I q0) (rowL L q0) (rowP (updP P a_s0 1 (some a_s1)) q0)) (fun v w1 I1 L1 P1 => go 79 34 [.null, l1] (v.toList ++ [.ref q0, .null]) w1 I1 L1 P1) := by
  refine (go_putR (m := 79) (pc := 23) (o := 6) (x := 16) (ci := 6) (k := 1) (by decide +kernel) rfl f_6_16 rfl (by decide +kernel) h0).trans ?_
  refine (go_aload_nN (m := 79) (pc := 26) (k := 0) (by decide +kernel) rfl).trans ?_
  refine (go_new (m := 79) (pc := 27) (o := 6) (x := 7) (ci := 0) (nf := 14) (by decide +kernel) rfl (by decide +kernel) (by decide) rfl).trans ?_
  refine (go_dup (m := 79) (pc := 30) (by decide +kernel) rfl).trans ?_
  exact go_spc (m := 79) (pc := 31) (o := 6) (x := 9) (y := 27) (kd := 6) (b := q0) (bs := []) (rs := [.ref q0, .null]) (by decide +kernel) rfl rfl c_6_9 (Or.inr rfl) rfl rfl rfl (by decide +kernel) (by simp only [List.length_cons, List.length_nil]; decide) (Nat.le_of_ble_eq_true rfl)
theorem Two_init_23_1 (a_l0 : Nat) (l1 : Value) (a_s0 : Nat) (a_s1 : Nat) (T : Nat → Option (Nat × Nat)) (q0 kc ks : Nat) (I : MI) (L : ML) (P : MP) (h0 : T a_s0 = some (6, 0)) : go 79 23 [.ref a_l0, l1] [.ref a_s1, .ref a_s0] (T, some q0, kc, ks) I L P = kC (call 27 [.ref q0] ((tagU T q0 0 0), some (q0 + 1), (kc + 1), (ks + 14)) (rowI I q0) (rowL L q0) (rowP (updP P a_s0 1 (some a_s1)) q0)) (fun v w1 I1 L1 P1 => go 79 34 [.ref a_l0, l1] (v.toList ++ [.ref q0, .ref a_l0]) w1 I1 L1 P1) := by
  refine (go_putR (m := 79) (pc := 23) (o := 6) (x := 16) (ci := 6) (k := 1) (by decide +kernel) rfl f_6_16 rfl (by decide +kernel) h0).trans ?_
  refine (go_aload_n (m := 79) (pc := 26) (k := 0) (by decide +kernel) rfl).trans ?_
  refine (go_new (m := 79) (pc := 27) (o := 6) (x := 7) (ci := 0) (nf := 14) (by decide +kernel) rfl (by decide +kernel) (by decide) rfl).trans ?_
  refine (go_dup (m := 79) (pc := 30) (by decide +kernel) rfl).trans ?_
  exact go_spc (m := 79) (pc := 31) (o := 6) (x := 9) (y := 27) (kd := 6) (b := q0) (bs := []) (rs := [.ref q0, .ref a_l0]) (by decide +kernel) rfl rfl c_6_9 (Or.inr rfl) rfl rfl rfl (by decide +kernel) (by simp only [List.length_cons, List.length_nil]; decide) (Nat.le_of_ble_eq_true rfl)
theorem Two_init_34 (a_l0 : Nat) (l1 : Value) (a_s0 : Nat) (a_s1 : Nat) (T : Nat → Option (Nat × Nat)) (q0 kc ks : Nat) (I : MI) (L : ML) (P : MP) (h0 : T a_s0 = some (6, 0)) (h1 : ¬ (nI 4) < 0 ∧ Int32.toNatClampNeg (nI 4) ≤ 65536) (h2 : (tagU T q0 10 (Int32.toNatClampNeg (nI 4))) a_l0 = some (6, 0)) : go 79 34 [.ref a_l0, l1] [.ref a_s1, .ref a_s0] (T, some q0, kc, ks) I L P = kC (call 63 [.ref (q0 + 1)] ((tagU (tagU T q0 10 (Int32.toNatClampNeg (nI 4))) (q0 + 1) 4 0), some ((q0 + 1) + 1), ((kc + 1) + 1), ((ks + Int32.toNatClampNeg (nI 4)) + 10)) (rowI (updI I a_l0 4 (nI 0)) (q0 + 1)) (rowL L (q0 + 1)) (rowP (updP (rowP (updP P a_s0 2 (some a_s1)) q0) a_l0 3 (some q0)) (q0 + 1))) (fun v w1 I1 L1 P1 => go 79 58 [.ref a_l0, l1] (v.toList ++ [.ref (q0 + 1), .ref a_l0]) w1 I1 L1 P1) := by
  refine (go_putR (m := 79) (pc := 34) (o := 6) (x := 19) (ci := 6) (k := 2) (by decide +kernel) rfl f_6_19 rfl (by decide +kernel) h0).trans ?_
  refine (go_aload_n (m := 79) (pc := 37) (k := 0) (by decide +kernel) rfl).trans ?_
  refine (go_ic (m := 79) (pc := 38) (n := 4) (by decide +kernel) ic_4).trans ?_
  refine (go_newR (m := 79) (pc := 39) (o := 6) (j := 7) (ci := 0) (by decide +kernel) rfl (by decide +kernel) ⟨by decide, h1⟩).trans ?_
  refine (go_putR (m := 79) (pc := 42) (o := 6) (x := 22) (ci := 6) (k := 3) (by decide +kernel) rfl f_6_22 rfl (by decide +kernel) h2).trans ?_
  refine (go_aload_n (m := 79) (pc := 45) (k := 0) (by decide +kernel) rfl).trans ?_
  refine (go_ic (m := 79) (pc := 46) (n := 0) (by decide +kernel) ic_0).trans ?_
  refine (go_putI (m := 79) (pc := 47) (o := 6) (x := 26) (ci := 6) (k := 4) (by decide +kernel) rfl f_6_26 rfl (by decide +kernel) h2).trans ?_
  refine (go_aload_n (m := 79) (pc := 50) (k := 0) (by decide +kernel) rfl).trans ?_
  refine (go_new (m := 79) (pc := 51) (o := 6) (x := 30) (ci := 4) (nf := 10) (by decide +kernel) rfl (by decide +kernel) (by decide) rfl).trans ?_
  refine (go_dup (m := 79) (pc := 54) (by decide +kernel) rfl).trans ?_
  exact go_spc (m := 79) (pc := 55) (o := 6) (x := 32) (y := 63) (kd := 6) (b := (q0 + 1)) (bs := []) (rs := [.ref (q0 + 1), .ref a_l0]) (by decide +kernel) rfl rfl c_6_32 (Or.inr rfl) rfl rfl rfl (by decide +kernel) (by simp only [List.length_cons, List.length_nil]; decide) (Nat.le_of_ble_eq_true rfl)
theorem Two_init_58 (l0 : Value) (l1 : Value) (a_s0 : Nat) (a_s1 : Nat) (w : Wd) (I : MI) (L : ML) (P : MP) (h0 : w.1 a_s0 = some (6, 0)) : go 79 58 [l0, l1] [.ref a_s1, .ref a_s0] w I L P = go 79 63 [(fix1 l0), .int (nI 0)] [] w I L (updP P a_s0 5 (some a_s1)) := by
  refine (go_putR (m := 79) (pc := 58) (o := 6) (x := 33) (ci := 6) (k := 5) (by decide +kernel) rfl f_6_33 rfl (by decide +kernel) h0).trans ?_
  refine (go_ic (m := 79) (pc := 61) (n := 0) (by decide +kernel) ic_0).trans ?_
  refine (go_istore_n (m := 79) (pc := 62) (k := 1) (ls' := [(fix1 l0), .int (nI 0)]) (by decide +kernel) (by simp only [List.length_cons, List.length_nil]; decide) rfl).trans ?_
  rfl
theorem Two_init_63 (a_l0 : Nat) (x_l1 : Int32) (w : Wd) (I : MI) (L : ML) (P : MP) (h0 : w.1 a_l0 = some (6, 0)) : go 79 63 [.ref a_l0, .int x_l1] [] w I L P = go 79 68 [.ref a_l0, .int x_l1] [(va_rf (P a_l0 3)), .int x_l1] w I L P := by
  refine (go_iload_n (m := 79) (pc := 63) (k := 1) (by decide +kernel) rfl).trans ?_
  refine (go_aload_n (m := 79) (pc := 64) (k := 0) (by decide +kernel) rfl).trans ?_
  refine (go_getR (m := 79) (pc := 65) (o := 6) (x := 22) (ci := 6) (k := 3) (by decide +kernel) rfl f_6_22 rfl h0).trans ?_
  rfl
theorem Two_init_68 (l0 : Value) (l1 : Value) (y0 : Int32) (a_s1 : Nat) (w : Wd) (I : MI) (L : ML) (P : MP) (h0 : isAr w a_s1 10) : go 79 68 [l0, l1] [.ref a_s1, .int y0] w I L P = if (alen w a_s1) ≤ y0 then go 79 91 [l0, l1] [] w I L P else go 79 72 [l0, l1] [] w I L P := by
  refine (go_alen10 (m := 79) (pc := 68) (by decide +kernel) h0).trans ?_
  exact go_icmpge (m := 79) (pc := 69) (off := 22) (t := 91) (by decide +kernel) (by decide)
theorem Two_init_72 (a_l0 : Nat) (l1 : Value) (w : Wd) (I : MI) (L : ML) (P : MP) (h0 : w.1 a_l0 = some (6, 0)) : go 79 72 [.ref a_l0, l1] [] w I L P = go 79 76 [.ref a_l0, l1] [(va_rf (P a_l0 3))] w I L P := by
  refine (go_aload_n (m := 79) (pc := 72) (k := 0) (by decide +kernel) rfl).trans ?_
  refine (go_getR (m := 79) (pc := 73) (o := 6) (x := 22) (ci := 6) (k := 3) (by decide +kernel) rfl f_6_22 rfl h0).trans ?_
  rfl
theorem Two_init_76 (l0 : Value) (x_l1 : Int32) (v0 : Value) (T : Nat → Option (Nat × Nat)) (q0 kc ks : Nat) (I : MI) (L : ML) (P : MP)  : go 79 76 [l0, .int x_l1] [v0] (T, some q0, kc, ks) I L P = kC (call 27 [.ref q0] ((tagU T q0 0 0), some (q0 + 1), (kc + 1), (ks + 14)) (rowI I q0) (rowL L q0) (rowP P q0)) (fun v w1 I1 L1 P1 => go 79 84 [l0, .int x_l1] (v.toList ++ [.ref q0, .int x_l1, v0]) w1 I1 L1 P1) := by
  refine (go_iload_n (m := 79) (pc := 76) (k := 1) (by decide +kernel) rfl).trans ?_
  refine (go_new (m := 79) (pc := 77) (o := 6) (x := 7) (ci := 0) (nf := 14) (by decide +kernel) rfl (by decide +kernel) (by decide) rfl).trans ?_
  refine (go_dup (m := 79) (pc := 80) (by decide +kernel) rfl).trans ?_
  exact go_spc (m := 79) (pc := 81) (o := 6) (x := 9) (y := 27) (kd := 6) (b := q0) (bs := []) (rs := [.ref q0, .int x_l1, v0]) (by decide +kernel) rfl rfl c_6_9 (Or.inr rfl) rfl rfl rfl (by decide +kernel) (by simp only [List.length_cons, List.length_nil]; decide) (Nat.le_of_ble_eq_true rfl)
theorem Two_init_84 (l0 : Value) (x_l1 : Int32) (a_s0 : Nat) (y1 : Int32) (a_s2 : Nat) (w : Wd) (I : MI) (L : ML) (P : MP) (h0 : inA w a_s0 10 y1) (h1 : w.1 a_s2 = some (0, 0)) : go 79 84 [l0, .int x_l1] [.ref a_s2, .int y1, .ref a_s0] w I L P = go 79 63 [(fix1 l0), .int (x_l1 + (nI 1))] [] w I L (updP P a_s0 (Int32.toNatClampNeg y1) (some a_s2)) := by
  refine (go_aast10 (m := 79) (pc := 84) (by decide +kernel) h0 h1).trans ?_
  refine (go_iinc (m := 79) (pc := 85) (k := 1) (n := 1) (x := x_l1) (v := x_l1 + (nI 1)) (ls' := [(fix1 l0), .int (x_l1 + (nI 1))]) (by decide +kernel) rfl (by rw [ic_1]) rfl).trans ?_
  refine (go_goto (m := 79) (pc := 88) (off := -25) (t := 63) (by decide +kernel) (by decide)).trans ?_
  rfl
theorem Two_init_91 (l0 : Value) (l1 : Value) (w : Wd) (I : MI) (L : ML) (P : MP)  : go 79 91 [l0, l1] [] w I L P = some (.inl none, w, I, L, P) := by
  exact go_retV (m := 79) (pc := 91) (by decide +kernel) rfl
theorem Two_init_E (this : Nat) (w : Wd) (I : MI) (L : ML) (P : MP) : call 79 [.ref this] w I L P = go 79 0 [.ref this, unk] [] w I L P := rfl
theorem Two_begin_0 (l0 : Value) (x_l1 : Int32) (l2 : Value) (w : Wd) (I : MI) (L : ML) (P : MP)  : go 80 0 [l0, .int x_l1, l2] [] w I L P = kC (call 110 [.int x_l1, .int (nI 1), .int (nI 3)] w I L P) (fun v w1 I1 L1 P1 => go 80 6 [l0, .int x_l1, l2] (v.toList ++ []) w1 I1 L1 P1) := by
  refine (go_iload_n (m := 80) (pc := 0) (k := 1) (by decide +kernel) rfl).trans ?_
  refine (go_ic (m := 80) (pc := 1) (n := 1) (by decide +kernel) ic_1).trans ?_
  refine (go_ic (m := 80) (pc := 2) (n := 3) (by decide +kernel) ic_3).trans ?_
  exact go_sta (m := 80) (pc := 3) (o := 6) (x := 37) (y := 110) (kd := 2) (as := [.int x_l1, .int (nI 1), .int (nI 3)]) (rs := []) (by decide +kernel) rfl rfl c_6_37 (Or.inl rfl) rfl rfl rfl (by decide +kernel) (by simp only [List.length_cons, List.length_nil]; decide) (Nat.le_of_ble_eq_true rfl)
theorem Two_begin_6 (a_l0 : Nat) (l1 : Value) (l2 : Value) (w : Wd) (I : MI) (L : ML) (P : MP) (h0 : w.1 a_l0 = some (6, 0)) : go 80 6 [.ref a_l0, l1, l2] [] w I L P = go 80 10 [.ref a_l0, l1, l2] [(va_rf (P a_l0 0))] w I L P := by
  refine (go_aload_n (m := 80) (pc := 6) (k := 0) (by decide +kernel) rfl).trans ?_
  refine (go_getR (m := 80) (pc := 7) (o := 6) (x := 10) (ci := 6) (k := 0) (by decide +kernel) rfl f_6_10 rfl h0).trans ?_
  rfl
theorem Two_begin_10 (l0 : Value) (l1 : Value) (l2 : Value) (a_s0 : Nat) (w : Wd) (I : MI) (L : ML) (P : MP) (h0 : w.1 a_s0 = some (0, 0)) : go 80 10 [l0, l1, l2] [.ref a_s0] w I L P = go 80 13 [l0, l1, l2] [(va_rf (P a_s0 5))] w I L P := by
  refine (go_getR (m := 80) (pc := 10) (o := 6) (x := 41) (ci := 0) (k := 5) (by decide +kernel) rfl f_6_41 rfl h0).trans ?_
  rfl
theorem Two_begin_13 (a_l0 : Nat) (l1 : Value) (l2 : Value) (a_s0 : Nat) (w : Wd) (I : MI) (L : ML) (P : MP) (h0 : w.1 a_s0 = some (5, 0)) (h1 : w.1 a_l0 = some (6, 0)) : go 80 13 [.ref a_l0, l1, l2] [.ref a_s0] w I L P = kC (call 116 [.ref a_l0] w I L P) (fun v w1 I1 L1 P1 => go 80 21 [.ref a_l0, (fix1 l1), .int (I a_s0 0)] (v.toList ++ []) w1 I1 L1 P1) := by
  refine (go_getI (m := 80) (pc := 13) (o := 6) (x := 45) (ci := 5) (k := 0) (by decide +kernel) rfl f_6_45 rfl h0).trans ?_
  refine (go_istore_n (m := 80) (pc := 16) (k := 2) (ls' := [.ref a_l0, (fix1 l1), .int (I a_s0 0)]) (by decide +kernel) (by simp only [List.length_cons, List.length_nil]; decide) rfl).trans ?_
  refine (go_aload_n (m := 80) (pc := 17) (k := 0) (by decide +kernel) rfl).trans ?_
  exact go_vir (m := 80) (pc := 18) (o := 6) (x := 50) (y := 116) (kd := 0) (b := a_l0) (bs := []) (rs := []) (by decide +kernel) rfl rfl c_6_50 (Or.inl rfl) rfl rfl rfl (by decide +kernel) (by simp only [List.length_cons, List.length_nil]; decide) (Nat.le_of_ble_eq_true rfl) h1
theorem Two_begin_21 (a_l0 : Nat) (l1 : Value) (l2 : Value) (w : Wd) (I : MI) (L : ML) (P : MP) (h0 : w.1 a_l0 = some (6, 0)) : go 80 21 [.ref a_l0, l1, l2] [] w I L P = go 80 25 [.ref a_l0, l1, l2] [(va_rf (P a_l0 0))] w I L P := by
  refine (go_aload_n (m := 80) (pc := 21) (k := 0) (by decide +kernel) rfl).trans ?_
  refine (go_getR (m := 80) (pc := 22) (o := 6) (x := 10) (ci := 6) (k := 0) (by decide +kernel) rfl f_6_10 rfl h0).trans ?_
  rfl
theorem Two_begin_25 (a_l0 : Nat) (l1 : Value) (l2 : Value) (v0 : Value) (w : Wd) (I : MI) (L : ML) (P : MP) (h0 : w.1 a_l0 = some (6, 0)) : go 80 25 [.ref a_l0, l1, l2] [v0] w I L P = go 80 29 [.ref a_l0, l1, l2] [(va_rf (P a_l0 2)), v0] w I L P := by
  refine (go_aload_n (m := 80) (pc := 25) (k := 0) (by decide +kernel) rfl).trans ?_
  refine (go_getR (m := 80) (pc := 26) (o := 6) (x := 19) (ci := 6) (k := 2) (by decide +kernel) rfl f_6_19 rfl h0).trans ?_
  rfl
theorem Two_begin_29_0 (l0 : Value) (l1 : Value) (l2 : Value) (a_s0 : Nat) (w : Wd) (I : MI) (L : ML) (P : MP) (h0 : w.1 a_s0 = some (0, 0)) : go 80 29 [l0, l1, l2] [.null, .ref a_s0] w I L P = kC (call 28 [.ref a_s0, .null] w I L P) (fun v w1 I1 L1 P1 => go 80 32 [l0, l1, l2] (v.toList ++ []) w1 I1 L1 P1) := by
  exact go_vir (m := 80) (pc := 29) (o := 6) (x := 53) (y := 28) (kd := 1) (b := a_s0) (bs := [.null]) (rs := []) (by decide +kernel) rfl rfl c_6_53 (Or.inr rfl) rfl rfl rfl (by decide +kernel) (by simp only [List.length_cons, List.length_nil]; decide) (Nat.le_of_ble_eq_true rfl) h0
theorem Two_begin_29_1 (l0 : Value) (l1 : Value) (l2 : Value) (a_s0 : Nat) (a_s1 : Nat) (w : Wd) (I : MI) (L : ML) (P : MP) (h0 : w.1 a_s0 = some (0, 0)) : go 80 29 [l0, l1, l2] [.ref a_s1, .ref a_s0] w I L P = kC (call 28 [.ref a_s0, .ref a_s1] w I L P) (fun v w1 I1 L1 P1 => go 80 32 [l0, l1, l2] (v.toList ++ []) w1 I1 L1 P1) := by
  exact go_vir (m := 80) (pc := 29) (o := 6) (x := 53) (y := 28) (kd := 1) (b := a_s0) (bs := [.ref a_s1]) (rs := []) (by decide +kernel) rfl rfl c_6_53 (Or.inr rfl) rfl rfl rfl (by decide +kernel) (by simp only [List.length_cons, List.length_nil]; decide) (Nat.le_of_ble_eq_true rfl) h0
theorem Two_begin_32 (a_l0 : Nat) (l1 : Value) (l2 : Value) (w : Wd) (I : MI) (L : ML) (P : MP) (h0 : w.1 a_l0 = some (6, 0)) : go 80 32 [.ref a_l0, l1, l2] [] w I L P = go 80 36 [.ref a_l0, l1, l2] [(va_rf (P a_l0 0))] w I L P := by
  refine (go_aload_n (m := 80) (pc := 32) (k := 0) (by decide +kernel) rfl).trans ?_
  refine (go_getR (m := 80) (pc := 33) (o := 6) (x := 10) (ci := 6) (k := 0) (by decide +kernel) rfl f_6_10 rfl h0).trans ?_
  rfl
theorem Two_begin_36 (l0 : Value) (x_l1 : Int32) (x_l2 : Int32) (a_s0 : Nat) (w : Wd) (I : MI) (L : ML) (P : MP) (h0 : w.1 a_s0 = some (0, 0)) : go 80 36 [l0, .int x_l1, .int x_l2] [.ref a_s0] w I L P = some (.inl (some (.int x_l2)), w, (updI I a_s0 1 x_l1), L, P) := by
  refine (go_iload_n (m := 80) (pc := 36) (k := 1) (by decide +kernel) rfl).trans ?_
  refine (go_putI (m := 80) (pc := 37) (o := 6) (x := 57) (ci := 0) (k := 1) (by decide +kernel) rfl f_6_57 rfl (by decide +kernel) h0).trans ?_
  refine (go_iload_n (m := 80) (pc := 40) (k := 2) (by decide +kernel) rfl).trans ?_
  exact go_retI (m := 80) (pc := 41) (by decide +kernel) rfl
theorem Two_begin_E (this : Nat) (p0 : Int32) (w : Wd) (I : MI) (L : ML) (P : MP) : call 80 [.ref this, .int p0] w I L P = go 80 0 [.ref this, .int p0, unk] [] w I L P := rfl
theorem Two_addListener_0 (l0 : Value) (x_l1 : Int32) (l2 : Value) (w : Wd) (I : MI) (L : ML) (P : MP)  : go 81 0 [l0, .int x_l1, l2] [] w I L P = kC (call 110 [.int x_l1, .int (nI 0), .int (nI 127)] w I L P) (fun v w1 I1 L1 P1 => go 81 7 [l0, .int x_l1, l2] (v.toList ++ []) w1 I1 L1 P1) := by
  refine (go_iload_n (m := 81) (pc := 0) (k := 1) (by decide +kernel) rfl).trans ?_
  refine (go_ic (m := 81) (pc := 1) (n := 0) (by decide +kernel) ic_0).trans ?_
  refine (go_bi (m := 81) (pc := 2) (n := 127) (by decide +kernel) bi_127).trans ?_
  exact go_sta (m := 81) (pc := 4) (o := 6) (x := 37) (y := 110) (kd := 2) (as := [.int x_l1, .int (nI 0), .int (nI 127)]) (rs := []) (by decide +kernel) rfl rfl c_6_37 (Or.inl rfl) rfl rfl rfl (by decide +kernel) (by simp only [List.length_cons, List.length_nil]; decide) (Nat.le_of_ble_eq_true rfl)
theorem Two_addListener_7 (l0 : Value) (l1 : Value) (x_l2 : Int32) (w : Wd) (I : MI) (L : ML) (P : MP)  : go 81 7 [l0, l1, .int x_l2] [] w I L P = kC (call 110 [.int x_l2, .int (nI 0), .int (nI 9)] w I L P) (fun v w1 I1 L1 P1 => go 81 14 [l0, l1, .int x_l2] (v.toList ++ []) w1 I1 L1 P1) := by
  refine (go_iload_n (m := 81) (pc := 7) (k := 2) (by decide +kernel) rfl).trans ?_
  refine (go_ic (m := 81) (pc := 8) (n := 0) (by decide +kernel) ic_0).trans ?_
  refine (go_bi (m := 81) (pc := 9) (n := 9) (by decide +kernel) bi_9).trans ?_
  exact go_sta (m := 81) (pc := 11) (o := 6) (x := 37) (y := 110) (kd := 2) (as := [.int x_l2, .int (nI 0), .int (nI 9)]) (rs := []) (by decide +kernel) rfl rfl c_6_37 (Or.inl rfl) rfl rfl rfl (by decide +kernel) (by simp only [List.length_cons, List.length_nil]; decide) (Nat.le_of_ble_eq_true rfl)
theorem Two_addListener_14 (a_l0 : Nat) (l1 : Value) (l2 : Value) (w : Wd) (I : MI) (L : ML) (P : MP) (h0 : w.1 a_l0 = some (6, 0)) : go 81 14 [.ref a_l0, l1, l2] [] w I L P = go 81 18 [.ref a_l0, l1, l2] [(va_rf (P a_l0 0))] w I L P := by
  refine (go_aload_n (m := 81) (pc := 14) (k := 0) (by decide +kernel) rfl).trans ?_
  refine (go_getR (m := 81) (pc := 15) (o := 6) (x := 10) (ci := 6) (k := 0) (by decide +kernel) rfl f_6_10 rfl h0).trans ?_
  rfl
theorem Two_addListener_18 (l0 : Value) (l1 : Value) (l2 : Value) (a_s0 : Nat) (w : Wd) (I : MI) (L : ML) (P : MP) (h0 : w.1 a_s0 = some (0, 0)) : go 81 18 [l0, l1, l2] [.ref a_s0] w I L P = if (I a_s0 3) < (nI 6) then go 81 36 [l0, l1, l2] [] w I L P else go 81 26 [l0, l1, l2] [] w I L P := by
  refine (go_getI (m := 81) (pc := 18) (o := 6) (x := 60) (ci := 0) (k := 3) (by decide +kernel) rfl f_6_60 rfl h0).trans ?_
  refine (go_bi (m := 81) (pc := 21) (n := 6) (by decide +kernel) bi_6).trans ?_
  exact go_icmplt (m := 81) (pc := 23) (off := 13) (t := 36) (by decide +kernel) (by decide)
theorem Two_addListener_26 (l0 : Value) (l1 : Value) (l2 : Value) (w : Wd) (I : MI) (L : ML) (P : MP)  : go 81 26 [l0, l1, l2] [] w I L P = some (.inr 1, thrT w, I, L, P) := by
  exact go_thr (m := 81) (pc := 26) (ik := 63) (is := 65) (x := 1) (e := 101) (by decide +kernel) rfl (by decide +kernel) rfl (by decide) (by decide +kernel) (by decide +kernel) (by decide +kernel) (by decide +kernel) (by decide +kernel) rfl (by decide +kernel) (by decide +kernel)
theorem Two_addListener_36 (a_l0 : Nat) (l1 : Value) (l2 : Value) (w : Wd) (I : MI) (L : ML) (P : MP) (h0 : w.1 a_l0 = some (6, 0)) : go 81 36 [.ref a_l0, l1, l2] [] w I L P = go 81 40 [.ref a_l0, l1, l2] [(va_rf (P a_l0 0))] w I L P := by
  refine (go_aload_n (m := 81) (pc := 36) (k := 0) (by decide +kernel) rfl).trans ?_
  refine (go_getR (m := 81) (pc := 37) (o := 6) (x := 10) (ci := 6) (k := 0) (by decide +kernel) rfl f_6_10 rfl h0).trans ?_
  rfl
theorem Two_addListener_40 (l0 : Value) (x_l1 : Int32) (l2 : Value) (a_s0 : Nat) (w : Wd) (I : MI) (L : ML) (P : MP) (h0 : w.1 a_s0 = some (0, 0)) : go 81 40 [l0, .int x_l1, l2] [.ref a_s0] w I L P = kC (call 34 [.ref a_s0, .int x_l1] w I L P) (fun v w1 I1 L1 P1 => go 81 44 [l0, .int x_l1, l2] (v.toList ++ []) w1 I1 L1 P1) := by
  refine (go_iload_n (m := 81) (pc := 40) (k := 1) (by decide +kernel) rfl).trans ?_
  exact go_vir (m := 81) (pc := 41) (o := 6) (x := 70) (y := 34) (kd := 1) (b := a_s0) (bs := [.int x_l1]) (rs := []) (by decide +kernel) rfl rfl c_6_70 (Or.inr rfl) rfl rfl rfl (by decide +kernel) (by simp only [List.length_cons, List.length_nil]; decide) (Nat.le_of_ble_eq_true rfl) h0
theorem Two_addListener_44 (l0 : Value) (l1 : Value) (l2 : Value) (y0 : Int32) (w : Wd) (I : MI) (L : ML) (P : MP)  : go 81 44 [l0, l1, l2] [.int y0] w I L P = if y0 = (-1) then go 81 58 [l0, l1, l2] [] w I L P else go 81 48 [l0, l1, l2] [] w I L P := by
  refine (go_ic (m := 81) (pc := 44) (n := -1) (by decide +kernel) ic_m1).trans ?_
  exact go_icmpeq (m := 81) (pc := 45) (off := 13) (t := 58) (by decide +kernel) (by decide)
theorem Two_addListener_48 (l0 : Value) (l1 : Value) (l2 : Value) (w : Wd) (I : MI) (L : ML) (P : MP)  : go 81 48 [l0, l1, l2] [] w I L P = some (.inr 1, thrT w, I, L, P) := by
  exact go_thr (m := 81) (pc := 48) (ik := 63) (is := 74) (x := 1) (e := 101) (by decide +kernel) rfl (by decide +kernel) rfl (by decide) (by decide +kernel) (by decide +kernel) (by decide +kernel) (by decide +kernel) (by decide +kernel) rfl (by decide +kernel) (by decide +kernel)
theorem Two_addListener_58 (a_l0 : Nat) (l1 : Value) (l2 : Value) (w : Wd) (I : MI) (L : ML) (P : MP) (h0 : w.1 a_l0 = some (6, 0)) : go 81 58 [.ref a_l0, l1, l2] [] w I L P = kC (call 116 [.ref a_l0] w I L P) (fun v w1 I1 L1 P1 => go 81 62 [.ref a_l0, l1, l2] (v.toList ++ []) w1 I1 L1 P1) := by
  refine (go_aload_n (m := 81) (pc := 58) (k := 0) (by decide +kernel) rfl).trans ?_
  exact go_vir (m := 81) (pc := 59) (o := 6) (x := 50) (y := 116) (kd := 0) (b := a_l0) (bs := []) (rs := []) (by decide +kernel) rfl rfl c_6_50 (Or.inl rfl) rfl rfl rfl (by decide +kernel) (by simp only [List.length_cons, List.length_nil]; decide) (Nat.le_of_ble_eq_true rfl) h0
theorem Two_addListener_62 (a_l0 : Nat) (l1 : Value) (l2 : Value) (w : Wd) (I : MI) (L : ML) (P : MP) (h0 : w.1 a_l0 = some (6, 0)) : go 81 62 [.ref a_l0, l1, l2] [] w I L P = go 81 66 [.ref a_l0, l1, l2] [(va_rf (P a_l0 0))] w I L P := by
  refine (go_aload_n (m := 81) (pc := 62) (k := 0) (by decide +kernel) rfl).trans ?_
  refine (go_getR (m := 81) (pc := 63) (o := 6) (x := 10) (ci := 6) (k := 0) (by decide +kernel) rfl f_6_10 rfl h0).trans ?_
  rfl
theorem Two_addListener_66 (l0 : Value) (x_l1 : Int32) (x_l2 : Int32) (a_s0 : Nat) (w : Wd) (I : MI) (L : ML) (P : MP) (h0 : w.1 a_s0 = some (0, 0)) : go 81 66 [l0, .int x_l1, .int x_l2] [.ref a_s0] w I L P = kC (call 36 [.ref a_s0, .int x_l1, .int x_l2] w I L P) (fun v w1 I1 L1 P1 => go 81 71 [l0, .int x_l1, .int x_l2] (v.toList ++ []) w1 I1 L1 P1) := by
  refine (go_iload_n (m := 81) (pc := 66) (k := 1) (by decide +kernel) rfl).trans ?_
  refine (go_iload_n (m := 81) (pc := 67) (k := 2) (by decide +kernel) rfl).trans ?_
  exact go_vir (m := 81) (pc := 68) (o := 6) (x := 76) (y := 36) (kd := 1) (b := a_s0) (bs := [.int x_l1, .int x_l2]) (rs := []) (by decide +kernel) rfl rfl c_6_76 (Or.inr rfl) rfl rfl rfl (by decide +kernel) (by simp only [List.length_cons, List.length_nil]; decide) (Nat.le_of_ble_eq_true rfl) h0
theorem Two_addListener_71 (l0 : Value) (l1 : Value) (l2 : Value) (y0 : Int32) (w : Wd) (I : MI) (L : ML) (P : MP)  : go 81 71 [l0, l1, l2] [.int y0] w I L P = some (.inl (some (.int y0)), w, I, L, P) := by
  exact go_retI (m := 81) (pc := 71) (by decide +kernel) rfl
theorem Two_addListener_E (this : Nat) (p0 : Int32) (p1 : Int32) (w : Wd) (I : MI) (L : ML) (P : MP) : call 81 [.ref this, .int p0, .int p1] w I L P = go 81 0 [.ref this, .int p0, .int p1] [] w I L P := rfl
theorem Two_turn_0 (a_l0 : Nat) (x_l1 : Int32) (l2 : Value) (l3 : Value) (w : Wd) (I : MI) (L : ML) (P : MP) (h0 : w.1 a_l0 = some (6, 0)) : go 82 0 [.ref a_l0, .int x_l1, l2, l3] [] w I L P = kC (call 112 [.ref a_l0, .int x_l1] w I L P) (fun v w1 I1 L1 P1 => go 82 5 [.ref a_l0, .int x_l1, l2, l3] (v.toList ++ []) w1 I1 L1 P1) := by
  refine (go_aload_n (m := 82) (pc := 0) (k := 0) (by decide +kernel) rfl).trans ?_
  refine (go_iload_n (m := 82) (pc := 1) (k := 1) (by decide +kernel) rfl).trans ?_
  exact go_vir (m := 82) (pc := 2) (o := 6) (x := 80) (y := 112) (kd := 0) (b := a_l0) (bs := [.int x_l1]) (rs := []) (by decide +kernel) rfl rfl c_6_80 (Or.inl rfl) rfl rfl rfl (by decide +kernel) (by simp only [List.length_cons, List.length_nil]; decide) (Nat.le_of_ble_eq_true rfl) h0
theorem Two_turn_5 (l0 : Value) (l1 : Value) (x_l2 : Int32) (l3 : Value) (a_s0 : Nat) (w : Wd) (I : MI) (L : ML) (P : MP) (h0 : w.1 a_s0 = some (2, 0)) : go 82 5 [l0, l1, .int x_l2, l3] [.ref a_s0] w I L P = if (I a_s0 2 &&& 1) ≠ x_l2 then go 82 24 [l0, l1, .int x_l2, .ref a_s0] [] w I L P else go 82 14 [l0, l1, .int x_l2, .ref a_s0] [] w I L P := by
  refine (go_astore_n (m := 82) (pc := 5) (k := 3) (ls' := [l0, l1, .int x_l2, .ref a_s0]) (by decide +kernel) (by simp only [List.length_cons, List.length_nil]; decide) rfl).trans ?_
  refine (go_aload_n (m := 82) (pc := 6) (k := 3) (by decide +kernel) rfl).trans ?_
  refine (go_getZ (m := 82) (pc := 7) (o := 6) (x := 84) (ci := 2) (k := 2) (by decide +kernel) rfl f_6_84 rfl h0).trans ?_
  refine (go_iload_n (m := 82) (pc := 10) (k := 2) (by decide +kernel) rfl).trans ?_
  exact go_icmpne (m := 82) (pc := 11) (off := 13) (t := 24) (by decide +kernel) (by decide)
theorem Two_turn_14 (l0 : Value) (l1 : Value) (l2 : Value) (l3 : Value) (w : Wd) (I : MI) (L : ML) (P : MP)  : go 82 14 [l0, l1, l2, l3] [] w I L P = some (.inr 1, thrT w, I, L, P) := by
  exact go_thr (m := 82) (pc := 14) (ik := 63) (is := 90) (x := 1) (e := 101) (by decide +kernel) rfl (by decide +kernel) rfl (by decide) (by decide +kernel) (by decide +kernel) (by decide +kernel) (by decide +kernel) (by decide +kernel) rfl (by decide +kernel) (by decide +kernel)
theorem Two_turn_24 (a_l0 : Nat) (l1 : Value) (l2 : Value) (l3 : Value) (w : Wd) (I : MI) (L : ML) (P : MP) (h0 : w.1 a_l0 = some (6, 0)) : go 82 24 [.ref a_l0, l1, l2, l3] [] w I L P = kC (call 116 [.ref a_l0] w I L P) (fun v w1 I1 L1 P1 => go 82 28 [.ref a_l0, l1, l2, l3] (v.toList ++ []) w1 I1 L1 P1) := by
  refine (go_aload_n (m := 82) (pc := 24) (k := 0) (by decide +kernel) rfl).trans ?_
  exact go_vir (m := 82) (pc := 25) (o := 6) (x := 50) (y := 116) (kd := 0) (b := a_l0) (bs := []) (rs := []) (by decide +kernel) rfl rfl c_6_50 (Or.inl rfl) rfl rfl rfl (by decide +kernel) (by simp only [List.length_cons, List.length_nil]; decide) (Nat.le_of_ble_eq_true rfl) h0
theorem Two_turn_28 (a_l0 : Nat) (l1 : Value) (x_l2 : Int32) (a_l3 : Nat) (w : Wd) (I : MI) (L : ML) (P : MP) (h0 : w.1 a_l3 = some (2, 0)) (h1 : x_l2 &&& 1 = x_l2) (h2 : w.1 a_l0 = some (6, 0)) : go 82 28 [.ref a_l0, l1, .int x_l2, .ref a_l3] [] w I L P = go 82 37 [.ref a_l0, l1, .int x_l2, .ref a_l3] [(va_rf (P a_l0 0))] w (updI I a_l3 2 x_l2) L P := by
  refine (go_aload_n (m := 82) (pc := 28) (k := 3) (by decide +kernel) rfl).trans ?_
  refine (go_iload_n (m := 82) (pc := 29) (k := 2) (by decide +kernel) rfl).trans ?_
  refine (go_putZ (m := 82) (pc := 30) (o := 6) (x := 84) (ci := 2) (k := 2) (by decide +kernel) rfl f_6_84 rfl (by decide +kernel) h1 h0).trans ?_
  refine (go_aload_n (m := 82) (pc := 33) (k := 0) (by decide +kernel) rfl).trans ?_
  refine (go_getR (m := 82) (pc := 34) (o := 6) (x := 10) (ci := 6) (k := 0) (by decide +kernel) rfl f_6_10 rfl h2).trans ?_
  rfl
theorem Two_turn_37 (l0 : Value) (l1 : Value) (l2 : Value) (l3 : Value) (a_s0 : Nat) (w : Wd) (I : MI) (L : ML) (P : MP) (h0 : w.1 a_s0 = some (0, 0)) : go 82 37 [l0, l1, l2, l3] [.ref a_s0] w I L P = kC (call 37 [.ref a_s0] w I L P) (fun v w1 I1 L1 P1 => go 82 40 [l0, l1, l2, l3] (v.toList ++ []) w1 I1 L1 P1) := by
  exact go_vir (m := 82) (pc := 37) (o := 6) (x := 92) (y := 37) (kd := 1) (b := a_s0) (bs := []) (rs := []) (by decide +kernel) rfl rfl c_6_92 (Or.inr rfl) rfl rfl rfl (by decide +kernel) (by simp only [List.length_cons, List.length_nil]; decide) (Nat.le_of_ble_eq_true rfl) h0
theorem Two_turn_40 (l0 : Value) (l1 : Value) (l2 : Value) (l3 : Value) (y0 : Int32) (w : Wd) (I : MI) (L : ML) (P : MP)  : go 82 40 [l0, l1, l2, l3] [.int y0] w I L P = some (.inl (some (.int y0)), w, I, L, P) := by
  exact go_retI (m := 82) (pc := 40) (by decide +kernel) rfl
theorem Two_turn_E (this : Nat) (p0 : Int32) (p1 : Int32) (w : Wd) (I : MI) (L : ML) (P : MP) : call 82 [.ref this, .int p0, .int p1] w I L P = go 82 0 [.ref this, .int p0, .int p1, unk] [] w I L P := rfl
theorem Two_empty_0 (a_l0 : Nat) (x_l1 : Int32) (l2 : Value) (w : Wd) (I : MI) (L : ML) (P : MP) (h0 : w.1 a_l0 = some (6, 0)) : go 83 0 [.ref a_l0, .int x_l1, l2] [] w I L P = kC (call 112 [.ref a_l0, .int x_l1] w I L P) (fun v w1 I1 L1 P1 => go 83 5 [.ref a_l0, .int x_l1, l2] (v.toList ++ []) w1 I1 L1 P1) := by
  refine (go_aload_n (m := 83) (pc := 0) (k := 0) (by decide +kernel) rfl).trans ?_
  refine (go_iload_n (m := 83) (pc := 1) (k := 1) (by decide +kernel) rfl).trans ?_
  exact go_vir (m := 83) (pc := 2) (o := 6) (x := 80) (y := 112) (kd := 0) (b := a_l0) (bs := [.int x_l1]) (rs := []) (by decide +kernel) rfl rfl c_6_80 (Or.inl rfl) rfl rfl rfl (by decide +kernel) (by simp only [List.length_cons, List.length_nil]; decide) (Nat.le_of_ble_eq_true rfl) h0
theorem Two_empty_5_0 (a_l0 : Nat) (l1 : Value) (l2 : Value) (w : Wd) (I : MI) (L : ML) (P : MP) (h0 : w.1 a_l0 = some (6, 0)) : go 83 5 [.ref a_l0, l1, l2] [.null] w I L P = kC (call 116 [.ref a_l0] w I L P) (fun v w1 I1 L1 P1 => go 83 10 [.ref a_l0, (fix1 l1), .null] (v.toList ++ []) w1 I1 L1 P1) := by
  refine (go_astore_nN (m := 83) (pc := 5) (k := 2) (ls' := [.ref a_l0, (fix1 l1), .null]) (by decide +kernel) (by simp only [List.length_cons, List.length_nil]; decide) rfl).trans ?_
  refine (go_aload_n (m := 83) (pc := 6) (k := 0) (by decide +kernel) rfl).trans ?_
  exact go_vir (m := 83) (pc := 7) (o := 6) (x := 50) (y := 116) (kd := 0) (b := a_l0) (bs := []) (rs := []) (by decide +kernel) rfl rfl c_6_50 (Or.inl rfl) rfl rfl rfl (by decide +kernel) (by simp only [List.length_cons, List.length_nil]; decide) (Nat.le_of_ble_eq_true rfl) h0
theorem Two_empty_5_1 (a_l0 : Nat) (l1 : Value) (l2 : Value) (a_s0 : Nat) (w : Wd) (I : MI) (L : ML) (P : MP) (h0 : w.1 a_l0 = some (6, 0)) : go 83 5 [.ref a_l0, l1, l2] [.ref a_s0] w I L P = kC (call 116 [.ref a_l0] w I L P) (fun v w1 I1 L1 P1 => go 83 10 [.ref a_l0, (fix1 l1), .ref a_s0] (v.toList ++ []) w1 I1 L1 P1) := by
  refine (go_astore_n (m := 83) (pc := 5) (k := 2) (ls' := [.ref a_l0, (fix1 l1), .ref a_s0]) (by decide +kernel) (by simp only [List.length_cons, List.length_nil]; decide) rfl).trans ?_
  refine (go_aload_n (m := 83) (pc := 6) (k := 0) (by decide +kernel) rfl).trans ?_
  exact go_vir (m := 83) (pc := 7) (o := 6) (x := 50) (y := 116) (kd := 0) (b := a_l0) (bs := []) (rs := []) (by decide +kernel) rfl rfl c_6_50 (Or.inl rfl) rfl rfl rfl (by decide +kernel) (by simp only [List.length_cons, List.length_nil]; decide) (Nat.le_of_ble_eq_true rfl) h0
theorem Two_empty_10 (l0 : Value) (l1 : Value) (a_l2 : Nat) (w : Wd) (I : MI) (L : ML) (P : MP) (h0 : w.1 a_l2 = some (2, 0)) : go 83 10 [l0, l1, .ref a_l2] [] w I L P = kC (call 16 [.ref a_l2] w I L P) (fun v w1 I1 L1 P1 => go 83 14 [l0, l1, .ref a_l2] (v.toList ++ []) w1 I1 L1 P1) := by
  refine (go_aload_n (m := 83) (pc := 10) (k := 2) (by decide +kernel) rfl).trans ?_
  exact go_vir (m := 83) (pc := 11) (o := 6) (x := 96) (y := 16) (kd := 1) (b := a_l2) (bs := []) (rs := []) (by decide +kernel) rfl rfl c_6_96 (Or.inr rfl) rfl rfl rfl (by decide +kernel) (by simp only [List.length_cons, List.length_nil]; decide) (Nat.le_of_ble_eq_true rfl) h0
theorem Two_empty_14 (l0 : Value) (l1 : Value) (l2 : Value) (y0 : Int32) (w : Wd) (I : MI) (L : ML) (P : MP)  : go 83 14 [l0, l1, l2] [.int y0] w I L P = some (.inl (some (.int y0)), w, I, L, P) := by
  exact go_retI (m := 83) (pc := 14) (by decide +kernel) rfl
theorem Two_empty_E (this : Nat) (p0 : Int32) (w : Wd) (I : MI) (L : ML) (P : MP) : call 83 [.ref this, .int p0] w I L P = go 83 0 [.ref this, .int p0, unk] [] w I L P := rfl
theorem Two_setLimit_0 (l0 : Value) (x_l1 : Int32) (l2 : Value) (w : Wd) (I : MI) (L : ML) (P : MP)  : go 84 0 [l0, .int x_l1, l2] [] w I L P = kC (call 110 [.int x_l1, .int (nI 1), .int (nI 9)] w I L P) (fun v w1 I1 L1 P1 => go 84 7 [l0, .int x_l1, l2] (v.toList ++ []) w1 I1 L1 P1) := by
  refine (go_iload_n (m := 84) (pc := 0) (k := 1) (by decide +kernel) rfl).trans ?_
  refine (go_ic (m := 84) (pc := 1) (n := 1) (by decide +kernel) ic_1).trans ?_
  refine (go_bi (m := 84) (pc := 2) (n := 9) (by decide +kernel) bi_9).trans ?_
  exact go_sta (m := 84) (pc := 4) (o := 6) (x := 37) (y := 110) (kd := 2) (as := [.int x_l1, .int (nI 1), .int (nI 9)]) (rs := []) (by decide +kernel) rfl rfl c_6_37 (Or.inl rfl) rfl rfl rfl (by decide +kernel) (by simp only [List.length_cons, List.length_nil]; decide) (Nat.le_of_ble_eq_true rfl)
theorem Two_setLimit_7 (a_l0 : Nat) (l1 : Value) (l2 : Value) (w : Wd) (I : MI) (L : ML) (P : MP) (h0 : w.1 a_l0 = some (6, 0)) : go 84 7 [.ref a_l0, l1, l2] [] w I L P = go 84 11 [.ref a_l0, l1, l2] [(va_rf (P a_l0 0))] w I L P := by
  refine (go_aload_n (m := 84) (pc := 7) (k := 0) (by decide +kernel) rfl).trans ?_
  refine (go_getR (m := 84) (pc := 8) (o := 6) (x := 10) (ci := 6) (k := 0) (by decide +kernel) rfl f_6_10 rfl h0).trans ?_
  rfl
theorem Two_setLimit_11 (a_l0 : Nat) (l1 : Value) (l2 : Value) (a_s0 : Nat) (w : Wd) (I : MI) (L : ML) (P : MP) (h0 : w.1 a_s0 = some (0, 0)) (h1 : w.1 a_l0 = some (6, 0)) : go 84 11 [.ref a_l0, l1, l2] [.ref a_s0] w I L P = kC (call 116 [.ref a_l0] w I L P) (fun v w1 I1 L1 P1 => go 84 19 [.ref a_l0, (fix1 l1), .int (I a_s0 4)] (v.toList ++ []) w1 I1 L1 P1) := by
  refine (go_getI (m := 84) (pc := 11) (o := 6) (x := 99) (ci := 0) (k := 4) (by decide +kernel) rfl f_6_99 rfl h0).trans ?_
  refine (go_istore_n (m := 84) (pc := 14) (k := 2) (ls' := [.ref a_l0, (fix1 l1), .int (I a_s0 4)]) (by decide +kernel) (by simp only [List.length_cons, List.length_nil]; decide) rfl).trans ?_
  refine (go_aload_n (m := 84) (pc := 15) (k := 0) (by decide +kernel) rfl).trans ?_
  exact go_vir (m := 84) (pc := 16) (o := 6) (x := 50) (y := 116) (kd := 0) (b := a_l0) (bs := []) (rs := []) (by decide +kernel) rfl rfl c_6_50 (Or.inl rfl) rfl rfl rfl (by decide +kernel) (by simp only [List.length_cons, List.length_nil]; decide) (Nat.le_of_ble_eq_true rfl) h1
theorem Two_setLimit_19 (a_l0 : Nat) (l1 : Value) (l2 : Value) (w : Wd) (I : MI) (L : ML) (P : MP) (h0 : w.1 a_l0 = some (6, 0)) : go 84 19 [.ref a_l0, l1, l2] [] w I L P = go 84 23 [.ref a_l0, l1, l2] [(va_rf (P a_l0 0))] w I L P := by
  refine (go_aload_n (m := 84) (pc := 19) (k := 0) (by decide +kernel) rfl).trans ?_
  refine (go_getR (m := 84) (pc := 20) (o := 6) (x := 10) (ci := 6) (k := 0) (by decide +kernel) rfl f_6_10 rfl h0).trans ?_
  rfl
theorem Two_setLimit_23 (l0 : Value) (x_l1 : Int32) (x_l2 : Int32) (a_s0 : Nat) (w : Wd) (I : MI) (L : ML) (P : MP) (h0 : w.1 a_s0 = some (0, 0)) : go 84 23 [l0, .int x_l1, .int x_l2] [.ref a_s0] w I L P = some (.inl (some (.int x_l2)), w, (updI I a_s0 4 x_l1), L, P) := by
  refine (go_iload_n (m := 84) (pc := 23) (k := 1) (by decide +kernel) rfl).trans ?_
  refine (go_putI (m := 84) (pc := 24) (o := 6) (x := 99) (ci := 0) (k := 4) (by decide +kernel) rfl f_6_99 rfl (by decide +kernel) h0).trans ?_
  refine (go_iload_n (m := 84) (pc := 27) (k := 2) (by decide +kernel) rfl).trans ?_
  exact go_retI (m := 84) (pc := 28) (by decide +kernel) rfl
theorem Two_setLimit_E (this : Nat) (p0 : Int32) (w : Wd) (I : MI) (L : ML) (P : MP) : call 84 [.ref this, .int p0] w I L P = go 84 0 [.ref this, .int p0, unk] [] w I L P := rfl
theorem Two_write_0 (a_l0 : Nat) (x_l1 : Int32) (l2 : Value) (l3 : Value) (l4 : Value) (l5 : Value) (l6 : Value) (w : Wd) (I : MI) (L : ML) (P : MP) (h0 : w.1 a_l0 = some (6, 0)) : go 85 0 [.ref a_l0, .int x_l1, l2, l3, l4, l5, l6] [] w I L P = kC (call 111 [.ref a_l0, .int x_l1] w I L P) (fun v w1 I1 L1 P1 => go 85 5 [.ref a_l0, .int x_l1, l2, l3, l4, l5, l6] (v.toList ++ []) w1 I1 L1 P1) := by
  refine (go_aload_n (m := 85) (pc := 0) (k := 0) (by decide +kernel) rfl).trans ?_
  refine (go_iload_n (m := 85) (pc := 1) (k := 1) (by decide +kernel) rfl).trans ?_
  exact go_vir (m := 85) (pc := 2) (o := 6) (x := 102) (y := 111) (kd := 0) (b := a_l0) (bs := [.int x_l1]) (rs := []) (by decide +kernel) rfl rfl c_6_102 (Or.inl rfl) rfl rfl rfl (by decide +kernel) (by simp only [List.length_cons, List.length_nil]; decide) (Nat.le_of_ble_eq_true rfl) h0
theorem Two_write_5_0 (l0 : Value) (l1 : Value) (x_l2 : Int32) (l3 : Value) (l4 : Value) (l5 : Value) (l6 : Value) (w : Wd) (I : MI) (L : ML) (P : MP)  : go 85 5 [l0, l1, .int x_l2, l3, l4, l5, l6] [.null] w I L P = kC (call 110 [.int x_l2, .int (nI 0), .int (nI 127)] w I L P) (fun v w1 I1 L1 P1 => go 85 14 [l0, l1, .int x_l2, l3, l4, (fix1 l5), .null] (v.toList ++ []) w1 I1 L1 P1) := by
  refine (go_astoreN (m := 85) (pc := 5) (k := 6) (ls' := [l0, l1, .int x_l2, l3, l4, (fix1 l5), .null]) (by decide +kernel) (by simp only [List.length_cons, List.length_nil]; decide) rfl).trans ?_
  refine (go_iload_n (m := 85) (pc := 7) (k := 2) (by decide +kernel) rfl).trans ?_
  refine (go_ic (m := 85) (pc := 8) (n := 0) (by decide +kernel) ic_0).trans ?_
  refine (go_bi (m := 85) (pc := 9) (n := 127) (by decide +kernel) bi_127).trans ?_
  exact go_sta (m := 85) (pc := 11) (o := 6) (x := 37) (y := 110) (kd := 2) (as := [.int x_l2, .int (nI 0), .int (nI 127)]) (rs := []) (by decide +kernel) rfl rfl c_6_37 (Or.inl rfl) rfl rfl rfl (by decide +kernel) (by simp only [List.length_cons, List.length_nil]; decide) (Nat.le_of_ble_eq_true rfl)
theorem Two_write_5_1 (l0 : Value) (l1 : Value) (x_l2 : Int32) (l3 : Value) (l4 : Value) (l5 : Value) (l6 : Value) (a_s0 : Nat) (w : Wd) (I : MI) (L : ML) (P : MP)  : go 85 5 [l0, l1, .int x_l2, l3, l4, l5, l6] [.ref a_s0] w I L P = kC (call 110 [.int x_l2, .int (nI 0), .int (nI 127)] w I L P) (fun v w1 I1 L1 P1 => go 85 14 [l0, l1, .int x_l2, l3, l4, (fix1 l5), .ref a_s0] (v.toList ++ []) w1 I1 L1 P1) := by
  refine (go_astore (m := 85) (pc := 5) (k := 6) (ls' := [l0, l1, .int x_l2, l3, l4, (fix1 l5), .ref a_s0]) (by decide +kernel) (by simp only [List.length_cons, List.length_nil]; decide) rfl).trans ?_
  refine (go_iload_n (m := 85) (pc := 7) (k := 2) (by decide +kernel) rfl).trans ?_
  refine (go_ic (m := 85) (pc := 8) (n := 0) (by decide +kernel) ic_0).trans ?_
  refine (go_bi (m := 85) (pc := 9) (n := 127) (by decide +kernel) bi_127).trans ?_
  exact go_sta (m := 85) (pc := 11) (o := 6) (x := 37) (y := 110) (kd := 2) (as := [.int x_l2, .int (nI 0), .int (nI 127)]) (rs := []) (by decide +kernel) rfl rfl c_6_37 (Or.inl rfl) rfl rfl rfl (by decide +kernel) (by simp only [List.length_cons, List.length_nil]; decide) (Nat.le_of_ble_eq_true rfl)
theorem Two_write_14 (l0 : Value) (l1 : Value) (l2 : Value) (x_l3 : Int32) (l4 : Value) (l5 : Value) (l6 : Value) (w : Wd) (I : MI) (L : ML) (P : MP)  : go 85 14 [l0, l1, l2, .int x_l3, l4, l5, l6] [] w I L P = kC (call 110 [.int x_l3, .int (nI 1), .int (nI 4)] w I L P) (fun v w1 I1 L1 P1 => go 85 20 [l0, l1, l2, .int x_l3, l4, l5, l6] (v.toList ++ []) w1 I1 L1 P1) := by
  refine (go_iload_n (m := 85) (pc := 14) (k := 3) (by decide +kernel) rfl).trans ?_
  refine (go_ic (m := 85) (pc := 15) (n := 1) (by decide +kernel) ic_1).trans ?_
  refine (go_ic (m := 85) (pc := 16) (n := 4) (by decide +kernel) ic_4).trans ?_
  exact go_sta (m := 85) (pc := 17) (o := 6) (x := 37) (y := 110) (kd := 2) (as := [.int x_l3, .int (nI 1), .int (nI 4)]) (rs := []) (by decide +kernel) rfl rfl c_6_37 (Or.inl rfl) rfl rfl rfl (by decide +kernel) (by simp only [List.length_cons, List.length_nil]; decide) (Nat.le_of_ble_eq_true rfl)
theorem Two_write_20 (l0 : Value) (l1 : Value) (l2 : Value) (l3 : Value) (x_l4 : Int64) (l5 : Value) (l6 : Value) (w : Wd) (I : MI) (L : ML) (P : MP)  : go 85 20 [l0, l1, l2, l3, .long x_l4, l5, l6] [] w I L P = if (lg_cmp x_l4 0) < 0 then go 85 39 [l0, l1, l2, l3, .long x_l4, l5, l6] [] w I L P else go 85 27 [l0, l1, l2, l3, .long x_l4, l5, l6] [] w I L P := by
  refine (go_lload (m := 85) (pc := 20) (k := 4) (by decide +kernel) rfl).trans ?_
  refine (go_lc (m := 85) (pc := 22) (n := 0) (v := 0) (by decide +kernel) rfl).trans ?_
  refine (go_lcmp (m := 85) (pc := 23) (by decide +kernel)).trans ?_
  exact go_iflt (m := 85) (pc := 24) (off := 15) (t := 39) (by decide +kernel) (by decide)
theorem Two_write_27 (l0 : Value) (l1 : Value) (l2 : Value) (x_l3 : Int32) (x_l4 : Int64) (l5 : Value) (l6 : Value) (w : Wd) (I : MI) (L : ML) (P : MP)  : go 85 27 [l0, l1, l2, .int x_l3, .long x_l4, l5, l6] [] w I L P = if (lg_cmp x_l4 (1 <<< (Int32.toInt64 ((nI 8) * x_l3) &&& 63))) < 0 then go 85 49 [l0, l1, l2, .int x_l3, .long x_l4, l5, l6] [] w I L P else go 85 39 [l0, l1, l2, .int x_l3, .long x_l4, l5, l6] [] w I L P := by
  refine (go_lload (m := 85) (pc := 27) (k := 4) (by decide +kernel) rfl).trans ?_
  refine (go_lc (m := 85) (pc := 29) (n := 1) (v := 1) (by decide +kernel) rfl).trans ?_
  refine (go_bi (m := 85) (pc := 30) (n := 8) (by decide +kernel) bi_8).trans ?_
  refine (go_iload_n (m := 85) (pc := 32) (k := 3) (by decide +kernel) rfl).trans ?_
  refine (go_imul (m := 85) (pc := 33) (by decide +kernel)).trans ?_
  refine (go_lshl (m := 85) (pc := 34) (by decide +kernel)).trans ?_
  refine (go_lcmp (m := 85) (pc := 35) (by decide +kernel)).trans ?_
  exact go_iflt (m := 85) (pc := 36) (off := 13) (t := 49) (by decide +kernel) (by decide)
theorem Two_write_39 (l0 : Value) (l1 : Value) (l2 : Value) (l3 : Value) (l4 : Value) (l5 : Value) (l6 : Value) (w : Wd) (I : MI) (L : ML) (P : MP)  : go 85 39 [l0, l1, l2, l3, l4, l5, l6] [] w I L P = some (.inr 0, thrT w, I, L, P) := by
  exact go_thr (m := 85) (pc := 39) (ik := 106) (is := 108) (x := 0) (e := 100) (by decide +kernel) rfl (by decide +kernel) rfl (by decide) (by decide +kernel) (by decide +kernel) (by decide +kernel) (by decide +kernel) (by decide +kernel) rfl (by decide +kernel) (by decide +kernel)
theorem Two_write_49_0 (a_l0 : Nat) (l1 : Value) (x_l2 : Int32) (x_l3 : Int32) (x_l4 : Int64) (l5 : Value) (w : Wd) (I : MI) (L : ML) (P : MP) (h0 : w.1 a_l0 = some (6, 0)) : go 85 49 [.ref a_l0, l1, .int x_l2, .int x_l3, .long x_l4, l5, .null] [] w I L P = kC (call 113 [.ref a_l0, .null, .int (nI 0), .int x_l2, .int x_l3, .long x_l4] w I L P) (fun v w1 I1 L1 P1 => go 85 60 [.ref a_l0, l1, .int x_l2, .int x_l3, .long x_l4, l5, .null] (v.toList ++ []) w1 I1 L1 P1) := by
  refine (go_aload_n (m := 85) (pc := 49) (k := 0) (by decide +kernel) rfl).trans ?_
  refine (go_aloadN (m := 85) (pc := 50) (k := 6) (by decide +kernel) rfl).trans ?_
  refine (go_ic (m := 85) (pc := 52) (n := 0) (by decide +kernel) ic_0).trans ?_
  refine (go_iload_n (m := 85) (pc := 53) (k := 2) (by decide +kernel) rfl).trans ?_
  refine (go_iload_n (m := 85) (pc := 54) (k := 3) (by decide +kernel) rfl).trans ?_
  refine (go_lload (m := 85) (pc := 55) (k := 4) (by decide +kernel) rfl).trans ?_
  exact go_vir (m := 85) (pc := 57) (o := 6) (x := 111) (y := 113) (kd := 0) (b := a_l0) (bs := [.null, .int (nI 0), .int x_l2, .int x_l3, .long x_l4]) (rs := []) (by decide +kernel) rfl rfl c_6_111 (Or.inl rfl) rfl rfl rfl (by decide +kernel) (by simp only [List.length_cons, List.length_nil]; decide) (Nat.le_of_ble_eq_true rfl) h0
theorem Two_write_49_1 (a_l0 : Nat) (l1 : Value) (x_l2 : Int32) (x_l3 : Int32) (x_l4 : Int64) (l5 : Value) (a_l6 : Nat) (w : Wd) (I : MI) (L : ML) (P : MP) (h0 : w.1 a_l0 = some (6, 0)) : go 85 49 [.ref a_l0, l1, .int x_l2, .int x_l3, .long x_l4, l5, .ref a_l6] [] w I L P = kC (call 113 [.ref a_l0, .ref a_l6, .int (nI 0), .int x_l2, .int x_l3, .long x_l4] w I L P) (fun v w1 I1 L1 P1 => go 85 60 [.ref a_l0, l1, .int x_l2, .int x_l3, .long x_l4, l5, .ref a_l6] (v.toList ++ []) w1 I1 L1 P1) := by
  refine (go_aload_n (m := 85) (pc := 49) (k := 0) (by decide +kernel) rfl).trans ?_
  refine (go_aload (m := 85) (pc := 50) (k := 6) (by decide +kernel) rfl).trans ?_
  refine (go_ic (m := 85) (pc := 52) (n := 0) (by decide +kernel) ic_0).trans ?_
  refine (go_iload_n (m := 85) (pc := 53) (k := 2) (by decide +kernel) rfl).trans ?_
  refine (go_iload_n (m := 85) (pc := 54) (k := 3) (by decide +kernel) rfl).trans ?_
  refine (go_lload (m := 85) (pc := 55) (k := 4) (by decide +kernel) rfl).trans ?_
  exact go_vir (m := 85) (pc := 57) (o := 6) (x := 111) (y := 113) (kd := 0) (b := a_l0) (bs := [.ref a_l6, .int (nI 0), .int x_l2, .int x_l3, .long x_l4]) (rs := []) (by decide +kernel) rfl rfl c_6_111 (Or.inl rfl) rfl rfl rfl (by decide +kernel) (by simp only [List.length_cons, List.length_nil]; decide) (Nat.le_of_ble_eq_true rfl) h0
theorem Two_write_60 (l0 : Value) (l1 : Value) (l2 : Value) (l3 : Value) (l4 : Value) (l5 : Value) (l6 : Value) (y0 : Int32) (w : Wd) (I : MI) (L : ML) (P : MP)  : go 85 60 [l0, l1, l2, l3, l4, l5, l6] [.int y0] w I L P = some (.inl (some (.int y0)), w, I, L, P) := by
  exact go_retI (m := 85) (pc := 60) (by decide +kernel) rfl
theorem Two_write_E (this : Nat) (p0 : Int32) (p1 : Int32) (p2 : Int32) (p3 : Int64) (w : Wd) (I : MI) (L : ML) (P : MP) : call 85 [.ref this, .int p0, .int p1, .int p2, .long p3] w I L P = go 85 0 [.ref this, .int p0, .int p1, .int p2, .long p3, unk, unk] [] w I L P := rfl
theorem Two_read_0 (a_l0 : Nat) (x_l1 : Int32) (l2 : Value) (l3 : Value) (l4 : Value) (w : Wd) (I : MI) (L : ML) (P : MP) (h0 : w.1 a_l0 = some (6, 0)) : go 86 0 [.ref a_l0, .int x_l1, l2, l3, l4] [] w I L P = kC (call 111 [.ref a_l0, .int x_l1] w I L P) (fun v w1 I1 L1 P1 => go 86 5 [.ref a_l0, .int x_l1, l2, l3, l4] (v.toList ++ []) w1 I1 L1 P1) := by
  refine (go_aload_n (m := 86) (pc := 0) (k := 0) (by decide +kernel) rfl).trans ?_
  refine (go_iload_n (m := 86) (pc := 1) (k := 1) (by decide +kernel) rfl).trans ?_
  exact go_vir (m := 86) (pc := 2) (o := 6) (x := 102) (y := 111) (kd := 0) (b := a_l0) (bs := [.int x_l1]) (rs := []) (by decide +kernel) rfl rfl c_6_102 (Or.inl rfl) rfl rfl rfl (by decide +kernel) (by simp only [List.length_cons, List.length_nil]; decide) (Nat.le_of_ble_eq_true rfl) h0
theorem Two_read_5_0 (l0 : Value) (l1 : Value) (x_l2 : Int32) (l3 : Value) (l4 : Value) (w : Wd) (I : MI) (L : ML) (P : MP)  : go 86 5 [l0, l1, .int x_l2, l3, l4] [.null] w I L P = kC (call 110 [.int x_l2, .int (nI 0), .int (nI 127)] w I L P) (fun v w1 I1 L1 P1 => go 86 14 [l0, l1, .int x_l2, (fix1 l3), .null] (v.toList ++ []) w1 I1 L1 P1) := by
  refine (go_astoreN (m := 86) (pc := 5) (k := 4) (ls' := [l0, l1, .int x_l2, (fix1 l3), .null]) (by decide +kernel) (by simp only [List.length_cons, List.length_nil]; decide) rfl).trans ?_
  refine (go_iload_n (m := 86) (pc := 7) (k := 2) (by decide +kernel) rfl).trans ?_
  refine (go_ic (m := 86) (pc := 8) (n := 0) (by decide +kernel) ic_0).trans ?_
  refine (go_bi (m := 86) (pc := 9) (n := 127) (by decide +kernel) bi_127).trans ?_
  exact go_sta (m := 86) (pc := 11) (o := 6) (x := 37) (y := 110) (kd := 2) (as := [.int x_l2, .int (nI 0), .int (nI 127)]) (rs := []) (by decide +kernel) rfl rfl c_6_37 (Or.inl rfl) rfl rfl rfl (by decide +kernel) (by simp only [List.length_cons, List.length_nil]; decide) (Nat.le_of_ble_eq_true rfl)
theorem Two_read_5_1 (l0 : Value) (l1 : Value) (x_l2 : Int32) (l3 : Value) (l4 : Value) (a_s0 : Nat) (w : Wd) (I : MI) (L : ML) (P : MP)  : go 86 5 [l0, l1, .int x_l2, l3, l4] [.ref a_s0] w I L P = kC (call 110 [.int x_l2, .int (nI 0), .int (nI 127)] w I L P) (fun v w1 I1 L1 P1 => go 86 14 [l0, l1, .int x_l2, (fix1 l3), .ref a_s0] (v.toList ++ []) w1 I1 L1 P1) := by
  refine (go_astore (m := 86) (pc := 5) (k := 4) (ls' := [l0, l1, .int x_l2, (fix1 l3), .ref a_s0]) (by decide +kernel) (by simp only [List.length_cons, List.length_nil]; decide) rfl).trans ?_
  refine (go_iload_n (m := 86) (pc := 7) (k := 2) (by decide +kernel) rfl).trans ?_
  refine (go_ic (m := 86) (pc := 8) (n := 0) (by decide +kernel) ic_0).trans ?_
  refine (go_bi (m := 86) (pc := 9) (n := 127) (by decide +kernel) bi_127).trans ?_
  exact go_sta (m := 86) (pc := 11) (o := 6) (x := 37) (y := 110) (kd := 2) (as := [.int x_l2, .int (nI 0), .int (nI 127)]) (rs := []) (by decide +kernel) rfl rfl c_6_37 (Or.inl rfl) rfl rfl rfl (by decide +kernel) (by simp only [List.length_cons, List.length_nil]; decide) (Nat.le_of_ble_eq_true rfl)
theorem Two_read_14 (l0 : Value) (l1 : Value) (l2 : Value) (x_l3 : Int32) (l4 : Value) (w : Wd) (I : MI) (L : ML) (P : MP)  : go 86 14 [l0, l1, l2, .int x_l3, l4] [] w I L P = kC (call 110 [.int x_l3, .int (nI 1), .int (nI 4)] w I L P) (fun v w1 I1 L1 P1 => go 86 20 [l0, l1, l2, .int x_l3, l4] (v.toList ++ []) w1 I1 L1 P1) := by
  refine (go_iload_n (m := 86) (pc := 14) (k := 3) (by decide +kernel) rfl).trans ?_
  refine (go_ic (m := 86) (pc := 15) (n := 1) (by decide +kernel) ic_1).trans ?_
  refine (go_ic (m := 86) (pc := 16) (n := 4) (by decide +kernel) ic_4).trans ?_
  exact go_sta (m := 86) (pc := 17) (o := 6) (x := 37) (y := 110) (kd := 2) (as := [.int x_l3, .int (nI 1), .int (nI 4)]) (rs := []) (by decide +kernel) rfl rfl c_6_37 (Or.inl rfl) rfl rfl rfl (by decide +kernel) (by simp only [List.length_cons, List.length_nil]; decide) (Nat.le_of_ble_eq_true rfl)
theorem Two_read_20_0 (a_l0 : Nat) (l1 : Value) (x_l2 : Int32) (x_l3 : Int32) (w : Wd) (I : MI) (L : ML) (P : MP) (h0 : w.1 a_l0 = some (6, 0)) : go 86 20 [.ref a_l0, l1, .int x_l2, .int x_l3, .null] [] w I L P = kC (call 113 [.ref a_l0, .null, .int (nI 1), .int x_l2, .int x_l3, .long 0] w I L P) (fun v w1 I1 L1 P1 => go 86 30 [.ref a_l0, l1, .int x_l2, .int x_l3, .null] (v.toList ++ []) w1 I1 L1 P1) := by
  refine (go_aload_n (m := 86) (pc := 20) (k := 0) (by decide +kernel) rfl).trans ?_
  refine (go_aloadN (m := 86) (pc := 21) (k := 4) (by decide +kernel) rfl).trans ?_
  refine (go_ic (m := 86) (pc := 23) (n := 1) (by decide +kernel) ic_1).trans ?_
  refine (go_iload_n (m := 86) (pc := 24) (k := 2) (by decide +kernel) rfl).trans ?_
  refine (go_iload_n (m := 86) (pc := 25) (k := 3) (by decide +kernel) rfl).trans ?_
  refine (go_lc (m := 86) (pc := 26) (n := 0) (v := 0) (by decide +kernel) rfl).trans ?_
  exact go_vir (m := 86) (pc := 27) (o := 6) (x := 111) (y := 113) (kd := 0) (b := a_l0) (bs := [.null, .int (nI 1), .int x_l2, .int x_l3, .long 0]) (rs := []) (by decide +kernel) rfl rfl c_6_111 (Or.inl rfl) rfl rfl rfl (by decide +kernel) (by simp only [List.length_cons, List.length_nil]; decide) (Nat.le_of_ble_eq_true rfl) h0
theorem Two_read_20_1 (a_l0 : Nat) (l1 : Value) (x_l2 : Int32) (x_l3 : Int32) (a_l4 : Nat) (w : Wd) (I : MI) (L : ML) (P : MP) (h0 : w.1 a_l0 = some (6, 0)) : go 86 20 [.ref a_l0, l1, .int x_l2, .int x_l3, .ref a_l4] [] w I L P = kC (call 113 [.ref a_l0, .ref a_l4, .int (nI 1), .int x_l2, .int x_l3, .long 0] w I L P) (fun v w1 I1 L1 P1 => go 86 30 [.ref a_l0, l1, .int x_l2, .int x_l3, .ref a_l4] (v.toList ++ []) w1 I1 L1 P1) := by
  refine (go_aload_n (m := 86) (pc := 20) (k := 0) (by decide +kernel) rfl).trans ?_
  refine (go_aload (m := 86) (pc := 21) (k := 4) (by decide +kernel) rfl).trans ?_
  refine (go_ic (m := 86) (pc := 23) (n := 1) (by decide +kernel) ic_1).trans ?_
  refine (go_iload_n (m := 86) (pc := 24) (k := 2) (by decide +kernel) rfl).trans ?_
  refine (go_iload_n (m := 86) (pc := 25) (k := 3) (by decide +kernel) rfl).trans ?_
  refine (go_lc (m := 86) (pc := 26) (n := 0) (v := 0) (by decide +kernel) rfl).trans ?_
  exact go_vir (m := 86) (pc := 27) (o := 6) (x := 111) (y := 113) (kd := 0) (b := a_l0) (bs := [.ref a_l4, .int (nI 1), .int x_l2, .int x_l3, .long 0]) (rs := []) (by decide +kernel) rfl rfl c_6_111 (Or.inl rfl) rfl rfl rfl (by decide +kernel) (by simp only [List.length_cons, List.length_nil]; decide) (Nat.le_of_ble_eq_true rfl) h0
theorem Two_read_30 (l0 : Value) (l1 : Value) (l2 : Value) (l3 : Value) (l4 : Value) (y0 : Int32) (w : Wd) (I : MI) (L : ML) (P : MP)  : go 86 30 [l0, l1, l2, l3, l4] [.int y0] w I L P = some (.inl (some (.int y0)), w, I, L, P) := by
  exact go_retI (m := 86) (pc := 30) (by decide +kernel) rfl
theorem Two_read_E (this : Nat) (p0 : Int32) (p1 : Int32) (p2 : Int32) (w : Wd) (I : MI) (L : ML) (P : MP) : call 86 [.ref this, .int p0, .int p1, .int p2] w I L P = go 86 0 [.ref this, .int p0, .int p1, .int p2, unk] [] w I L P := rfl
theorem Two_cancel_0 (a_l0 : Nat) (x_l1 : Int32) (l2 : Value) (w : Wd) (I : MI) (L : ML) (P : MP) (h0 : w.1 a_l0 = some (6, 0)) : go 87 0 [.ref a_l0, .int x_l1, l2] [] w I L P = kC (call 111 [.ref a_l0, .int x_l1] w I L P) (fun v w1 I1 L1 P1 => go 87 5 [.ref a_l0, .int x_l1, l2] (v.toList ++ []) w1 I1 L1 P1) := by
  refine (go_aload_n (m := 87) (pc := 0) (k := 0) (by decide +kernel) rfl).trans ?_
  refine (go_iload_n (m := 87) (pc := 1) (k := 1) (by decide +kernel) rfl).trans ?_
  exact go_vir (m := 87) (pc := 2) (o := 6) (x := 102) (y := 111) (kd := 0) (b := a_l0) (bs := [.int x_l1]) (rs := []) (by decide +kernel) rfl rfl c_6_102 (Or.inl rfl) rfl rfl rfl (by decide +kernel) (by simp only [List.length_cons, List.length_nil]; decide) (Nat.le_of_ble_eq_true rfl) h0
theorem Two_cancel_5 (l0 : Value) (l1 : Value) (l2 : Value) (a_s0 : Nat) (w : Wd) (I : MI) (L : ML) (P : MP) (h0 : w.1 a_s0 = some (1, 0)) : go 87 5 [l0, l1, l2] [.ref a_s0] w I L P = if (I a_s0 1) ≠ 0 then go 87 23 [l0, (fix1 l1), .ref a_s0] [] w I L P else go 87 13 [l0, (fix1 l1), .ref a_s0] [] w I L P := by
  refine (go_astore_n (m := 87) (pc := 5) (k := 2) (ls' := [l0, (fix1 l1), .ref a_s0]) (by decide +kernel) (by simp only [List.length_cons, List.length_nil]; decide) rfl).trans ?_
  refine (go_aload_n (m := 87) (pc := 6) (k := 2) (by decide +kernel) rfl).trans ?_
  refine (go_getI (m := 87) (pc := 7) (o := 6) (x := 115) (ci := 1) (k := 1) (by decide +kernel) rfl f_6_115 rfl h0).trans ?_
  exact go_ifne (m := 87) (pc := 10) (off := 13) (t := 23) (by decide +kernel) (by decide)
theorem Two_cancel_13 (l0 : Value) (l1 : Value) (l2 : Value) (w : Wd) (I : MI) (L : ML) (P : MP)  : go 87 13 [l0, l1, l2] [] w I L P = some (.inr 1, thrT w, I, L, P) := by
  exact go_thr (m := 87) (pc := 13) (ik := 63) (is := 120) (x := 1) (e := 101) (by decide +kernel) rfl (by decide +kernel) rfl (by decide) (by decide +kernel) (by decide +kernel) (by decide +kernel) (by decide +kernel) (by decide +kernel) rfl (by decide +kernel) (by decide +kernel)
theorem Two_cancel_23 (l0 : Value) (l1 : Value) (a_l2 : Nat) (w : Wd) (I : MI) (L : ML) (P : MP) (h0 : w.1 a_l2 = some (1, 0)) : go 87 23 [l0, l1, .ref a_l2] [] w I L P = if (I a_l2 1) ≠ (nI 1) then go 87 52 [l0, l1, .ref a_l2] [] w I L P else go 87 31 [l0, l1, .ref a_l2] [] w I L P := by
  refine (go_aload_n (m := 87) (pc := 23) (k := 2) (by decide +kernel) rfl).trans ?_
  refine (go_getI (m := 87) (pc := 24) (o := 6) (x := 115) (ci := 1) (k := 1) (by decide +kernel) rfl f_6_115 rfl h0).trans ?_
  refine (go_ic (m := 87) (pc := 27) (n := 1) (by decide +kernel) ic_1).trans ?_
  exact go_icmpne (m := 87) (pc := 28) (off := 24) (t := 52) (by decide +kernel) (by decide)
theorem Two_cancel_31 (a_l0 : Nat) (l1 : Value) (l2 : Value) (w : Wd) (I : MI) (L : ML) (P : MP) (h0 : w.1 a_l0 = some (6, 0)) : go 87 31 [.ref a_l0, l1, l2] [] w I L P = go 87 35 [.ref a_l0, l1, l2] [(va_rf (P a_l0 0))] w I L P := by
  refine (go_aload_n (m := 87) (pc := 31) (k := 0) (by decide +kernel) rfl).trans ?_
  refine (go_getR (m := 87) (pc := 32) (o := 6) (x := 10) (ci := 6) (k := 0) (by decide +kernel) rfl f_6_10 rfl h0).trans ?_
  rfl
theorem Two_cancel_35 (l0 : Value) (x_l1 : Int32) (l2 : Value) (a_s0 : Nat) (w : Wd) (I : MI) (L : ML) (P : MP) (h0 : w.1 a_s0 = some (0, 0)) : go 87 35 [l0, .int x_l1, l2] [.ref a_s0] w I L P = kC (call 33 [.ref a_s0, .int x_l1] w I L P) (fun v w1 I1 L1 P1 => go 87 39 [l0, .int x_l1, l2] (v.toList ++ []) w1 I1 L1 P1) := by
  refine (go_iload_n (m := 87) (pc := 35) (k := 1) (by decide +kernel) rfl).trans ?_
  exact go_vir (m := 87) (pc := 36) (o := 6) (x := 122) (y := 33) (kd := 1) (b := a_s0) (bs := [.int x_l1]) (rs := []) (by decide +kernel) rfl rfl c_6_122 (Or.inr rfl) rfl rfl rfl (by decide +kernel) (by simp only [List.length_cons, List.length_nil]; decide) (Nat.le_of_ble_eq_true rfl) h0
theorem Two_cancel_39 (l0 : Value) (l1 : Value) (l2 : Value) (y0 : Int32) (w : Wd) (I : MI) (L : ML) (P : MP)  : go 87 39 [l0, l1, l2] [.int y0] w I L P = if y0 = 0 then go 87 52 [l0, l1, l2] [] w I L P else go 87 42 [l0, l1, l2] [] w I L P := by
  exact go_ifeq (m := 87) (pc := 39) (off := 13) (t := 52) (by decide +kernel) (by decide)
theorem Two_cancel_42 (l0 : Value) (l1 : Value) (l2 : Value) (w : Wd) (I : MI) (L : ML) (P : MP)  : go 87 42 [l0, l1, l2] [] w I L P = some (.inr 1, thrT w, I, L, P) := by
  exact go_thr (m := 87) (pc := 42) (ik := 63) (is := 126) (x := 1) (e := 101) (by decide +kernel) rfl (by decide +kernel) rfl (by decide) (by decide +kernel) (by decide +kernel) (by decide +kernel) (by decide +kernel) (by decide +kernel) rfl (by decide +kernel) (by decide +kernel)
theorem Two_cancel_52 (a_l0 : Nat) (l1 : Value) (l2 : Value) (w : Wd) (I : MI) (L : ML) (P : MP) (h0 : w.1 a_l0 = some (6, 0)) : go 87 52 [.ref a_l0, l1, l2] [] w I L P = kC (call 116 [.ref a_l0] w I L P) (fun v w1 I1 L1 P1 => go 87 56 [.ref a_l0, l1, l2] (v.toList ++ []) w1 I1 L1 P1) := by
  refine (go_aload_n (m := 87) (pc := 52) (k := 0) (by decide +kernel) rfl).trans ?_
  exact go_vir (m := 87) (pc := 53) (o := 6) (x := 50) (y := 116) (kd := 0) (b := a_l0) (bs := []) (rs := []) (by decide +kernel) rfl rfl c_6_50 (Or.inl rfl) rfl rfl rfl (by decide +kernel) (by simp only [List.length_cons, List.length_nil]; decide) (Nat.le_of_ble_eq_true rfl) h0
theorem Two_cancel_56 (l0 : Value) (l1 : Value) (a_l2 : Nat) (w : Wd) (I : MI) (L : ML) (P : MP) (h0 : w.1 a_l2 = some (1, 0)) : go 87 56 [l0, l1, .ref a_l2] [] w I L P = kC (call 9 [.ref a_l2] w I L P) (fun v w1 I1 L1 P1 => go 87 60 [l0, l1, .ref a_l2] (v.toList ++ []) w1 I1 L1 P1) := by
  refine (go_aload_n (m := 87) (pc := 56) (k := 2) (by decide +kernel) rfl).trans ?_
  exact go_vir (m := 87) (pc := 57) (o := 6) (x := 128) (y := 9) (kd := 1) (b := a_l2) (bs := []) (rs := []) (by decide +kernel) rfl rfl c_6_128 (Or.inr rfl) rfl rfl rfl (by decide +kernel) (by simp only [List.length_cons, List.length_nil]; decide) (Nat.le_of_ble_eq_true rfl) h0
theorem Two_cancel_60 (l0 : Value) (l1 : Value) (l2 : Value) (y0 : Int32) (w : Wd) (I : MI) (L : ML) (P : MP)  : go 87 60 [l0, l1, l2] [.int y0] w I L P = some (.inl (some (.int y0)), w, I, L, P) := by
  exact go_retI (m := 87) (pc := 60) (by decide +kernel) rfl
theorem Two_cancel_E (this : Nat) (p0 : Int32) (w : Wd) (I : MI) (L : ML) (P : MP) : call 87 [.ref this, .int p0] w I L P = go 87 0 [.ref this, .int p0, unk] [] w I L P := rfl
theorem Two_pass_0 (l0 : Value) (x_l1 : Int32) (w : Wd) (I : MI) (L : ML) (P : MP)  : go 88 0 [l0, .int x_l1] [] w I L P = kC (call 110 [.int x_l1, .int (nI 1), .int (nI 200)] w I L P) (fun v w1 I1 L1 P1 => go 88 8 [l0, .int x_l1] (v.toList ++ []) w1 I1 L1 P1) := by
  refine (go_iload_n (m := 88) (pc := 0) (k := 1) (by decide +kernel) rfl).trans ?_
  refine (go_ic (m := 88) (pc := 1) (n := 1) (by decide +kernel) ic_1).trans ?_
  refine (go_si (m := 88) (pc := 2) (n := 200) (by decide +kernel) si_200).trans ?_
  exact go_sta (m := 88) (pc := 5) (o := 6) (x := 37) (y := 110) (kd := 2) (as := [.int x_l1, .int (nI 1), .int (nI 200)]) (rs := []) (by decide +kernel) rfl rfl c_6_37 (Or.inl rfl) rfl rfl rfl (by decide +kernel) (by simp only [List.length_cons, List.length_nil]; decide) (Nat.le_of_ble_eq_true rfl)
theorem Two_pass_8 (a_l0 : Nat) (l1 : Value) (w : Wd) (I : MI) (L : ML) (P : MP) (h0 : w.1 a_l0 = some (6, 0)) : go 88 8 [.ref a_l0, l1] [] w I L P = kC (call 116 [.ref a_l0] w I L P) (fun v w1 I1 L1 P1 => go 88 12 [.ref a_l0, l1] (v.toList ++ []) w1 I1 L1 P1) := by
  refine (go_aload_n (m := 88) (pc := 8) (k := 0) (by decide +kernel) rfl).trans ?_
  exact go_vir (m := 88) (pc := 9) (o := 6) (x := 50) (y := 116) (kd := 0) (b := a_l0) (bs := []) (rs := []) (by decide +kernel) rfl rfl c_6_50 (Or.inl rfl) rfl rfl rfl (by decide +kernel) (by simp only [List.length_cons, List.length_nil]; decide) (Nat.le_of_ble_eq_true rfl) h0
theorem Two_pass_12 (a_l0 : Nat) (l1 : Value) (w : Wd) (I : MI) (L : ML) (P : MP) (h0 : w.1 a_l0 = some (6, 0)) : go 88 12 [.ref a_l0, l1] [] w I L P = go 88 16 [.ref a_l0, l1] [(va_rf (P a_l0 0))] w I L P := by
  refine (go_aload_n (m := 88) (pc := 12) (k := 0) (by decide +kernel) rfl).trans ?_
  refine (go_getR (m := 88) (pc := 13) (o := 6) (x := 10) (ci := 6) (k := 0) (by decide +kernel) rfl f_6_10 rfl h0).trans ?_
  rfl
theorem Two_pass_16 (l0 : Value) (x_l1 : Int32) (a_s0 : Nat) (w : Wd) (I : MI) (L : ML) (P : MP) (h0 : w.1 a_s0 = some (0, 0)) : go 88 16 [l0, .int x_l1] [.ref a_s0] w I L P = kC (call 42 [.ref a_s0, .int x_l1] w I L P) (fun v w1 I1 L1 P1 => go 88 20 [l0, .int x_l1] (v.toList ++ []) w1 I1 L1 P1) := by
  refine (go_iload_n (m := 88) (pc := 16) (k := 1) (by decide +kernel) rfl).trans ?_
  exact go_vir (m := 88) (pc := 17) (o := 6) (x := 131) (y := 42) (kd := 1) (b := a_s0) (bs := [.int x_l1]) (rs := []) (by decide +kernel) rfl rfl c_6_131 (Or.inr rfl) rfl rfl rfl (by decide +kernel) (by simp only [List.length_cons, List.length_nil]; decide) (Nat.le_of_ble_eq_true rfl) h0
theorem Two_pass_20 (a_l0 : Nat) (l1 : Value) (w : Wd) (I : MI) (L : ML) (P : MP) (h0 : w.1 a_l0 = some (6, 0)) : go 88 20 [.ref a_l0, l1] [] w I L P = go 88 24 [.ref a_l0, l1] [(va_rf (P a_l0 0))] w I L P := by
  refine (go_aload_n (m := 88) (pc := 20) (k := 0) (by decide +kernel) rfl).trans ?_
  refine (go_getR (m := 88) (pc := 21) (o := 6) (x := 10) (ci := 6) (k := 0) (by decide +kernel) rfl f_6_10 rfl h0).trans ?_
  rfl
theorem Two_pass_24 (l0 : Value) (l1 : Value) (a_s0 : Nat) (w : Wd) (I : MI) (L : ML) (P : MP) (h0 : w.1 a_s0 = some (0, 0)) : go 88 24 [l0, l1] [.ref a_s0] w I L P = go 88 27 [l0, l1] [(va_rf (P a_s0 5))] w I L P := by
  refine (go_getR (m := 88) (pc := 24) (o := 6) (x := 41) (ci := 0) (k := 5) (by decide +kernel) rfl f_6_41 rfl h0).trans ?_
  rfl
theorem Two_pass_27 (l0 : Value) (l1 : Value) (a_s0 : Nat) (w : Wd) (I : MI) (L : ML) (P : MP) (h0 : w.1 a_s0 = some (5, 0)) : go 88 27 [l0, l1] [.ref a_s0] w I L P = some (.inl (some (.int (I a_s0 0))), w, I, L, P) := by
  refine (go_getI (m := 88) (pc := 27) (o := 6) (x := 45) (ci := 5) (k := 0) (by decide +kernel) rfl f_6_45 rfl h0).trans ?_
  exact go_retI (m := 88) (pc := 30) (by decide +kernel) rfl
theorem Two_pass_E (this : Nat) (p0 : Int32) (w : Wd) (I : MI) (L : ML) (P : MP) : call 88 [.ref this, .int p0] w I L P = go 88 0 [.ref this, .int p0] [] w I L P := rfl
theorem Two_finish_0 (a_l0 : Nat) (w : Wd) (I : MI) (L : ML) (P : MP) (h0 : w.1 a_l0 = some (6, 0)) : go 89 0 [.ref a_l0] [] w I L P = kC (call 116 [.ref a_l0] w I L P) (fun v w1 I1 L1 P1 => go 89 4 [.ref a_l0] (v.toList ++ []) w1 I1 L1 P1) := by
  refine (go_aload_n (m := 89) (pc := 0) (k := 0) (by decide +kernel) rfl).trans ?_
  exact go_vir (m := 89) (pc := 1) (o := 6) (x := 50) (y := 116) (kd := 0) (b := a_l0) (bs := []) (rs := []) (by decide +kernel) rfl rfl c_6_50 (Or.inl rfl) rfl rfl rfl (by decide +kernel) (by simp only [List.length_cons, List.length_nil]; decide) (Nat.le_of_ble_eq_true rfl) h0
theorem Two_finish_4 (a_l0 : Nat) (w : Wd) (I : MI) (L : ML) (P : MP) (h0 : w.1 a_l0 = some (6, 0)) : go 89 4 [.ref a_l0] [] w I L P = go 89 8 [.ref a_l0] [(va_rf (P a_l0 0))] w I L P := by
  refine (go_aload_n (m := 89) (pc := 4) (k := 0) (by decide +kernel) rfl).trans ?_
  refine (go_getR (m := 89) (pc := 5) (o := 6) (x := 10) (ci := 6) (k := 0) (by decide +kernel) rfl f_6_10 rfl h0).trans ?_
  rfl
theorem Two_finish_8 (l0 : Value) (a_s0 : Nat) (w : Wd) (I : MI) (L : ML) (P : MP) (h0 : w.1 a_s0 = some (0, 0)) : go 89 8 [l0] [.ref a_s0] w I L P = kC (call 43 [.ref a_s0] w I L P) (fun v w1 I1 L1 P1 => go 89 11 [l0] (v.toList ++ []) w1 I1 L1 P1) := by
  exact go_vir (m := 89) (pc := 8) (o := 6) (x := 135) (y := 43) (kd := 1) (b := a_s0) (bs := []) (rs := []) (by decide +kernel) rfl rfl c_6_135 (Or.inr rfl) rfl rfl rfl (by decide +kernel) (by simp only [List.length_cons, List.length_nil]; decide) (Nat.le_of_ble_eq_true rfl) h0
theorem Two_finish_11 (l0 : Value) (y0 : Int32) (w : Wd) (I : MI) (L : ML) (P : MP)  : go 89 11 [l0] [.int y0] w I L P = some (.inl (some (.int y0)), w, I, L, P) := by
  exact go_retI (m := 89) (pc := 11) (by decide +kernel) rfl
theorem Two_finish_E (this : Nat) (w : Wd) (I : MI) (L : ML) (P : MP) : call 89 [.ref this] w I L P = go 89 0 [.ref this] [] w I L P := rfl
theorem Two_caller_0 (a_l0 : Nat) (x_l1 : Int32) (l2 : Value) (l3 : Value) (w : Wd) (I : MI) (L : ML) (P : MP) (h0 : w.1 a_l0 = some (6, 0)) : go 90 0 [.ref a_l0, .int x_l1, l2, l3] [] w I L P = kC (call 111 [.ref a_l0, .int x_l1] w I L P) (fun v w1 I1 L1 P1 => go 90 5 [.ref a_l0, .int x_l1, l2, l3] (v.toList ++ []) w1 I1 L1 P1) := by
  refine (go_aload_n (m := 90) (pc := 0) (k := 0) (by decide +kernel) rfl).trans ?_
  refine (go_iload_n (m := 90) (pc := 1) (k := 1) (by decide +kernel) rfl).trans ?_
  exact go_vir (m := 90) (pc := 2) (o := 6) (x := 102) (y := 111) (kd := 0) (b := a_l0) (bs := [.int x_l1]) (rs := []) (by decide +kernel) rfl rfl c_6_102 (Or.inl rfl) rfl rfl rfl (by decide +kernel) (by simp only [List.length_cons, List.length_nil]; decide) (Nat.le_of_ble_eq_true rfl) h0
theorem Two_caller_5_0 (l0 : Value) (l1 : Value) (x_l2 : Int32) (l3 : Value) (w : Wd) (I : MI) (L : ML) (P : MP)  : go 90 5 [l0, l1, .int x_l2, l3] [.null] w I L P = kC (call 110 [.int x_l2, .int (nI 0), .int (nI 8)] w I L P) (fun v w1 I1 L1 P1 => go 90 13 [l0, l1, .int x_l2, .null] (v.toList ++ []) w1 I1 L1 P1) := by
  refine (go_astore_nN (m := 90) (pc := 5) (k := 3) (ls' := [l0, l1, .int x_l2, .null]) (by decide +kernel) (by simp only [List.length_cons, List.length_nil]; decide) rfl).trans ?_
  refine (go_iload_n (m := 90) (pc := 6) (k := 2) (by decide +kernel) rfl).trans ?_
  refine (go_ic (m := 90) (pc := 7) (n := 0) (by decide +kernel) ic_0).trans ?_
  refine (go_bi (m := 90) (pc := 8) (n := 8) (by decide +kernel) bi_8).trans ?_
  exact go_sta (m := 90) (pc := 10) (o := 6) (x := 37) (y := 110) (kd := 2) (as := [.int x_l2, .int (nI 0), .int (nI 8)]) (rs := []) (by decide +kernel) rfl rfl c_6_37 (Or.inl rfl) rfl rfl rfl (by decide +kernel) (by simp only [List.length_cons, List.length_nil]; decide) (Nat.le_of_ble_eq_true rfl)
theorem Two_caller_5_1 (l0 : Value) (l1 : Value) (x_l2 : Int32) (l3 : Value) (a_s0 : Nat) (w : Wd) (I : MI) (L : ML) (P : MP)  : go 90 5 [l0, l1, .int x_l2, l3] [.ref a_s0] w I L P = kC (call 110 [.int x_l2, .int (nI 0), .int (nI 8)] w I L P) (fun v w1 I1 L1 P1 => go 90 13 [l0, l1, .int x_l2, .ref a_s0] (v.toList ++ []) w1 I1 L1 P1) := by
  refine (go_astore_n (m := 90) (pc := 5) (k := 3) (ls' := [l0, l1, .int x_l2, .ref a_s0]) (by decide +kernel) (by simp only [List.length_cons, List.length_nil]; decide) rfl).trans ?_
  refine (go_iload_n (m := 90) (pc := 6) (k := 2) (by decide +kernel) rfl).trans ?_
  refine (go_ic (m := 90) (pc := 7) (n := 0) (by decide +kernel) ic_0).trans ?_
  refine (go_bi (m := 90) (pc := 8) (n := 8) (by decide +kernel) bi_8).trans ?_
  exact go_sta (m := 90) (pc := 10) (o := 6) (x := 37) (y := 110) (kd := 2) (as := [.int x_l2, .int (nI 0), .int (nI 8)]) (rs := []) (by decide +kernel) rfl rfl c_6_37 (Or.inl rfl) rfl rfl rfl (by decide +kernel) (by simp only [List.length_cons, List.length_nil]; decide) (Nat.le_of_ble_eq_true rfl)
theorem Two_caller_13 (l0 : Value) (l1 : Value) (x_l2 : Int32) (l3 : Value) (w : Wd) (I : MI) (L : ML) (P : MP)  : go 90 13 [l0, l1, .int x_l2, l3] [] w I L P = if x_l2 ≠ (nI 8) then go 90 36 [l0, l1, .int x_l2, l3] [] w I L P else go 90 19 [l0, l1, .int x_l2, l3] [] w I L P := by
  refine (go_iload_n (m := 90) (pc := 13) (k := 2) (by decide +kernel) rfl).trans ?_
  refine (go_bi (m := 90) (pc := 14) (n := 8) (by decide +kernel) bi_8).trans ?_
  exact go_icmpne (m := 90) (pc := 16) (off := 20) (t := 36) (by decide +kernel) (by decide)
theorem Two_caller_19 (a_l0 : Nat) (l1 : Value) (l2 : Value) (l3 : Value) (w : Wd) (I : MI) (L : ML) (P : MP) (h0 : w.1 a_l0 = some (6, 0)) : go 90 19 [.ref a_l0, l1, l2, l3] [] w I L P = go 90 23 [.ref a_l0, l1, l2, l3] [(va_rf (P a_l0 0))] w I L P := by
  refine (go_aload_n (m := 90) (pc := 19) (k := 0) (by decide +kernel) rfl).trans ?_
  refine (go_getR (m := 90) (pc := 20) (o := 6) (x := 10) (ci := 6) (k := 0) (by decide +kernel) rfl f_6_10 rfl h0).trans ?_
  rfl
theorem Two_caller_23 (l0 : Value) (x_l1 : Int32) (l2 : Value) (l3 : Value) (a_s0 : Nat) (w : Wd) (I : MI) (L : ML) (P : MP) (h0 : w.1 a_s0 = some (0, 0)) : go 90 23 [l0, .int x_l1, l2, l3] [.ref a_s0] w I L P = kC (call 33 [.ref a_s0, .int x_l1] w I L P) (fun v w1 I1 L1 P1 => go 90 27 [l0, .int x_l1, l2, l3] (v.toList ++ []) w1 I1 L1 P1) := by
  refine (go_iload_n (m := 90) (pc := 23) (k := 1) (by decide +kernel) rfl).trans ?_
  exact go_vir (m := 90) (pc := 24) (o := 6) (x := 122) (y := 33) (kd := 1) (b := a_s0) (bs := [.int x_l1]) (rs := []) (by decide +kernel) rfl rfl c_6_122 (Or.inr rfl) rfl rfl rfl (by decide +kernel) (by simp only [List.length_cons, List.length_nil]; decide) (Nat.le_of_ble_eq_true rfl) h0
theorem Two_caller_27 (l0 : Value) (l1 : Value) (l2 : Value) (l3 : Value) (y0 : Int32) (w : Wd) (I : MI) (L : ML) (P : MP)  : go 90 27 [l0, l1, l2, l3] [.int y0] w I L P = if y0 = 0 then go 90 34 [l0, l1, l2, l3] [] w I L P else go 90 30 [l0, l1, l2, l3] [] w I L P := by
  exact go_ifeq (m := 90) (pc := 27) (off := 7) (t := 34) (by decide +kernel) (by decide)
theorem Two_caller_30 (l0 : Value) (l1 : Value) (l2 : Value) (l3 : Value) (w : Wd) (I : MI) (L : ML) (P : MP)  : go 90 30 [l0, l1, l2, l3] [] w I L P = go 90 35 [l0, l1, l2, l3] [.int (nI 1)] w I L P := by
  refine (go_ic (m := 90) (pc := 30) (n := 1) (by decide +kernel) ic_1).trans ?_
  refine (go_goto (m := 90) (pc := 31) (off := 4) (t := 35) (by decide +kernel) (by decide)).trans ?_
  rfl
theorem Two_caller_34 (l0 : Value) (l1 : Value) (l2 : Value) (l3 : Value) (w : Wd) (I : MI) (L : ML) (P : MP)  : go 90 34 [l0, l1, l2, l3] [] w I L P = go 90 35 [l0, l1, l2, l3] [.int (nI 0)] w I L P := by
  refine (go_ic (m := 90) (pc := 34) (n := 0) (by decide +kernel) ic_0).trans ?_
  rfl
theorem Two_caller_35 (l0 : Value) (l1 : Value) (l2 : Value) (l3 : Value) (y0 : Int32) (w : Wd) (I : MI) (L : ML) (P : MP)  : go 90 35 [l0, l1, l2, l3] [.int y0] w I L P = some (.inl (some (.int y0)), w, I, L, P) := by
  exact go_retI (m := 90) (pc := 35) (by decide +kernel) rfl
theorem Two_caller_36 (l0 : Value) (l1 : Value) (x_l2 : Int32) (a_l3 : Nat) (w : Wd) (I : MI) (L : ML) (P : MP) (h0 : w.1 a_l3 = some (1, 0)) : go 90 36 [l0, l1, .int x_l2, .ref a_l3] [] w I L P = kC (call 13 [.ref a_l3, .int x_l2] w I L P) (fun v w1 I1 L1 P1 => go 90 41 [l0, l1, .int x_l2, .ref a_l3] (v.toList ++ []) w1 I1 L1 P1) := by
  refine (go_aload_n (m := 90) (pc := 36) (k := 3) (by decide +kernel) rfl).trans ?_
  refine (go_iload_n (m := 90) (pc := 37) (k := 2) (by decide +kernel) rfl).trans ?_
  exact go_vir (m := 90) (pc := 38) (o := 6) (x := 138) (y := 13) (kd := 1) (b := a_l3) (bs := [.int x_l2]) (rs := []) (by decide +kernel) rfl rfl c_6_138 (Or.inr rfl) rfl rfl rfl (by decide +kernel) (by simp only [List.length_cons, List.length_nil]; decide) (Nat.le_of_ble_eq_true rfl) h0
theorem Two_caller_41 (l0 : Value) (l1 : Value) (l2 : Value) (l3 : Value) (y0 : Int32) (w : Wd) (I : MI) (L : ML) (P : MP)  : go 90 41 [l0, l1, l2, l3] [.int y0] w I L P = some (.inl (some (.int y0)), w, I, L, P) := by
  exact go_retI (m := 90) (pc := 41) (by decide +kernel) rfl
theorem Two_caller_E (this : Nat) (p0 : Int32) (p1 : Int32) (w : Wd) (I : MI) (L : ML) (P : MP) : call 90 [.ref this, .int p0, .int p1] w I L P = go 90 0 [.ref this, .int p0, .int p1, unk] [] w I L P := rfl
theorem Two_message_0 (a_l0 : Nat) (x_l1 : Int32) (l2 : Value) (l3 : Value) (l4 : Value) (w : Wd) (I : MI) (L : ML) (P : MP) (h0 : w.1 a_l0 = some (6, 0)) : go 91 0 [.ref a_l0, .int x_l1, l2, l3, l4] [] w I L P = kC (call 111 [.ref a_l0, .int x_l1] w I L P) (fun v w1 I1 L1 P1 => go 91 5 [.ref a_l0, .int x_l1, l2, l3, l4] (v.toList ++ []) w1 I1 L1 P1) := by
  refine (go_aload_n (m := 91) (pc := 0) (k := 0) (by decide +kernel) rfl).trans ?_
  refine (go_iload_n (m := 91) (pc := 1) (k := 1) (by decide +kernel) rfl).trans ?_
  exact go_vir (m := 91) (pc := 2) (o := 6) (x := 102) (y := 111) (kd := 0) (b := a_l0) (bs := [.int x_l1]) (rs := []) (by decide +kernel) rfl rfl c_6_102 (Or.inl rfl) rfl rfl rfl (by decide +kernel) (by simp only [List.length_cons, List.length_nil]; decide) (Nat.le_of_ble_eq_true rfl) h0
theorem Two_message_5 (l0 : Value) (l1 : Value) (x_l2 : Int32) (l3 : Value) (l4 : Value) (a_s0 : Nat) (w : Wd) (I : MI) (L : ML) (P : MP) (h0 : w.1 a_s0 = some (1, 0)) : go 91 5 [l0, l1, .int x_l2, l3, l4] [.ref a_s0] w I L P = kC (call 7 [.ref a_s0, .int x_l2] w I L P) (fun v w1 I1 L1 P1 => go 91 9 [l0, l1, .int x_l2, l3, l4] (v.toList ++ []) w1 I1 L1 P1) := by
  refine (go_iload_n (m := 91) (pc := 5) (k := 2) (by decide +kernel) rfl).trans ?_
  exact go_vir (m := 91) (pc := 6) (o := 6) (x := 141) (y := 7) (kd := 1) (b := a_s0) (bs := [.int x_l2]) (rs := []) (by decide +kernel) rfl rfl c_6_141 (Or.inr rfl) rfl rfl rfl (by decide +kernel) (by simp only [List.length_cons, List.length_nil]; decide) (Nat.le_of_ble_eq_true rfl) h0
theorem Two_message_9_0 (l0 : Value) (l1 : Value) (l2 : Value) (l3 : Value) (l4 : Value) (w : Wd) (I : MI) (L : ML) (P : MP)  : go 91 9 [l0, l1, l2, l3, l4] [.null] w I L P = go 91 16 [l0, l1, l2, (fix1 l3), .null] [] w I L P := by
  refine (go_astoreN (m := 91) (pc := 9) (k := 4) (ls' := [l0, l1, l2, (fix1 l3), .null]) (by decide +kernel) (by simp only [List.length_cons, List.length_nil]; decide) rfl).trans ?_
  refine (go_aloadN (m := 91) (pc := 11) (k := 4) (by decide +kernel) rfl).trans ?_
  exact go_ifnonnullN (m := 91) (pc := 13) (off := 13) (by decide +kernel)
theorem Two_message_9_1 (l0 : Value) (l1 : Value) (l2 : Value) (l3 : Value) (l4 : Value) (a_s0 : Nat) (w : Wd) (I : MI) (L : ML) (P : MP)  : go 91 9 [l0, l1, l2, l3, l4] [.ref a_s0] w I L P = go 91 26 [l0, l1, l2, (fix1 l3), .ref a_s0] [] w I L P := by
  refine (go_astore (m := 91) (pc := 9) (k := 4) (ls' := [l0, l1, l2, (fix1 l3), .ref a_s0]) (by decide +kernel) (by simp only [List.length_cons, List.length_nil]; decide) rfl).trans ?_
  refine (go_aload (m := 91) (pc := 11) (k := 4) (by decide +kernel) rfl).trans ?_
  exact go_ifnonnullR (m := 91) (pc := 13) (off := 13) (t := 26) (by decide +kernel) (by decide)
theorem Two_message_16 (l0 : Value) (l1 : Value) (l2 : Value) (l3 : Value) (l4 : Value) (w : Wd) (I : MI) (L : ML) (P : MP)  : go 91 16 [l0, l1, l2, l3, l4] [] w I L P = some (.inr 2, thrT w, I, L, P) := by
  exact go_thr (m := 91) (pc := 16) (ik := 145) (is := 147) (x := 2) (e := 102) (by decide +kernel) rfl (by decide +kernel) rfl (by decide) (by decide +kernel) (by decide +kernel) (by decide +kernel) (by decide +kernel) (by decide +kernel) rfl (by decide +kernel) (by decide +kernel)
theorem Two_message_26 (l0 : Value) (l1 : Value) (l2 : Value) (x_l3 : Int32) (l4 : Value) (w : Wd) (I : MI) (L : ML) (P : MP)  : go 91 26 [l0, l1, l2, .int x_l3, l4] [] w I L P = kC (call 110 [.int x_l3, .int (nI 0), .int (nI 7)] w I L P) (fun v w1 I1 L1 P1 => go 91 33 [l0, l1, l2, .int x_l3, l4] (v.toList ++ []) w1 I1 L1 P1) := by
  refine (go_iload_n (m := 91) (pc := 26) (k := 3) (by decide +kernel) rfl).trans ?_
  refine (go_ic (m := 91) (pc := 27) (n := 0) (by decide +kernel) ic_0).trans ?_
  refine (go_bi (m := 91) (pc := 28) (n := 7) (by decide +kernel) bi_7).trans ?_
  exact go_sta (m := 91) (pc := 30) (o := 6) (x := 37) (y := 110) (kd := 2) (as := [.int x_l3, .int (nI 0), .int (nI 7)]) (rs := []) (by decide +kernel) rfl rfl c_6_37 (Or.inl rfl) rfl rfl rfl (by decide +kernel) (by simp only [List.length_cons, List.length_nil]; decide) (Nat.le_of_ble_eq_true rfl)
theorem Two_message_33 (l0 : Value) (l1 : Value) (l2 : Value) (x_l3 : Int32) (a_l4 : Nat) (w : Wd) (I : MI) (L : ML) (P : MP) (h0 : w.1 a_l4 = some (3, 0)) : go 91 33 [l0, l1, l2, .int x_l3, .ref a_l4] [] w I L P = kC (call 4 [.ref a_l4, .int x_l3] w I L P) (fun v w1 I1 L1 P1 => go 91 39 [l0, l1, l2, .int x_l3, .ref a_l4] (v.toList ++ []) w1 I1 L1 P1) := by
  refine (go_aload (m := 91) (pc := 33) (k := 4) (by decide +kernel) rfl).trans ?_
  refine (go_iload_n (m := 91) (pc := 35) (k := 3) (by decide +kernel) rfl).trans ?_
  exact go_vir (m := 91) (pc := 36) (o := 6) (x := 150) (y := 4) (kd := 1) (b := a_l4) (bs := [.int x_l3]) (rs := []) (by decide +kernel) rfl rfl c_6_150 (Or.inr rfl) rfl rfl rfl (by decide +kernel) (by simp only [List.length_cons, List.length_nil]; decide) (Nat.le_of_ble_eq_true rfl) h0
theorem Two_message_39 (l0 : Value) (l1 : Value) (l2 : Value) (l3 : Value) (l4 : Value) (y0 : Int32) (w : Wd) (I : MI) (L : ML) (P : MP)  : go 91 39 [l0, l1, l2, l3, l4] [.int y0] w I L P = some (.inl (some (.int y0)), w, I, L, P) := by
  exact go_retI (m := 91) (pc := 39) (by decide +kernel) rfl
theorem Two_message_E (this : Nat) (p0 : Int32) (p1 : Int32) (p2 : Int32) (w : Wd) (I : MI) (L : ML) (P : MP) : call 91 [.ref this, .int p0, .int p1, .int p2] w I L P = go 91 0 [.ref this, .int p0, .int p1, .int p2, unk] [] w I L P := rfl
theorem Two_listener_0 (a_l0 : Nat) (x_l1 : Int32) (l2 : Value) (l3 : Value) (w : Wd) (I : MI) (L : ML) (P : MP) (h0 : w.1 a_l0 = some (6, 0)) : go 92 0 [.ref a_l0, .int x_l1, l2, l3] [] w I L P = kC (call 112 [.ref a_l0, .int x_l1] w I L P) (fun v w1 I1 L1 P1 => go 92 5 [.ref a_l0, .int x_l1, l2, l3] (v.toList ++ []) w1 I1 L1 P1) := by
  refine (go_aload_n (m := 92) (pc := 0) (k := 0) (by decide +kernel) rfl).trans ?_
  refine (go_iload_n (m := 92) (pc := 1) (k := 1) (by decide +kernel) rfl).trans ?_
  exact go_vir (m := 92) (pc := 2) (o := 6) (x := 80) (y := 112) (kd := 0) (b := a_l0) (bs := [.int x_l1]) (rs := []) (by decide +kernel) rfl rfl c_6_80 (Or.inl rfl) rfl rfl rfl (by decide +kernel) (by simp only [List.length_cons, List.length_nil]; decide) (Nat.le_of_ble_eq_true rfl) h0
theorem Two_listener_5_0 (l0 : Value) (l1 : Value) (x_l2 : Int32) (l3 : Value) (w : Wd) (I : MI) (L : ML) (P : MP)  : go 92 5 [l0, l1, .int x_l2, l3] [.null] w I L P = kC (call 110 [.int x_l2, .int (nI 0), .int (nI 5)] w I L P) (fun v w1 I1 L1 P1 => go 92 12 [l0, l1, .int x_l2, .null] (v.toList ++ []) w1 I1 L1 P1) := by
  refine (go_astore_nN (m := 92) (pc := 5) (k := 3) (ls' := [l0, l1, .int x_l2, .null]) (by decide +kernel) (by simp only [List.length_cons, List.length_nil]; decide) rfl).trans ?_
  refine (go_iload_n (m := 92) (pc := 6) (k := 2) (by decide +kernel) rfl).trans ?_
  refine (go_ic (m := 92) (pc := 7) (n := 0) (by decide +kernel) ic_0).trans ?_
  refine (go_ic (m := 92) (pc := 8) (n := 5) (by decide +kernel) ic_5).trans ?_
  exact go_sta (m := 92) (pc := 9) (o := 6) (x := 37) (y := 110) (kd := 2) (as := [.int x_l2, .int (nI 0), .int (nI 5)]) (rs := []) (by decide +kernel) rfl rfl c_6_37 (Or.inl rfl) rfl rfl rfl (by decide +kernel) (by simp only [List.length_cons, List.length_nil]; decide) (Nat.le_of_ble_eq_true rfl)
theorem Two_listener_5_1 (l0 : Value) (l1 : Value) (x_l2 : Int32) (l3 : Value) (a_s0 : Nat) (w : Wd) (I : MI) (L : ML) (P : MP)  : go 92 5 [l0, l1, .int x_l2, l3] [.ref a_s0] w I L P = kC (call 110 [.int x_l2, .int (nI 0), .int (nI 5)] w I L P) (fun v w1 I1 L1 P1 => go 92 12 [l0, l1, .int x_l2, .ref a_s0] (v.toList ++ []) w1 I1 L1 P1) := by
  refine (go_astore_n (m := 92) (pc := 5) (k := 3) (ls' := [l0, l1, .int x_l2, .ref a_s0]) (by decide +kernel) (by simp only [List.length_cons, List.length_nil]; decide) rfl).trans ?_
  refine (go_iload_n (m := 92) (pc := 6) (k := 2) (by decide +kernel) rfl).trans ?_
  refine (go_ic (m := 92) (pc := 7) (n := 0) (by decide +kernel) ic_0).trans ?_
  refine (go_ic (m := 92) (pc := 8) (n := 5) (by decide +kernel) ic_5).trans ?_
  exact go_sta (m := 92) (pc := 9) (o := 6) (x := 37) (y := 110) (kd := 2) (as := [.int x_l2, .int (nI 0), .int (nI 5)]) (rs := []) (by decide +kernel) rfl rfl c_6_37 (Or.inl rfl) rfl rfl rfl (by decide +kernel) (by simp only [List.length_cons, List.length_nil]; decide) (Nat.le_of_ble_eq_true rfl)
theorem Two_listener_12 (l0 : Value) (l1 : Value) (x_l2 : Int32) (a_l3 : Nat) (w : Wd) (I : MI) (L : ML) (P : MP) (h0 : w.1 a_l3 = some (2, 0)) : go 92 12 [l0, l1, .int x_l2, .ref a_l3] [] w I L P = kC (call 20 [.ref a_l3, .int x_l2] w I L P) (fun v w1 I1 L1 P1 => go 92 17 [l0, l1, .int x_l2, .ref a_l3] (v.toList ++ []) w1 I1 L1 P1) := by
  refine (go_aload_n (m := 92) (pc := 12) (k := 3) (by decide +kernel) rfl).trans ?_
  refine (go_iload_n (m := 92) (pc := 13) (k := 2) (by decide +kernel) rfl).trans ?_
  exact go_vir (m := 92) (pc := 14) (o := 6) (x := 153) (y := 20) (kd := 1) (b := a_l3) (bs := [.int x_l2]) (rs := []) (by decide +kernel) rfl rfl c_6_153 (Or.inr rfl) rfl rfl rfl (by decide +kernel) (by simp only [List.length_cons, List.length_nil]; decide) (Nat.le_of_ble_eq_true rfl) h0
theorem Two_listener_17 (l0 : Value) (l1 : Value) (l2 : Value) (l3 : Value) (y0 : Int32) (w : Wd) (I : MI) (L : ML) (P : MP)  : go 92 17 [l0, l1, l2, l3] [.int y0] w I L P = some (.inl (some (.int y0)), w, I, L, P) := by
  exact go_retI (m := 92) (pc := 17) (by decide +kernel) rfl
theorem Two_listener_E (this : Nat) (p0 : Int32) (p1 : Int32) (w : Wd) (I : MI) (L : ML) (P : MP) : call 92 [.ref this, .int p0, .int p1] w I L P = go 92 0 [.ref this, .int p0, .int p1, unk] [] w I L P := rfl
theorem Two_memory_0 (a_l0 : Nat) (x_l1 : Int32) (l2 : Value) (l3 : Value) (w : Wd) (I : MI) (L : ML) (P : MP) (h0 : w.1 a_l0 = some (6, 0)) : go 93 0 [.ref a_l0, .int x_l1, l2, l3] [] w I L P = kC (call 112 [.ref a_l0, .int x_l1] w I L P) (fun v w1 I1 L1 P1 => go 93 5 [.ref a_l0, .int x_l1, l2, l3] (v.toList ++ []) w1 I1 L1 P1) := by
  refine (go_aload_n (m := 93) (pc := 0) (k := 0) (by decide +kernel) rfl).trans ?_
  refine (go_iload_n (m := 93) (pc := 1) (k := 1) (by decide +kernel) rfl).trans ?_
  exact go_vir (m := 93) (pc := 2) (o := 6) (x := 80) (y := 112) (kd := 0) (b := a_l0) (bs := [.int x_l1]) (rs := []) (by decide +kernel) rfl rfl c_6_80 (Or.inl rfl) rfl rfl rfl (by decide +kernel) (by simp only [List.length_cons, List.length_nil]; decide) (Nat.le_of_ble_eq_true rfl) h0
theorem Two_memory_5_0 (l0 : Value) (l1 : Value) (x_l2 : Int32) (l3 : Value) (w : Wd) (I : MI) (L : ML) (P : MP)  : go 93 5 [l0, l1, .int x_l2, l3] [.null] w I L P = if x_l2 < 0 then go 93 18 [l0, l1, .int x_l2, .null] [] w I L P else go 93 10 [l0, l1, .int x_l2, .null] [] w I L P := by
  refine (go_astore_nN (m := 93) (pc := 5) (k := 3) (ls' := [l0, l1, .int x_l2, .null]) (by decide +kernel) (by simp only [List.length_cons, List.length_nil]; decide) rfl).trans ?_
  refine (go_iload_n (m := 93) (pc := 6) (k := 2) (by decide +kernel) rfl).trans ?_
  exact go_iflt (m := 93) (pc := 7) (off := 11) (t := 18) (by decide +kernel) (by decide)
theorem Two_memory_5_1 (l0 : Value) (l1 : Value) (x_l2 : Int32) (l3 : Value) (a_s0 : Nat) (w : Wd) (I : MI) (L : ML) (P : MP)  : go 93 5 [l0, l1, .int x_l2, l3] [.ref a_s0] w I L P = if x_l2 < 0 then go 93 18 [l0, l1, .int x_l2, .ref a_s0] [] w I L P else go 93 10 [l0, l1, .int x_l2, .ref a_s0] [] w I L P := by
  refine (go_astore_n (m := 93) (pc := 5) (k := 3) (ls' := [l0, l1, .int x_l2, .ref a_s0]) (by decide +kernel) (by simp only [List.length_cons, List.length_nil]; decide) rfl).trans ?_
  refine (go_iload_n (m := 93) (pc := 6) (k := 2) (by decide +kernel) rfl).trans ?_
  exact go_iflt (m := 93) (pc := 7) (off := 11) (t := 18) (by decide +kernel) (by decide)
theorem Two_memory_10 (l0 : Value) (l1 : Value) (x_l2 : Int32) (a_l3 : Nat) (w : Wd) (I : MI) (L : ML) (P : MP) (h0 : w.1 a_l3 = some (2, 0)) : go 93 10 [l0, l1, .int x_l2, .ref a_l3] [] w I L P = if x_l2 < (I a_l3 5) then go 93 28 [l0, l1, .int x_l2, .ref a_l3] [] w I L P else go 93 18 [l0, l1, .int x_l2, .ref a_l3] [] w I L P := by
  refine (go_iload_n (m := 93) (pc := 10) (k := 2) (by decide +kernel) rfl).trans ?_
  refine (go_aload_n (m := 93) (pc := 11) (k := 3) (by decide +kernel) rfl).trans ?_
  refine (go_getI (m := 93) (pc := 12) (o := 6) (x := 154) (ci := 2) (k := 5) (by decide +kernel) rfl f_6_154 rfl h0).trans ?_
  exact go_icmplt (m := 93) (pc := 15) (off := 13) (t := 28) (by decide +kernel) (by decide)
theorem Two_memory_18 (l0 : Value) (l1 : Value) (l2 : Value) (l3 : Value) (w : Wd) (I : MI) (L : ML) (P : MP)  : go 93 18 [l0, l1, l2, l3] [] w I L P = some (.inr 2, thrT w, I, L, P) := by
  exact go_thr (m := 93) (pc := 18) (ik := 145) (is := 155) (x := 2) (e := 102) (by decide +kernel) rfl (by decide +kernel) rfl (by decide) (by decide +kernel) (by decide +kernel) (by decide +kernel) (by decide +kernel) (by decide +kernel) rfl (by decide +kernel) (by decide +kernel)
theorem Two_memory_28 (l0 : Value) (l1 : Value) (x_l2 : Int32) (a_l3 : Nat) (w : Wd) (I : MI) (L : ML) (P : MP) (h0 : w.1 a_l3 = some (2, 0)) : go 93 28 [l0, l1, .int x_l2, .ref a_l3] [] w I L P = kC (call 17 [.ref a_l3, .int x_l2] w I L P) (fun v w1 I1 L1 P1 => go 93 33 [l0, l1, .int x_l2, .ref a_l3] (v.toList ++ []) w1 I1 L1 P1) := by
  refine (go_aload_n (m := 93) (pc := 28) (k := 3) (by decide +kernel) rfl).trans ?_
  refine (go_iload_n (m := 93) (pc := 29) (k := 2) (by decide +kernel) rfl).trans ?_
  exact go_vir (m := 93) (pc := 30) (o := 6) (x := 157) (y := 17) (kd := 1) (b := a_l3) (bs := [.int x_l2]) (rs := []) (by decide +kernel) rfl rfl c_6_157 (Or.inr rfl) rfl rfl rfl (by decide +kernel) (by simp only [List.length_cons, List.length_nil]; decide) (Nat.le_of_ble_eq_true rfl) h0
theorem Two_memory_33 (l0 : Value) (l1 : Value) (l2 : Value) (l3 : Value) (y0 : Int32) (w : Wd) (I : MI) (L : ML) (P : MP)  : go 93 33 [l0, l1, l2, l3] [.int y0] w I L P = some (.inl (some (.int y0)), w, I, L, P) := by
  exact go_retI (m := 93) (pc := 33) (by decide +kernel) rfl
theorem Two_memory_E (this : Nat) (p0 : Int32) (p1 : Int32) (w : Wd) (I : MI) (L : ML) (P : MP) : call 93 [.ref this, .int p0, .int p1] w I L P = go 93 0 [.ref this, .int p0, .int p1, unk] [] w I L P := rfl
theorem Two_value_0 (l0 : Value) (x_l1 : Int32) (w : Wd) (I : MI) (L : ML) (P : MP)  : go 94 0 [l0, .int x_l1] [] w I L P = kC (call 110 [.int x_l1, .int (nI 0), .int (nI 9)] w I L P) (fun v w1 I1 L1 P1 => go 94 7 [l0, .int x_l1] (v.toList ++ []) w1 I1 L1 P1) := by
  refine (go_iload_n (m := 94) (pc := 0) (k := 1) (by decide +kernel) rfl).trans ?_
  refine (go_ic (m := 94) (pc := 1) (n := 0) (by decide +kernel) ic_0).trans ?_
  refine (go_bi (m := 94) (pc := 2) (n := 9) (by decide +kernel) bi_9).trans ?_
  exact go_sta (m := 94) (pc := 4) (o := 6) (x := 37) (y := 110) (kd := 2) (as := [.int x_l1, .int (nI 0), .int (nI 9)]) (rs := []) (by decide +kernel) rfl rfl c_6_37 (Or.inl rfl) rfl rfl rfl (by decide +kernel) (by simp only [List.length_cons, List.length_nil]; decide) (Nat.le_of_ble_eq_true rfl)
theorem Two_value_7 (a_l0 : Nat) (l1 : Value) (w : Wd) (I : MI) (L : ML) (P : MP) (h0 : w.1 a_l0 = some (6, 0)) : go 94 7 [.ref a_l0, l1] [] w I L P = go 94 11 [.ref a_l0, l1] [(va_rf (P a_l0 0))] w I L P := by
  refine (go_aload_n (m := 94) (pc := 7) (k := 0) (by decide +kernel) rfl).trans ?_
  refine (go_getR (m := 94) (pc := 8) (o := 6) (x := 10) (ci := 6) (k := 0) (by decide +kernel) rfl f_6_10 rfl h0).trans ?_
  rfl
theorem Two_value_11 (l0 : Value) (x_l1 : Int32) (a_s0 : Nat) (w : Wd) (I : MI) (L : ML) (P : MP) (h0 : w.1 a_s0 = some (0, 0)) : go 94 11 [l0, .int x_l1] [.ref a_s0] w I L P = kC (call 38 [.ref a_s0, .int x_l1] w I L P) (fun v w1 I1 L1 P1 => go 94 15 [l0, .int x_l1] (v.toList ++ []) w1 I1 L1 P1) := by
  refine (go_iload_n (m := 94) (pc := 11) (k := 1) (by decide +kernel) rfl).trans ?_
  exact go_vir (m := 94) (pc := 12) (o := 6) (x := 160) (y := 38) (kd := 1) (b := a_s0) (bs := [.int x_l1]) (rs := []) (by decide +kernel) rfl rfl c_6_160 (Or.inr rfl) rfl rfl rfl (by decide +kernel) (by simp only [List.length_cons, List.length_nil]; decide) (Nat.le_of_ble_eq_true rfl) h0
theorem Two_value_15 (l0 : Value) (l1 : Value) (y0 : Int32) (w : Wd) (I : MI) (L : ML) (P : MP)  : go 94 15 [l0, l1] [.int y0] w I L P = some (.inl (some (.int y0)), w, I, L, P) := by
  exact go_retI (m := 94) (pc := 15) (by decide +kernel) rfl
theorem Two_value_E (this : Nat) (p0 : Int32) (w : Wd) (I : MI) (L : ML) (P : MP) : call 94 [.ref this, .int p0] w I L P = go 94 0 [.ref this, .int p0] [] w I L P := rfl
theorem Two_log_0 (l0 : Value) (x_l1 : Int32) (l2 : Value) (w : Wd) (I : MI) (L : ML) (P : MP)  : go 95 0 [l0, .int x_l1, l2] [] w I L P = if x_l1 < 0 then go 95 18 [l0, .int x_l1, l2] [] w I L P else go 95 4 [l0, .int x_l1, l2] [] w I L P := by
  refine (go_iload_n (m := 95) (pc := 0) (k := 1) (by decide +kernel) rfl).trans ?_
  exact go_iflt (m := 95) (pc := 1) (off := 17) (t := 18) (by decide +kernel) (by decide)
theorem Two_log_4 (a_l0 : Nat) (x_l1 : Int32) (l2 : Value) (w : Wd) (I : MI) (L : ML) (P : MP) (h0 : w.1 a_l0 = some (6, 0)) : go 95 4 [.ref a_l0, .int x_l1, l2] [] w I L P = go 95 9 [.ref a_l0, .int x_l1, l2] [(va_rf (P a_l0 0)), .int x_l1] w I L P := by
  refine (go_iload_n (m := 95) (pc := 4) (k := 1) (by decide +kernel) rfl).trans ?_
  refine (go_aload_n (m := 95) (pc := 5) (k := 0) (by decide +kernel) rfl).trans ?_
  refine (go_getR (m := 95) (pc := 6) (o := 6) (x := 10) (ci := 6) (k := 0) (by decide +kernel) rfl f_6_10 rfl h0).trans ?_
  rfl
theorem Two_log_9 (l0 : Value) (l1 : Value) (l2 : Value) (y0 : Int32) (a_s1 : Nat) (w : Wd) (I : MI) (L : ML) (P : MP) (h0 : w.1 a_s1 = some (0, 0)) : go 95 9 [l0, l1, l2] [.ref a_s1, .int y0] w I L P = go 95 12 [l0, l1, l2] [(va_rf (P a_s1 5)), .int y0] w I L P := by
  refine (go_getR (m := 95) (pc := 9) (o := 6) (x := 41) (ci := 0) (k := 5) (by decide +kernel) rfl f_6_41 rfl h0).trans ?_
  rfl
theorem Two_log_12 (l0 : Value) (l1 : Value) (l2 : Value) (y0 : Int32) (a_s1 : Nat) (w : Wd) (I : MI) (L : ML) (P : MP) (h0 : w.1 a_s1 = some (5, 0)) : go 95 12 [l0, l1, l2] [.ref a_s1, .int y0] w I L P = kC (call 23 [.ref a_s1] w I L P) (fun v w1 I1 L1 P1 => go 95 15 [l0, l1, l2] (v.toList ++ [.int y0]) w1 I1 L1 P1) := by
  exact go_vir (m := 95) (pc := 12) (o := 6) (x := 161) (y := 23) (kd := 1) (b := a_s1) (bs := []) (rs := [.int y0]) (by decide +kernel) rfl rfl c_6_161 (Or.inr rfl) rfl rfl rfl (by decide +kernel) (by simp only [List.length_cons, List.length_nil]; decide) (Nat.le_of_ble_eq_true rfl) h0
theorem Two_log_15 (l0 : Value) (l1 : Value) (l2 : Value) (y0 : Int32) (y1 : Int32) (w : Wd) (I : MI) (L : ML) (P : MP)  : go 95 15 [l0, l1, l2] [.int y1, .int y0] w I L P = if y0 < y1 then go 95 28 [l0, l1, l2] [] w I L P else go 95 18 [l0, l1, l2] [] w I L P := by
  exact go_icmplt (m := 95) (pc := 15) (off := 13) (t := 28) (by decide +kernel) (by decide)
theorem Two_log_18 (l0 : Value) (l1 : Value) (l2 : Value) (w : Wd) (I : MI) (L : ML) (P : MP)  : go 95 18 [l0, l1, l2] [] w I L P = some (.inr 2, thrT w, I, L, P) := by
  exact go_thr (m := 95) (pc := 18) (ik := 145) (is := 164) (x := 2) (e := 102) (by decide +kernel) rfl (by decide +kernel) rfl (by decide) (by decide +kernel) (by decide +kernel) (by decide +kernel) (by decide +kernel) (by decide +kernel) rfl (by decide +kernel) (by decide +kernel)
theorem Two_log_28 (l0 : Value) (l1 : Value) (x_l2 : Int32) (w : Wd) (I : MI) (L : ML) (P : MP)  : go 95 28 [l0, l1, .int x_l2] [] w I L P = kC (call 110 [.int x_l2, .int (nI 0), .int (nI 2)] w I L P) (fun v w1 I1 L1 P1 => go 95 34 [l0, l1, .int x_l2] (v.toList ++ []) w1 I1 L1 P1) := by
  refine (go_iload_n (m := 95) (pc := 28) (k := 2) (by decide +kernel) rfl).trans ?_
  refine (go_ic (m := 95) (pc := 29) (n := 0) (by decide +kernel) ic_0).trans ?_
  refine (go_ic (m := 95) (pc := 30) (n := 2) (by decide +kernel) ic_2).trans ?_
  exact go_sta (m := 95) (pc := 31) (o := 6) (x := 37) (y := 110) (kd := 2) (as := [.int x_l2, .int (nI 0), .int (nI 2)]) (rs := []) (by decide +kernel) rfl rfl c_6_37 (Or.inl rfl) rfl rfl rfl (by decide +kernel) (by simp only [List.length_cons, List.length_nil]; decide) (Nat.le_of_ble_eq_true rfl)
theorem Two_log_34 (a_l0 : Nat) (l1 : Value) (l2 : Value) (w : Wd) (I : MI) (L : ML) (P : MP) (h0 : w.1 a_l0 = some (6, 0)) : go 95 34 [.ref a_l0, l1, l2] [] w I L P = go 95 38 [.ref a_l0, l1, l2] [(va_rf (P a_l0 0))] w I L P := by
  refine (go_aload_n (m := 95) (pc := 34) (k := 0) (by decide +kernel) rfl).trans ?_
  refine (go_getR (m := 95) (pc := 35) (o := 6) (x := 10) (ci := 6) (k := 0) (by decide +kernel) rfl f_6_10 rfl h0).trans ?_
  rfl
theorem Two_log_38 (l0 : Value) (l1 : Value) (l2 : Value) (a_s0 : Nat) (w : Wd) (I : MI) (L : ML) (P : MP) (h0 : w.1 a_s0 = some (0, 0)) : go 95 38 [l0, l1, l2] [.ref a_s0] w I L P = go 95 41 [l0, l1, l2] [(va_rf (P a_s0 5))] w I L P := by
  refine (go_getR (m := 95) (pc := 38) (o := 6) (x := 41) (ci := 0) (k := 5) (by decide +kernel) rfl f_6_41 rfl h0).trans ?_
  rfl
theorem Two_log_41 (l0 : Value) (x_l1 : Int32) (x_l2 : Int32) (a_s0 : Nat) (w : Wd) (I : MI) (L : ML) (P : MP) (h0 : w.1 a_s0 = some (5, 0)) : go 95 41 [l0, .int x_l1, .int x_l2] [.ref a_s0] w I L P = kC (call 25 [.ref a_s0, .int x_l1, .int x_l2] w I L P) (fun v w1 I1 L1 P1 => go 95 46 [l0, .int x_l1, .int x_l2] (v.toList ++ []) w1 I1 L1 P1) := by
  refine (go_iload_n (m := 95) (pc := 41) (k := 1) (by decide +kernel) rfl).trans ?_
  refine (go_iload_n (m := 95) (pc := 42) (k := 2) (by decide +kernel) rfl).trans ?_
  exact go_vir (m := 95) (pc := 43) (o := 6) (x := 166) (y := 25) (kd := 1) (b := a_s0) (bs := [.int x_l1, .int x_l2]) (rs := []) (by decide +kernel) rfl rfl c_6_166 (Or.inr rfl) rfl rfl rfl (by decide +kernel) (by simp only [List.length_cons, List.length_nil]; decide) (Nat.le_of_ble_eq_true rfl) h0
theorem Two_log_46 (l0 : Value) (l1 : Value) (l2 : Value) (y0 : Int32) (w : Wd) (I : MI) (L : ML) (P : MP)  : go 95 46 [l0, l1, l2] [.int y0] w I L P = some (.inl (some (.int y0)), w, I, L, P) := by
  exact go_retI (m := 95) (pc := 46) (by decide +kernel) rfl
theorem Two_log_E (this : Nat) (p0 : Int32) (p1 : Int32) (w : Wd) (I : MI) (L : ML) (P : MP) : call 95 [.ref this, .int p0, .int p1] w I L P = go 95 0 [.ref this, .int p0, .int p1] [] w I L P := rfl
theorem Two_slotsToFinish_0 (a_l0 : Nat) (w : Wd) (I : MI) (L : ML) (P : MP) (h0 : w.1 a_l0 = some (6, 0)) : go 96 0 [.ref a_l0] [] w I L P = kC (call 115 [.ref a_l0] w I L P) (fun v w1 I1 L1 P1 => go 96 4 [.ref a_l0] (v.toList ++ []) w1 I1 L1 P1) := by
  refine (go_aload_n (m := 96) (pc := 0) (k := 0) (by decide +kernel) rfl).trans ?_
  exact go_vir (m := 96) (pc := 1) (o := 6) (x := 168) (y := 115) (kd := 0) (b := a_l0) (bs := []) (rs := []) (by decide +kernel) rfl rfl c_6_168 (Or.inl rfl) rfl rfl rfl (by decide +kernel) (by simp only [List.length_cons, List.length_nil]; decide) (Nat.le_of_ble_eq_true rfl) h0
theorem Two_slotsToFinish_4 (l0 : Value) (y0 : Int32) (w : Wd) (I : MI) (L : ML) (P : MP)  : go 96 4 [l0] [.int y0] w I L P = some (.inl (some (.int y0)), w, I, L, P) := by
  exact go_retI (m := 96) (pc := 4) (by decide +kernel) rfl
theorem Two_slotsToFinish_E (this : Nat) (w : Wd) (I : MI) (L : ML) (P : MP) : call 96 [.ref this] w I L P = go 96 0 [.ref this] [] w I L P := rfl
theorem Two_alone_0 (a_l0 : Nat) (x_l1 : Int32) (l2 : Value) (w : Wd) (I : MI) (L : ML) (P : MP) (h0 : w.1 a_l0 = some (6, 0)) : go 97 0 [.ref a_l0, .int x_l1, l2] [] w I L P = kC (call 111 [.ref a_l0, .int x_l1] w I L P) (fun v w1 I1 L1 P1 => go 97 5 [.ref a_l0, .int x_l1, l2] (v.toList ++ []) w1 I1 L1 P1) := by
  refine (go_aload_n (m := 97) (pc := 0) (k := 0) (by decide +kernel) rfl).trans ?_
  refine (go_iload_n (m := 97) (pc := 1) (k := 1) (by decide +kernel) rfl).trans ?_
  exact go_vir (m := 97) (pc := 2) (o := 6) (x := 102) (y := 111) (kd := 0) (b := a_l0) (bs := [.int x_l1]) (rs := []) (by decide +kernel) rfl rfl c_6_102 (Or.inl rfl) rfl rfl rfl (by decide +kernel) (by simp only [List.length_cons, List.length_nil]; decide) (Nat.le_of_ble_eq_true rfl) h0
theorem Two_alone_5 (l0 : Value) (l1 : Value) (l2 : Value) (a_s0 : Nat) (w : Wd) (I : MI) (L : ML) (P : MP) (h0 : w.1 a_s0 = some (1, 0)) : go 97 5 [l0, l1, l2] [.ref a_s0] w I L P = kC (call 7 [.ref a_s0, .int (nI 0)] w I L P) (fun v w1 I1 L1 P1 => go 97 9 [l0, l1, l2] (v.toList ++ []) w1 I1 L1 P1) := by
  refine (go_ic (m := 97) (pc := 5) (n := 0) (by decide +kernel) ic_0).trans ?_
  exact go_vir (m := 97) (pc := 6) (o := 6) (x := 141) (y := 7) (kd := 1) (b := a_s0) (bs := [.int (nI 0)]) (rs := []) (by decide +kernel) rfl rfl c_6_141 (Or.inr rfl) rfl rfl rfl (by decide +kernel) (by simp only [List.length_cons, List.length_nil]; decide) (Nat.le_of_ble_eq_true rfl) h0
theorem Two_alone_9_0 (l0 : Value) (l1 : Value) (l2 : Value) (w : Wd) (I : MI) (L : ML) (P : MP)  : go 97 9 [l0, l1, l2] [.null] w I L P = go 97 14 [l0, (fix1 l1), .null] [] w I L P := by
  refine (go_astore_nN (m := 97) (pc := 9) (k := 2) (ls' := [l0, (fix1 l1), .null]) (by decide +kernel) (by simp only [List.length_cons, List.length_nil]; decide) rfl).trans ?_
  refine (go_aload_nN (m := 97) (pc := 10) (k := 2) (by decide +kernel) rfl).trans ?_
  exact go_ifnonnullN (m := 97) (pc := 11) (off := 7) (by decide +kernel)
theorem Two_alone_9_1 (l0 : Value) (l1 : Value) (l2 : Value) (a_s0 : Nat) (w : Wd) (I : MI) (L : ML) (P : MP)  : go 97 9 [l0, l1, l2] [.ref a_s0] w I L P = go 97 18 [l0, (fix1 l1), .ref a_s0] [] w I L P := by
  refine (go_astore_n (m := 97) (pc := 9) (k := 2) (ls' := [l0, (fix1 l1), .ref a_s0]) (by decide +kernel) (by simp only [List.length_cons, List.length_nil]; decide) rfl).trans ?_
  refine (go_aload_n (m := 97) (pc := 10) (k := 2) (by decide +kernel) rfl).trans ?_
  exact go_ifnonnullR (m := 97) (pc := 11) (off := 7) (t := 18) (by decide +kernel) (by decide)
theorem Two_alone_14 (l0 : Value) (l1 : Value) (l2 : Value) (w : Wd) (I : MI) (L : ML) (P : MP)  : go 97 14 [l0, l1, l2] [] w I L P = go 97 26 [l0, l1, l2] [.int (-1)] w I L P := by
  refine (go_ic (m := 97) (pc := 14) (n := -1) (by decide +kernel) ic_m1).trans ?_
  refine (go_goto (m := 97) (pc := 15) (off := 11) (t := 26) (by decide +kernel) (by decide)).trans ?_
  rfl
theorem Two_alone_18 (a_l0 : Nat) (l1 : Value) (l2 : Value) (w : Wd) (I : MI) (L : ML) (P : MP) (h0 : w.1 a_l0 = some (6, 0)) : go 97 18 [.ref a_l0, l1, l2] [] w I L P = go 97 22 [.ref a_l0, l1, l2] [(va_rf (P a_l0 0))] w I L P := by
  refine (go_aload_n (m := 97) (pc := 18) (k := 0) (by decide +kernel) rfl).trans ?_
  refine (go_getR (m := 97) (pc := 19) (o := 6) (x := 10) (ci := 6) (k := 0) (by decide +kernel) rfl f_6_10 rfl h0).trans ?_
  rfl
theorem Two_alone_22_0 (l0 : Value) (l1 : Value) (a_s0 : Nat) (w : Wd) (I : MI) (L : ML) (P : MP) (h0 : w.1 a_s0 = some (0, 0)) : go 97 22 [l0, l1, .null] [.ref a_s0] w I L P = kC (call 41 [.ref a_s0, .null] w I L P) (fun v w1 I1 L1 P1 => go 97 26 [l0, l1, .null] (v.toList ++ []) w1 I1 L1 P1) := by
  refine (go_aload_nN (m := 97) (pc := 22) (k := 2) (by decide +kernel) rfl).trans ?_
  exact go_vir (m := 97) (pc := 23) (o := 6) (x := 171) (y := 41) (kd := 1) (b := a_s0) (bs := [.null]) (rs := []) (by decide +kernel) rfl rfl c_6_171 (Or.inr rfl) rfl rfl rfl (by decide +kernel) (by simp only [List.length_cons, List.length_nil]; decide) (Nat.le_of_ble_eq_true rfl) h0
theorem Two_alone_22_1 (l0 : Value) (l1 : Value) (a_l2 : Nat) (a_s0 : Nat) (w : Wd) (I : MI) (L : ML) (P : MP) (h0 : w.1 a_s0 = some (0, 0)) : go 97 22 [l0, l1, .ref a_l2] [.ref a_s0] w I L P = kC (call 41 [.ref a_s0, .ref a_l2] w I L P) (fun v w1 I1 L1 P1 => go 97 26 [l0, l1, .ref a_l2] (v.toList ++ []) w1 I1 L1 P1) := by
  refine (go_aload_n (m := 97) (pc := 22) (k := 2) (by decide +kernel) rfl).trans ?_
  exact go_vir (m := 97) (pc := 23) (o := 6) (x := 171) (y := 41) (kd := 1) (b := a_s0) (bs := [.ref a_l2]) (rs := []) (by decide +kernel) rfl rfl c_6_171 (Or.inr rfl) rfl rfl rfl (by decide +kernel) (by simp only [List.length_cons, List.length_nil]; decide) (Nat.le_of_ble_eq_true rfl) h0
theorem Two_alone_26 (l0 : Value) (l1 : Value) (l2 : Value) (y0 : Int32) (w : Wd) (I : MI) (L : ML) (P : MP)  : go 97 26 [l0, l1, l2] [.int y0] w I L P = some (.inl (some (.int y0)), w, I, L, P) := by
  exact go_retI (m := 97) (pc := 26) (by decide +kernel) rfl
theorem Two_alone_E (this : Nat) (p0 : Int32) (w : Wd) (I : MI) (L : ML) (P : MP) : call 97 [.ref this, .int p0] w I L P = go 97 0 [.ref this, .int p0, unk] [] w I L P := rfl
theorem Two_winners_0 (a_l0 : Nat) (w : Wd) (I : MI) (L : ML) (P : MP) (h0 : w.1 a_l0 = some (6, 0)) : go 98 0 [.ref a_l0] [] w I L P = go 98 4 [.ref a_l0] [(va_rf (P a_l0 0))] w I L P := by
  refine (go_aload_n (m := 98) (pc := 0) (k := 0) (by decide +kernel) rfl).trans ?_
  refine (go_getR (m := 98) (pc := 1) (o := 6) (x := 10) (ci := 6) (k := 0) (by decide +kernel) rfl f_6_10 rfl h0).trans ?_
  rfl
theorem Two_winners_4 (l0 : Value) (a_s0 : Nat) (w : Wd) (I : MI) (L : ML) (P : MP) (h0 : w.1 a_s0 = some (0, 0)) : go 98 4 [l0] [.ref a_s0] w I L P = kC (call 40 [.ref a_s0] w I L P) (fun v w1 I1 L1 P1 => go 98 7 [l0] (v.toList ++ []) w1 I1 L1 P1) := by
  exact go_vir (m := 98) (pc := 4) (o := 6) (x := 175) (y := 40) (kd := 1) (b := a_s0) (bs := []) (rs := []) (by decide +kernel) rfl rfl c_6_175 (Or.inr rfl) rfl rfl rfl (by decide +kernel) (by simp only [List.length_cons, List.length_nil]; decide) (Nat.le_of_ble_eq_true rfl) h0
theorem Two_winners_7 (l0 : Value) (y0 : Int32) (w : Wd) (I : MI) (L : ML) (P : MP)  : go 98 7 [l0] [.int y0] w I L P = some (.inl (some (.int y0)), w, I, L, P) := by
  exact go_retI (m := 98) (pc := 7) (by decide +kernel) rfl
theorem Two_winners_E (this : Nat) (w : Wd) (I : MI) (L : ML) (P : MP) : call 98 [.ref this] w I L P = go 98 0 [.ref this] [] w I L P := rfl
theorem Two_delivers_0 (a_l0 : Nat) (x_l1 : Int32) (l2 : Value) (l3 : Value) (w : Wd) (I : MI) (L : ML) (P : MP) (h0 : w.1 a_l0 = some (6, 0)) : go 99 0 [.ref a_l0, .int x_l1, l2, l3] [] w I L P = kC (call 111 [.ref a_l0, .int x_l1] w I L P) (fun v w1 I1 L1 P1 => go 99 5 [.ref a_l0, .int x_l1, l2, l3] (v.toList ++ []) w1 I1 L1 P1) := by
  refine (go_aload_n (m := 99) (pc := 0) (k := 0) (by decide +kernel) rfl).trans ?_
  refine (go_iload_n (m := 99) (pc := 1) (k := 1) (by decide +kernel) rfl).trans ?_
  exact go_vir (m := 99) (pc := 2) (o := 6) (x := 102) (y := 111) (kd := 0) (b := a_l0) (bs := [.int x_l1]) (rs := []) (by decide +kernel) rfl rfl c_6_102 (Or.inl rfl) rfl rfl rfl (by decide +kernel) (by simp only [List.length_cons, List.length_nil]; decide) (Nat.le_of_ble_eq_true rfl) h0
theorem Two_delivers_5 (l0 : Value) (l1 : Value) (l2 : Value) (l3 : Value) (a_s0 : Nat) (w : Wd) (I : MI) (L : ML) (P : MP) (h0 : w.1 a_s0 = some (1, 0)) : go 99 5 [l0, l1, l2, l3] [.ref a_s0] w I L P = kC (call 13 [.ref a_s0, .int (nI 1)] w I L P) (fun v w1 I1 L1 P1 => go 99 9 [l0, l1, l2, l3] (v.toList ++ []) w1 I1 L1 P1) := by
  refine (go_ic (m := 99) (pc := 5) (n := 1) (by decide +kernel) ic_1).trans ?_
  exact go_vir (m := 99) (pc := 6) (o := 6) (x := 138) (y := 13) (kd := 1) (b := a_s0) (bs := [.int (nI 1)]) (rs := []) (by decide +kernel) rfl rfl c_6_138 (Or.inr rfl) rfl rfl rfl (by decide +kernel) (by simp only [List.length_cons, List.length_nil]; decide) (Nat.le_of_ble_eq_true rfl) h0
theorem Two_delivers_9 (a_l0 : Nat) (l1 : Value) (l2 : Value) (l3 : Value) (y0 : Int32) (w : Wd) (I : MI) (L : ML) (P : MP) (h0 : w.1 a_l0 = some (6, 0)) : go 99 9 [.ref a_l0, l1, l2, l3] [.int y0] w I L P = kC (call 115 [.ref a_l0] w I L P) (fun v w1 I1 L1 P1 => go 99 14 [.ref a_l0, (fix1 l1), .int y0, l3] (v.toList ++ []) w1 I1 L1 P1) := by
  refine (go_istore_n (m := 99) (pc := 9) (k := 2) (ls' := [.ref a_l0, (fix1 l1), .int y0, l3]) (by decide +kernel) (by simp only [List.length_cons, List.length_nil]; decide) rfl).trans ?_
  refine (go_aload_n (m := 99) (pc := 10) (k := 0) (by decide +kernel) rfl).trans ?_
  exact go_vir (m := 99) (pc := 11) (o := 6) (x := 168) (y := 115) (kd := 0) (b := a_l0) (bs := []) (rs := []) (by decide +kernel) rfl rfl c_6_168 (Or.inl rfl) rfl rfl rfl (by decide +kernel) (by simp only [List.length_cons, List.length_nil]; decide) (Nat.le_of_ble_eq_true rfl) h0
theorem Two_delivers_14 (a_l0 : Nat) (l1 : Value) (l2 : Value) (l3 : Value) (y0 : Int32) (w : Wd) (I : MI) (L : ML) (P : MP) (h0 : w.1 a_l0 = some (6, 0)) : go 99 14 [.ref a_l0, l1, l2, l3] [.int y0] w I L P = go 99 19 [.ref a_l0, l1, l2, l3] [(va_rf (P a_l0 1))] w I L P := by
  refine (go_pop (m := 99) (pc := 14) (by decide +kernel) rfl).trans ?_
  refine (go_aload_n (m := 99) (pc := 15) (k := 0) (by decide +kernel) rfl).trans ?_
  refine (go_getR (m := 99) (pc := 16) (o := 6) (x := 16) (ci := 6) (k := 1) (by decide +kernel) rfl f_6_16 rfl h0).trans ?_
  rfl
theorem Two_delivers_19 (l0 : Value) (x_l1 : Int32) (l2 : Value) (l3 : Value) (a_s0 : Nat) (w : Wd) (I : MI) (L : ML) (P : MP) (h0 : w.1 a_s0 = some (0, 0)) : go 99 19 [l0, .int x_l1, l2, l3] [.ref a_s0] w I L P = kC (call 30 [.ref a_s0, .int x_l1] w I L P) (fun v w1 I1 L1 P1 => go 99 23 [l0, .int x_l1, l2, l3] (v.toList ++ []) w1 I1 L1 P1) := by
  refine (go_iload_n (m := 99) (pc := 19) (k := 1) (by decide +kernel) rfl).trans ?_
  exact go_vir (m := 99) (pc := 20) (o := 6) (x := 178) (y := 30) (kd := 1) (b := a_s0) (bs := [.int x_l1]) (rs := []) (by decide +kernel) rfl rfl c_6_178 (Or.inr rfl) rfl rfl rfl (by decide +kernel) (by simp only [List.length_cons, List.length_nil]; decide) (Nat.le_of_ble_eq_true rfl) h0
theorem Two_delivers_23_0 (l0 : Value) (l1 : Value) (l2 : Value) (l3 : Value) (w : Wd) (I : MI) (L : ML) (P : MP)  : go 99 23 [l0, l1, l2, l3] [.null] w I L P = go 99 28 [l0, l1, (fix1 l2), .null] [] w I L P := by
  refine (go_astore_nN (m := 99) (pc := 23) (k := 3) (ls' := [l0, l1, (fix1 l2), .null]) (by decide +kernel) (by simp only [List.length_cons, List.length_nil]; decide) rfl).trans ?_
  refine (go_aload_nN (m := 99) (pc := 24) (k := 3) (by decide +kernel) rfl).trans ?_
  exact go_ifnonnullN (m := 99) (pc := 25) (off := 7) (by decide +kernel)
theorem Two_delivers_23_1 (l0 : Value) (l1 : Value) (l2 : Value) (l3 : Value) (a_s0 : Nat) (w : Wd) (I : MI) (L : ML) (P : MP)  : go 99 23 [l0, l1, l2, l3] [.ref a_s0] w I L P = go 99 32 [l0, l1, (fix1 l2), .ref a_s0] [] w I L P := by
  refine (go_astore_n (m := 99) (pc := 23) (k := 3) (ls' := [l0, l1, (fix1 l2), .ref a_s0]) (by decide +kernel) (by simp only [List.length_cons, List.length_nil]; decide) rfl).trans ?_
  refine (go_aload_n (m := 99) (pc := 24) (k := 3) (by decide +kernel) rfl).trans ?_
  exact go_ifnonnullR (m := 99) (pc := 25) (off := 7) (t := 32) (by decide +kernel) (by decide)
theorem Two_delivers_28 (l0 : Value) (l1 : Value) (l2 : Value) (l3 : Value) (w : Wd) (I : MI) (L : ML) (P : MP)  : go 99 28 [l0, l1, l2, l3] [] w I L P = go 99 39 [l0, l1, l2, l3] [.int (nI 0)] w I L P := by
  refine (go_ic (m := 99) (pc := 28) (n := 0) (by decide +kernel) ic_0).trans ?_
  refine (go_goto (m := 99) (pc := 29) (off := 10) (t := 39) (by decide +kernel) (by decide)).trans ?_
  rfl
theorem Two_delivers_32 (l0 : Value) (l1 : Value) (l2 : Value) (a_l3 : Nat) (w : Wd) (I : MI) (L : ML) (P : MP) (h0 : w.1 a_l3 = some (1, 0)) : go 99 32 [l0, l1, l2, .ref a_l3] [] w I L P = kC (call 13 [.ref a_l3, .int (nI 1)] w I L P) (fun v w1 I1 L1 P1 => go 99 37 [l0, l1, l2, .ref a_l3] (v.toList ++ []) w1 I1 L1 P1) := by
  refine (go_aload_n (m := 99) (pc := 32) (k := 3) (by decide +kernel) rfl).trans ?_
  refine (go_ic (m := 99) (pc := 33) (n := 1) (by decide +kernel) ic_1).trans ?_
  exact go_vir (m := 99) (pc := 34) (o := 6) (x := 138) (y := 13) (kd := 1) (b := a_l3) (bs := [.int (nI 1)]) (rs := []) (by decide +kernel) rfl rfl c_6_138 (Or.inr rfl) rfl rfl rfl (by decide +kernel) (by simp only [List.length_cons, List.length_nil]; decide) (Nat.le_of_ble_eq_true rfl) h0
theorem Two_delivers_37 (l0 : Value) (l1 : Value) (x_l2 : Int32) (l3 : Value) (y0 : Int32) (w : Wd) (I : MI) (L : ML) (P : MP)  : go 99 37 [l0, l1, .int x_l2, l3] [.int y0] w I L P = go 99 39 [l0, l1, .int x_l2, l3] [.int (y0 - x_l2)] w I L P := by
  refine (go_iload_n (m := 99) (pc := 37) (k := 2) (by decide +kernel) rfl).trans ?_
  refine (go_isub (m := 99) (pc := 38) (by decide +kernel)).trans ?_
  rfl
theorem Two_delivers_39 (l0 : Value) (l1 : Value) (l2 : Value) (l3 : Value) (y0 : Int32) (w : Wd) (I : MI) (L : ML) (P : MP)  : go 99 39 [l0, l1, l2, l3] [.int y0] w I L P = some (.inl (some (.int y0)), w, I, L, P) := by
  exact go_retI (m := 99) (pc := 39) (by decide +kernel) rfl
theorem Two_delivers_E (this : Nat) (p0 : Int32) (w : Wd) (I : MI) (L : ML) (P : MP) : call 99 [.ref this, .int p0] w I L P = go 99 0 [.ref this, .int p0, unk, unk] [] w I L P := rfl
theorem Two_append_0 (l0 : Value) (x_l1 : Int32) (w : Wd) (I : MI) (L : ML) (P : MP)  : go 101 0 [l0, .int x_l1] [] w I L P = kC (call 110 [.int x_l1, .int (nI 0), .int (nI 127)] w I L P) (fun v w1 I1 L1 P1 => go 101 7 [l0, .int x_l1] (v.toList ++ []) w1 I1 L1 P1) := by
  refine (go_iload_n (m := 101) (pc := 0) (k := 1) (by decide +kernel) rfl).trans ?_
  refine (go_ic (m := 101) (pc := 1) (n := 0) (by decide +kernel) ic_0).trans ?_
  refine (go_bi (m := 101) (pc := 2) (n := 127) (by decide +kernel) bi_127).trans ?_
  exact go_sta (m := 101) (pc := 4) (o := 6) (x := 37) (y := 110) (kd := 2) (as := [.int x_l1, .int (nI 0), .int (nI 127)]) (rs := []) (by decide +kernel) rfl rfl c_6_37 (Or.inl rfl) rfl rfl rfl (by decide +kernel) (by simp only [List.length_cons, List.length_nil]; decide) (Nat.le_of_ble_eq_true rfl)
theorem Two_append_7 (a_l0 : Nat) (l1 : Value) (w : Wd) (I : MI) (L : ML) (P : MP) (h0 : w.1 a_l0 = some (6, 0)) : go 101 7 [.ref a_l0, l1] [] w I L P = go 101 11 [.ref a_l0, l1] [(va_rf (P a_l0 5))] w I L P := by
  refine (go_aload_n (m := 101) (pc := 7) (k := 0) (by decide +kernel) rfl).trans ?_
  refine (go_getR (m := 101) (pc := 8) (o := 6) (x := 33) (ci := 6) (k := 5) (by decide +kernel) rfl f_6_33 rfl h0).trans ?_
  rfl
theorem Two_append_11 (l0 : Value) (l1 : Value) (a_s0 : Nat) (w : Wd) (I : MI) (L : ML) (P : MP) (h0 : w.1 a_s0 = some (4, 0)) : go 101 11 [l0, l1] [.ref a_s0] w I L P = if (I a_s0 1) < (nI 100) then go 101 29 [l0, l1] [] w I L P else go 101 19 [l0, l1] [] w I L P := by
  refine (go_getI (m := 101) (pc := 11) (o := 6) (x := 184) (ci := 4) (k := 1) (by decide +kernel) rfl f_6_184 rfl h0).trans ?_
  refine (go_bi (m := 101) (pc := 14) (n := 100) (by decide +kernel) bi_100).trans ?_
  exact go_icmplt (m := 101) (pc := 16) (off := 13) (t := 29) (by decide +kernel) (by decide)
theorem Two_append_19 (l0 : Value) (l1 : Value) (w : Wd) (I : MI) (L : ML) (P : MP)  : go 101 19 [l0, l1] [] w I L P = some (.inr 1, thrT w, I, L, P) := by
  exact go_thr (m := 101) (pc := 19) (ik := 63) (is := 187) (x := 1) (e := 101) (by decide +kernel) rfl (by decide +kernel) rfl (by decide) (by decide +kernel) (by decide +kernel) (by decide +kernel) (by decide +kernel) (by decide +kernel) rfl (by decide +kernel) (by decide +kernel)
theorem Two_append_29 (a_l0 : Nat) (l1 : Value) (w : Wd) (I : MI) (L : ML) (P : MP) (h0 : w.1 a_l0 = some (6, 0)) : go 101 29 [.ref a_l0, l1] [] w I L P = go 101 33 [.ref a_l0, l1] [(va_rf (P a_l0 5))] w I L P := by
  refine (go_aload_n (m := 101) (pc := 29) (k := 0) (by decide +kernel) rfl).trans ?_
  refine (go_getR (m := 101) (pc := 30) (o := 6) (x := 33) (ci := 6) (k := 5) (by decide +kernel) rfl f_6_33 rfl h0).trans ?_
  rfl
theorem Two_append_33 (l0 : Value) (x_l1 : Int32) (a_s0 : Nat) (w : Wd) (I : MI) (L : ML) (P : MP) (h0 : w.1 a_s0 = some (4, 0)) : go 101 33 [l0, .int x_l1] [.ref a_s0] w I L P = kC (call 64 [.ref a_s0, .int x_l1] w I L P) (fun v w1 I1 L1 P1 => go 101 37 [l0, .int x_l1] (v.toList ++ []) w1 I1 L1 P1) := by
  refine (go_iload_n (m := 101) (pc := 33) (k := 1) (by decide +kernel) rfl).trans ?_
  exact go_vir (m := 101) (pc := 34) (o := 6) (x := 189) (y := 64) (kd := 1) (b := a_s0) (bs := [.int x_l1]) (rs := []) (by decide +kernel) rfl rfl c_6_189 (Or.inr rfl) rfl rfl rfl (by decide +kernel) (by simp only [List.length_cons, List.length_nil]; decide) (Nat.le_of_ble_eq_true rfl) h0
theorem Two_append_37 (l0 : Value) (l1 : Value) (y0 : Int32) (w : Wd) (I : MI) (L : ML) (P : MP)  : go 101 37 [l0, l1] [.int y0] w I L P = some (.inl (some (.int y0)), w, I, L, P) := by
  exact go_retI (m := 101) (pc := 37) (by decide +kernel) rfl
theorem Two_append_E (this : Nat) (p0 : Int32) (w : Wd) (I : MI) (L : ML) (P : MP) : call 101 [.ref this, .int p0] w I L P = go 101 0 [.ref this, .int p0] [] w I L P := rfl
theorem Two_clearText_0 (a_l0 : Nat) (l1 : Value) (w : Wd) (I : MI) (L : ML) (P : MP) (h0 : w.1 a_l0 = some (6, 0)) : go 102 0 [.ref a_l0, l1] [] w I L P = go 102 4 [.ref a_l0, l1] [(va_rf (P a_l0 5))] w I L P := by
  refine (go_aload_n (m := 102) (pc := 0) (k := 0) (by decide +kernel) rfl).trans ?_
  refine (go_getR (m := 102) (pc := 1) (o := 6) (x := 33) (ci := 6) (k := 5) (by decide +kernel) rfl f_6_33 rfl h0).trans ?_
  rfl
theorem Two_clearText_4 (a_l0 : Nat) (l1 : Value) (a_s0 : Nat) (w : Wd) (I : MI) (L : ML) (P : MP) (h0 : w.1 a_s0 = some (4, 0)) (h1 : w.1 a_l0 = some (6, 0)) : go 102 4 [.ref a_l0, l1] [.ref a_s0] w I L P = go 102 12 [.ref a_l0, .int (I a_s0 1)] [(va_rf (P a_l0 5))] w I L P := by
  refine (go_getI (m := 102) (pc := 4) (o := 6) (x := 184) (ci := 4) (k := 1) (by decide +kernel) rfl f_6_184 rfl h0).trans ?_
  refine (go_istore_n (m := 102) (pc := 7) (k := 1) (ls' := [.ref a_l0, .int (I a_s0 1)]) (by decide +kernel) (by simp only [List.length_cons, List.length_nil]; decide) rfl).trans ?_
  refine (go_aload_n (m := 102) (pc := 8) (k := 0) (by decide +kernel) rfl).trans ?_
  refine (go_getR (m := 102) (pc := 9) (o := 6) (x := 33) (ci := 6) (k := 5) (by decide +kernel) rfl f_6_33 rfl h1).trans ?_
  rfl
theorem Two_clearText_12 (l0 : Value) (x_l1 : Int32) (a_s0 : Nat) (w : Wd) (I : MI) (L : ML) (P : MP) (h0 : w.1 a_s0 = some (4, 0)) : go 102 12 [l0, .int x_l1] [.ref a_s0] w I L P = some (.inl (some (.int x_l1)), w, (updI I a_s0 1 (nI 0)), L, P) := by
  refine (go_ic (m := 102) (pc := 12) (n := 0) (by decide +kernel) ic_0).trans ?_
  refine (go_putI (m := 102) (pc := 13) (o := 6) (x := 184) (ci := 4) (k := 1) (by decide +kernel) rfl f_6_184 rfl (by decide +kernel) h0).trans ?_
  refine (go_iload_n (m := 102) (pc := 16) (k := 1) (by decide +kernel) rfl).trans ?_
  exact go_retI (m := 102) (pc := 17) (by decide +kernel) rfl
theorem Two_clearText_E (this : Nat) (w : Wd) (I : MI) (L : ML) (P : MP) : call 102 [.ref this] w I L P = go 102 0 [.ref this, unk] [] w I L P := rfl
theorem Two_carryOut_0 (a_l0 : Nat) (l1 : Value) (l2 : Value) (w : Wd) (I : MI) (L : ML) (P : MP) (h0 : w.1 a_l0 = some (6, 0)) : go 103 0 [.ref a_l0, l1, l2] [] w I L P = go 103 4 [.ref a_l0, l1, l2] [(va_rf (P a_l0 5))] w I L P := by
  refine (go_aload_n (m := 103) (pc := 0) (k := 0) (by decide +kernel) rfl).trans ?_
  refine (go_getR (m := 103) (pc := 1) (o := 6) (x := 33) (ci := 6) (k := 5) (by decide +kernel) rfl f_6_33 rfl h0).trans ?_
  rfl
theorem Two_carryOut_4 (l0 : Value) (l1 : Value) (l2 : Value) (a_s0 : Nat) (w : Wd) (I : MI) (L : ML) (P : MP) (h0 : w.1 a_s0 = some (4, 0)) : go 103 4 [l0, l1, l2] [.ref a_s0] w I L P = kC (call 66 [.ref a_s0] w I L P) (fun v w1 I1 L1 P1 => go 103 7 [l0, l1, l2] (v.toList ++ []) w1 I1 L1 P1) := by
  exact go_vir (m := 103) (pc := 4) (o := 6) (x := 192) (y := 66) (kd := 1) (b := a_s0) (bs := []) (rs := []) (by decide +kernel) rfl rfl c_6_192 (Or.inr rfl) rfl rfl rfl (by decide +kernel) (by simp only [List.length_cons, List.length_nil]; decide) (Nat.le_of_ble_eq_true rfl) h0
theorem Two_carryOut_7 (l0 : Value) (l1 : Value) (l2 : Value) (y0 : Int32) (w : Wd) (I : MI) (L : ML) (P : MP)  : go 103 7 [l0, l1, l2] [.int y0] w I L P = if y0 = (-1) then go 103 18 [(fix1 l0), .int y0, l2] [] w I L P else go 103 13 [(fix1 l0), .int y0, l2] [] w I L P := by
  refine (go_istore_n (m := 103) (pc := 7) (k := 1) (ls' := [(fix1 l0), .int y0, l2]) (by decide +kernel) (by simp only [List.length_cons, List.length_nil]; decide) rfl).trans ?_
  refine (go_iload_n (m := 103) (pc := 8) (k := 1) (by decide +kernel) rfl).trans ?_
  refine (go_ic (m := 103) (pc := 9) (n := -1) (by decide +kernel) ic_m1).trans ?_
  exact go_icmpeq (m := 103) (pc := 10) (off := 8) (t := 18) (by decide +kernel) (by decide)
theorem Two_carryOut_13 (l0 : Value) (x_l1 : Int32) (l2 : Value) (w : Wd) (I : MI) (L : ML) (P : MP)  : go 103 13 [l0, .int x_l1, l2] [] w I L P = some (.inl (some (.int ((-10) - x_l1))), w, I, L, P) := by
  refine (go_bi (m := 103) (pc := 13) (n := -10) (by decide +kernel) bi_m10).trans ?_
  refine (go_iload_n (m := 103) (pc := 15) (k := 1) (by decide +kernel) rfl).trans ?_
  refine (go_isub (m := 103) (pc := 16) (by decide +kernel)).trans ?_
  exact go_retI (m := 103) (pc := 17) (by decide +kernel) rfl
theorem Two_carryOut_18 (a_l0 : Nat) (l1 : Value) (l2 : Value) (w : Wd) (I : MI) (L : ML) (P : MP) (h0 : w.1 a_l0 = some (6, 0)) : go 103 18 [.ref a_l0, l1, l2] [] w I L P = kC (call 116 [.ref a_l0] w I L P) (fun v w1 I1 L1 P1 => go 103 22 [.ref a_l0, l1, l2] (v.toList ++ []) w1 I1 L1 P1) := by
  refine (go_aload_n (m := 103) (pc := 18) (k := 0) (by decide +kernel) rfl).trans ?_
  exact go_vir (m := 103) (pc := 19) (o := 6) (x := 50) (y := 116) (kd := 0) (b := a_l0) (bs := []) (rs := []) (by decide +kernel) rfl rfl c_6_50 (Or.inl rfl) rfl rfl rfl (by decide +kernel) (by simp only [List.length_cons, List.length_nil]; decide) (Nat.le_of_ble_eq_true rfl) h0
theorem Two_carryOut_22 (a_l0 : Nat) (l1 : Value) (l2 : Value) (w : Wd) (I : MI) (L : ML) (P : MP) (h0 : w.1 a_l0 = some (6, 0)) : go 103 22 [.ref a_l0, l1, l2] [] w I L P = go 103 26 [.ref a_l0, l1, l2] [(va_rf (P a_l0 5))] w I L P := by
  refine (go_aload_n (m := 103) (pc := 22) (k := 0) (by decide +kernel) rfl).trans ?_
  refine (go_getR (m := 103) (pc := 23) (o := 6) (x := 33) (ci := 6) (k := 5) (by decide +kernel) rfl f_6_33 rfl h0).trans ?_
  rfl
theorem Two_carryOut_26 (l0 : Value) (l1 : Value) (l2 : Value) (a_s0 : Nat) (w : Wd) (I : MI) (L : ML) (P : MP) (h0 : w.1 a_s0 = some (4, 0)) : go 103 26 [l0, l1, l2] [.ref a_s0] w I L P = kC (call 65 [.ref a_s0] w I L P) (fun v w1 I1 L1 P1 => go 103 29 [l0, l1, l2] (v.toList ++ []) w1 I1 L1 P1) := by
  exact go_vir (m := 103) (pc := 26) (o := 6) (x := 195) (y := 65) (kd := 1) (b := a_s0) (bs := []) (rs := []) (by decide +kernel) rfl rfl c_6_195 (Or.inr rfl) rfl rfl rfl (by decide +kernel) (by simp only [List.length_cons, List.length_nil]; decide) (Nat.le_of_ble_eq_true rfl) h0
theorem Two_carryOut_29 (l0 : Value) (l1 : Value) (l2 : Value) (w : Wd) (I : MI) (L : ML) (P : MP)  : go 103 29 [l0, l1, l2] [] w I L P = go 103 31 [l0, (fix1 l1), .int (nI 0)] [] w I L P := by
  refine (go_ic (m := 103) (pc := 29) (n := 0) (by decide +kernel) ic_0).trans ?_
  refine (go_istore_n (m := 103) (pc := 30) (k := 2) (ls' := [l0, (fix1 l1), .int (nI 0)]) (by decide +kernel) (by simp only [List.length_cons, List.length_nil]; decide) rfl).trans ?_
  rfl
theorem Two_carryOut_31 (l0 : Value) (l1 : Value) (x_l2 : Int32) (w : Wd) (I : MI) (L : ML) (P : MP)  : go 103 31 [l0, l1, .int x_l2] [] w I L P = if (nI 100) ≤ x_l2 then go 103 60 [l0, l1, .int x_l2] [] w I L P else go 103 37 [l0, l1, .int x_l2] [] w I L P := by
  refine (go_iload_n (m := 103) (pc := 31) (k := 2) (by decide +kernel) rfl).trans ?_
  refine (go_bi (m := 103) (pc := 32) (n := 100) (by decide +kernel) bi_100).trans ?_
  exact go_icmpge (m := 103) (pc := 34) (off := 26) (t := 60) (by decide +kernel) (by decide)
theorem Two_carryOut_37 (a_l0 : Nat) (l1 : Value) (l2 : Value) (w : Wd) (I : MI) (L : ML) (P : MP) (h0 : w.1 a_l0 = some (6, 0)) : go 103 37 [.ref a_l0, l1, l2] [] w I L P = go 103 41 [.ref a_l0, l1, l2] [(va_rf (P a_l0 5))] w I L P := by
  refine (go_aload_n (m := 103) (pc := 37) (k := 0) (by decide +kernel) rfl).trans ?_
  refine (go_getR (m := 103) (pc := 38) (o := 6) (x := 33) (ci := 6) (k := 5) (by decide +kernel) rfl f_6_33 rfl h0).trans ?_
  rfl
theorem Two_carryOut_41 (l0 : Value) (l1 : Value) (l2 : Value) (a_s0 : Nat) (w : Wd) (I : MI) (L : ML) (P : MP) (h0 : w.1 a_s0 = some (4, 0)) : go 103 41 [l0, l1, l2] [.ref a_s0] w I L P = kC (call 67 [.ref a_s0] w I L P) (fun v w1 I1 L1 P1 => go 103 44 [l0, l1, l2] (v.toList ++ []) w1 I1 L1 P1) := by
  exact go_vir (m := 103) (pc := 41) (o := 6) (x := 198) (y := 67) (kd := 1) (b := a_s0) (bs := []) (rs := []) (by decide +kernel) rfl rfl c_6_198 (Or.inr rfl) rfl rfl rfl (by decide +kernel) (by simp only [List.length_cons, List.length_nil]; decide) (Nat.le_of_ble_eq_true rfl) h0
theorem Two_carryOut_44 (l0 : Value) (l1 : Value) (l2 : Value) (y0 : Int32) (w : Wd) (I : MI) (L : ML) (P : MP)  : go 103 44 [l0, l1, l2] [.int y0] w I L P = if y0 = 0 then go 103 60 [l0, l1, l2] [] w I L P else go 103 47 [l0, l1, l2] [] w I L P := by
  exact go_ifeq (m := 103) (pc := 44) (off := 16) (t := 60) (by decide +kernel) (by decide)
theorem Two_carryOut_47 (a_l0 : Nat) (l1 : Value) (l2 : Value) (w : Wd) (I : MI) (L : ML) (P : MP) (h0 : w.1 a_l0 = some (6, 0)) : go 103 47 [.ref a_l0, l1, l2] [] w I L P = kC (call 114 [.ref a_l0] w I L P) (fun v w1 I1 L1 P1 => go 103 51 [.ref a_l0, l1, l2] (v.toList ++ []) w1 I1 L1 P1) := by
  refine (go_aload_n (m := 103) (pc := 47) (k := 0) (by decide +kernel) rfl).trans ?_
  exact go_vir (m := 103) (pc := 48) (o := 6) (x := 202) (y := 114) (kd := 0) (b := a_l0) (bs := []) (rs := []) (by decide +kernel) rfl rfl c_6_202 (Or.inl rfl) rfl rfl rfl (by decide +kernel) (by simp only [List.length_cons, List.length_nil]; decide) (Nat.le_of_ble_eq_true rfl) h0
theorem Two_carryOut_51 (l0 : Value) (l1 : Value) (l2 : Value) (y0 : Int32) (w : Wd) (I : MI) (L : ML) (P : MP)  : go 103 51 [l0, l1, l2] [.int y0] w I L P = if y0 = 0 then go 103 60 [l0, l1, l2] [] w I L P else go 103 54 [l0, l1, l2] [] w I L P := by
  exact go_ifeq (m := 103) (pc := 51) (off := 9) (t := 60) (by decide +kernel) (by decide)
theorem Two_carryOut_54 (l0 : Value) (l1 : Value) (x_l2 : Int32) (w : Wd) (I : MI) (L : ML) (P : MP)  : go 103 54 [l0, l1, .int x_l2] [] w I L P = go 103 31 [l0, (fix1 l1), .int (x_l2 + (nI 1))] [] w I L P := by
  refine (go_iinc (m := 103) (pc := 54) (k := 2) (n := 1) (x := x_l2) (v := x_l2 + (nI 1)) (ls' := [l0, (fix1 l1), .int (x_l2 + (nI 1))]) (by decide +kernel) rfl (by rw [ic_1]) rfl).trans ?_
  refine (go_goto (m := 103) (pc := 57) (off := -26) (t := 31) (by decide +kernel) (by decide)).trans ?_
  rfl
theorem Two_carryOut_60 (l0 : Value) (l1 : Value) (x_l2 : Int32) (w : Wd) (I : MI) (L : ML) (P : MP)  : go 103 60 [l0, l1, .int x_l2] [] w I L P = some (.inl (some (.int x_l2)), w, I, L, P) := by
  refine (go_iload_n (m := 103) (pc := 60) (k := 2) (by decide +kernel) rfl).trans ?_
  exact go_retI (m := 103) (pc := 61) (by decide +kernel) rfl
theorem Two_carryOut_E (this : Nat) (w : Wd) (I : MI) (L : ML) (P : MP) : call 103 [.ref this] w I L P = go 103 0 [.ref this, unk, unk] [] w I L P := rfl
theorem Two_undo_0 (a_l0 : Nat) (l1 : Value) (w : Wd) (I : MI) (L : ML) (P : MP) (h0 : w.1 a_l0 = some (6, 0)) : go 104 0 [.ref a_l0, l1] [] w I L P = kC (call 118 [.ref a_l0, .int ((I a_l0 4) - (nI 1))] w I L P) (fun v w1 I1 L1 P1 => go 104 10 [.ref a_l0, l1] (v.toList ++ []) w1 I1 L1 P1) := by
  refine (go_aload_n (m := 104) (pc := 0) (k := 0) (by decide +kernel) rfl).trans ?_
  refine (go_aload_n (m := 104) (pc := 1) (k := 0) (by decide +kernel) rfl).trans ?_
  refine (go_getI (m := 104) (pc := 2) (o := 6) (x := 26) (ci := 6) (k := 4) (by decide +kernel) rfl f_6_26 rfl h0).trans ?_
  refine (go_ic (m := 104) (pc := 5) (n := 1) (by decide +kernel) ic_1).trans ?_
  refine (go_isub (m := 104) (pc := 6) (by decide +kernel)).trans ?_
  exact go_vir (m := 104) (pc := 7) (o := 6) (x := 205) (y := 118) (kd := 0) (b := a_l0) (bs := [.int ((I a_l0 4) - (nI 1))]) (rs := []) (by decide +kernel) rfl rfl c_6_205 (Or.inl rfl) rfl rfl rfl (by decide +kernel) (by simp only [List.length_cons, List.length_nil]; decide) (Nat.le_of_ble_eq_true rfl) h0
theorem Two_undo_10_0 (l0 : Value) (l1 : Value) (w : Wd) (I : MI) (L : ML) (P : MP)  : go 104 10 [l0, l1] [.null] w I L P = go 104 15 [(fix1 l0), .null] [] w I L P := by
  refine (go_astore_nN (m := 104) (pc := 10) (k := 1) (ls' := [(fix1 l0), .null]) (by decide +kernel) (by simp only [List.length_cons, List.length_nil]; decide) rfl).trans ?_
  refine (go_aload_nN (m := 104) (pc := 11) (k := 1) (by decide +kernel) rfl).trans ?_
  exact go_ifnonnullN (m := 104) (pc := 12) (off := 13) (by decide +kernel)
theorem Two_undo_10_1 (l0 : Value) (l1 : Value) (a_s0 : Nat) (w : Wd) (I : MI) (L : ML) (P : MP)  : go 104 10 [l0, l1] [.ref a_s0] w I L P = go 104 25 [(fix1 l0), .ref a_s0] [] w I L P := by
  refine (go_astore_n (m := 104) (pc := 10) (k := 1) (ls' := [(fix1 l0), .ref a_s0]) (by decide +kernel) (by simp only [List.length_cons, List.length_nil]; decide) rfl).trans ?_
  refine (go_aload_n (m := 104) (pc := 11) (k := 1) (by decide +kernel) rfl).trans ?_
  exact go_ifnonnullR (m := 104) (pc := 12) (off := 13) (t := 25) (by decide +kernel) (by decide)
theorem Two_undo_15 (l0 : Value) (l1 : Value) (w : Wd) (I : MI) (L : ML) (P : MP)  : go 104 15 [l0, l1] [] w I L P = some (.inr 1, thrT w, I, L, P) := by
  exact go_thr (m := 104) (pc := 15) (ik := 63) (is := 209) (x := 1) (e := 101) (by decide +kernel) rfl (by decide +kernel) rfl (by decide) (by decide +kernel) (by decide +kernel) (by decide +kernel) (by decide +kernel) (by decide +kernel) rfl (by decide +kernel) (by decide +kernel)
theorem Two_undo_25 (a_l0 : Nat) (l1 : Value) (w : Wd) (I : MI) (L : ML) (P : MP) (h0 : w.1 a_l0 = some (6, 0)) : go 104 25 [.ref a_l0, l1] [] w I L P = go 104 29 [.ref a_l0, l1] [(va_rf (P a_l0 0))] w I L P := by
  refine (go_aload_n (m := 104) (pc := 25) (k := 0) (by decide +kernel) rfl).trans ?_
  refine (go_getR (m := 104) (pc := 26) (o := 6) (x := 10) (ci := 6) (k := 0) (by decide +kernel) rfl f_6_10 rfl h0).trans ?_
  rfl
theorem Two_undo_29_0 (l0 : Value) (a_s0 : Nat) (w : Wd) (I : MI) (L : ML) (P : MP) (h0 : w.1 a_s0 = some (0, 0)) : go 104 29 [l0, .null] [.ref a_s0] w I L P = kC (call 28 [.ref a_s0, .null] w I L P) (fun v w1 I1 L1 P1 => go 104 33 [l0, .null] (v.toList ++ []) w1 I1 L1 P1) := by
  refine (go_aload_nN (m := 104) (pc := 29) (k := 1) (by decide +kernel) rfl).trans ?_
  exact go_vir (m := 104) (pc := 30) (o := 6) (x := 53) (y := 28) (kd := 1) (b := a_s0) (bs := [.null]) (rs := []) (by decide +kernel) rfl rfl c_6_53 (Or.inr rfl) rfl rfl rfl (by decide +kernel) (by simp only [List.length_cons, List.length_nil]; decide) (Nat.le_of_ble_eq_true rfl) h0
theorem Two_undo_29_1 (l0 : Value) (a_l1 : Nat) (a_s0 : Nat) (w : Wd) (I : MI) (L : ML) (P : MP) (h0 : w.1 a_s0 = some (0, 0)) : go 104 29 [l0, .ref a_l1] [.ref a_s0] w I L P = kC (call 28 [.ref a_s0, .ref a_l1] w I L P) (fun v w1 I1 L1 P1 => go 104 33 [l0, .ref a_l1] (v.toList ++ []) w1 I1 L1 P1) := by
  refine (go_aload_n (m := 104) (pc := 29) (k := 1) (by decide +kernel) rfl).trans ?_
  exact go_vir (m := 104) (pc := 30) (o := 6) (x := 53) (y := 28) (kd := 1) (b := a_s0) (bs := [.ref a_l1]) (rs := []) (by decide +kernel) rfl rfl c_6_53 (Or.inr rfl) rfl rfl rfl (by decide +kernel) (by simp only [List.length_cons, List.length_nil]; decide) (Nat.le_of_ble_eq_true rfl) h0
theorem Two_undo_33 (a_l0 : Nat) (l1 : Value) (w : Wd) (I : MI) (L : ML) (P : MP) (h0 : w.1 a_l0 = some (6, 0)) : go 104 33 [.ref a_l0, l1] [] w I L P = some (.inl (some (.int ((updI I a_l0 4 ((I a_l0 4) - (nI 1))) a_l0 4))), w, (updI I a_l0 4 ((I a_l0 4) - (nI 1))), L, P) := by
  refine (go_aload_n (m := 104) (pc := 33) (k := 0) (by decide +kernel) rfl).trans ?_
  refine (go_dup (m := 104) (pc := 34) (by decide +kernel) rfl).trans ?_
  refine (go_getI (m := 104) (pc := 35) (o := 6) (x := 26) (ci := 6) (k := 4) (by decide +kernel) rfl f_6_26 rfl h0).trans ?_
  refine (go_ic (m := 104) (pc := 38) (n := 1) (by decide +kernel) ic_1).trans ?_
  refine (go_isub (m := 104) (pc := 39) (by decide +kernel)).trans ?_
  refine (go_putI (m := 104) (pc := 40) (o := 6) (x := 26) (ci := 6) (k := 4) (by decide +kernel) rfl f_6_26 rfl (by decide +kernel) h0).trans ?_
  refine (go_aload_n (m := 104) (pc := 43) (k := 0) (by decide +kernel) rfl).trans ?_
  refine (go_getI (m := 104) (pc := 44) (o := 6) (x := 26) (ci := 6) (k := 4) (by decide +kernel) rfl f_6_26 rfl h0).trans ?_
  exact go_retI (m := 104) (pc := 47) (by decide +kernel) rfl
theorem Two_undo_E (this : Nat) (w : Wd) (I : MI) (L : ML) (P : MP) : call 104 [.ref this] w I L P = go 104 0 [.ref this, unk] [] w I L P := rfl
theorem Two_digest_0 (a_l0 : Nat) (l1 : Value) (l2 : Value) (l3 : Value) (l4 : Value) (w : Wd) (I : MI) (L : ML) (P : MP) (h0 : w.1 a_l0 = some (6, 0)) : go 105 0 [.ref a_l0, l1, l2, l3, l4] [] w I L P = go 105 7 [.ref a_l0, l1, l2, l3, l4] [(va_rf (P a_l0 5)), .long 3803] w I L P := by
  refine (go_ldc2 (m := 105) (pc := 0) (o := 6) (x := 211) (v := 3803) (by decide +kernel) rfl (by decide +kernel)).trans ?_
  refine (go_aload_n (m := 105) (pc := 3) (k := 0) (by decide +kernel) rfl).trans ?_
  refine (go_getR (m := 105) (pc := 4) (o := 6) (x := 33) (ci := 6) (k := 5) (by decide +kernel) rfl f_6_33 rfl h0).trans ?_
  rfl
theorem Two_digest_7 (l0 : Value) (l1 : Value) (l2 : Value) (l3 : Value) (l4 : Value) (y0 : Int64) (a_s1 : Nat) (w : Wd) (I : MI) (L : ML) (P : MP) (h0 : w.1 a_s1 = some (4, 0)) : go 105 7 [l0, l1, l2, l3, l4] [.ref a_s1, .long y0] w I L P = kC (call 106 [.long y0, .int (I a_s1 1)] w I L P) (fun v w1 I1 L1 P1 => go 105 13 [l0, l1, l2, l3, l4] (v.toList ++ []) w1 I1 L1 P1) := by
  refine (go_getI (m := 105) (pc := 7) (o := 6) (x := 184) (ci := 4) (k := 1) (by decide +kernel) rfl f_6_184 rfl h0).trans ?_
  exact go_sta (m := 105) (pc := 10) (o := 6) (x := 213) (y := 106) (kd := 2) (as := [.long y0, .int (I a_s1 1)]) (rs := []) (by decide +kernel) rfl rfl c_6_213 (Or.inl rfl) rfl rfl rfl (by decide +kernel) (by simp only [List.length_cons, List.length_nil]; decide) (Nat.le_of_ble_eq_true rfl)
theorem Two_digest_13 (l0 : Value) (l1 : Value) (l2 : Value) (l3 : Value) (l4 : Value) (y0 : Int64) (w : Wd) (I : MI) (L : ML) (P : MP)  : go 105 13 [l0, l1, l2, l3, l4] [.long y0] w I L P = go 105 16 [(fix1 l0), .long y0, unk, .int (nI 0), l4] [] w I L P := by
  refine (go_lstore_n (m := 105) (pc := 13) (k := 1) (ls' := [(fix1 l0), .long y0, unk, l3, l4]) (by decide +kernel) (by simp only [List.length_cons, List.length_nil]; decide) rfl).trans ?_
  refine (go_ic (m := 105) (pc := 14) (n := 0) (by decide +kernel) ic_0).trans ?_
  refine (go_istore_n (m := 105) (pc := 15) (k := 3) (ls' := [(fix1 l0), .long y0, unk, .int (nI 0), l4]) (by decide +kernel) (by simp only [List.length_cons, List.length_nil]; decide) rfl).trans ?_
  rfl
theorem Two_digest_16 (l0 : Value) (l1 : Value) (l2 : Value) (x_l3 : Int32) (l4 : Value) (w : Wd) (I : MI) (L : ML) (P : MP)  : go 105 16 [l0, l1, l2, .int x_l3, l4] [] w I L P = if (nI 9) < x_l3 then go 105 41 [l0, l1, l2, .int x_l3, l4] [] w I L P else go 105 22 [l0, l1, l2, .int x_l3, l4] [] w I L P := by
  refine (go_iload_n (m := 105) (pc := 16) (k := 3) (by decide +kernel) rfl).trans ?_
  refine (go_bi (m := 105) (pc := 17) (n := 9) (by decide +kernel) bi_9).trans ?_
  exact go_icmpgt (m := 105) (pc := 19) (off := 22) (t := 41) (by decide +kernel) (by decide)
theorem Two_digest_22 (a_l0 : Nat) (x_l1 : Int64) (l2 : Value) (l3 : Value) (l4 : Value) (w : Wd) (I : MI) (L : ML) (P : MP) (h0 : w.1 a_l0 = some (6, 0)) : go 105 22 [.ref a_l0, .long x_l1, l2, l3, l4] [] w I L P = go 105 27 [.ref a_l0, .long x_l1, l2, l3, l4] [(va_rf (P a_l0 0)), .long x_l1] w I L P := by
  refine (go_lload_n (m := 105) (pc := 22) (k := 1) (by decide +kernel) rfl).trans ?_
  refine (go_aload_n (m := 105) (pc := 23) (k := 0) (by decide +kernel) rfl).trans ?_
  refine (go_getR (m := 105) (pc := 24) (o := 6) (x := 10) (ci := 6) (k := 0) (by decide +kernel) rfl f_6_10 rfl h0).trans ?_
  rfl
theorem Two_digest_27 (l0 : Value) (l1 : Value) (l2 : Value) (x_l3 : Int32) (l4 : Value) (y0 : Int64) (a_s1 : Nat) (w : Wd) (I : MI) (L : ML) (P : MP) (h0 : w.1 a_s1 = some (0, 0)) : go 105 27 [l0, l1, l2, .int x_l3, l4] [.ref a_s1, .long y0] w I L P = kC (call 38 [.ref a_s1, .int x_l3] w I L P) (fun v w1 I1 L1 P1 => go 105 31 [l0, l1, l2, .int x_l3, l4] (v.toList ++ [.long y0]) w1 I1 L1 P1) := by
  refine (go_iload_n (m := 105) (pc := 27) (k := 3) (by decide +kernel) rfl).trans ?_
  exact go_vir (m := 105) (pc := 28) (o := 6) (x := 160) (y := 38) (kd := 1) (b := a_s1) (bs := [.int x_l3]) (rs := [.long y0]) (by decide +kernel) rfl rfl c_6_160 (Or.inr rfl) rfl rfl rfl (by decide +kernel) (by simp only [List.length_cons, List.length_nil]; decide) (Nat.le_of_ble_eq_true rfl) h0
theorem Two_digest_31 (l0 : Value) (l1 : Value) (l2 : Value) (l3 : Value) (l4 : Value) (y0 : Int64) (y1 : Int32) (w : Wd) (I : MI) (L : ML) (P : MP)  : go 105 31 [l0, l1, l2, l3, l4] [.int y1, .long y0] w I L P = kC (call 106 [.long y0, .int y1] w I L P) (fun v w1 I1 L1 P1 => go 105 34 [l0, l1, l2, l3, l4] (v.toList ++ []) w1 I1 L1 P1) := by
  exact go_sta (m := 105) (pc := 31) (o := 6) (x := 213) (y := 106) (kd := 2) (as := [.long y0, .int y1]) (rs := []) (by decide +kernel) rfl rfl c_6_213 (Or.inl rfl) rfl rfl rfl (by decide +kernel) (by simp only [List.length_cons, List.length_nil]; decide) (Nat.le_of_ble_eq_true rfl)
theorem Two_digest_34 (l0 : Value) (l1 : Value) (l2 : Value) (x_l3 : Int32) (l4 : Value) (y0 : Int64) (w : Wd) (I : MI) (L : ML) (P : MP)  : go 105 34 [l0, l1, l2, .int x_l3, l4] [.long y0] w I L P = go 105 16 [(fix1 l0), .long y0, unk, .int (x_l3 + (nI 1)), l4] [] w I L P := by
  refine (go_lstore_n (m := 105) (pc := 34) (k := 1) (ls' := [(fix1 l0), .long y0, unk, .int x_l3, l4]) (by decide +kernel) (by simp only [List.length_cons, List.length_nil]; decide) rfl).trans ?_
  refine (go_iinc (m := 105) (pc := 35) (k := 3) (n := 1) (x := x_l3) (v := x_l3 + (nI 1)) (ls' := [(fix1 l0), .long y0, unk, .int (x_l3 + (nI 1)), l4]) (by decide +kernel) rfl (by rw [ic_1]) rfl).trans ?_
  refine (go_goto (m := 105) (pc := 38) (off := -22) (t := 16) (by decide +kernel) (by decide)).trans ?_
  rfl
theorem Two_digest_41 (l0 : Value) (l1 : Value) (l2 : Value) (l3 : Value) (l4 : Value) (w : Wd) (I : MI) (L : ML) (P : MP)  : go 105 41 [l0, l1, l2, l3, l4] [] w I L P = go 105 43 [l0, l1, (fix1 l2), .int (nI 0), l4] [] w I L P := by
  refine (go_ic (m := 105) (pc := 41) (n := 0) (by decide +kernel) ic_0).trans ?_
  refine (go_istore_n (m := 105) (pc := 42) (k := 3) (ls' := [l0, l1, (fix1 l2), .int (nI 0), l4]) (by decide +kernel) (by simp only [List.length_cons, List.length_nil]; decide) rfl).trans ?_
  rfl
theorem Two_digest_43 (a_l0 : Nat) (l1 : Value) (l2 : Value) (x_l3 : Int32) (l4 : Value) (w : Wd) (I : MI) (L : ML) (P : MP) (h0 : w.1 a_l0 = some (6, 0)) : go 105 43 [.ref a_l0, l1, l2, .int x_l3, l4] [] w I L P = go 105 48 [.ref a_l0, l1, l2, .int x_l3, l4] [(va_rf (P a_l0 0)), .int x_l3] w I L P := by
  refine (go_iload_n (m := 105) (pc := 43) (k := 3) (by decide +kernel) rfl).trans ?_
  refine (go_aload_n (m := 105) (pc := 44) (k := 0) (by decide +kernel) rfl).trans ?_
  refine (go_getR (m := 105) (pc := 45) (o := 6) (x := 10) (ci := 6) (k := 0) (by decide +kernel) rfl f_6_10 rfl h0).trans ?_
  rfl
theorem Two_digest_48 (l0 : Value) (l1 : Value) (l2 : Value) (l3 : Value) (l4 : Value) (y0 : Int32) (a_s1 : Nat) (w : Wd) (I : MI) (L : ML) (P : MP) (h0 : w.1 a_s1 = some (0, 0)) : go 105 48 [l0, l1, l2, l3, l4] [.ref a_s1, .int y0] w I L P = if (I a_s1 1) ≤ y0 then go 105 67 [l0, l1, l2, l3, l4] [] w I L P else go 105 54 [l0, l1, l2, l3, l4] [] w I L P := by
  refine (go_getI (m := 105) (pc := 48) (o := 6) (x := 57) (ci := 0) (k := 1) (by decide +kernel) rfl f_6_57 rfl h0).trans ?_
  exact go_icmpge (m := 105) (pc := 51) (off := 16) (t := 67) (by decide +kernel) (by decide)
theorem Two_digest_54 (a_l0 : Nat) (x_l1 : Int64) (l2 : Value) (x_l3 : Int32) (l4 : Value) (w : Wd) (I : MI) (L : ML) (P : MP) (h0 : w.1 a_l0 = some (6, 0)) : go 105 54 [.ref a_l0, .long x_l1, l2, .int x_l3, l4] [] w I L P = kC (call 107 [.ref a_l0, .long x_l1, .int x_l3] w I L P) (fun v w1 I1 L1 P1 => go 105 60 [.ref a_l0, .long x_l1, l2, .int x_l3, l4] (v.toList ++ []) w1 I1 L1 P1) := by
  refine (go_aload_n (m := 105) (pc := 54) (k := 0) (by decide +kernel) rfl).trans ?_
  refine (go_lload_n (m := 105) (pc := 55) (k := 1) (by decide +kernel) rfl).trans ?_
  refine (go_iload_n (m := 105) (pc := 56) (k := 3) (by decide +kernel) rfl).trans ?_
  exact go_vir (m := 105) (pc := 57) (o := 6) (x := 217) (y := 107) (kd := 0) (b := a_l0) (bs := [.long x_l1, .int x_l3]) (rs := []) (by decide +kernel) rfl rfl c_6_217 (Or.inl rfl) rfl rfl rfl (by decide +kernel) (by simp only [List.length_cons, List.length_nil]; decide) (Nat.le_of_ble_eq_true rfl) h0
theorem Two_digest_60 (l0 : Value) (l1 : Value) (l2 : Value) (x_l3 : Int32) (l4 : Value) (y0 : Int64) (w : Wd) (I : MI) (L : ML) (P : MP)  : go 105 60 [l0, l1, l2, .int x_l3, l4] [.long y0] w I L P = go 105 43 [(fix1 l0), .long y0, unk, .int (x_l3 + (nI 1)), l4] [] w I L P := by
  refine (go_lstore_n (m := 105) (pc := 60) (k := 1) (ls' := [(fix1 l0), .long y0, unk, .int x_l3, l4]) (by decide +kernel) (by simp only [List.length_cons, List.length_nil]; decide) rfl).trans ?_
  refine (go_iinc (m := 105) (pc := 61) (k := 3) (n := 1) (x := x_l3) (v := x_l3 + (nI 1)) (ls' := [(fix1 l0), .long y0, unk, .int (x_l3 + (nI 1)), l4]) (by decide +kernel) rfl (by rw [ic_1]) rfl).trans ?_
  refine (go_goto (m := 105) (pc := 64) (off := -21) (t := 43) (by decide +kernel) (by decide)).trans ?_
  rfl
theorem Two_digest_67 (l0 : Value) (l1 : Value) (l2 : Value) (l3 : Value) (l4 : Value) (w : Wd) (I : MI) (L : ML) (P : MP)  : go 105 67 [l0, l1, l2, l3, l4] [] w I L P = go 105 69 [l0, l1, (fix1 l2), .int (nI 0), l4] [] w I L P := by
  refine (go_ic (m := 105) (pc := 67) (n := 0) (by decide +kernel) ic_0).trans ?_
  refine (go_istore_n (m := 105) (pc := 68) (k := 3) (ls' := [l0, l1, (fix1 l2), .int (nI 0), l4]) (by decide +kernel) (by simp only [List.length_cons, List.length_nil]; decide) rfl).trans ?_
  rfl
theorem Two_digest_69 (a_l0 : Nat) (l1 : Value) (l2 : Value) (x_l3 : Int32) (l4 : Value) (w : Wd) (I : MI) (L : ML) (P : MP) (h0 : w.1 a_l0 = some (6, 0)) : go 105 69 [.ref a_l0, l1, l2, .int x_l3, l4] [] w I L P = go 105 74 [.ref a_l0, l1, l2, .int x_l3, l4] [(va_rf (P a_l0 0)), .int x_l3] w I L P := by
  refine (go_iload_n (m := 105) (pc := 69) (k := 3) (by decide +kernel) rfl).trans ?_
  refine (go_aload_n (m := 105) (pc := 70) (k := 0) (by decide +kernel) rfl).trans ?_
  refine (go_getR (m := 105) (pc := 71) (o := 6) (x := 10) (ci := 6) (k := 0) (by decide +kernel) rfl f_6_10 rfl h0).trans ?_
  rfl
theorem Two_digest_74 (l0 : Value) (l1 : Value) (l2 : Value) (l3 : Value) (l4 : Value) (y0 : Int32) (a_s1 : Nat) (w : Wd) (I : MI) (L : ML) (P : MP) (h0 : w.1 a_s1 = some (0, 0)) : go 105 74 [l0, l1, l2, l3, l4] [.ref a_s1, .int y0] w I L P = if (I a_s1 3) ≤ y0 then go 105 99 [l0, l1, l2, l3, l4] [] w I L P else go 105 80 [l0, l1, l2, l3, l4] [] w I L P := by
  refine (go_getI (m := 105) (pc := 74) (o := 6) (x := 60) (ci := 0) (k := 3) (by decide +kernel) rfl f_6_60 rfl h0).trans ?_
  exact go_icmpge (m := 105) (pc := 77) (off := 22) (t := 99) (by decide +kernel) (by decide)
theorem Two_digest_80 (a_l0 : Nat) (x_l1 : Int64) (l2 : Value) (l3 : Value) (l4 : Value) (w : Wd) (I : MI) (L : ML) (P : MP) (h0 : w.1 a_l0 = some (6, 0)) : go 105 80 [.ref a_l0, .long x_l1, l2, l3, l4] [] w I L P = go 105 85 [.ref a_l0, .long x_l1, l2, l3, l4] [(va_rf (P a_l0 0)), .long x_l1] w I L P := by
  refine (go_lload_n (m := 105) (pc := 80) (k := 1) (by decide +kernel) rfl).trans ?_
  refine (go_aload_n (m := 105) (pc := 81) (k := 0) (by decide +kernel) rfl).trans ?_
  refine (go_getR (m := 105) (pc := 82) (o := 6) (x := 10) (ci := 6) (k := 0) (by decide +kernel) rfl f_6_10 rfl h0).trans ?_
  rfl
theorem Two_digest_85 (l0 : Value) (l1 : Value) (l2 : Value) (x_l3 : Int32) (l4 : Value) (y0 : Int64) (a_s1 : Nat) (w : Wd) (I : MI) (L : ML) (P : MP) (h0 : w.1 a_s1 = some (0, 0)) : go 105 85 [l0, l1, l2, .int x_l3, l4] [.ref a_s1, .long y0] w I L P = kC (call 31 [.ref a_s1, .int x_l3] w I L P) (fun v w1 I1 L1 P1 => go 105 89 [l0, l1, l2, .int x_l3, l4] (v.toList ++ [.long y0]) w1 I1 L1 P1) := by
  refine (go_iload_n (m := 105) (pc := 85) (k := 3) (by decide +kernel) rfl).trans ?_
  exact go_vir (m := 105) (pc := 86) (o := 6) (x := 220) (y := 31) (kd := 1) (b := a_s1) (bs := [.int x_l3]) (rs := [.long y0]) (by decide +kernel) rfl rfl c_6_220 (Or.inr rfl) rfl rfl rfl (by decide +kernel) (by simp only [List.length_cons, List.length_nil]; decide) (Nat.le_of_ble_eq_true rfl) h0
theorem Two_digest_89_0 (l0 : Value) (l1 : Value) (l2 : Value) (l3 : Value) (l4 : Value) (y0 : Int64) (w : Wd) (I : MI) (L : ML) (P : MP)  : go 105 89 [l0, l1, l2, l3, l4] [.null, .long y0] w I L P = kC (call 109 [.long y0, .null] w I L P) (fun v w1 I1 L1 P1 => go 105 92 [l0, l1, l2, l3, l4] (v.toList ++ []) w1 I1 L1 P1) := by
  exact go_sta (m := 105) (pc := 89) (o := 6) (x := 223) (y := 109) (kd := 2) (as := [.long y0, .null]) (rs := []) (by decide +kernel) rfl rfl c_6_223 (Or.inl rfl) rfl rfl rfl (by decide +kernel) (by simp only [List.length_cons, List.length_nil]; decide) (Nat.le_of_ble_eq_true rfl)
theorem Two_digest_89_1 (l0 : Value) (l1 : Value) (l2 : Value) (l3 : Value) (l4 : Value) (y0 : Int64) (a_s1 : Nat) (w : Wd) (I : MI) (L : ML) (P : MP)  : go 105 89 [l0, l1, l2, l3, l4] [.ref a_s1, .long y0] w I L P = kC (call 109 [.long y0, .ref a_s1] w I L P) (fun v w1 I1 L1 P1 => go 105 92 [l0, l1, l2, l3, l4] (v.toList ++ []) w1 I1 L1 P1) := by
  exact go_sta (m := 105) (pc := 89) (o := 6) (x := 223) (y := 109) (kd := 2) (as := [.long y0, .ref a_s1]) (rs := []) (by decide +kernel) rfl rfl c_6_223 (Or.inl rfl) rfl rfl rfl (by decide +kernel) (by simp only [List.length_cons, List.length_nil]; decide) (Nat.le_of_ble_eq_true rfl)
theorem Two_digest_92 (l0 : Value) (l1 : Value) (l2 : Value) (x_l3 : Int32) (l4 : Value) (y0 : Int64) (w : Wd) (I : MI) (L : ML) (P : MP)  : go 105 92 [l0, l1, l2, .int x_l3, l4] [.long y0] w I L P = go 105 69 [(fix1 l0), .long y0, unk, .int (x_l3 + (nI 1)), l4] [] w I L P := by
  refine (go_lstore_n (m := 105) (pc := 92) (k := 1) (ls' := [(fix1 l0), .long y0, unk, .int x_l3, l4]) (by decide +kernel) (by simp only [List.length_cons, List.length_nil]; decide) rfl).trans ?_
  refine (go_iinc (m := 105) (pc := 93) (k := 3) (n := 1) (x := x_l3) (v := x_l3 + (nI 1)) (ls' := [(fix1 l0), .long y0, unk, .int (x_l3 + (nI 1)), l4]) (by decide +kernel) rfl (by rw [ic_1]) rfl).trans ?_
  refine (go_goto (m := 105) (pc := 96) (off := -27) (t := 69) (by decide +kernel) (by decide)).trans ?_
  rfl
theorem Two_digest_99 (a_l0 : Nat) (l1 : Value) (l2 : Value) (l3 : Value) (l4 : Value) (w : Wd) (I : MI) (L : ML) (P : MP) (h0 : w.1 a_l0 = some (6, 0)) : go 105 99 [.ref a_l0, l1, l2, l3, l4] [] w I L P = go 105 103 [.ref a_l0, l1, l2, l3, l4] [(va_rf (P a_l0 0))] w I L P := by
  refine (go_aload_n (m := 105) (pc := 99) (k := 0) (by decide +kernel) rfl).trans ?_
  refine (go_getR (m := 105) (pc := 100) (o := 6) (x := 10) (ci := 6) (k := 0) (by decide +kernel) rfl f_6_10 rfl h0).trans ?_
  rfl
theorem Two_digest_103 (l0 : Value) (l1 : Value) (l2 : Value) (l3 : Value) (l4 : Value) (a_s0 : Nat) (w : Wd) (I : MI) (L : ML) (P : MP) (h0 : w.1 a_s0 = some (0, 0)) : go 105 103 [l0, l1, l2, l3, l4] [.ref a_s0] w I L P = go 105 106 [l0, l1, l2, l3, l4] [(va_rf (P a_s0 5))] w I L P := by
  refine (go_getR (m := 105) (pc := 103) (o := 6) (x := 41) (ci := 0) (k := 5) (by decide +kernel) rfl f_6_41 rfl h0).trans ?_
  rfl
theorem Two_digest_106 (l0 : Value) (l1 : Value) (l2 : Value) (l3 : Value) (l4 : Value) (a_s0 : Nat) (w : Wd) (I : MI) (L : ML) (P : MP) (h0 : w.1 a_s0 = some (5, 0)) : go 105 106 [l0, l1, l2, l3, l4] [.ref a_s0] w I L P = kC (call 23 [.ref a_s0] w I L P) (fun v w1 I1 L1 P1 => go 105 109 [l0, l1, l2, l3, l4] (v.toList ++ []) w1 I1 L1 P1) := by
  exact go_vir (m := 105) (pc := 106) (o := 6) (x := 161) (y := 23) (kd := 1) (b := a_s0) (bs := []) (rs := []) (by decide +kernel) rfl rfl c_6_161 (Or.inr rfl) rfl rfl rfl (by decide +kernel) (by simp only [List.length_cons, List.length_nil]; decide) (Nat.le_of_ble_eq_true rfl) h0
theorem Two_digest_109 (l0 : Value) (l1 : Value) (l2 : Value) (l3 : Value) (l4 : Value) (y0 : Int32) (w : Wd) (I : MI) (L : ML) (P : MP)  : go 105 109 [l0, l1, l2, l3, l4] [.int y0] w I L P = go 105 113 [l0, l1, (fix1 l2), .int y0, .int (nI 0)] [] w I L P := by
  refine (go_istore_n (m := 105) (pc := 109) (k := 3) (ls' := [l0, l1, (fix1 l2), .int y0, l4]) (by decide +kernel) (by simp only [List.length_cons, List.length_nil]; decide) rfl).trans ?_
  refine (go_ic (m := 105) (pc := 110) (n := 0) (by decide +kernel) ic_0).trans ?_
  refine (go_istore (m := 105) (pc := 111) (k := 4) (ls' := [l0, l1, (fix1 l2), .int y0, .int (nI 0)]) (by decide +kernel) (by simp only [List.length_cons, List.length_nil]; decide) rfl).trans ?_
  rfl
theorem Two_digest_113 (l0 : Value) (l1 : Value) (l2 : Value) (x_l3 : Int32) (x_l4 : Int32) (w : Wd) (I : MI) (L : ML) (P : MP)  : go 105 113 [l0, l1, l2, .int x_l3, .int x_l4] [] w I L P = if x_l3 ≤ x_l4 then go 105 143 [l0, l1, l2, .int x_l3, .int x_l4] [] w I L P else go 105 119 [l0, l1, l2, .int x_l3, .int x_l4] [] w I L P := by
  refine (go_iload (m := 105) (pc := 113) (k := 4) (by decide +kernel) rfl).trans ?_
  refine (go_iload_n (m := 105) (pc := 115) (k := 3) (by decide +kernel) rfl).trans ?_
  exact go_icmpge (m := 105) (pc := 116) (off := 27) (t := 143) (by decide +kernel) (by decide)
theorem Two_digest_119 (a_l0 : Nat) (x_l1 : Int64) (l2 : Value) (l3 : Value) (l4 : Value) (w : Wd) (I : MI) (L : ML) (P : MP) (h0 : w.1 a_l0 = some (6, 0)) : go 105 119 [.ref a_l0, .long x_l1, l2, l3, l4] [] w I L P = go 105 124 [.ref a_l0, .long x_l1, l2, l3, l4] [(va_rf (P a_l0 0)), .long x_l1] w I L P := by
  refine (go_lload_n (m := 105) (pc := 119) (k := 1) (by decide +kernel) rfl).trans ?_
  refine (go_aload_n (m := 105) (pc := 120) (k := 0) (by decide +kernel) rfl).trans ?_
  refine (go_getR (m := 105) (pc := 121) (o := 6) (x := 10) (ci := 6) (k := 0) (by decide +kernel) rfl f_6_10 rfl h0).trans ?_
  rfl
theorem Two_digest_124 (l0 : Value) (l1 : Value) (l2 : Value) (l3 : Value) (l4 : Value) (y0 : Int64) (a_s1 : Nat) (w : Wd) (I : MI) (L : ML) (P : MP) (h0 : w.1 a_s1 = some (0, 0)) : go 105 124 [l0, l1, l2, l3, l4] [.ref a_s1, .long y0] w I L P = go 105 127 [l0, l1, l2, l3, l4] [(va_rf (P a_s1 5)), .long y0] w I L P := by
  refine (go_getR (m := 105) (pc := 124) (o := 6) (x := 41) (ci := 0) (k := 5) (by decide +kernel) rfl f_6_41 rfl h0).trans ?_
  rfl
theorem Two_digest_127 (l0 : Value) (l1 : Value) (l2 : Value) (l3 : Value) (x_l4 : Int32) (y0 : Int64) (a_s1 : Nat) (w : Wd) (I : MI) (L : ML) (P : MP) (h0 : w.1 a_s1 = some (5, 0)) : go 105 127 [l0, l1, l2, l3, .int x_l4] [.ref a_s1, .long y0] w I L P = kC (call 25 [.ref a_s1, .int x_l4, .int (nI 0)] w I L P) (fun v w1 I1 L1 P1 => go 105 133 [l0, l1, l2, l3, .int x_l4] (v.toList ++ [.long y0]) w1 I1 L1 P1) := by
  refine (go_iload (m := 105) (pc := 127) (k := 4) (by decide +kernel) rfl).trans ?_
  refine (go_ic (m := 105) (pc := 129) (n := 0) (by decide +kernel) ic_0).trans ?_
  exact go_vir (m := 105) (pc := 130) (o := 6) (x := 166) (y := 25) (kd := 1) (b := a_s1) (bs := [.int x_l4, .int (nI 0)]) (rs := [.long y0]) (by decide +kernel) rfl rfl c_6_166 (Or.inr rfl) rfl rfl rfl (by decide +kernel) (by simp only [List.length_cons, List.length_nil]; decide) (Nat.le_of_ble_eq_true rfl) h0
theorem Two_digest_133 (l0 : Value) (l1 : Value) (l2 : Value) (l3 : Value) (l4 : Value) (y0 : Int64) (y1 : Int32) (w : Wd) (I : MI) (L : ML) (P : MP)  : go 105 133 [l0, l1, l2, l3, l4] [.int y1, .long y0] w I L P = kC (call 106 [.long y0, .int y1] w I L P) (fun v w1 I1 L1 P1 => go 105 136 [l0, l1, l2, l3, l4] (v.toList ++ []) w1 I1 L1 P1) := by
  exact go_sta (m := 105) (pc := 133) (o := 6) (x := 213) (y := 106) (kd := 2) (as := [.long y0, .int y1]) (rs := []) (by decide +kernel) rfl rfl c_6_213 (Or.inl rfl) rfl rfl rfl (by decide +kernel) (by simp only [List.length_cons, List.length_nil]; decide) (Nat.le_of_ble_eq_true rfl)
theorem Two_digest_136 (l0 : Value) (l1 : Value) (l2 : Value) (l3 : Value) (x_l4 : Int32) (y0 : Int64) (w : Wd) (I : MI) (L : ML) (P : MP)  : go 105 136 [l0, l1, l2, l3, .int x_l4] [.long y0] w I L P = go 105 113 [(fix1 l0), .long y0, unk, (fix1 l3), .int (x_l4 + (nI 1))] [] w I L P := by
  refine (go_lstore_n (m := 105) (pc := 136) (k := 1) (ls' := [(fix1 l0), .long y0, unk, l3, .int x_l4]) (by decide +kernel) (by simp only [List.length_cons, List.length_nil]; decide) rfl).trans ?_
  refine (go_iinc (m := 105) (pc := 137) (k := 4) (n := 1) (x := x_l4) (v := x_l4 + (nI 1)) (ls' := [(fix1 l0), .long y0, unk, (fix1 l3), .int (x_l4 + (nI 1))]) (by decide +kernel) rfl (by rw [ic_1]) rfl).trans ?_
  refine (go_goto (m := 105) (pc := 140) (off := -27) (t := 113) (by decide +kernel) (by decide)).trans ?_
  rfl
theorem Two_digest_143 (a_l0 : Nat) (x_l1 : Int64) (l2 : Value) (l3 : Value) (l4 : Value) (w : Wd) (I : MI) (L : ML) (P : MP) (h0 : w.1 a_l0 = some (6, 0)) : go 105 143 [.ref a_l0, .long x_l1, l2, l3, l4] [] w I L P = kC (call 115 [.ref a_l0] w I L P) (fun v w1 I1 L1 P1 => go 105 148 [.ref a_l0, .long x_l1, l2, l3, l4] (v.toList ++ [.long x_l1]) w1 I1 L1 P1) := by
  refine (go_lload_n (m := 105) (pc := 143) (k := 1) (by decide +kernel) rfl).trans ?_
  refine (go_aload_n (m := 105) (pc := 144) (k := 0) (by decide +kernel) rfl).trans ?_
  exact go_vir (m := 105) (pc := 145) (o := 6) (x := 168) (y := 115) (kd := 0) (b := a_l0) (bs := []) (rs := [.long x_l1]) (by decide +kernel) rfl rfl c_6_168 (Or.inl rfl) rfl rfl rfl (by decide +kernel) (by simp only [List.length_cons, List.length_nil]; decide) (Nat.le_of_ble_eq_true rfl) h0
theorem Two_digest_148 (l0 : Value) (l1 : Value) (l2 : Value) (l3 : Value) (l4 : Value) (y0 : Int64) (y1 : Int32) (w : Wd) (I : MI) (L : ML) (P : MP)  : go 105 148 [l0, l1, l2, l3, l4] [.int y1, .long y0] w I L P = kC (call 106 [.long y0, .int y1] w I L P) (fun v w1 I1 L1 P1 => go 105 151 [l0, l1, l2, l3, l4] (v.toList ++ []) w1 I1 L1 P1) := by
  exact go_sta (m := 105) (pc := 148) (o := 6) (x := 213) (y := 106) (kd := 2) (as := [.long y0, .int y1]) (rs := []) (by decide +kernel) rfl rfl c_6_213 (Or.inl rfl) rfl rfl rfl (by decide +kernel) (by simp only [List.length_cons, List.length_nil]; decide) (Nat.le_of_ble_eq_true rfl)
theorem Two_digest_151 (a_l0 : Nat) (l1 : Value) (l2 : Value) (l3 : Value) (l4 : Value) (y0 : Int64) (w : Wd) (I : MI) (L : ML) (P : MP) (h0 : w.1 a_l0 = some (6, 0)) : go 105 151 [.ref a_l0, l1, l2, l3, l4] [.long y0] w I L P = kC (call 106 [.long y0, .int (I a_l0 4)] w I L P) (fun v w1 I1 L1 P1 => go 105 160 [.ref a_l0, .long y0, unk, l3, l4] (v.toList ++ []) w1 I1 L1 P1) := by
  refine (go_lstore_n (m := 105) (pc := 151) (k := 1) (ls' := [.ref a_l0, .long y0, unk, l3, l4]) (by decide +kernel) (by simp only [List.length_cons, List.length_nil]; decide) rfl).trans ?_
  refine (go_lload_n (m := 105) (pc := 152) (k := 1) (by decide +kernel) rfl).trans ?_
  refine (go_aload_n (m := 105) (pc := 153) (k := 0) (by decide +kernel) rfl).trans ?_
  refine (go_getI (m := 105) (pc := 154) (o := 6) (x := 26) (ci := 6) (k := 4) (by decide +kernel) rfl f_6_26 rfl h0).trans ?_
  exact go_sta (m := 105) (pc := 157) (o := 6) (x := 213) (y := 106) (kd := 2) (as := [.long y0, .int (I a_l0 4)]) (rs := []) (by decide +kernel) rfl rfl c_6_213 (Or.inl rfl) rfl rfl rfl (by decide +kernel) (by simp only [List.length_cons, List.length_nil]; decide) (Nat.le_of_ble_eq_true rfl)
theorem Two_digest_160 (l0 : Value) (l1 : Value) (l2 : Value) (l3 : Value) (l4 : Value) (y0 : Int64) (w : Wd) (I : MI) (L : ML) (P : MP)  : go 105 160 [l0, l1, l2, l3, l4] [.long y0] w I L P = some (.inl (some (.long y0)), w, I, L, P) := by
  exact go_retJ (m := 105) (pc := 160) (by decide +kernel) rfl
theorem Two_digest_E (this : Nat) (w : Wd) (I : MI) (L : ML) (P : MP) : call 105 [.ref this] w I L P = go 105 0 [.ref this, unk, unk, unk, unk] [] w I L P := rfl
theorem Two_mix_0 (x_l0 : Int64) (l1 : Value) (x_l2 : Int32) (w : Wd) (I : MI) (L : ML) (P : MP)  : go 106 0 [.long x_l0, l1, .int x_l2] [] w I L P = some (.inl (some (.long ((31 * x_l0) + (Int32.toInt64 x_l2)))), w, I, L, P) := by
  refine (go_ldc2 (m := 106) (pc := 0) (o := 6) (x := 227) (v := 31) (by decide +kernel) rfl (by decide +kernel)).trans ?_
  refine (go_lload_n (m := 106) (pc := 3) (k := 0) (by decide +kernel) rfl).trans ?_
  refine (go_lmul (m := 106) (pc := 4) (by decide +kernel)).trans ?_
  refine (go_iload_n (m := 106) (pc := 5) (k := 2) (by decide +kernel) rfl).trans ?_
  refine (go_i2l (m := 106) (pc := 6) (by decide +kernel)).trans ?_
  refine (go_ladd (m := 106) (pc := 7) (by decide +kernel)).trans ?_
  exact go_retJ (m := 106) (pc := 8) (by decide +kernel) rfl
theorem Two_mix_E (p0 : Int64) (p1 : Int32) (w : Wd) (I : MI) (L : ML) (P : MP) : call 106 [.long p0, .int p1] w I L P = go 106 0 [.long p0, unk, .int p1] [] w I L P := rfl
theorem Two_mixCaller_0 (a_l0 : Nat) (l1 : Value) (l2 : Value) (l3 : Value) (l4 : Value) (l5 : Value) (w : Wd) (I : MI) (L : ML) (P : MP) (h0 : w.1 a_l0 = some (6, 0)) : go 107 0 [.ref a_l0, l1, l2, l3, l4, l5] [] w I L P = go 107 4 [.ref a_l0, l1, l2, l3, l4, l5] [(va_rf (P a_l0 0))] w I L P := by
  refine (go_aload_n (m := 107) (pc := 0) (k := 0) (by decide +kernel) rfl).trans ?_
  refine (go_getR (m := 107) (pc := 1) (o := 6) (x := 10) (ci := 6) (k := 0) (by decide +kernel) rfl f_6_10 rfl h0).trans ?_
  rfl
theorem Two_mixCaller_4 (l0 : Value) (l1 : Value) (l2 : Value) (x_l3 : Int32) (l4 : Value) (l5 : Value) (a_s0 : Nat) (w : Wd) (I : MI) (L : ML) (P : MP) (h0 : w.1 a_s0 = some (0, 0)) : go 107 4 [l0, l1, l2, .int x_l3, l4, l5] [.ref a_s0] w I L P = kC (call 30 [.ref a_s0, .int x_l3] w I L P) (fun v w1 I1 L1 P1 => go 107 8 [l0, l1, l2, .int x_l3, l4, l5] (v.toList ++ []) w1 I1 L1 P1) := by
  refine (go_iload_n (m := 107) (pc := 4) (k := 3) (by decide +kernel) rfl).trans ?_
  exact go_vir (m := 107) (pc := 5) (o := 6) (x := 178) (y := 30) (kd := 1) (b := a_s0) (bs := [.int x_l3]) (rs := []) (by decide +kernel) rfl rfl c_6_178 (Or.inr rfl) rfl rfl rfl (by decide +kernel) (by simp only [List.length_cons, List.length_nil]; decide) (Nat.le_of_ble_eq_true rfl) h0
theorem Two_mixCaller_8_0 (l0 : Value) (l1 : Value) (l2 : Value) (l3 : Value) (l4 : Value) (l5 : Value) (w : Wd) (I : MI) (L : ML) (P : MP)  : go 107 8 [l0, l1, l2, l3, l4, l5] [.null] w I L P = go 107 15 [l0, l1, l2, (fix1 l3), .null, l5] [] w I L P := by
  refine (go_astoreN (m := 107) (pc := 8) (k := 4) (ls' := [l0, l1, l2, (fix1 l3), .null, l5]) (by decide +kernel) (by simp only [List.length_cons, List.length_nil]; decide) rfl).trans ?_
  refine (go_aloadN (m := 107) (pc := 10) (k := 4) (by decide +kernel) rfl).trans ?_
  exact go_ifnonnullN (m := 107) (pc := 12) (off := 5) (by decide +kernel)
theorem Two_mixCaller_8_1 (l0 : Value) (l1 : Value) (l2 : Value) (l3 : Value) (l4 : Value) (l5 : Value) (a_s0 : Nat) (w : Wd) (I : MI) (L : ML) (P : MP)  : go 107 8 [l0, l1, l2, l3, l4, l5] [.ref a_s0] w I L P = go 107 17 [l0, l1, l2, (fix1 l3), .ref a_s0, l5] [] w I L P := by
  refine (go_astore (m := 107) (pc := 8) (k := 4) (ls' := [l0, l1, l2, (fix1 l3), .ref a_s0, l5]) (by decide +kernel) (by simp only [List.length_cons, List.length_nil]; decide) rfl).trans ?_
  refine (go_aload (m := 107) (pc := 10) (k := 4) (by decide +kernel) rfl).trans ?_
  exact go_ifnonnullR (m := 107) (pc := 12) (off := 5) (t := 17) (by decide +kernel) (by decide)
theorem Two_mixCaller_15 (l0 : Value) (x_l1 : Int64) (l2 : Value) (l3 : Value) (l4 : Value) (l5 : Value) (w : Wd) (I : MI) (L : ML) (P : MP)  : go 107 15 [l0, .long x_l1, l2, l3, l4, l5] [] w I L P = some (.inl (some (.long x_l1)), w, I, L, P) := by
  refine (go_lload_n (m := 107) (pc := 15) (k := 1) (by decide +kernel) rfl).trans ?_
  exact go_retJ (m := 107) (pc := 16) (by decide +kernel) rfl
theorem Two_mixCaller_17 (l0 : Value) (l1 : Value) (l2 : Value) (l3 : Value) (l4 : Value) (l5 : Value) (w : Wd) (I : MI) (L : ML) (P : MP)  : go 107 17 [l0, l1, l2, l3, l4, l5] [] w I L P = go 107 20 [l0, l1, l2, l3, (fix1 l4), .int (nI 0)] [] w I L P := by
  refine (go_ic (m := 107) (pc := 17) (n := 0) (by decide +kernel) ic_0).trans ?_
  refine (go_istore (m := 107) (pc := 18) (k := 5) (ls' := [l0, l1, l2, l3, (fix1 l4), .int (nI 0)]) (by decide +kernel) (by simp only [List.length_cons, List.length_nil]; decide) rfl).trans ?_
  rfl
theorem Two_mixCaller_20 (l0 : Value) (l1 : Value) (l2 : Value) (l3 : Value) (l4 : Value) (x_l5 : Int32) (w : Wd) (I : MI) (L : ML) (P : MP)  : go 107 20 [l0, l1, l2, l3, l4, .int x_l5] [] w I L P = if (nI 7) < x_l5 then go 107 45 [l0, l1, l2, l3, l4, .int x_l5] [] w I L P else go 107 27 [l0, l1, l2, l3, l4, .int x_l5] [] w I L P := by
  refine (go_iload (m := 107) (pc := 20) (k := 5) (by decide +kernel) rfl).trans ?_
  refine (go_bi (m := 107) (pc := 22) (n := 7) (by decide +kernel) bi_7).trans ?_
  exact go_icmpgt (m := 107) (pc := 24) (off := 21) (t := 45) (by decide +kernel) (by decide)
theorem Two_mixCaller_27 (l0 : Value) (x_l1 : Int64) (l2 : Value) (l3 : Value) (a_l4 : Nat) (x_l5 : Int32) (w : Wd) (I : MI) (L : ML) (P : MP) (h0 : w.1 a_l4 = some (1, 0)) : go 107 27 [l0, .long x_l1, l2, l3, .ref a_l4, .int x_l5] [] w I L P = kC (call 13 [.ref a_l4, .int x_l5] w I L P) (fun v w1 I1 L1 P1 => go 107 35 [l0, .long x_l1, l2, l3, .ref a_l4, .int x_l5] (v.toList ++ [.long x_l1]) w1 I1 L1 P1) := by
  refine (go_lload_n (m := 107) (pc := 27) (k := 1) (by decide +kernel) rfl).trans ?_
  refine (go_aload (m := 107) (pc := 28) (k := 4) (by decide +kernel) rfl).trans ?_
  refine (go_iload (m := 107) (pc := 30) (k := 5) (by decide +kernel) rfl).trans ?_
  exact go_vir (m := 107) (pc := 32) (o := 6) (x := 138) (y := 13) (kd := 1) (b := a_l4) (bs := [.int x_l5]) (rs := [.long x_l1]) (by decide +kernel) rfl rfl c_6_138 (Or.inr rfl) rfl rfl rfl (by decide +kernel) (by simp only [List.length_cons, List.length_nil]; decide) (Nat.le_of_ble_eq_true rfl) h0
theorem Two_mixCaller_35 (l0 : Value) (l1 : Value) (l2 : Value) (l3 : Value) (l4 : Value) (l5 : Value) (y0 : Int64) (y1 : Int32) (w : Wd) (I : MI) (L : ML) (P : MP)  : go 107 35 [l0, l1, l2, l3, l4, l5] [.int y1, .long y0] w I L P = kC (call 106 [.long y0, .int y1] w I L P) (fun v w1 I1 L1 P1 => go 107 38 [l0, l1, l2, l3, l4, l5] (v.toList ++ []) w1 I1 L1 P1) := by
  exact go_sta (m := 107) (pc := 35) (o := 6) (x := 213) (y := 106) (kd := 2) (as := [.long y0, .int y1]) (rs := []) (by decide +kernel) rfl rfl c_6_213 (Or.inl rfl) rfl rfl rfl (by decide +kernel) (by simp only [List.length_cons, List.length_nil]; decide) (Nat.le_of_ble_eq_true rfl)
theorem Two_mixCaller_38 (l0 : Value) (l1 : Value) (l2 : Value) (l3 : Value) (l4 : Value) (x_l5 : Int32) (y0 : Int64) (w : Wd) (I : MI) (L : ML) (P : MP)  : go 107 38 [l0, l1, l2, l3, l4, .int x_l5] [.long y0] w I L P = go 107 20 [(fix1 l0), .long y0, unk, l3, (fix1 l4), .int (x_l5 + (nI 1))] [] w I L P := by
  refine (go_lstore_n (m := 107) (pc := 38) (k := 1) (ls' := [(fix1 l0), .long y0, unk, l3, l4, .int x_l5]) (by decide +kernel) (by simp only [List.length_cons, List.length_nil]; decide) rfl).trans ?_
  refine (go_iinc (m := 107) (pc := 39) (k := 5) (n := 1) (x := x_l5) (v := x_l5 + (nI 1)) (ls' := [(fix1 l0), .long y0, unk, l3, (fix1 l4), .int (x_l5 + (nI 1))]) (by decide +kernel) rfl (by rw [ic_1]) rfl).trans ?_
  refine (go_goto (m := 107) (pc := 42) (off := -22) (t := 20) (by decide +kernel) (by decide)).trans ?_
  rfl
theorem Two_mixCaller_45 (a_l0 : Nat) (x_l1 : Int64) (l2 : Value) (l3 : Value) (l4 : Value) (l5 : Value) (w : Wd) (I : MI) (L : ML) (P : MP) (h0 : w.1 a_l0 = some (6, 0)) : go 107 45 [.ref a_l0, .long x_l1, l2, l3, l4, l5] [] w I L P = go 107 50 [.ref a_l0, .long x_l1, l2, l3, l4, l5] [(va_rf (P a_l0 0)), .long x_l1] w I L P := by
  refine (go_lload_n (m := 107) (pc := 45) (k := 1) (by decide +kernel) rfl).trans ?_
  refine (go_aload_n (m := 107) (pc := 46) (k := 0) (by decide +kernel) rfl).trans ?_
  refine (go_getR (m := 107) (pc := 47) (o := 6) (x := 10) (ci := 6) (k := 0) (by decide +kernel) rfl f_6_10 rfl h0).trans ?_
  rfl
theorem Two_mixCaller_50 (l0 : Value) (l1 : Value) (l2 : Value) (x_l3 : Int32) (l4 : Value) (l5 : Value) (y0 : Int64) (a_s1 : Nat) (w : Wd) (I : MI) (L : ML) (P : MP) (h0 : w.1 a_s1 = some (0, 0)) : go 107 50 [l0, l1, l2, .int x_l3, l4, l5] [.ref a_s1, .long y0] w I L P = kC (call 33 [.ref a_s1, .int x_l3] w I L P) (fun v w1 I1 L1 P1 => go 107 54 [l0, l1, l2, .int x_l3, l4, l5] (v.toList ++ [.long y0]) w1 I1 L1 P1) := by
  refine (go_iload_n (m := 107) (pc := 50) (k := 3) (by decide +kernel) rfl).trans ?_
  exact go_vir (m := 107) (pc := 51) (o := 6) (x := 122) (y := 33) (kd := 1) (b := a_s1) (bs := [.int x_l3]) (rs := [.long y0]) (by decide +kernel) rfl rfl c_6_122 (Or.inr rfl) rfl rfl rfl (by decide +kernel) (by simp only [List.length_cons, List.length_nil]; decide) (Nat.le_of_ble_eq_true rfl) h0
theorem Two_mixCaller_54 (l0 : Value) (l1 : Value) (l2 : Value) (l3 : Value) (l4 : Value) (l5 : Value) (y0 : Int64) (y1 : Int32) (w : Wd) (I : MI) (L : ML) (P : MP)  : go 107 54 [l0, l1, l2, l3, l4, l5] [.int y1, .long y0] w I L P = if y1 = 0 then go 107 61 [l0, l1, l2, l3, l4, l5] [.long y0] w I L P else go 107 57 [l0, l1, l2, l3, l4, l5] [.long y0] w I L P := by
  exact go_ifeq (m := 107) (pc := 54) (off := 7) (t := 61) (by decide +kernel) (by decide)
theorem Two_mixCaller_57 (l0 : Value) (l1 : Value) (l2 : Value) (l3 : Value) (l4 : Value) (l5 : Value) (y0 : Int64) (w : Wd) (I : MI) (L : ML) (P : MP)  : go 107 57 [l0, l1, l2, l3, l4, l5] [.long y0] w I L P = go 107 62 [l0, l1, l2, l3, l4, l5] [.int (nI 1), .long y0] w I L P := by
  refine (go_ic (m := 107) (pc := 57) (n := 1) (by decide +kernel) ic_1).trans ?_
  refine (go_goto (m := 107) (pc := 58) (off := 4) (t := 62) (by decide +kernel) (by decide)).trans ?_
  rfl
theorem Two_mixCaller_61 (l0 : Value) (l1 : Value) (l2 : Value) (l3 : Value) (l4 : Value) (l5 : Value) (y0 : Int64) (w : Wd) (I : MI) (L : ML) (P : MP)  : go 107 61 [l0, l1, l2, l3, l4, l5] [.long y0] w I L P = go 107 62 [l0, l1, l2, l3, l4, l5] [.int (nI 0), .long y0] w I L P := by
  refine (go_ic (m := 107) (pc := 61) (n := 0) (by decide +kernel) ic_0).trans ?_
  rfl
theorem Two_mixCaller_62 (l0 : Value) (l1 : Value) (l2 : Value) (l3 : Value) (l4 : Value) (l5 : Value) (y0 : Int64) (y1 : Int32) (w : Wd) (I : MI) (L : ML) (P : MP)  : go 107 62 [l0, l1, l2, l3, l4, l5] [.int y1, .long y0] w I L P = kC (call 106 [.long y0, .int y1] w I L P) (fun v w1 I1 L1 P1 => go 107 65 [l0, l1, l2, l3, l4, l5] (v.toList ++ []) w1 I1 L1 P1) := by
  exact go_sta (m := 107) (pc := 62) (o := 6) (x := 213) (y := 106) (kd := 2) (as := [.long y0, .int y1]) (rs := []) (by decide +kernel) rfl rfl c_6_213 (Or.inl rfl) rfl rfl rfl (by decide +kernel) (by simp only [List.length_cons, List.length_nil]; decide) (Nat.le_of_ble_eq_true rfl)
theorem Two_mixCaller_65 (l0 : Value) (l1 : Value) (l2 : Value) (l3 : Value) (l4 : Value) (l5 : Value) (y0 : Int64) (w : Wd) (I : MI) (L : ML) (P : MP)  : go 107 65 [l0, l1, l2, l3, l4, l5] [.long y0] w I L P = go 107 69 [(fix1 l0), .long y0, unk, l3, (fix1 l4), .int (nI 0)] [] w I L P := by
  refine (go_lstore_n (m := 107) (pc := 65) (k := 1) (ls' := [(fix1 l0), .long y0, unk, l3, l4, l5]) (by decide +kernel) (by simp only [List.length_cons, List.length_nil]; decide) rfl).trans ?_
  refine (go_ic (m := 107) (pc := 66) (n := 0) (by decide +kernel) ic_0).trans ?_
  refine (go_istore (m := 107) (pc := 67) (k := 5) (ls' := [(fix1 l0), .long y0, unk, l3, (fix1 l4), .int (nI 0)]) (by decide +kernel) (by simp only [List.length_cons, List.length_nil]; decide) rfl).trans ?_
  rfl
theorem Two_mixCaller_69 (l0 : Value) (l1 : Value) (l2 : Value) (l3 : Value) (a_l4 : Nat) (x_l5 : Int32) (w : Wd) (I : MI) (L : ML) (P : MP) (h0 : w.1 a_l4 = some (1, 0)) : go 107 69 [l0, l1, l2, l3, .ref a_l4, .int x_l5] [] w I L P = if (I a_l4 1) ≤ x_l5 then go 107 97 [l0, l1, l2, l3, .ref a_l4, .int x_l5] [] w I L P else go 107 79 [l0, l1, l2, l3, .ref a_l4, .int x_l5] [] w I L P := by
  refine (go_iload (m := 107) (pc := 69) (k := 5) (by decide +kernel) rfl).trans ?_
  refine (go_aload (m := 107) (pc := 71) (k := 4) (by decide +kernel) rfl).trans ?_
  refine (go_getI (m := 107) (pc := 73) (o := 6) (x := 115) (ci := 1) (k := 1) (by decide +kernel) rfl f_6_115 rfl h0).trans ?_
  exact go_icmpge (m := 107) (pc := 76) (off := 21) (t := 97) (by decide +kernel) (by decide)
theorem Two_mixCaller_79 (l0 : Value) (x_l1 : Int64) (l2 : Value) (l3 : Value) (a_l4 : Nat) (x_l5 : Int32) (w : Wd) (I : MI) (L : ML) (P : MP) (h0 : w.1 a_l4 = some (1, 0)) : go 107 79 [l0, .long x_l1, l2, l3, .ref a_l4, .int x_l5] [] w I L P = kC (call 7 [.ref a_l4, .int x_l5] w I L P) (fun v w1 I1 L1 P1 => go 107 87 [l0, .long x_l1, l2, l3, .ref a_l4, .int x_l5] (v.toList ++ [.long x_l1]) w1 I1 L1 P1) := by
  refine (go_lload_n (m := 107) (pc := 79) (k := 1) (by decide +kernel) rfl).trans ?_
  refine (go_aload (m := 107) (pc := 80) (k := 4) (by decide +kernel) rfl).trans ?_
  refine (go_iload (m := 107) (pc := 82) (k := 5) (by decide +kernel) rfl).trans ?_
  exact go_vir (m := 107) (pc := 84) (o := 6) (x := 141) (y := 7) (kd := 1) (b := a_l4) (bs := [.int x_l5]) (rs := [.long x_l1]) (by decide +kernel) rfl rfl c_6_141 (Or.inr rfl) rfl rfl rfl (by decide +kernel) (by simp only [List.length_cons, List.length_nil]; decide) (Nat.le_of_ble_eq_true rfl) h0
theorem Two_mixCaller_87_0 (l0 : Value) (l1 : Value) (l2 : Value) (l3 : Value) (l4 : Value) (l5 : Value) (y0 : Int64) (w : Wd) (I : MI) (L : ML) (P : MP)  : go 107 87 [l0, l1, l2, l3, l4, l5] [.null, .long y0] w I L P = kC (call 108 [.long y0, .null] w I L P) (fun v w1 I1 L1 P1 => go 107 90 [l0, l1, l2, l3, l4, l5] (v.toList ++ []) w1 I1 L1 P1) := by
  exact go_sta (m := 107) (pc := 87) (o := 6) (x := 229) (y := 108) (kd := 2) (as := [.long y0, .null]) (rs := []) (by decide +kernel) rfl rfl c_6_229 (Or.inl rfl) rfl rfl rfl (by decide +kernel) (by simp only [List.length_cons, List.length_nil]; decide) (Nat.le_of_ble_eq_true rfl)
theorem Two_mixCaller_87_1 (l0 : Value) (l1 : Value) (l2 : Value) (l3 : Value) (l4 : Value) (l5 : Value) (y0 : Int64) (a_s1 : Nat) (w : Wd) (I : MI) (L : ML) (P : MP)  : go 107 87 [l0, l1, l2, l3, l4, l5] [.ref a_s1, .long y0] w I L P = kC (call 108 [.long y0, .ref a_s1] w I L P) (fun v w1 I1 L1 P1 => go 107 90 [l0, l1, l2, l3, l4, l5] (v.toList ++ []) w1 I1 L1 P1) := by
  exact go_sta (m := 107) (pc := 87) (o := 6) (x := 229) (y := 108) (kd := 2) (as := [.long y0, .ref a_s1]) (rs := []) (by decide +kernel) rfl rfl c_6_229 (Or.inl rfl) rfl rfl rfl (by decide +kernel) (by simp only [List.length_cons, List.length_nil]; decide) (Nat.le_of_ble_eq_true rfl)
theorem Two_mixCaller_90 (l0 : Value) (l1 : Value) (l2 : Value) (l3 : Value) (l4 : Value) (x_l5 : Int32) (y0 : Int64) (w : Wd) (I : MI) (L : ML) (P : MP)  : go 107 90 [l0, l1, l2, l3, l4, .int x_l5] [.long y0] w I L P = go 107 69 [(fix1 l0), .long y0, unk, l3, (fix1 l4), .int (x_l5 + (nI 1))] [] w I L P := by
  refine (go_lstore_n (m := 107) (pc := 90) (k := 1) (ls' := [(fix1 l0), .long y0, unk, l3, l4, .int x_l5]) (by decide +kernel) (by simp only [List.length_cons, List.length_nil]; decide) rfl).trans ?_
  refine (go_iinc (m := 107) (pc := 91) (k := 5) (n := 1) (x := x_l5) (v := x_l5 + (nI 1)) (ls' := [(fix1 l0), .long y0, unk, l3, (fix1 l4), .int (x_l5 + (nI 1))]) (by decide +kernel) rfl (by rw [ic_1]) rfl).trans ?_
  refine (go_goto (m := 107) (pc := 94) (off := -25) (t := 69) (by decide +kernel) (by decide)).trans ?_
  rfl
theorem Two_mixCaller_97 (l0 : Value) (x_l1 : Int64) (l2 : Value) (l3 : Value) (l4 : Value) (l5 : Value) (w : Wd) (I : MI) (L : ML) (P : MP)  : go 107 97 [l0, .long x_l1, l2, l3, l4, l5] [] w I L P = some (.inl (some (.long x_l1)), w, I, L, P) := by
  refine (go_lload_n (m := 107) (pc := 97) (k := 1) (by decide +kernel) rfl).trans ?_
  exact go_retJ (m := 107) (pc := 98) (by decide +kernel) rfl
theorem Two_mixCaller_E (this : Nat) (p0 : Int64) (p1 : Int32) (w : Wd) (I : MI) (L : ML) (P : MP) : call 107 [.ref this, .long p0, .int p1] w I L P = go 107 0 [.ref this, .long p0, unk, .int p1, unk, unk] [] w I L P := rfl
theorem Two_mixMessage_0_0 (l0 : Value) (l1 : Value) (l3 : Value) (w : Wd) (I : MI) (L : ML) (P : MP)  : go 108 0 [l0, l1, .null, l3] [] w I L P = go 108 4 [l0, l1, .null, l3] [] w I L P := by
  refine (go_aload_nN (m := 108) (pc := 0) (k := 2) (by decide +kernel) rfl).trans ?_
  exact go_ifnonnullN (m := 108) (pc := 1) (off := 5) (by decide +kernel)
theorem Two_mixMessage_0_1 (l0 : Value) (l1 : Value) (a_l2 : Nat) (l3 : Value) (w : Wd) (I : MI) (L : ML) (P : MP)  : go 108 0 [l0, l1, .ref a_l2, l3] [] w I L P = go 108 6 [l0, l1, .ref a_l2, l3] [] w I L P := by
  refine (go_aload_n (m := 108) (pc := 0) (k := 2) (by decide +kernel) rfl).trans ?_
  exact go_ifnonnullR (m := 108) (pc := 1) (off := 5) (t := 6) (by decide +kernel) (by decide)
theorem Two_mixMessage_4 (x_l0 : Int64) (l1 : Value) (l2 : Value) (l3 : Value) (w : Wd) (I : MI) (L : ML) (P : MP)  : go 108 4 [.long x_l0, l1, l2, l3] [] w I L P = some (.inl (some (.long x_l0)), w, I, L, P) := by
  refine (go_lload_n (m := 108) (pc := 4) (k := 0) (by decide +kernel) rfl).trans ?_
  exact go_retJ (m := 108) (pc := 5) (by decide +kernel) rfl
theorem Two_mixMessage_6 (l0 : Value) (l1 : Value) (l2 : Value) (l3 : Value) (w : Wd) (I : MI) (L : ML) (P : MP)  : go 108 6 [l0, l1, l2, l3] [] w I L P = go 108 8 [l0, l1, (fix1 l2), .int (nI 0)] [] w I L P := by
  refine (go_ic (m := 108) (pc := 6) (n := 0) (by decide +kernel) ic_0).trans ?_
  refine (go_istore_n (m := 108) (pc := 7) (k := 3) (ls' := [l0, l1, (fix1 l2), .int (nI 0)]) (by decide +kernel) (by simp only [List.length_cons, List.length_nil]; decide) rfl).trans ?_
  rfl
theorem Two_mixMessage_8 (l0 : Value) (l1 : Value) (l2 : Value) (x_l3 : Int32) (w : Wd) (I : MI) (L : ML) (P : MP)  : go 108 8 [l0, l1, l2, .int x_l3] [] w I L P = if (nI 7) < x_l3 then go 108 30 [l0, l1, l2, .int x_l3] [] w I L P else go 108 14 [l0, l1, l2, .int x_l3] [] w I L P := by
  refine (go_iload_n (m := 108) (pc := 8) (k := 3) (by decide +kernel) rfl).trans ?_
  refine (go_bi (m := 108) (pc := 9) (n := 7) (by decide +kernel) bi_7).trans ?_
  exact go_icmpgt (m := 108) (pc := 11) (off := 19) (t := 30) (by decide +kernel) (by decide)
theorem Two_mixMessage_14 (x_l0 : Int64) (l1 : Value) (a_l2 : Nat) (x_l3 : Int32) (w : Wd) (I : MI) (L : ML) (P : MP) (h0 : w.1 a_l2 = some (3, 0)) : go 108 14 [.long x_l0, l1, .ref a_l2, .int x_l3] [] w I L P = kC (call 4 [.ref a_l2, .int x_l3] w I L P) (fun v w1 I1 L1 P1 => go 108 20 [.long x_l0, l1, .ref a_l2, .int x_l3] (v.toList ++ [.long x_l0]) w1 I1 L1 P1) := by
  refine (go_lload_n (m := 108) (pc := 14) (k := 0) (by decide +kernel) rfl).trans ?_
  refine (go_aload_n (m := 108) (pc := 15) (k := 2) (by decide +kernel) rfl).trans ?_
  refine (go_iload_n (m := 108) (pc := 16) (k := 3) (by decide +kernel) rfl).trans ?_
  exact go_vir (m := 108) (pc := 17) (o := 6) (x := 150) (y := 4) (kd := 1) (b := a_l2) (bs := [.int x_l3]) (rs := [.long x_l0]) (by decide +kernel) rfl rfl c_6_150 (Or.inr rfl) rfl rfl rfl (by decide +kernel) (by simp only [List.length_cons, List.length_nil]; decide) (Nat.le_of_ble_eq_true rfl) h0
theorem Two_mixMessage_20 (l0 : Value) (l1 : Value) (l2 : Value) (l3 : Value) (y0 : Int64) (y1 : Int32) (w : Wd) (I : MI) (L : ML) (P : MP)  : go 108 20 [l0, l1, l2, l3] [.int y1, .long y0] w I L P = kC (call 106 [.long y0, .int y1] w I L P) (fun v w1 I1 L1 P1 => go 108 23 [l0, l1, l2, l3] (v.toList ++ []) w1 I1 L1 P1) := by
  exact go_sta (m := 108) (pc := 20) (o := 6) (x := 213) (y := 106) (kd := 2) (as := [.long y0, .int y1]) (rs := []) (by decide +kernel) rfl rfl c_6_213 (Or.inl rfl) rfl rfl rfl (by decide +kernel) (by simp only [List.length_cons, List.length_nil]; decide) (Nat.le_of_ble_eq_true rfl)
theorem Two_mixMessage_23 (l0 : Value) (l1 : Value) (l2 : Value) (x_l3 : Int32) (y0 : Int64) (w : Wd) (I : MI) (L : ML) (P : MP)  : go 108 23 [l0, l1, l2, .int x_l3] [.long y0] w I L P = go 108 8 [.long y0, unk, (fix1 l2), .int (x_l3 + (nI 1))] [] w I L P := by
  refine (go_lstore_n (m := 108) (pc := 23) (k := 0) (ls' := [.long y0, unk, l2, .int x_l3]) (by decide +kernel) (by simp only [List.length_cons, List.length_nil]; decide) rfl).trans ?_
  refine (go_iinc (m := 108) (pc := 24) (k := 3) (n := 1) (x := x_l3) (v := x_l3 + (nI 1)) (ls' := [.long y0, unk, (fix1 l2), .int (x_l3 + (nI 1))]) (by decide +kernel) rfl (by rw [ic_1]) rfl).trans ?_
  refine (go_goto (m := 108) (pc := 27) (off := -19) (t := 8) (by decide +kernel) (by decide)).trans ?_
  rfl
theorem Two_mixMessage_30 (x_l0 : Int64) (l1 : Value) (l2 : Value) (l3 : Value) (w : Wd) (I : MI) (L : ML) (P : MP)  : go 108 30 [.long x_l0, l1, l2, l3] [] w I L P = some (.inl (some (.long x_l0)), w, I, L, P) := by
  refine (go_lload_n (m := 108) (pc := 30) (k := 0) (by decide +kernel) rfl).trans ?_
  exact go_retJ (m := 108) (pc := 31) (by decide +kernel) rfl
theorem Two_mixMessage_E (p0 : Int64) (p1 : Nat) (w : Wd) (I : MI) (L : ML) (P : MP) : call 108 [.long p0, .ref p1] w I L P = go 108 0 [.long p0, unk, .ref p1, unk] [] w I L P := rfl
theorem Two_mixMessage_E1 (p0 : Int64) (w : Wd) (I : MI) (L : ML) (P : MP) : call 108 [.long p0, .null] w I L P = go 108 0 [.long p0, unk, .null, unk] [] w I L P := rfl
theorem Two_mixListener_0_0 (l0 : Value) (l1 : Value) (l3 : Value) (w : Wd) (I : MI) (L : ML) (P : MP)  : go 109 0 [l0, l1, .null, l3] [] w I L P = go 109 4 [l0, l1, .null, l3] [] w I L P := by
  refine (go_aload_nN (m := 109) (pc := 0) (k := 2) (by decide +kernel) rfl).trans ?_
  exact go_ifnonnullN (m := 109) (pc := 1) (off := 5) (by decide +kernel)
theorem Two_mixListener_0_1 (l0 : Value) (l1 : Value) (a_l2 : Nat) (l3 : Value) (w : Wd) (I : MI) (L : ML) (P : MP)  : go 109 0 [l0, l1, .ref a_l2, l3] [] w I L P = go 109 6 [l0, l1, .ref a_l2, l3] [] w I L P := by
  refine (go_aload_n (m := 109) (pc := 0) (k := 2) (by decide +kernel) rfl).trans ?_
  exact go_ifnonnullR (m := 109) (pc := 1) (off := 5) (t := 6) (by decide +kernel) (by decide)
theorem Two_mixListener_4 (x_l0 : Int64) (l1 : Value) (l2 : Value) (l3 : Value) (w : Wd) (I : MI) (L : ML) (P : MP)  : go 109 4 [.long x_l0, l1, l2, l3] [] w I L P = some (.inl (some (.long x_l0)), w, I, L, P) := by
  refine (go_lload_n (m := 109) (pc := 4) (k := 0) (by decide +kernel) rfl).trans ?_
  exact go_retJ (m := 109) (pc := 5) (by decide +kernel) rfl
theorem Two_mixListener_6 (l0 : Value) (l1 : Value) (l2 : Value) (l3 : Value) (w : Wd) (I : MI) (L : ML) (P : MP)  : go 109 6 [l0, l1, l2, l3] [] w I L P = go 109 8 [l0, l1, (fix1 l2), .int (nI 0)] [] w I L P := by
  refine (go_ic (m := 109) (pc := 6) (n := 0) (by decide +kernel) ic_0).trans ?_
  refine (go_istore_n (m := 109) (pc := 7) (k := 3) (ls' := [l0, l1, (fix1 l2), .int (nI 0)]) (by decide +kernel) (by simp only [List.length_cons, List.length_nil]; decide) rfl).trans ?_
  rfl
theorem Two_mixListener_8 (l0 : Value) (l1 : Value) (l2 : Value) (x_l3 : Int32) (w : Wd) (I : MI) (L : ML) (P : MP)  : go 109 8 [l0, l1, l2, .int x_l3] [] w I L P = if (nI 5) < x_l3 then go 109 29 [l0, l1, l2, .int x_l3] [] w I L P else go 109 13 [l0, l1, l2, .int x_l3] [] w I L P := by
  refine (go_iload_n (m := 109) (pc := 8) (k := 3) (by decide +kernel) rfl).trans ?_
  refine (go_ic (m := 109) (pc := 9) (n := 5) (by decide +kernel) ic_5).trans ?_
  exact go_icmpgt (m := 109) (pc := 10) (off := 19) (t := 29) (by decide +kernel) (by decide)
theorem Two_mixListener_13 (x_l0 : Int64) (l1 : Value) (a_l2 : Nat) (x_l3 : Int32) (w : Wd) (I : MI) (L : ML) (P : MP) (h0 : w.1 a_l2 = some (2, 0)) : go 109 13 [.long x_l0, l1, .ref a_l2, .int x_l3] [] w I L P = kC (call 20 [.ref a_l2, .int x_l3] w I L P) (fun v w1 I1 L1 P1 => go 109 19 [.long x_l0, l1, .ref a_l2, .int x_l3] (v.toList ++ [.long x_l0]) w1 I1 L1 P1) := by
  refine (go_lload_n (m := 109) (pc := 13) (k := 0) (by decide +kernel) rfl).trans ?_
  refine (go_aload_n (m := 109) (pc := 14) (k := 2) (by decide +kernel) rfl).trans ?_
  refine (go_iload_n (m := 109) (pc := 15) (k := 3) (by decide +kernel) rfl).trans ?_
  exact go_vir (m := 109) (pc := 16) (o := 6) (x := 153) (y := 20) (kd := 1) (b := a_l2) (bs := [.int x_l3]) (rs := [.long x_l0]) (by decide +kernel) rfl rfl c_6_153 (Or.inr rfl) rfl rfl rfl (by decide +kernel) (by simp only [List.length_cons, List.length_nil]; decide) (Nat.le_of_ble_eq_true rfl) h0
theorem Two_mixListener_19 (l0 : Value) (l1 : Value) (l2 : Value) (l3 : Value) (y0 : Int64) (y1 : Int32) (w : Wd) (I : MI) (L : ML) (P : MP)  : go 109 19 [l0, l1, l2, l3] [.int y1, .long y0] w I L P = kC (call 106 [.long y0, .int y1] w I L P) (fun v w1 I1 L1 P1 => go 109 22 [l0, l1, l2, l3] (v.toList ++ []) w1 I1 L1 P1) := by
  exact go_sta (m := 109) (pc := 19) (o := 6) (x := 213) (y := 106) (kd := 2) (as := [.long y0, .int y1]) (rs := []) (by decide +kernel) rfl rfl c_6_213 (Or.inl rfl) rfl rfl rfl (by decide +kernel) (by simp only [List.length_cons, List.length_nil]; decide) (Nat.le_of_ble_eq_true rfl)
theorem Two_mixListener_22 (l0 : Value) (l1 : Value) (l2 : Value) (x_l3 : Int32) (y0 : Int64) (w : Wd) (I : MI) (L : ML) (P : MP)  : go 109 22 [l0, l1, l2, .int x_l3] [.long y0] w I L P = go 109 8 [.long y0, unk, (fix1 l2), .int (x_l3 + (nI 1))] [] w I L P := by
  refine (go_lstore_n (m := 109) (pc := 22) (k := 0) (ls' := [.long y0, unk, l2, .int x_l3]) (by decide +kernel) (by simp only [List.length_cons, List.length_nil]; decide) rfl).trans ?_
  refine (go_iinc (m := 109) (pc := 23) (k := 3) (n := 1) (x := x_l3) (v := x_l3 + (nI 1)) (ls' := [.long y0, unk, (fix1 l2), .int (x_l3 + (nI 1))]) (by decide +kernel) rfl (by rw [ic_1]) rfl).trans ?_
  refine (go_goto (m := 109) (pc := 26) (off := -18) (t := 8) (by decide +kernel) (by decide)).trans ?_
  rfl
theorem Two_mixListener_29 (l0 : Value) (l1 : Value) (l2 : Value) (l3 : Value) (w : Wd) (I : MI) (L : ML) (P : MP)  : go 109 29 [l0, l1, l2, l3] [] w I L P = go 109 31 [l0, l1, (fix1 l2), .int (nI 0)] [] w I L P := by
  refine (go_ic (m := 109) (pc := 29) (n := 0) (by decide +kernel) ic_0).trans ?_
  refine (go_istore_n (m := 109) (pc := 30) (k := 3) (ls' := [l0, l1, (fix1 l2), .int (nI 0)]) (by decide +kernel) (by simp only [List.length_cons, List.length_nil]; decide) rfl).trans ?_
  rfl
theorem Two_mixListener_31 (l0 : Value) (l1 : Value) (a_l2 : Nat) (x_l3 : Int32) (w : Wd) (I : MI) (L : ML) (P : MP) (h0 : w.1 a_l2 = some (2, 0)) : go 109 31 [l0, l1, .ref a_l2, .int x_l3] [] w I L P = if (I a_l2 5) ≤ x_l3 then go 109 55 [l0, l1, .ref a_l2, .int x_l3] [] w I L P else go 109 39 [l0, l1, .ref a_l2, .int x_l3] [] w I L P := by
  refine (go_iload_n (m := 109) (pc := 31) (k := 3) (by decide +kernel) rfl).trans ?_
  refine (go_aload_n (m := 109) (pc := 32) (k := 2) (by decide +kernel) rfl).trans ?_
  refine (go_getI (m := 109) (pc := 33) (o := 6) (x := 154) (ci := 2) (k := 5) (by decide +kernel) rfl f_6_154 rfl h0).trans ?_
  exact go_icmpge (m := 109) (pc := 36) (off := 19) (t := 55) (by decide +kernel) (by decide)
theorem Two_mixListener_39 (x_l0 : Int64) (l1 : Value) (a_l2 : Nat) (x_l3 : Int32) (w : Wd) (I : MI) (L : ML) (P : MP) (h0 : w.1 a_l2 = some (2, 0)) : go 109 39 [.long x_l0, l1, .ref a_l2, .int x_l3] [] w I L P = kC (call 17 [.ref a_l2, .int x_l3] w I L P) (fun v w1 I1 L1 P1 => go 109 45 [.long x_l0, l1, .ref a_l2, .int x_l3] (v.toList ++ [.long x_l0]) w1 I1 L1 P1) := by
  refine (go_lload_n (m := 109) (pc := 39) (k := 0) (by decide +kernel) rfl).trans ?_
  refine (go_aload_n (m := 109) (pc := 40) (k := 2) (by decide +kernel) rfl).trans ?_
  refine (go_iload_n (m := 109) (pc := 41) (k := 3) (by decide +kernel) rfl).trans ?_
  exact go_vir (m := 109) (pc := 42) (o := 6) (x := 157) (y := 17) (kd := 1) (b := a_l2) (bs := [.int x_l3]) (rs := [.long x_l0]) (by decide +kernel) rfl rfl c_6_157 (Or.inr rfl) rfl rfl rfl (by decide +kernel) (by simp only [List.length_cons, List.length_nil]; decide) (Nat.le_of_ble_eq_true rfl) h0
theorem Two_mixListener_45 (l0 : Value) (l1 : Value) (l2 : Value) (l3 : Value) (y0 : Int64) (y1 : Int32) (w : Wd) (I : MI) (L : ML) (P : MP)  : go 109 45 [l0, l1, l2, l3] [.int y1, .long y0] w I L P = kC (call 106 [.long y0, .int y1] w I L P) (fun v w1 I1 L1 P1 => go 109 48 [l0, l1, l2, l3] (v.toList ++ []) w1 I1 L1 P1) := by
  exact go_sta (m := 109) (pc := 45) (o := 6) (x := 213) (y := 106) (kd := 2) (as := [.long y0, .int y1]) (rs := []) (by decide +kernel) rfl rfl c_6_213 (Or.inl rfl) rfl rfl rfl (by decide +kernel) (by simp only [List.length_cons, List.length_nil]; decide) (Nat.le_of_ble_eq_true rfl)
theorem Two_mixListener_48 (l0 : Value) (l1 : Value) (l2 : Value) (x_l3 : Int32) (y0 : Int64) (w : Wd) (I : MI) (L : ML) (P : MP)  : go 109 48 [l0, l1, l2, .int x_l3] [.long y0] w I L P = go 109 31 [.long y0, unk, (fix1 l2), .int (x_l3 + (nI 1))] [] w I L P := by
  refine (go_lstore_n (m := 109) (pc := 48) (k := 0) (ls' := [.long y0, unk, l2, .int x_l3]) (by decide +kernel) (by simp only [List.length_cons, List.length_nil]; decide) rfl).trans ?_
  refine (go_iinc (m := 109) (pc := 49) (k := 3) (n := 1) (x := x_l3) (v := x_l3 + (nI 1)) (ls' := [.long y0, unk, (fix1 l2), .int (x_l3 + (nI 1))]) (by decide +kernel) rfl (by rw [ic_1]) rfl).trans ?_
  refine (go_goto (m := 109) (pc := 52) (off := -21) (t := 31) (by decide +kernel) (by decide)).trans ?_
  rfl
theorem Two_mixListener_55 (x_l0 : Int64) (l1 : Value) (l2 : Value) (l3 : Value) (w : Wd) (I : MI) (L : ML) (P : MP)  : go 109 55 [.long x_l0, l1, l2, l3] [] w I L P = some (.inl (some (.long x_l0)), w, I, L, P) := by
  refine (go_lload_n (m := 109) (pc := 55) (k := 0) (by decide +kernel) rfl).trans ?_
  exact go_retJ (m := 109) (pc := 56) (by decide +kernel) rfl
theorem Two_mixListener_E (p0 : Int64) (p1 : Nat) (w : Wd) (I : MI) (L : ML) (P : MP) : call 109 [.long p0, .ref p1] w I L P = go 109 0 [.long p0, unk, .ref p1, unk] [] w I L P := rfl
theorem Two_mixListener_E1 (p0 : Int64) (w : Wd) (I : MI) (L : ML) (P : MP) : call 109 [.long p0, .null] w I L P = go 109 0 [.long p0, unk, .null, unk] [] w I L P := rfl
theorem Two_requireRange_0 (x_l0 : Int32) (x_l1 : Int32) (l2 : Value) (w : Wd) (I : MI) (L : ML) (P : MP)  : go 110 0 [.int x_l0, .int x_l1, l2] [] w I L P = if x_l0 < x_l1 then go 110 10 [.int x_l0, .int x_l1, l2] [] w I L P else go 110 5 [.int x_l0, .int x_l1, l2] [] w I L P := by
  refine (go_iload_n (m := 110) (pc := 0) (k := 0) (by decide +kernel) rfl).trans ?_
  refine (go_iload_n (m := 110) (pc := 1) (k := 1) (by decide +kernel) rfl).trans ?_
  exact go_icmplt (m := 110) (pc := 2) (off := 8) (t := 10) (by decide +kernel) (by decide)
theorem Two_requireRange_5 (x_l0 : Int32) (l1 : Value) (x_l2 : Int32) (w : Wd) (I : MI) (L : ML) (P : MP)  : go 110 5 [.int x_l0, l1, .int x_l2] [] w I L P = if x_l0 ≤ x_l2 then go 110 20 [.int x_l0, l1, .int x_l2] [] w I L P else go 110 10 [.int x_l0, l1, .int x_l2] [] w I L P := by
  refine (go_iload_n (m := 110) (pc := 5) (k := 0) (by decide +kernel) rfl).trans ?_
  refine (go_iload_n (m := 110) (pc := 6) (k := 2) (by decide +kernel) rfl).trans ?_
  exact go_icmple (m := 110) (pc := 7) (off := 13) (t := 20) (by decide +kernel) (by decide)
theorem Two_requireRange_10 (l0 : Value) (l1 : Value) (l2 : Value) (w : Wd) (I : MI) (L : ML) (P : MP)  : go 110 10 [l0, l1, l2] [] w I L P = some (.inr 0, thrT w, I, L, P) := by
  exact go_thr (m := 110) (pc := 10) (ik := 106) (is := 233) (x := 0) (e := 100) (by decide +kernel) rfl (by decide +kernel) rfl (by decide) (by decide +kernel) (by decide +kernel) (by decide +kernel) (by decide +kernel) (by decide +kernel) rfl (by decide +kernel) (by decide +kernel)
theorem Two_requireRange_20 (l0 : Value) (l1 : Value) (l2 : Value) (w : Wd) (I : MI) (L : ML) (P : MP)  : go 110 20 [l0, l1, l2] [] w I L P = some (.inl none, w, I, L, P) := by
  exact go_retV (m := 110) (pc := 20) (by decide +kernel) rfl
theorem Two_requireRange_E (p0 : Int32) (p1 : Int32) (p2 : Int32) (w : Wd) (I : MI) (L : ML) (P : MP) : call 110 [.int p0, .int p1, .int p2] w I L P = go 110 0 [.int p0, .int p1, .int p2] [] w I L P := rfl
theorem Two_callerOrThrow_0 (a_l0 : Nat) (l1 : Value) (l2 : Value) (w : Wd) (I : MI) (L : ML) (P : MP) (h0 : w.1 a_l0 = some (6, 0)) : go 111 0 [.ref a_l0, l1, l2] [] w I L P = go 111 4 [.ref a_l0, l1, l2] [(va_rf (P a_l0 0))] w I L P := by
  refine (go_aload_n (m := 111) (pc := 0) (k := 0) (by decide +kernel) rfl).trans ?_
  refine (go_getR (m := 111) (pc := 1) (o := 6) (x := 10) (ci := 6) (k := 0) (by decide +kernel) rfl f_6_10 rfl h0).trans ?_
  rfl
theorem Two_callerOrThrow_4 (l0 : Value) (x_l1 : Int32) (l2 : Value) (a_s0 : Nat) (w : Wd) (I : MI) (L : ML) (P : MP) (h0 : w.1 a_s0 = some (0, 0)) : go 111 4 [l0, .int x_l1, l2] [.ref a_s0] w I L P = kC (call 30 [.ref a_s0, .int x_l1] w I L P) (fun v w1 I1 L1 P1 => go 111 8 [l0, .int x_l1, l2] (v.toList ++ []) w1 I1 L1 P1) := by
  refine (go_iload_n (m := 111) (pc := 4) (k := 1) (by decide +kernel) rfl).trans ?_
  exact go_vir (m := 111) (pc := 5) (o := 6) (x := 178) (y := 30) (kd := 1) (b := a_s0) (bs := [.int x_l1]) (rs := []) (by decide +kernel) rfl rfl c_6_178 (Or.inr rfl) rfl rfl rfl (by decide +kernel) (by simp only [List.length_cons, List.length_nil]; decide) (Nat.le_of_ble_eq_true rfl) h0
theorem Two_callerOrThrow_8_0 (l0 : Value) (l1 : Value) (l2 : Value) (w : Wd) (I : MI) (L : ML) (P : MP)  : go 111 8 [l0, l1, l2] [.null] w I L P = go 111 13 [l0, (fix1 l1), .null] [] w I L P := by
  refine (go_astore_nN (m := 111) (pc := 8) (k := 2) (ls' := [l0, (fix1 l1), .null]) (by decide +kernel) (by simp only [List.length_cons, List.length_nil]; decide) rfl).trans ?_
  refine (go_aload_nN (m := 111) (pc := 9) (k := 2) (by decide +kernel) rfl).trans ?_
  exact go_ifnonnullN (m := 111) (pc := 10) (off := 13) (by decide +kernel)
theorem Two_callerOrThrow_8_1 (l0 : Value) (l1 : Value) (l2 : Value) (a_s0 : Nat) (w : Wd) (I : MI) (L : ML) (P : MP)  : go 111 8 [l0, l1, l2] [.ref a_s0] w I L P = go 111 23 [l0, (fix1 l1), .ref a_s0] [] w I L P := by
  refine (go_astore_n (m := 111) (pc := 8) (k := 2) (ls' := [l0, (fix1 l1), .ref a_s0]) (by decide +kernel) (by simp only [List.length_cons, List.length_nil]; decide) rfl).trans ?_
  refine (go_aload_n (m := 111) (pc := 9) (k := 2) (by decide +kernel) rfl).trans ?_
  exact go_ifnonnullR (m := 111) (pc := 10) (off := 13) (t := 23) (by decide +kernel) (by decide)
theorem Two_callerOrThrow_13 (l0 : Value) (l1 : Value) (l2 : Value) (w : Wd) (I : MI) (L : ML) (P : MP)  : go 111 13 [l0, l1, l2] [] w I L P = some (.inr 2, thrT w, I, L, P) := by
  exact go_thr (m := 111) (pc := 13) (ik := 145) (is := 235) (x := 2) (e := 102) (by decide +kernel) rfl (by decide +kernel) rfl (by decide) (by decide +kernel) (by decide +kernel) (by decide +kernel) (by decide +kernel) (by decide +kernel) rfl (by decide +kernel) (by decide +kernel)
theorem Two_callerOrThrow_23_0 (l0 : Value) (l1 : Value) (w : Wd) (I : MI) (L : ML) (P : MP)  : go 111 23 [l0, l1, .null] [] w I L P = some (.inl (some (.null)), w, I, L, P) := by
  refine (go_aload_nN (m := 111) (pc := 23) (k := 2) (by decide +kernel) rfl).trans ?_
  exact go_retN (m := 111) (pc := 24) (by decide +kernel) rfl
theorem Two_callerOrThrow_23_1 (l0 : Value) (l1 : Value) (a_l2 : Nat) (w : Wd) (I : MI) (L : ML) (P : MP)  : go 111 23 [l0, l1, .ref a_l2] [] w I L P = some (.inl (some (.ref a_l2)), w, I, L, P) := by
  refine (go_aload_n (m := 111) (pc := 23) (k := 2) (by decide +kernel) rfl).trans ?_
  exact go_retR (m := 111) (pc := 24) (by decide +kernel) rfl
theorem Two_callerOrThrow_E (this : Nat) (p0 : Int32) (w : Wd) (I : MI) (L : ML) (P : MP) : call 111 [.ref this, .int p0] w I L P = go 111 0 [.ref this, .int p0, unk] [] w I L P := rfl
theorem Two_listenerOrThrow_0 (a_l0 : Nat) (l1 : Value) (l2 : Value) (w : Wd) (I : MI) (L : ML) (P : MP) (h0 : w.1 a_l0 = some (6, 0)) : go 112 0 [.ref a_l0, l1, l2] [] w I L P = go 112 4 [.ref a_l0, l1, l2] [(va_rf (P a_l0 0))] w I L P := by
  refine (go_aload_n (m := 112) (pc := 0) (k := 0) (by decide +kernel) rfl).trans ?_
  refine (go_getR (m := 112) (pc := 1) (o := 6) (x := 10) (ci := 6) (k := 0) (by decide +kernel) rfl f_6_10 rfl h0).trans ?_
  rfl
theorem Two_listenerOrThrow_4 (l0 : Value) (x_l1 : Int32) (l2 : Value) (a_s0 : Nat) (w : Wd) (I : MI) (L : ML) (P : MP) (h0 : w.1 a_s0 = some (0, 0)) : go 112 4 [l0, .int x_l1, l2] [.ref a_s0] w I L P = kC (call 31 [.ref a_s0, .int x_l1] w I L P) (fun v w1 I1 L1 P1 => go 112 8 [l0, .int x_l1, l2] (v.toList ++ []) w1 I1 L1 P1) := by
  refine (go_iload_n (m := 112) (pc := 4) (k := 1) (by decide +kernel) rfl).trans ?_
  exact go_vir (m := 112) (pc := 5) (o := 6) (x := 220) (y := 31) (kd := 1) (b := a_s0) (bs := [.int x_l1]) (rs := []) (by decide +kernel) rfl rfl c_6_220 (Or.inr rfl) rfl rfl rfl (by decide +kernel) (by simp only [List.length_cons, List.length_nil]; decide) (Nat.le_of_ble_eq_true rfl) h0
theorem Two_listenerOrThrow_8_0 (l0 : Value) (l1 : Value) (l2 : Value) (w : Wd) (I : MI) (L : ML) (P : MP)  : go 112 8 [l0, l1, l2] [.null] w I L P = go 112 13 [l0, (fix1 l1), .null] [] w I L P := by
  refine (go_astore_nN (m := 112) (pc := 8) (k := 2) (ls' := [l0, (fix1 l1), .null]) (by decide +kernel) (by simp only [List.length_cons, List.length_nil]; decide) rfl).trans ?_
  refine (go_aload_nN (m := 112) (pc := 9) (k := 2) (by decide +kernel) rfl).trans ?_
  exact go_ifnonnullN (m := 112) (pc := 10) (off := 13) (by decide +kernel)
theorem Two_listenerOrThrow_8_1 (l0 : Value) (l1 : Value) (l2 : Value) (a_s0 : Nat) (w : Wd) (I : MI) (L : ML) (P : MP)  : go 112 8 [l0, l1, l2] [.ref a_s0] w I L P = go 112 23 [l0, (fix1 l1), .ref a_s0] [] w I L P := by
  refine (go_astore_n (m := 112) (pc := 8) (k := 2) (ls' := [l0, (fix1 l1), .ref a_s0]) (by decide +kernel) (by simp only [List.length_cons, List.length_nil]; decide) rfl).trans ?_
  refine (go_aload_n (m := 112) (pc := 9) (k := 2) (by decide +kernel) rfl).trans ?_
  exact go_ifnonnullR (m := 112) (pc := 10) (off := 13) (t := 23) (by decide +kernel) (by decide)
theorem Two_listenerOrThrow_13 (l0 : Value) (l1 : Value) (l2 : Value) (w : Wd) (I : MI) (L : ML) (P : MP)  : go 112 13 [l0, l1, l2] [] w I L P = some (.inr 2, thrT w, I, L, P) := by
  exact go_thr (m := 112) (pc := 13) (ik := 145) (is := 237) (x := 2) (e := 102) (by decide +kernel) rfl (by decide +kernel) rfl (by decide) (by decide +kernel) (by decide +kernel) (by decide +kernel) (by decide +kernel) (by decide +kernel) rfl (by decide +kernel) (by decide +kernel)
theorem Two_listenerOrThrow_23_0 (l0 : Value) (l1 : Value) (w : Wd) (I : MI) (L : ML) (P : MP)  : go 112 23 [l0, l1, .null] [] w I L P = some (.inl (some (.null)), w, I, L, P) := by
  refine (go_aload_nN (m := 112) (pc := 23) (k := 2) (by decide +kernel) rfl).trans ?_
  exact go_retN (m := 112) (pc := 24) (by decide +kernel) rfl
theorem Two_listenerOrThrow_23_1 (l0 : Value) (l1 : Value) (a_l2 : Nat) (w : Wd) (I : MI) (L : ML) (P : MP)  : go 112 23 [l0, l1, .ref a_l2] [] w I L P = some (.inl (some (.ref a_l2)), w, I, L, P) := by
  refine (go_aload_n (m := 112) (pc := 23) (k := 2) (by decide +kernel) rfl).trans ?_
  exact go_retR (m := 112) (pc := 24) (by decide +kernel) rfl
theorem Two_listenerOrThrow_E (this : Nat) (p0 : Int32) (w : Wd) (I : MI) (L : ML) (P : MP) : call 112 [.ref this, .int p0] w I L P = go 112 0 [.ref this, .int p0, unk] [] w I L P := rfl
theorem Two_queueMessage_0 (l0 : Value) (a_l1 : Nat) (l2 : Value) (l3 : Value) (l4 : Value) (l5 : Value) (l6 : Value) (w : Wd) (I : MI) (L : ML) (P : MP) (h0 : w.1 a_l1 = some (1, 0)) : go 113 0 [l0, .ref a_l1, l2, l3, l4, l5, l6] [] w I L P = if (I a_l1 1) < (nI 4) then go 113 18 [l0, .ref a_l1, l2, l3, l4, l5, l6] [] w I L P else go 113 8 [l0, .ref a_l1, l2, l3, l4, l5, l6] [] w I L P := by
  refine (go_aload_n (m := 113) (pc := 0) (k := 1) (by decide +kernel) rfl).trans ?_
  refine (go_getI (m := 113) (pc := 1) (o := 6) (x := 115) (ci := 1) (k := 1) (by decide +kernel) rfl f_6_115 rfl h0).trans ?_
  refine (go_ic (m := 113) (pc := 4) (n := 4) (by decide +kernel) ic_4).trans ?_
  exact go_icmplt (m := 113) (pc := 5) (off := 13) (t := 18) (by decide +kernel) (by decide)
theorem Two_queueMessage_8 (l0 : Value) (l1 : Value) (l2 : Value) (l3 : Value) (l4 : Value) (l5 : Value) (l6 : Value) (w : Wd) (I : MI) (L : ML) (P : MP)  : go 113 8 [l0, l1, l2, l3, l4, l5, l6] [] w I L P = some (.inr 1, thrT w, I, L, P) := by
  exact go_thr (m := 113) (pc := 8) (ik := 63) (is := 239) (x := 1) (e := 101) (by decide +kernel) rfl (by decide +kernel) rfl (by decide) (by decide +kernel) (by decide +kernel) (by decide +kernel) (by decide +kernel) (by decide +kernel) rfl (by decide +kernel) (by decide +kernel)
theorem Two_queueMessage_18 (a_l0 : Nat) (l1 : Value) (l2 : Value) (l3 : Value) (l4 : Value) (l5 : Value) (l6 : Value) (w : Wd) (I : MI) (L : ML) (P : MP) (h0 : w.1 a_l0 = some (6, 0)) : go 113 18 [.ref a_l0, l1, l2, l3, l4, l5, l6] [] w I L P = kC (call 116 [.ref a_l0] w I L P) (fun v w1 I1 L1 P1 => go 113 22 [.ref a_l0, l1, l2, l3, l4, l5, l6] (v.toList ++ []) w1 I1 L1 P1) := by
  refine (go_aload_n (m := 113) (pc := 18) (k := 0) (by decide +kernel) rfl).trans ?_
  exact go_vir (m := 113) (pc := 19) (o := 6) (x := 50) (y := 116) (kd := 0) (b := a_l0) (bs := []) (rs := []) (by decide +kernel) rfl rfl c_6_50 (Or.inl rfl) rfl rfl rfl (by decide +kernel) (by simp only [List.length_cons, List.length_nil]; decide) (Nat.le_of_ble_eq_true rfl) h0
theorem Two_queueMessage_22 (l0 : Value) (a_l1 : Nat) (x_l2 : Int32) (x_l3 : Int32) (x_l4 : Int32) (x_l5 : Int64) (l6 : Value) (w : Wd) (I : MI) (L : ML) (P : MP) (h0 : w.1 a_l1 = some (1, 0)) : go 113 22 [l0, .ref a_l1, .int x_l2, .int x_l3, .int x_l4, .long x_l5, l6] [] w I L P = kC (call 8 [.ref a_l1, .int x_l2, .int x_l3, .int x_l4, .long x_l5] w I L P) (fun v w1 I1 L1 P1 => go 113 32 [l0, .ref a_l1, .int x_l2, .int x_l3, .int x_l4, .long x_l5, l6] (v.toList ++ []) w1 I1 L1 P1) := by
  refine (go_aload_n (m := 113) (pc := 22) (k := 1) (by decide +kernel) rfl).trans ?_
  refine (go_iload_n (m := 113) (pc := 23) (k := 2) (by decide +kernel) rfl).trans ?_
  refine (go_iload_n (m := 113) (pc := 24) (k := 3) (by decide +kernel) rfl).trans ?_
  refine (go_iload (m := 113) (pc := 25) (k := 4) (by decide +kernel) rfl).trans ?_
  refine (go_lload (m := 113) (pc := 27) (k := 5) (by decide +kernel) rfl).trans ?_
  exact go_vir (m := 113) (pc := 29) (o := 6) (x := 241) (y := 8) (kd := 1) (b := a_l1) (bs := [.int x_l2, .int x_l3, .int x_l4, .long x_l5]) (rs := []) (by decide +kernel) rfl rfl c_6_241 (Or.inr rfl) rfl rfl rfl (by decide +kernel) (by simp only [List.length_cons, List.length_nil]; decide) (Nat.le_of_ble_eq_true rfl) h0
theorem Two_queueMessage_32 (l0 : Value) (a_l1 : Nat) (l2 : Value) (l3 : Value) (l4 : Value) (l5 : Value) (l6 : Value) (y0 : Int32) (w : Wd) (I : MI) (L : ML) (P : MP) (h0 : w.1 a_l1 = some (1, 0)) : go 113 32 [l0, .ref a_l1, l2, l3, l4, l5, l6] [.int y0] w I L P = some (.inl (some (.int (I a_l1 1))), w, I, L, P) := by
  refine (go_pop (m := 113) (pc := 32) (by decide +kernel) rfl).trans ?_
  refine (go_aload_n (m := 113) (pc := 33) (k := 1) (by decide +kernel) rfl).trans ?_
  refine (go_getI (m := 113) (pc := 34) (o := 6) (x := 115) (ci := 1) (k := 1) (by decide +kernel) rfl f_6_115 rfl h0).trans ?_
  exact go_retI (m := 113) (pc := 37) (by decide +kernel) rfl
theorem Two_queueMessage_E (this : Nat) (p0 : Nat) (p1 : Int32) (p2 : Int32) (p3 : Int32) (p4 : Int64) (w : Wd) (I : MI) (L : ML) (P : MP) : call 113 [.ref this, .ref p0, .int p1, .int p2, .int p3, .long p4] w I L P = go 113 0 [.ref this, .ref p0, .int p1, .int p2, .int p3, .long p4, unk] [] w I L P := rfl
theorem Two_queueMessage_E1 (this : Nat) (p1 : Int32) (p2 : Int32) (p3 : Int32) (p4 : Int64) (w : Wd) (I : MI) (L : ML) (P : MP) : call 113 [.ref this, .null, .int p1, .int p2, .int p3, .long p4] w I L P = go 113 0 [.ref this, .null, .int p1, .int p2, .int p3, .long p4, unk] [] w I L P := rfl
theorem Two_obeyOrder_0 (a_l0 : Nat) (l1 : Value) (w : Wd) (I : MI) (L : ML) (P : MP) (h0 : w.1 a_l0 = some (6, 0)) : go 114 0 [.ref a_l0, l1] [] w I L P = go 114 4 [.ref a_l0, l1] [(va_rf (P a_l0 5))] w I L P := by
  refine (go_aload_n (m := 114) (pc := 0) (k := 0) (by decide +kernel) rfl).trans ?_
  refine (go_getR (m := 114) (pc := 1) (o := 6) (x := 33) (ci := 6) (k := 5) (by decide +kernel) rfl f_6_33 rfl h0).trans ?_
  rfl
theorem Two_obeyOrder_4 (l0 : Value) (l1 : Value) (a_s0 : Nat) (w : Wd) (I : MI) (L : ML) (P : MP) (h0 : w.1 a_s0 = some (4, 0)) : go 114 4 [l0, l1] [.ref a_s0] w I L P = if (I a_s0 5) ≠ (nI 115) then go 114 28 [l0, l1] [] w I L P else go 114 12 [l0, l1] [] w I L P := by
  refine (go_getI (m := 114) (pc := 4) (o := 6) (x := 245) (ci := 4) (k := 5) (by decide +kernel) rfl f_6_245 rfl h0).trans ?_
  refine (go_bi (m := 114) (pc := 7) (n := 115) (by decide +kernel) bi_115).trans ?_
  exact go_icmpne (m := 114) (pc := 9) (off := 19) (t := 28) (by decide +kernel) (by decide)
theorem Two_obeyOrder_12 (a_l0 : Nat) (l1 : Value) (w : Wd) (I : MI) (L : ML) (P : MP) (h0 : w.1 a_l0 = some (6, 0)) : go 114 12 [.ref a_l0, l1] [] w I L P = go 114 16 [.ref a_l0, l1] [(va_rf (P a_l0 0))] w I L P := by
  refine (go_aload_n (m := 114) (pc := 12) (k := 0) (by decide +kernel) rfl).trans ?_
  refine (go_getR (m := 114) (pc := 13) (o := 6) (x := 10) (ci := 6) (k := 0) (by decide +kernel) rfl f_6_10 rfl h0).trans ?_
  rfl
theorem Two_obeyOrder_16 (a_l0 : Nat) (l1 : Value) (v0 : Value) (w : Wd) (I : MI) (L : ML) (P : MP) (h0 : w.1 a_l0 = some (6, 0)) : go 114 16 [.ref a_l0, l1] [v0] w I L P = go 114 20 [.ref a_l0, l1] [(va_rf (P a_l0 5)), v0] w I L P := by
  refine (go_aload_n (m := 114) (pc := 16) (k := 0) (by decide +kernel) rfl).trans ?_
  refine (go_getR (m := 114) (pc := 17) (o := 6) (x := 33) (ci := 6) (k := 5) (by decide +kernel) rfl f_6_33 rfl h0).trans ?_
  rfl
theorem Two_obeyOrder_20 (l0 : Value) (l1 : Value) (a_s0 : Nat) (a_s1 : Nat) (w : Wd) (I : MI) (L : ML) (P : MP) (h0 : w.1 a_s1 = some (4, 0)) (h1 : w.1 a_s0 = some (0, 0)) : go 114 20 [l0, l1] [.ref a_s1, .ref a_s0] w I L P = kC (call 42 [.ref a_s0, .int (I a_s1 8)] w I L P) (fun v w1 I1 L1 P1 => go 114 26 [l0, l1] (v.toList ++ []) w1 I1 L1 P1) := by
  refine (go_getI (m := 114) (pc := 20) (o := 6) (x := 248) (ci := 4) (k := 8) (by decide +kernel) rfl f_6_248 rfl h0).trans ?_
  exact go_vir (m := 114) (pc := 23) (o := 6) (x := 131) (y := 42) (kd := 1) (b := a_s0) (bs := [.int (I a_s1 8)]) (rs := []) (by decide +kernel) rfl rfl c_6_131 (Or.inr rfl) rfl rfl rfl (by decide +kernel) (by simp only [List.length_cons, List.length_nil]; decide) (Nat.le_of_ble_eq_true rfl) h1
theorem Two_obeyOrder_26 (l0 : Value) (l1 : Value) (w : Wd) (I : MI) (L : ML) (P : MP) (h0 : (nI 1) &&& 1 = (nI 1)) : go 114 26 [l0, l1] [] w I L P = some (.inl (some (.int (nI 1))), w, I, L, P) := by
  refine (go_ic (m := 114) (pc := 26) (n := 1) (by decide +kernel) ic_1).trans ?_
  exact go_retZ (m := 114) (pc := 27) (by decide +kernel) rfl h0
theorem Two_obeyOrder_28 (a_l0 : Nat) (l1 : Value) (w : Wd) (I : MI) (L : ML) (P : MP) (h0 : w.1 a_l0 = some (6, 0)) : go 114 28 [.ref a_l0, l1] [] w I L P = go 114 32 [.ref a_l0, l1] [(va_rf (P a_l0 0))] w I L P := by
  refine (go_aload_n (m := 114) (pc := 28) (k := 0) (by decide +kernel) rfl).trans ?_
  refine (go_getR (m := 114) (pc := 29) (o := 6) (x := 10) (ci := 6) (k := 0) (by decide +kernel) rfl f_6_10 rfl h0).trans ?_
  rfl
theorem Two_obeyOrder_32 (a_l0 : Nat) (l1 : Value) (v0 : Value) (w : Wd) (I : MI) (L : ML) (P : MP) (h0 : w.1 a_l0 = some (6, 0)) : go 114 32 [.ref a_l0, l1] [v0] w I L P = go 114 36 [.ref a_l0, l1] [(va_rf (P a_l0 5)), v0] w I L P := by
  refine (go_aload_n (m := 114) (pc := 32) (k := 0) (by decide +kernel) rfl).trans ?_
  refine (go_getR (m := 114) (pc := 33) (o := 6) (x := 33) (ci := 6) (k := 5) (by decide +kernel) rfl f_6_33 rfl h0).trans ?_
  rfl
theorem Two_obeyOrder_36 (l0 : Value) (l1 : Value) (a_s0 : Nat) (a_s1 : Nat) (w : Wd) (I : MI) (L : ML) (P : MP) (h0 : w.1 a_s1 = some (4, 0)) (h1 : w.1 a_s0 = some (0, 0)) : go 114 36 [l0, l1] [.ref a_s1, .ref a_s0] w I L P = kC (call 30 [.ref a_s0, .int (I a_s1 6)] w I L P) (fun v w1 I1 L1 P1 => go 114 42 [l0, l1] (v.toList ++ []) w1 I1 L1 P1) := by
  refine (go_getI (m := 114) (pc := 36) (o := 6) (x := 251) (ci := 4) (k := 6) (by decide +kernel) rfl f_6_251 rfl h0).trans ?_
  exact go_vir (m := 114) (pc := 39) (o := 6) (x := 178) (y := 30) (kd := 1) (b := a_s0) (bs := [.int (I a_s1 6)]) (rs := []) (by decide +kernel) rfl rfl c_6_178 (Or.inr rfl) rfl rfl rfl (by decide +kernel) (by simp only [List.length_cons, List.length_nil]; decide) (Nat.le_of_ble_eq_true rfl) h1
theorem Two_obeyOrder_42_0 (l0 : Value) (l1 : Value) (w : Wd) (I : MI) (L : ML) (P : MP)  : go 114 42 [l0, l1] [.null] w I L P = go 114 96 [(fix1 l0), .null] [] w I L P := by
  refine (go_astore_nN (m := 114) (pc := 42) (k := 1) (ls' := [(fix1 l0), .null]) (by decide +kernel) (by simp only [List.length_cons, List.length_nil]; decide) rfl).trans ?_
  refine (go_aload_nN (m := 114) (pc := 43) (k := 1) (by decide +kernel) rfl).trans ?_
  exact go_ifnullN (m := 114) (pc := 44) (off := 52) (t := 96) (by decide +kernel) (by decide)
theorem Two_obeyOrder_42_1 (l0 : Value) (l1 : Value) (a_s0 : Nat) (w : Wd) (I : MI) (L : ML) (P : MP)  : go 114 42 [l0, l1] [.ref a_s0] w I L P = go 114 47 [(fix1 l0), .ref a_s0] [] w I L P := by
  refine (go_astore_n (m := 114) (pc := 42) (k := 1) (ls' := [(fix1 l0), .ref a_s0]) (by decide +kernel) (by simp only [List.length_cons, List.length_nil]; decide) rfl).trans ?_
  refine (go_aload_n (m := 114) (pc := 43) (k := 1) (by decide +kernel) rfl).trans ?_
  exact go_ifnullR (m := 114) (pc := 44) (off := 52) (by decide +kernel)
theorem Two_obeyOrder_47_0 (a_l0 : Nat) (w : Wd) (I : MI) (L : ML) (P : MP) (h0 : w.1 a_l0 = some (6, 0)) : go 114 47 [.ref a_l0, .null] [] w I L P = go 114 52 [.ref a_l0, .null] [(va_rf (P a_l0 5)), .null] w I L P := by
  refine (go_aload_nN (m := 114) (pc := 47) (k := 1) (by decide +kernel) rfl).trans ?_
  refine (go_aload_n (m := 114) (pc := 48) (k := 0) (by decide +kernel) rfl).trans ?_
  refine (go_getR (m := 114) (pc := 49) (o := 6) (x := 33) (ci := 6) (k := 5) (by decide +kernel) rfl f_6_33 rfl h0).trans ?_
  rfl
theorem Two_obeyOrder_47_1 (a_l0 : Nat) (a_l1 : Nat) (w : Wd) (I : MI) (L : ML) (P : MP) (h0 : w.1 a_l0 = some (6, 0)) : go 114 47 [.ref a_l0, .ref a_l1] [] w I L P = go 114 52 [.ref a_l0, .ref a_l1] [(va_rf (P a_l0 5)), .ref a_l1] w I L P := by
  refine (go_aload_n (m := 114) (pc := 47) (k := 1) (by decide +kernel) rfl).trans ?_
  refine (go_aload_n (m := 114) (pc := 48) (k := 0) (by decide +kernel) rfl).trans ?_
  refine (go_getR (m := 114) (pc := 49) (o := 6) (x := 33) (ci := 6) (k := 5) (by decide +kernel) rfl f_6_33 rfl h0).trans ?_
  rfl
theorem Two_obeyOrder_52 (l0 : Value) (l1 : Value) (v0 : Value) (a_s1 : Nat) (w : Wd) (I : MI) (L : ML) (P : MP) (h0 : w.1 a_s1 = some (4, 0)) : go 114 52 [l0, l1] [.ref a_s1, v0] w I L P = if (I a_s1 5) ≠ (nI 114) then go 114 64 [l0, l1] [v0] w I L P else go 114 60 [l0, l1] [v0] w I L P := by
  refine (go_getI (m := 114) (pc := 52) (o := 6) (x := 245) (ci := 4) (k := 5) (by decide +kernel) rfl f_6_245 rfl h0).trans ?_
  refine (go_bi (m := 114) (pc := 55) (n := 114) (by decide +kernel) bi_114).trans ?_
  exact go_icmpne (m := 114) (pc := 57) (off := 7) (t := 64) (by decide +kernel) (by decide)
theorem Two_obeyOrder_60 (l0 : Value) (l1 : Value) (v0 : Value) (w : Wd) (I : MI) (L : ML) (P : MP)  : go 114 60 [l0, l1] [v0] w I L P = go 114 65 [l0, l1] [.int (nI 1), v0] w I L P := by
  refine (go_ic (m := 114) (pc := 60) (n := 1) (by decide +kernel) ic_1).trans ?_
  refine (go_goto (m := 114) (pc := 61) (off := 4) (t := 65) (by decide +kernel) (by decide)).trans ?_
  rfl
theorem Two_obeyOrder_64 (l0 : Value) (l1 : Value) (v0 : Value) (w : Wd) (I : MI) (L : ML) (P : MP)  : go 114 64 [l0, l1] [v0] w I L P = go 114 65 [l0, l1] [.int (nI 0), v0] w I L P := by
  refine (go_ic (m := 114) (pc := 64) (n := 0) (by decide +kernel) ic_0).trans ?_
  rfl
theorem Two_obeyOrder_65 (a_l0 : Nat) (l1 : Value) (v0 : Value) (y1 : Int32) (w : Wd) (I : MI) (L : ML) (P : MP) (h0 : w.1 a_l0 = some (6, 0)) : go 114 65 [.ref a_l0, l1] [.int y1, v0] w I L P = go 114 69 [.ref a_l0, l1] [(va_rf (P a_l0 5)), .int y1, v0] w I L P := by
  refine (go_aload_n (m := 114) (pc := 65) (k := 0) (by decide +kernel) rfl).trans ?_
  refine (go_getR (m := 114) (pc := 66) (o := 6) (x := 33) (ci := 6) (k := 5) (by decide +kernel) rfl f_6_33 rfl h0).trans ?_
  rfl
theorem Two_obeyOrder_69 (a_l0 : Nat) (l1 : Value) (v0 : Value) (y1 : Int32) (a_s2 : Nat) (w : Wd) (I : MI) (L : ML) (P : MP) (h0 : w.1 a_s2 = some (4, 0)) (h1 : w.1 a_l0 = some (6, 0)) : go 114 69 [.ref a_l0, l1] [.ref a_s2, .int y1, v0] w I L P = go 114 76 [.ref a_l0, l1] [(va_rf (P a_l0 5)), .int (I a_s2 7), .int y1, v0] w I L P := by
  refine (go_getI (m := 114) (pc := 69) (o := 6) (x := 254) (ci := 4) (k := 7) (by decide +kernel) rfl f_6_254 rfl h0).trans ?_
  refine (go_aload_n (m := 114) (pc := 72) (k := 0) (by decide +kernel) rfl).trans ?_
  refine (go_getR (m := 114) (pc := 73) (o := 6) (x := 33) (ci := 6) (k := 5) (by decide +kernel) rfl f_6_33 rfl h1).trans ?_
  rfl
theorem Two_obeyOrder_76 (a_l0 : Nat) (l1 : Value) (v0 : Value) (y1 : Int32) (y2 : Int32) (a_s3 : Nat) (w : Wd) (I : MI) (L : ML) (P : MP) (h0 : w.1 a_s3 = some (4, 0)) (h1 : w.1 a_l0 = some (6, 0)) : go 114 76 [.ref a_l0, l1] [.ref a_s3, .int y2, .int y1, v0] w I L P = go 114 83 [.ref a_l0, l1] [(va_rf (P a_l0 5)), .int (I a_s3 8), .int y2, .int y1, v0] w I L P := by
  refine (go_getI (m := 114) (pc := 76) (o := 6) (x := 248) (ci := 4) (k := 8) (by decide +kernel) rfl f_6_248 rfl h0).trans ?_
  refine (go_aload_n (m := 114) (pc := 79) (k := 0) (by decide +kernel) rfl).trans ?_
  refine (go_getR (m := 114) (pc := 80) (o := 6) (x := 33) (ci := 6) (k := 5) (by decide +kernel) rfl f_6_33 rfl h1).trans ?_
  rfl
theorem Two_obeyOrder_83 (l0 : Value) (l1 : Value) (a_s0 : Nat) (y1 : Int32) (y2 : Int32) (y3 : Int32) (a_s4 : Nat) (w : Wd) (I : MI) (L : ML) (P : MP) (h0 : w.1 a_s4 = some (4, 0)) (h1 : w.1 a_s0 = some (1, 0)) : go 114 83 [l0, l1] [.ref a_s4, .int y3, .int y2, .int y1, .ref a_s0] w I L P = kC (call 8 [.ref a_s0, .int y1, .int y2, .int y3, .long (L a_s4 9)] w I L P) (fun v w1 I1 L1 P1 => go 114 89 [l0, l1] (v.toList ++ []) w1 I1 L1 P1) := by
  refine (go_getJ (m := 114) (pc := 83) (o := 6) (x := 257) (ci := 4) (k := 9) (by decide +kernel) rfl f_6_257 rfl h0).trans ?_
  exact go_vir (m := 114) (pc := 86) (o := 6) (x := 241) (y := 8) (kd := 1) (b := a_s0) (bs := [.int y1, .int y2, .int y3, .long (L a_s4 9)]) (rs := []) (by decide +kernel) rfl rfl c_6_241 (Or.inr rfl) rfl rfl rfl (by decide +kernel) (by simp only [List.length_cons, List.length_nil]; decide) (Nat.le_of_ble_eq_true rfl) h1
theorem Two_obeyOrder_89 (l0 : Value) (l1 : Value) (y0 : Int32) (w : Wd) (I : MI) (L : ML) (P : MP)  : go 114 89 [l0, l1] [.int y0] w I L P = if y0 = 0 then go 114 96 [l0, l1] [] w I L P else go 114 92 [l0, l1] [] w I L P := by
  exact go_ifeq (m := 114) (pc := 89) (off := 7) (t := 96) (by decide +kernel) (by decide)
theorem Two_obeyOrder_92 (l0 : Value) (l1 : Value) (w : Wd) (I : MI) (L : ML) (P : MP)  : go 114 92 [l0, l1] [] w I L P = go 114 97 [l0, l1] [.int (nI 1)] w I L P := by
  refine (go_ic (m := 114) (pc := 92) (n := 1) (by decide +kernel) ic_1).trans ?_
  refine (go_goto (m := 114) (pc := 93) (off := 4) (t := 97) (by decide +kernel) (by decide)).trans ?_
  rfl
theorem Two_obeyOrder_96 (l0 : Value) (l1 : Value) (w : Wd) (I : MI) (L : ML) (P : MP)  : go 114 96 [l0, l1] [] w I L P = go 114 97 [l0, l1] [.int (nI 0)] w I L P := by
  refine (go_ic (m := 114) (pc := 96) (n := 0) (by decide +kernel) ic_0).trans ?_
  rfl
theorem Two_obeyOrder_97 (l0 : Value) (l1 : Value) (y0 : Int32) (w : Wd) (I : MI) (L : ML) (P : MP) (h0 : y0 &&& 1 = y0) : go 114 97 [l0, l1] [.int y0] w I L P = some (.inl (some (.int y0)), w, I, L, P) := by
  exact go_retZ (m := 114) (pc := 97) (by decide +kernel) rfl h0
theorem Two_obeyOrder_E (this : Nat) (w : Wd) (I : MI) (L : ML) (P : MP) : call 114 [.ref this] w I L P = go 114 0 [.ref this, unk] [] w I L P := rfl
theorem Two_runTrial_0 (a_l0 : Nat) (w : Wd) (I : MI) (L : ML) (P : MP) (h0 : w.1 a_l0 = some (6, 0)) : go 115 0 [.ref a_l0] [] w I L P = go 115 4 [.ref a_l0] [(va_rf (P a_l0 1))] w I L P := by
  refine (go_aload_n (m := 115) (pc := 0) (k := 0) (by decide +kernel) rfl).trans ?_
  refine (go_getR (m := 115) (pc := 1) (o := 6) (x := 16) (ci := 6) (k := 1) (by decide +kernel) rfl f_6_16 rfl h0).trans ?_
  rfl
theorem Two_runTrial_4 (a_l0 : Nat) (v0 : Value) (w : Wd) (I : MI) (L : ML) (P : MP) (h0 : w.1 a_l0 = some (6, 0)) : go 115 4 [.ref a_l0] [v0] w I L P = go 115 8 [.ref a_l0] [(va_rf (P a_l0 0)), v0] w I L P := by
  refine (go_aload_n (m := 115) (pc := 4) (k := 0) (by decide +kernel) rfl).trans ?_
  refine (go_getR (m := 115) (pc := 5) (o := 6) (x := 10) (ci := 6) (k := 0) (by decide +kernel) rfl f_6_10 rfl h0).trans ?_
  rfl
theorem Two_runTrial_8_0 (l0 : Value) (a_s0 : Nat) (w : Wd) (I : MI) (L : ML) (P : MP) (h0 : w.1 a_s0 = some (0, 0)) : go 115 8 [l0] [.null, .ref a_s0] w I L P = kC (call 28 [.ref a_s0, .null] w I L P) (fun v w1 I1 L1 P1 => go 115 11 [l0] (v.toList ++ []) w1 I1 L1 P1) := by
  exact go_vir (m := 115) (pc := 8) (o := 6) (x := 53) (y := 28) (kd := 1) (b := a_s0) (bs := [.null]) (rs := []) (by decide +kernel) rfl rfl c_6_53 (Or.inr rfl) rfl rfl rfl (by decide +kernel) (by simp only [List.length_cons, List.length_nil]; decide) (Nat.le_of_ble_eq_true rfl) h0
theorem Two_runTrial_8_1 (l0 : Value) (a_s0 : Nat) (a_s1 : Nat) (w : Wd) (I : MI) (L : ML) (P : MP) (h0 : w.1 a_s0 = some (0, 0)) : go 115 8 [l0] [.ref a_s1, .ref a_s0] w I L P = kC (call 28 [.ref a_s0, .ref a_s1] w I L P) (fun v w1 I1 L1 P1 => go 115 11 [l0] (v.toList ++ []) w1 I1 L1 P1) := by
  exact go_vir (m := 115) (pc := 8) (o := 6) (x := 53) (y := 28) (kd := 1) (b := a_s0) (bs := [.ref a_s1]) (rs := []) (by decide +kernel) rfl rfl c_6_53 (Or.inr rfl) rfl rfl rfl (by decide +kernel) (by simp only [List.length_cons, List.length_nil]; decide) (Nat.le_of_ble_eq_true rfl) h0
theorem Two_runTrial_11 (a_l0 : Nat) (w : Wd) (I : MI) (L : ML) (P : MP) (h0 : w.1 a_l0 = some (6, 0)) : go 115 11 [.ref a_l0] [] w I L P = go 115 15 [.ref a_l0] [(va_rf (P a_l0 1))] w I L P := by
  refine (go_aload_n (m := 115) (pc := 11) (k := 0) (by decide +kernel) rfl).trans ?_
  refine (go_getR (m := 115) (pc := 12) (o := 6) (x := 16) (ci := 6) (k := 1) (by decide +kernel) rfl f_6_16 rfl h0).trans ?_
  rfl
theorem Two_runTrial_15 (l0 : Value) (a_s0 : Nat) (w : Wd) (I : MI) (L : ML) (P : MP) (h0 : w.1 a_s0 = some (0, 0)) : go 115 15 [l0] [.ref a_s0] w I L P = kC (call 43 [.ref a_s0] w I L P) (fun v w1 I1 L1 P1 => go 115 18 [l0] (v.toList ++ []) w1 I1 L1 P1) := by
  exact go_vir (m := 115) (pc := 15) (o := 6) (x := 135) (y := 43) (kd := 1) (b := a_s0) (bs := []) (rs := []) (by decide +kernel) rfl rfl c_6_135 (Or.inr rfl) rfl rfl rfl (by decide +kernel) (by simp only [List.length_cons, List.length_nil]; decide) (Nat.le_of_ble_eq_true rfl) h0
theorem Two_runTrial_18 (l0 : Value) (y0 : Int32) (w : Wd) (I : MI) (L : ML) (P : MP)  : go 115 18 [l0] [.int y0] w I L P = some (.inl (some (.int y0)), w, I, L, P) := by
  exact go_retI (m := 115) (pc := 18) (by decide +kernel) rfl
theorem Two_runTrial_E (this : Nat) (w : Wd) (I : MI) (L : ML) (P : MP) : call 115 [.ref this] w I L P = go 115 0 [.ref this] [] w I L P := rfl
theorem Two_saveState_0 (a_l0 : Nat) (l1 : Value) (w : Wd) (I : MI) (L : ML) (P : MP) (h0 : w.1 a_l0 = some (6, 0)) : go 116 0 [.ref a_l0, l1] [] w I L P = if (I a_l0 4) < (nI 4) then go 116 12 [.ref a_l0, l1] [] w I L P else go 116 8 [.ref a_l0, l1] [] w I L P := by
  refine (go_aload_n (m := 116) (pc := 0) (k := 0) (by decide +kernel) rfl).trans ?_
  refine (go_getI (m := 116) (pc := 1) (o := 6) (x := 26) (ci := 6) (k := 4) (by decide +kernel) rfl f_6_26 rfl h0).trans ?_
  refine (go_ic (m := 116) (pc := 4) (n := 4) (by decide +kernel) ic_4).trans ?_
  exact go_icmplt (m := 116) (pc := 5) (off := 7) (t := 12) (by decide +kernel) (by decide)
theorem Two_saveState_8 (a_l0 : Nat) (l1 : Value) (w : Wd) (I : MI) (L : ML) (P : MP) (h0 : w.1 a_l0 = some (6, 0)) : go 116 8 [.ref a_l0, l1] [] w I L P = kC (call 117 [.ref a_l0] w I L P) (fun v w1 I1 L1 P1 => go 116 12 [.ref a_l0, l1] (v.toList ++ []) w1 I1 L1 P1) := by
  refine (go_aload_n (m := 116) (pc := 8) (k := 0) (by decide +kernel) rfl).trans ?_
  exact go_vir (m := 116) (pc := 9) (o := 6) (x := 261) (y := 117) (kd := 0) (b := a_l0) (bs := []) (rs := []) (by decide +kernel) rfl rfl c_6_261 (Or.inl rfl) rfl rfl rfl (by decide +kernel) (by simp only [List.length_cons, List.length_nil]; decide) (Nat.le_of_ble_eq_true rfl) h0
theorem Two_saveState_12 (a_l0 : Nat) (l1 : Value) (w : Wd) (I : MI) (L : ML) (P : MP) (h0 : w.1 a_l0 = some (6, 0)) : go 116 12 [.ref a_l0, l1] [] w I L P = kC (call 118 [.ref a_l0, .int (I a_l0 4)] w I L P) (fun v w1 I1 L1 P1 => go 116 20 [.ref a_l0, l1] (v.toList ++ []) w1 I1 L1 P1) := by
  refine (go_aload_n (m := 116) (pc := 12) (k := 0) (by decide +kernel) rfl).trans ?_
  refine (go_aload_n (m := 116) (pc := 13) (k := 0) (by decide +kernel) rfl).trans ?_
  refine (go_getI (m := 116) (pc := 14) (o := 6) (x := 26) (ci := 6) (k := 4) (by decide +kernel) rfl f_6_26 rfl h0).trans ?_
  exact go_vir (m := 116) (pc := 17) (o := 6) (x := 205) (y := 118) (kd := 0) (b := a_l0) (bs := [.int (I a_l0 4)]) (rs := []) (by decide +kernel) rfl rfl c_6_205 (Or.inl rfl) rfl rfl rfl (by decide +kernel) (by simp only [List.length_cons, List.length_nil]; decide) (Nat.le_of_ble_eq_true rfl) h0
theorem Two_saveState_20_0 (l0 : Value) (l1 : Value) (w : Wd) (I : MI) (L : ML) (P : MP)  : go 116 20 [l0, l1] [.null] w I L P = go 116 43 [(fix1 l0), .null] [] w I L P := by
  refine (go_astore_nN (m := 116) (pc := 20) (k := 1) (ls' := [(fix1 l0), .null]) (by decide +kernel) (by simp only [List.length_cons, List.length_nil]; decide) rfl).trans ?_
  refine (go_aload_nN (m := 116) (pc := 21) (k := 1) (by decide +kernel) rfl).trans ?_
  exact go_ifnullN (m := 116) (pc := 22) (off := 21) (t := 43) (by decide +kernel) (by decide)
theorem Two_saveState_20_1 (l0 : Value) (l1 : Value) (a_s0 : Nat) (w : Wd) (I : MI) (L : ML) (P : MP)  : go 116 20 [l0, l1] [.ref a_s0] w I L P = go 116 25 [(fix1 l0), .ref a_s0] [] w I L P := by
  refine (go_astore_n (m := 116) (pc := 20) (k := 1) (ls' := [(fix1 l0), .ref a_s0]) (by decide +kernel) (by simp only [List.length_cons, List.length_nil]; decide) rfl).trans ?_
  refine (go_aload_n (m := 116) (pc := 21) (k := 1) (by decide +kernel) rfl).trans ?_
  exact go_ifnullR (m := 116) (pc := 22) (off := 21) (by decide +kernel)
theorem Two_saveState_25_0 (a_l0 : Nat) (w : Wd) (I : MI) (L : ML) (P : MP) (h0 : w.1 a_l0 = some (6, 0)) : go 116 25 [.ref a_l0, .null] [] w I L P = go 116 30 [.ref a_l0, .null] [(va_rf (P a_l0 0)), .null] w I L P := by
  refine (go_aload_nN (m := 116) (pc := 25) (k := 1) (by decide +kernel) rfl).trans ?_
  refine (go_aload_n (m := 116) (pc := 26) (k := 0) (by decide +kernel) rfl).trans ?_
  refine (go_getR (m := 116) (pc := 27) (o := 6) (x := 10) (ci := 6) (k := 0) (by decide +kernel) rfl f_6_10 rfl h0).trans ?_
  rfl
theorem Two_saveState_25_1 (a_l0 : Nat) (a_l1 : Nat) (w : Wd) (I : MI) (L : ML) (P : MP) (h0 : w.1 a_l0 = some (6, 0)) : go 116 25 [.ref a_l0, .ref a_l1] [] w I L P = go 116 30 [.ref a_l0, .ref a_l1] [(va_rf (P a_l0 0)), .ref a_l1] w I L P := by
  refine (go_aload_n (m := 116) (pc := 25) (k := 1) (by decide +kernel) rfl).trans ?_
  refine (go_aload_n (m := 116) (pc := 26) (k := 0) (by decide +kernel) rfl).trans ?_
  refine (go_getR (m := 116) (pc := 27) (o := 6) (x := 10) (ci := 6) (k := 0) (by decide +kernel) rfl f_6_10 rfl h0).trans ?_
  rfl
theorem Two_saveState_30_0 (l0 : Value) (l1 : Value) (a_s0 : Nat) (w : Wd) (I : MI) (L : ML) (P : MP) (h0 : w.1 a_s0 = some (0, 0)) : go 116 30 [l0, l1] [.null, .ref a_s0] w I L P = kC (call 28 [.ref a_s0, .null] w I L P) (fun v w1 I1 L1 P1 => go 116 33 [l0, l1] (v.toList ++ []) w1 I1 L1 P1) := by
  exact go_vir (m := 116) (pc := 30) (o := 6) (x := 53) (y := 28) (kd := 1) (b := a_s0) (bs := [.null]) (rs := []) (by decide +kernel) rfl rfl c_6_53 (Or.inr rfl) rfl rfl rfl (by decide +kernel) (by simp only [List.length_cons, List.length_nil]; decide) (Nat.le_of_ble_eq_true rfl) h0
theorem Two_saveState_30_1 (l0 : Value) (l1 : Value) (a_s0 : Nat) (a_s1 : Nat) (w : Wd) (I : MI) (L : ML) (P : MP) (h0 : w.1 a_s0 = some (0, 0)) : go 116 30 [l0, l1] [.ref a_s1, .ref a_s0] w I L P = kC (call 28 [.ref a_s0, .ref a_s1] w I L P) (fun v w1 I1 L1 P1 => go 116 33 [l0, l1] (v.toList ++ []) w1 I1 L1 P1) := by
  exact go_vir (m := 116) (pc := 30) (o := 6) (x := 53) (y := 28) (kd := 1) (b := a_s0) (bs := [.ref a_s1]) (rs := []) (by decide +kernel) rfl rfl c_6_53 (Or.inr rfl) rfl rfl rfl (by decide +kernel) (by simp only [List.length_cons, List.length_nil]; decide) (Nat.le_of_ble_eq_true rfl) h0
theorem Two_saveState_33 (a_l0 : Nat) (l1 : Value) (w : Wd) (I : MI) (L : ML) (P : MP) (h0 : w.1 a_l0 = some (6, 0)) : go 116 33 [.ref a_l0, l1] [] w I L P = go 116 43 [.ref a_l0, l1] [] w (updI I a_l0 4 ((I a_l0 4) + (nI 1))) L P := by
  refine (go_aload_n (m := 116) (pc := 33) (k := 0) (by decide +kernel) rfl).trans ?_
  refine (go_dup (m := 116) (pc := 34) (by decide +kernel) rfl).trans ?_
  refine (go_getI (m := 116) (pc := 35) (o := 6) (x := 26) (ci := 6) (k := 4) (by decide +kernel) rfl f_6_26 rfl h0).trans ?_
  refine (go_ic (m := 116) (pc := 38) (n := 1) (by decide +kernel) ic_1).trans ?_
  refine (go_iadd (m := 116) (pc := 39) (by decide +kernel)).trans ?_
  refine (go_putI (m := 116) (pc := 40) (o := 6) (x := 26) (ci := 6) (k := 4) (by decide +kernel) rfl f_6_26 rfl (by decide +kernel) h0).trans ?_
  rfl
theorem Two_saveState_43 (l0 : Value) (l1 : Value) (w : Wd) (I : MI) (L : ML) (P : MP)  : go 116 43 [l0, l1] [] w I L P = some (.inl none, w, I, L, P) := by
  exact go_retV (m := 116) (pc := 43) (by decide +kernel) rfl
theorem Two_saveState_E (this : Nat) (w : Wd) (I : MI) (L : ML) (P : MP) : call 116 [.ref this] w I L P = go 116 0 [.ref this, unk] [] w I L P := rfl
theorem Two_dropOldestState_0 (a_l0 : Nat) (l1 : Value) (l2 : Value) (w : Wd) (I : MI) (L : ML) (P : MP) (h0 : w.1 a_l0 = some (6, 0)) : go 117 0 [.ref a_l0, l1, l2] [] w I L P = go 117 4 [.ref a_l0, l1, l2] [(va_rf (P a_l0 3))] w I L P := by
  refine (go_aload_n (m := 117) (pc := 0) (k := 0) (by decide +kernel) rfl).trans ?_
  refine (go_getR (m := 117) (pc := 1) (o := 6) (x := 22) (ci := 6) (k := 3) (by decide +kernel) rfl f_6_22 rfl h0).trans ?_
  rfl
theorem Two_dropOldestState_4 (l0 : Value) (l1 : Value) (l2 : Value) (a_s0 : Nat) (w : Wd) (I : MI) (L : ML) (P : MP) (h0 : inA w a_s0 10 (nI 0)) : go 117 4 [l0, l1, l2] [.ref a_s0] w I L P = go 117 6 [l0, l1, l2] [(va_rf (P a_s0 (Int32.toNatClampNeg (nI 0))))] w I L P := by
  refine (go_ic (m := 117) (pc := 4) (n := 0) (by decide +kernel) ic_0).trans ?_
  refine (go_aald10 (m := 117) (pc := 5) (by decide +kernel) h0).trans ?_
  rfl
theorem Two_dropOldestState_6_0 (l0 : Value) (l1 : Value) (l2 : Value) (w : Wd) (I : MI) (L : ML) (P : MP)  : go 117 6 [l0, l1, l2] [.null] w I L P = go 117 9 [(fix1 l0), .null, .int (nI 1)] [] w I L P := by
  refine (go_astore_nN (m := 117) (pc := 6) (k := 1) (ls' := [(fix1 l0), .null, l2]) (by decide +kernel) (by simp only [List.length_cons, List.length_nil]; decide) rfl).trans ?_
  refine (go_ic (m := 117) (pc := 7) (n := 1) (by decide +kernel) ic_1).trans ?_
  refine (go_istore_n (m := 117) (pc := 8) (k := 2) (ls' := [(fix1 l0), .null, .int (nI 1)]) (by decide +kernel) (by simp only [List.length_cons, List.length_nil]; decide) rfl).trans ?_
  rfl
theorem Two_dropOldestState_6_1 (l0 : Value) (l1 : Value) (l2 : Value) (a_s0 : Nat) (w : Wd) (I : MI) (L : ML) (P : MP)  : go 117 6 [l0, l1, l2] [.ref a_s0] w I L P = go 117 9 [(fix1 l0), .ref a_s0, .int (nI 1)] [] w I L P := by
  refine (go_astore_n (m := 117) (pc := 6) (k := 1) (ls' := [(fix1 l0), .ref a_s0, l2]) (by decide +kernel) (by simp only [List.length_cons, List.length_nil]; decide) rfl).trans ?_
  refine (go_ic (m := 117) (pc := 7) (n := 1) (by decide +kernel) ic_1).trans ?_
  refine (go_istore_n (m := 117) (pc := 8) (k := 2) (ls' := [(fix1 l0), .ref a_s0, .int (nI 1)]) (by decide +kernel) (by simp only [List.length_cons, List.length_nil]; decide) rfl).trans ?_
  rfl
theorem Two_dropOldestState_9 (a_l0 : Nat) (l1 : Value) (x_l2 : Int32) (w : Wd) (I : MI) (L : ML) (P : MP) (h0 : w.1 a_l0 = some (6, 0)) : go 117 9 [.ref a_l0, l1, .int x_l2] [] w I L P = go 117 14 [.ref a_l0, l1, .int x_l2] [(va_rf (P a_l0 3)), .int x_l2] w I L P := by
  refine (go_iload_n (m := 117) (pc := 9) (k := 2) (by decide +kernel) rfl).trans ?_
  refine (go_aload_n (m := 117) (pc := 10) (k := 0) (by decide +kernel) rfl).trans ?_
  refine (go_getR (m := 117) (pc := 11) (o := 6) (x := 22) (ci := 6) (k := 3) (by decide +kernel) rfl f_6_22 rfl h0).trans ?_
  rfl
theorem Two_dropOldestState_14 (l0 : Value) (l1 : Value) (l2 : Value) (y0 : Int32) (a_s1 : Nat) (w : Wd) (I : MI) (L : ML) (P : MP) (h0 : isAr w a_s1 10) : go 117 14 [l0, l1, l2] [.ref a_s1, .int y0] w I L P = if (alen w a_s1) ≤ y0 then go 117 38 [l0, l1, l2] [] w I L P else go 117 18 [l0, l1, l2] [] w I L P := by
  refine (go_alen10 (m := 117) (pc := 14) (by decide +kernel) h0).trans ?_
  exact go_icmpge (m := 117) (pc := 15) (off := 23) (t := 38) (by decide +kernel) (by decide)
theorem Two_dropOldestState_18 (a_l0 : Nat) (l1 : Value) (l2 : Value) (w : Wd) (I : MI) (L : ML) (P : MP) (h0 : w.1 a_l0 = some (6, 0)) : go 117 18 [.ref a_l0, l1, l2] [] w I L P = go 117 22 [.ref a_l0, l1, l2] [(va_rf (P a_l0 3))] w I L P := by
  refine (go_aload_n (m := 117) (pc := 18) (k := 0) (by decide +kernel) rfl).trans ?_
  refine (go_getR (m := 117) (pc := 19) (o := 6) (x := 22) (ci := 6) (k := 3) (by decide +kernel) rfl f_6_22 rfl h0).trans ?_
  rfl
theorem Two_dropOldestState_22 (a_l0 : Nat) (l1 : Value) (x_l2 : Int32) (v0 : Value) (w : Wd) (I : MI) (L : ML) (P : MP) (h0 : w.1 a_l0 = some (6, 0)) : go 117 22 [.ref a_l0, l1, .int x_l2] [v0] w I L P = go 117 29 [.ref a_l0, l1, .int x_l2] [(va_rf (P a_l0 3)), .int (x_l2 - (nI 1)), v0] w I L P := by
  refine (go_iload_n (m := 117) (pc := 22) (k := 2) (by decide +kernel) rfl).trans ?_
  refine (go_ic (m := 117) (pc := 23) (n := 1) (by decide +kernel) ic_1).trans ?_
  refine (go_isub (m := 117) (pc := 24) (by decide +kernel)).trans ?_
  refine (go_aload_n (m := 117) (pc := 25) (k := 0) (by decide +kernel) rfl).trans ?_
  refine (go_getR (m := 117) (pc := 26) (o := 6) (x := 22) (ci := 6) (k := 3) (by decide +kernel) rfl f_6_22 rfl h0).trans ?_
  rfl
theorem Two_dropOldestState_29 (l0 : Value) (l1 : Value) (x_l2 : Int32) (v0 : Value) (y1 : Int32) (a_s2 : Nat) (w : Wd) (I : MI) (L : ML) (P : MP) (h0 : inA w a_s2 10 x_l2) : go 117 29 [l0, l1, .int x_l2] [.ref a_s2, .int y1, v0] w I L P = go 117 31 [l0, l1, .int x_l2] [(va_rf (P a_s2 (Int32.toNatClampNeg x_l2))), .int y1, v0] w I L P := by
  refine (go_iload_n (m := 117) (pc := 29) (k := 2) (by decide +kernel) rfl).trans ?_
  refine (go_aald10 (m := 117) (pc := 30) (by decide +kernel) h0).trans ?_
  rfl
theorem Two_dropOldestState_31 (l0 : Value) (l1 : Value) (x_l2 : Int32) (a_s0 : Nat) (y1 : Int32) (a_s2 : Nat) (w : Wd) (I : MI) (L : ML) (P : MP) (h0 : inA w a_s0 10 y1) (h1 : w.1 a_s2 = some (0, 0)) : go 117 31 [l0, l1, .int x_l2] [.ref a_s2, .int y1, .ref a_s0] w I L P = go 117 9 [l0, (fix1 l1), .int (x_l2 + (nI 1))] [] w I L (updP P a_s0 (Int32.toNatClampNeg y1) (some a_s2)) := by
  refine (go_aast10 (m := 117) (pc := 31) (by decide +kernel) h0 h1).trans ?_
  refine (go_iinc (m := 117) (pc := 32) (k := 2) (n := 1) (x := x_l2) (v := x_l2 + (nI 1)) (ls' := [l0, (fix1 l1), .int (x_l2 + (nI 1))]) (by decide +kernel) rfl (by rw [ic_1]) rfl).trans ?_
  refine (go_goto (m := 117) (pc := 35) (off := -26) (t := 9) (by decide +kernel) (by decide)).trans ?_
  rfl
theorem Two_dropOldestState_38 (a_l0 : Nat) (l1 : Value) (l2 : Value) (w : Wd) (I : MI) (L : ML) (P : MP) (h0 : w.1 a_l0 = some (6, 0)) : go 117 38 [.ref a_l0, l1, l2] [] w I L P = go 117 42 [.ref a_l0, l1, l2] [(va_rf (P a_l0 3))] w I L P := by
  refine (go_aload_n (m := 117) (pc := 38) (k := 0) (by decide +kernel) rfl).trans ?_
  refine (go_getR (m := 117) (pc := 39) (o := 6) (x := 22) (ci := 6) (k := 3) (by decide +kernel) rfl f_6_22 rfl h0).trans ?_
  rfl
theorem Two_dropOldestState_42 (a_l0 : Nat) (l1 : Value) (l2 : Value) (v0 : Value) (w : Wd) (I : MI) (L : ML) (P : MP) (h0 : w.1 a_l0 = some (6, 0)) : go 117 42 [.ref a_l0, l1, l2] [v0] w I L P = go 117 46 [.ref a_l0, l1, l2] [(va_rf (P a_l0 3)), v0] w I L P := by
  refine (go_aload_n (m := 117) (pc := 42) (k := 0) (by decide +kernel) rfl).trans ?_
  refine (go_getR (m := 117) (pc := 43) (o := 6) (x := 22) (ci := 6) (k := 3) (by decide +kernel) rfl f_6_22 rfl h0).trans ?_
  rfl
theorem Two_dropOldestState_46 (a_l0 : Nat) (a_l1 : Nat) (l2 : Value) (a_s0 : Nat) (a_s1 : Nat) (w : Wd) (I : MI) (L : ML) (P : MP) (h0 : isAr w a_s1 10) (h1 : inA w a_s0 10 ((alen w a_s1) - (nI 1))) (h2 : w.1 a_l1 = some (0, 0)) (h3 : w.1 a_l0 = some (6, 0)) : go 117 46 [.ref a_l0, .ref a_l1, l2] [.ref a_s1, .ref a_s0] w I L P = some (.inl none, w, (updI I a_l0 4 ((I a_l0 4) - (nI 1))), L, (updP P a_s0 (Int32.toNatClampNeg ((alen w a_s1) - (nI 1))) (some a_l1))) := by
  refine (go_alen10 (m := 117) (pc := 46) (by decide +kernel) h0).trans ?_
  refine (go_ic (m := 117) (pc := 47) (n := 1) (by decide +kernel) ic_1).trans ?_
  refine (go_isub (m := 117) (pc := 48) (by decide +kernel)).trans ?_
  refine (go_aload_n (m := 117) (pc := 49) (k := 1) (by decide +kernel) rfl).trans ?_
  refine (go_aast10 (m := 117) (pc := 50) (by decide +kernel) h1 h2).trans ?_
  refine (go_aload_n (m := 117) (pc := 51) (k := 0) (by decide +kernel) rfl).trans ?_
  refine (go_dup (m := 117) (pc := 52) (by decide +kernel) rfl).trans ?_
  refine (go_getI (m := 117) (pc := 53) (o := 6) (x := 26) (ci := 6) (k := 4) (by decide +kernel) rfl f_6_26 rfl h3).trans ?_
  refine (go_ic (m := 117) (pc := 56) (n := 1) (by decide +kernel) ic_1).trans ?_
  refine (go_isub (m := 117) (pc := 57) (by decide +kernel)).trans ?_
  refine (go_putI (m := 117) (pc := 58) (o := 6) (x := 26) (ci := 6) (k := 4) (by decide +kernel) rfl f_6_26 rfl (by decide +kernel) h3).trans ?_
  exact go_retV (m := 117) (pc := 61) (by decide +kernel) rfl
theorem Two_dropOldestState_E (this : Nat) (w : Wd) (I : MI) (L : ML) (P : MP) : call 117 [.ref this] w I L P = go 117 0 [.ref this, unk, unk] [] w I L P := rfl
theorem Two_savedAt_0 (l0 : Value) (x_l1 : Int32) (w : Wd) (I : MI) (L : ML) (P : MP)  : go 118 0 [l0, .int x_l1] [] w I L P = if x_l1 < 0 then go 118 22 [l0, .int x_l1] [] w I L P else go 118 4 [l0, .int x_l1] [] w I L P := by
  refine (go_iload_n (m := 118) (pc := 0) (k := 1) (by decide +kernel) rfl).trans ?_
  exact go_iflt (m := 118) (pc := 1) (off := 21) (t := 22) (by decide +kernel) (by decide)
theorem Two_savedAt_4 (a_l0 : Nat) (x_l1 : Int32) (w : Wd) (I : MI) (L : ML) (P : MP) (h0 : w.1 a_l0 = some (6, 0)) : go 118 4 [.ref a_l0, .int x_l1] [] w I L P = go 118 9 [.ref a_l0, .int x_l1] [(va_rf (P a_l0 3)), .int x_l1] w I L P := by
  refine (go_iload_n (m := 118) (pc := 4) (k := 1) (by decide +kernel) rfl).trans ?_
  refine (go_aload_n (m := 118) (pc := 5) (k := 0) (by decide +kernel) rfl).trans ?_
  refine (go_getR (m := 118) (pc := 6) (o := 6) (x := 22) (ci := 6) (k := 3) (by decide +kernel) rfl f_6_22 rfl h0).trans ?_
  rfl
theorem Two_savedAt_9 (l0 : Value) (l1 : Value) (y0 : Int32) (a_s1 : Nat) (w : Wd) (I : MI) (L : ML) (P : MP) (h0 : isAr w a_s1 10) : go 118 9 [l0, l1] [.ref a_s1, .int y0] w I L P = if (alen w a_s1) ≤ y0 then go 118 22 [l0, l1] [] w I L P else go 118 13 [l0, l1] [] w I L P := by
  refine (go_alen10 (m := 118) (pc := 9) (by decide +kernel) h0).trans ?_
  exact go_icmpge (m := 118) (pc := 10) (off := 12) (t := 22) (by decide +kernel) (by decide)
theorem Two_savedAt_13 (a_l0 : Nat) (l1 : Value) (w : Wd) (I : MI) (L : ML) (P : MP) (h0 : w.1 a_l0 = some (6, 0)) : go 118 13 [.ref a_l0, l1] [] w I L P = go 118 17 [.ref a_l0, l1] [(va_rf (P a_l0 3))] w I L P := by
  refine (go_aload_n (m := 118) (pc := 13) (k := 0) (by decide +kernel) rfl).trans ?_
  refine (go_getR (m := 118) (pc := 14) (o := 6) (x := 22) (ci := 6) (k := 3) (by decide +kernel) rfl f_6_22 rfl h0).trans ?_
  rfl
theorem Two_savedAt_17 (l0 : Value) (x_l1 : Int32) (a_s0 : Nat) (w : Wd) (I : MI) (L : ML) (P : MP) (h0 : inA w a_s0 10 x_l1) : go 118 17 [l0, .int x_l1] [.ref a_s0] w I L P = go 118 19 [l0, .int x_l1] [(va_rf (P a_s0 (Int32.toNatClampNeg x_l1)))] w I L P := by
  refine (go_iload_n (m := 118) (pc := 17) (k := 1) (by decide +kernel) rfl).trans ?_
  refine (go_aald10 (m := 118) (pc := 18) (by decide +kernel) h0).trans ?_
  rfl
theorem Two_savedAt_19 (l0 : Value) (l1 : Value) (v0 : Value) (w : Wd) (I : MI) (L : ML) (P : MP)  : go 118 19 [l0, l1] [v0] w I L P = go 118 23 [l0, l1] [v0] w I L P := by
  refine (go_goto (m := 118) (pc := 19) (off := 4) (t := 23) (by decide +kernel) (by decide)).trans ?_
  rfl
theorem Two_savedAt_22 (l0 : Value) (l1 : Value) (w : Wd) (I : MI) (L : ML) (P : MP)  : go 118 22 [l0, l1] [] w I L P = go 118 23 [l0, l1] [.null] w I L P := by
  refine (go_anull (m := 118) (pc := 22) (by decide +kernel)).trans ?_
  rfl
theorem Two_savedAt_23_0 (l0 : Value) (l1 : Value) (w : Wd) (I : MI) (L : ML) (P : MP)  : go 118 23 [l0, l1] [.null] w I L P = some (.inl (some (.null)), w, I, L, P) := by
  exact go_retN (m := 118) (pc := 23) (by decide +kernel) rfl
theorem Two_savedAt_23_1 (l0 : Value) (l1 : Value) (a_s0 : Nat) (w : Wd) (I : MI) (L : ML) (P : MP)  : go 118 23 [l0, l1] [.ref a_s0] w I L P = some (.inl (some (.ref a_s0)), w, I, L, P) := by
  exact go_retR (m := 118) (pc := 23) (by decide +kernel) rfl
theorem Two_savedAt_E (this : Nat) (p0 : Int32) (w : Wd) (I : MI) (L : ML) (P : MP) : call 118 [.ref this, .int p0] w I L P = go 118 0 [.ref this, .int p0] [] w I L P := rfl
theorem Two_copyNumbers_0 (a_l0 : Nat) (a_l1 : Nat) (w : Wd) (I : MI) (L : ML) (P : MP) (h0 : isAr w a_l0 8) (h1 : isAr w a_l1 8) (h2 : cpOk w a_l0 a_l1 (nI 0) (nI 0) (if (alen w a_l1) < (alen w a_l0) then (alen w a_l1) else (alen w a_l0))) : go 119 0 [.ref a_l0, .ref a_l1] [] w I L P = some (.inl none, w, (cpyI I a_l0 (Int32.toNatClampNeg (nI 0)) a_l1 (Int32.toNatClampNeg (nI 0)) (Int32.toNatClampNeg (if (alen w a_l1) < (alen w a_l0) then (alen w a_l1) else (alen w a_l0)))), L, P) := by
  refine (go_aload_n (m := 119) (pc := 0) (k := 0) (by decide +kernel) rfl).trans ?_
  refine (go_ic (m := 119) (pc := 1) (n := 0) (by decide +kernel) ic_0).trans ?_
  refine (go_aload_n (m := 119) (pc := 2) (k := 1) (by decide +kernel) rfl).trans ?_
  refine (go_ic (m := 119) (pc := 3) (n := 0) (by decide +kernel) ic_0).trans ?_
  refine (go_aload_n (m := 119) (pc := 4) (k := 0) (by decide +kernel) rfl).trans ?_
  refine (go_alen8 (m := 119) (pc := 5) (by decide +kernel) h0).trans ?_
  refine (go_aload_n (m := 119) (pc := 6) (k := 1) (by decide +kernel) rfl).trans ?_
  refine (go_alen8 (m := 119) (pc := 7) (by decide +kernel) h1).trans ?_
  refine (go_min (m := 119) (pc := 8) (o := 6) (j := 264) (y' := 999) (by decide +kernel) rfl (by decide +kernel) (by simp only [List.length_cons, List.length_nil]; decide +kernel)).trans ?_
  refine (go_cpy (m := 119) (pc := 11) (o := 6) (j := 269) (y' := 999) (by decide +kernel) rfl (by decide +kernel) (by simp only [List.length_cons, List.length_nil]; decide +kernel) h2).trans ?_
  exact go_retV (m := 119) (pc := 14) (by decide +kernel) rfl
theorem Two_copyNumbers_E (p0 : Nat) (p1 : Nat) (w : Wd) (I : MI) (L : ML) (P : MP) : call 119 [.ref p0, .ref p1] w I L P = go 119 0 [.ref p0, .ref p1] [] w I L P := rfl
theorem Two_copyNumbers_E1 (p0 : Nat) (w : Wd) (I : MI) (L : ML) (P : MP) : call 119 [.ref p0, .null] w I L P = go 119 0 [.ref p0, .null] [] w I L P := rfl
theorem Two_copyNumbers_E2 (p1 : Nat) (w : Wd) (I : MI) (L : ML) (P : MP) : call 119 [.null, .ref p1] w I L P = go 119 0 [.null, .ref p1] [] w I L P := rfl
theorem Two_copyNumbers_E3  (w : Wd) (I : MI) (L : ML) (P : MP) : call 119 [.null, .null] w I L P = go 119 0 [.null, .null] [] w I L P := rfl
