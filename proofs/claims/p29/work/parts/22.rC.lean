theorem Text_init_0 (a_l0 : Nat) (T : Nat → Option (Nat × Nat)) (q0 kc ks : Nat) (I : MI) (L : ML) (P : MP) (h0 : ¬ (nI 100) < 0 ∧ Int32.toNatClampNeg (nI 100) ≤ 65536) (h1 : (tagU T q0 8 (Int32.toNatClampNeg (nI 100))) a_l0 = some (4, 0)) : go 63 0 [.ref a_l0] [] (T, some q0, kc, ks) I L P = some (.inl none, ((tagU T q0 8 (Int32.toNatClampNeg (nI 100))), some (q0 + 1), (kc + 1), (ks + Int32.toNatClampNeg (nI 100))), (updI (updI (updI (updI (updI (updI (updI (updI (rowI I q0) a_l0 1 (nI 0)) a_l0 2 (nI 0)) a_l0 3 (-1)) a_l0 4 (nI 0)) a_l0 5 (nI 0)) a_l0 6 (nI 0)) a_l0 7 (nI 0)) a_l0 8 (nI 0)), (updL L a_l0 9 0), (updP P a_l0 0 (some q0))) := by
  refine (go_aload_n (m := 63) (pc := 0) (k := 0) (by decide +kernel) rfl).trans ?_
  refine (go_obj (m := 63) (pc := 1) (o := 4) (x := 3) (y := 999) (by decide +kernel) rfl (by decide +kernel) (by decide +kernel)).trans ?_
  refine (go_aload_n (m := 63) (pc := 4) (k := 0) (by decide +kernel) rfl).trans ?_
  refine (go_bi (m := 63) (pc := 5) (n := 100) (by decide +kernel) bi_100).trans ?_
  refine (go_newI (m := 63) (pc := 7) (by decide +kernel) h0).trans ?_
  refine (go_putR (m := 63) (pc := 9) (o := 4) (x := 9) (ci := 4) (k := 0) (by decide +kernel) rfl f_4_9 rfl (by decide +kernel) h1).trans ?_
  refine (go_aload_n (m := 63) (pc := 12) (k := 0) (by decide +kernel) rfl).trans ?_
  refine (go_ic (m := 63) (pc := 13) (n := 0) (by decide +kernel) ic_0).trans ?_
  refine (go_putI (m := 63) (pc := 14) (o := 4) (x := 15) (ci := 4) (k := 1) (by decide +kernel) rfl f_4_15 rfl (by decide +kernel) h1).trans ?_
  refine (go_aload_n (m := 63) (pc := 17) (k := 0) (by decide +kernel) rfl).trans ?_
  refine (go_ic (m := 63) (pc := 18) (n := 0) (by decide +kernel) ic_0).trans ?_
  refine (go_putI (m := 63) (pc := 19) (o := 4) (x := 19) (ci := 4) (k := 2) (by decide +kernel) rfl f_4_19 rfl (by decide +kernel) h1).trans ?_
  refine (go_aload_n (m := 63) (pc := 22) (k := 0) (by decide +kernel) rfl).trans ?_
  refine (go_ic (m := 63) (pc := 23) (n := -1) (by decide +kernel) ic_m1).trans ?_
  refine (go_putI (m := 63) (pc := 24) (o := 4) (x := 22) (ci := 4) (k := 3) (by decide +kernel) rfl f_4_22 rfl (by decide +kernel) h1).trans ?_
  refine (go_aload_n (m := 63) (pc := 27) (k := 0) (by decide +kernel) rfl).trans ?_
  refine (go_ic (m := 63) (pc := 28) (n := 0) (by decide +kernel) ic_0).trans ?_
  refine (go_putI (m := 63) (pc := 29) (o := 4) (x := 25) (ci := 4) (k := 4) (by decide +kernel) rfl f_4_25 rfl (by decide +kernel) h1).trans ?_
  refine (go_aload_n (m := 63) (pc := 32) (k := 0) (by decide +kernel) rfl).trans ?_
  refine (go_ic (m := 63) (pc := 33) (n := 0) (by decide +kernel) ic_0).trans ?_
  refine (go_putI (m := 63) (pc := 34) (o := 4) (x := 28) (ci := 4) (k := 5) (by decide +kernel) rfl f_4_28 rfl (by decide +kernel) h1).trans ?_
  refine (go_aload_n (m := 63) (pc := 37) (k := 0) (by decide +kernel) rfl).trans ?_
  refine (go_ic (m := 63) (pc := 38) (n := 0) (by decide +kernel) ic_0).trans ?_
  refine (go_putI (m := 63) (pc := 39) (o := 4) (x := 31) (ci := 4) (k := 6) (by decide +kernel) rfl f_4_31 rfl (by decide +kernel) h1).trans ?_
  refine (go_aload_n (m := 63) (pc := 42) (k := 0) (by decide +kernel) rfl).trans ?_
  refine (go_ic (m := 63) (pc := 43) (n := 0) (by decide +kernel) ic_0).trans ?_
  refine (go_putI (m := 63) (pc := 44) (o := 4) (x := 34) (ci := 4) (k := 7) (by decide +kernel) rfl f_4_34 rfl (by decide +kernel) h1).trans ?_
  refine (go_aload_n (m := 63) (pc := 47) (k := 0) (by decide +kernel) rfl).trans ?_
  refine (go_ic (m := 63) (pc := 48) (n := 0) (by decide +kernel) ic_0).trans ?_
  refine (go_putI (m := 63) (pc := 49) (o := 4) (x := 37) (ci := 4) (k := 8) (by decide +kernel) rfl f_4_37 rfl (by decide +kernel) h1).trans ?_
  refine (go_aload_n (m := 63) (pc := 52) (k := 0) (by decide +kernel) rfl).trans ?_
  refine (go_lc (m := 63) (pc := 53) (n := 0) (v := 0) (by decide +kernel) rfl).trans ?_
  refine (go_putJ (m := 63) (pc := 54) (o := 4) (x := 40) (ci := 4) (k := 9) (by decide +kernel) rfl f_4_40 rfl (by decide +kernel) h1).trans ?_
  exact go_retV (m := 63) (pc := 57) (by decide +kernel) rfl
theorem Text_init_E (this : Nat) (w : Wd) (I : MI) (L : ML) (P : MP) : call 63 [.ref this] w I L P = go 63 0 [.ref this] [] w I L P := rfl
theorem Text_add_0 (a_l0 : Nat) (l1 : Value) (w : Wd) (I : MI) (L : ML) (P : MP) (h0 : w.1 a_l0 = some (4, 0)) : go 64 0 [.ref a_l0, l1] [] w I L P = if (I a_l0 1) < 0 then go 64 39 [.ref a_l0, l1] [] w I L P else go 64 7 [.ref a_l0, l1] [] w I L P := by
  refine (go_aload_n (m := 64) (pc := 0) (k := 0) (by decide +kernel) rfl).trans ?_
  refine (go_getI (m := 64) (pc := 1) (o := 4) (x := 15) (ci := 4) (k := 1) (by decide +kernel) rfl f_4_15 rfl h0).trans ?_
  exact go_iflt (m := 64) (pc := 4) (off := 35) (t := 39) (by decide +kernel) (by decide)
theorem Text_add_7 (a_l0 : Nat) (l1 : Value) (w : Wd) (I : MI) (L : ML) (P : MP) (h0 : w.1 a_l0 = some (4, 0)) : go 64 7 [.ref a_l0, l1] [] w I L P = go 64 15 [.ref a_l0, l1] [(va_rf (P a_l0 0)), .int (I a_l0 1)] w I L P := by
  refine (go_aload_n (m := 64) (pc := 7) (k := 0) (by decide +kernel) rfl).trans ?_
  refine (go_getI (m := 64) (pc := 8) (o := 4) (x := 15) (ci := 4) (k := 1) (by decide +kernel) rfl f_4_15 rfl h0).trans ?_
  refine (go_aload_n (m := 64) (pc := 11) (k := 0) (by decide +kernel) rfl).trans ?_
  refine (go_getR (m := 64) (pc := 12) (o := 4) (x := 9) (ci := 4) (k := 0) (by decide +kernel) rfl f_4_9 rfl h0).trans ?_
  rfl
theorem Text_add_15 (l0 : Value) (l1 : Value) (y0 : Int32) (a_s1 : Nat) (w : Wd) (I : MI) (L : ML) (P : MP) (h0 : isAr w a_s1 8) : go 64 15 [l0, l1] [.ref a_s1, .int y0] w I L P = if (alen w a_s1) ≤ y0 then go 64 39 [l0, l1] [] w I L P else go 64 19 [l0, l1] [] w I L P := by
  refine (go_alen8 (m := 64) (pc := 15) (by decide +kernel) h0).trans ?_
  exact go_icmpge (m := 64) (pc := 16) (off := 23) (t := 39) (by decide +kernel) (by decide)
theorem Text_add_19 (a_l0 : Nat) (l1 : Value) (w : Wd) (I : MI) (L : ML) (P : MP) (h0 : w.1 a_l0 = some (4, 0)) : go 64 19 [.ref a_l0, l1] [] w I L P = go 64 23 [.ref a_l0, l1] [(va_rf (P a_l0 0))] w I L P := by
  refine (go_aload_n (m := 64) (pc := 19) (k := 0) (by decide +kernel) rfl).trans ?_
  refine (go_getR (m := 64) (pc := 20) (o := 4) (x := 9) (ci := 4) (k := 0) (by decide +kernel) rfl f_4_9 rfl h0).trans ?_
  rfl
theorem Text_add_23 (a_l0 : Nat) (x_l1 : Int32) (a_s0 : Nat) (w : Wd) (I : MI) (L : ML) (P : MP) (h0 : w.1 a_l0 = some (4, 0)) (h1 : inA w a_s0 8 (I a_l0 1)) : go 64 23 [.ref a_l0, .int x_l1] [.ref a_s0] w I L P = go 64 39 [.ref a_l0, .int x_l1] [] w (updI (updI I a_s0 (Int32.toNatClampNeg (I a_l0 1)) x_l1) a_l0 1 (((updI I a_s0 (Int32.toNatClampNeg (I a_l0 1)) x_l1) a_l0 1) + (nI 1))) L P := by
  refine (go_aload_n (m := 64) (pc := 23) (k := 0) (by decide +kernel) rfl).trans ?_
  refine (go_getI (m := 64) (pc := 24) (o := 4) (x := 15) (ci := 4) (k := 1) (by decide +kernel) rfl f_4_15 rfl h0).trans ?_
  refine (go_iload_n (m := 64) (pc := 27) (k := 1) (by decide +kernel) rfl).trans ?_
  refine (go_iast (m := 64) (pc := 28) (by decide +kernel) h1).trans ?_
  refine (go_aload_n (m := 64) (pc := 29) (k := 0) (by decide +kernel) rfl).trans ?_
  refine (go_dup (m := 64) (pc := 30) (by decide +kernel) rfl).trans ?_
  refine (go_getI (m := 64) (pc := 31) (o := 4) (x := 15) (ci := 4) (k := 1) (by decide +kernel) rfl f_4_15 rfl h0).trans ?_
  refine (go_ic (m := 64) (pc := 34) (n := 1) (by decide +kernel) ic_1).trans ?_
  refine (go_iadd (m := 64) (pc := 35) (by decide +kernel)).trans ?_
  refine (go_putI (m := 64) (pc := 36) (o := 4) (x := 15) (ci := 4) (k := 1) (by decide +kernel) rfl f_4_15 rfl (by decide +kernel) h0).trans ?_
  rfl
theorem Text_add_39 (a_l0 : Nat) (l1 : Value) (w : Wd) (I : MI) (L : ML) (P : MP) (h0 : w.1 a_l0 = some (4, 0)) : go 64 39 [.ref a_l0, l1] [] w I L P = some (.inl (some (.int (I a_l0 1))), w, I, L, P) := by
  refine (go_aload_n (m := 64) (pc := 39) (k := 0) (by decide +kernel) rfl).trans ?_
  refine (go_getI (m := 64) (pc := 40) (o := 4) (x := 15) (ci := 4) (k := 1) (by decide +kernel) rfl f_4_15 rfl h0).trans ?_
  exact go_retI (m := 64) (pc := 43) (by decide +kernel) rfl
theorem Text_add_E (this : Nat) (p0 : Int32) (w : Wd) (I : MI) (L : ML) (P : MP) : call 64 [.ref this, .int p0] w I L P = go 64 0 [.ref this, .int p0] [] w I L P := rfl
theorem Text_rewind_0 (a_l0 : Nat) (w : Wd) (I : MI) (L : ML) (P : MP) (h0 : w.1 a_l0 = some (4, 0)) : go 65 0 [.ref a_l0] [] w I L P = some (.inl none, w, (updI (updI I a_l0 2 (nI 0)) a_l0 3 (-1)), L, P) := by
  refine (go_aload_n (m := 65) (pc := 0) (k := 0) (by decide +kernel) rfl).trans ?_
  refine (go_ic (m := 65) (pc := 1) (n := 0) (by decide +kernel) ic_0).trans ?_
  refine (go_putI (m := 65) (pc := 2) (o := 4) (x := 19) (ci := 4) (k := 2) (by decide +kernel) rfl f_4_19 rfl (by decide +kernel) h0).trans ?_
  refine (go_aload_n (m := 65) (pc := 5) (k := 0) (by decide +kernel) rfl).trans ?_
  refine (go_ic (m := 65) (pc := 6) (n := -1) (by decide +kernel) ic_m1).trans ?_
  refine (go_putI (m := 65) (pc := 7) (o := 4) (x := 22) (ci := 4) (k := 3) (by decide +kernel) rfl f_4_22 rfl (by decide +kernel) h0).trans ?_
  exact go_retV (m := 65) (pc := 10) (by decide +kernel) rfl
theorem Text_rewind_E (this : Nat) (w : Wd) (I : MI) (L : ML) (P : MP) : call 65 [.ref this] w I L P = go 65 0 [.ref this] [] w I L P := rfl
theorem Text_findError_0 (a_l0 : Nat) (l1 : Value) (w : Wd) (I : MI) (L : ML) (P : MP) (h0 : w.1 a_l0 = some (4, 0)) : go 66 0 [.ref a_l0, l1] [] w I L P = kC (call 65 [.ref a_l0] w I L P) (fun v w1 I1 L1 P1 => go 66 4 [.ref a_l0, l1] (v.toList ++ []) w1 I1 L1 P1) := by
  refine (go_aload_n (m := 66) (pc := 0) (k := 0) (by decide +kernel) rfl).trans ?_
  exact go_vir (m := 66) (pc := 1) (o := 4) (x := 44) (y := 65) (kd := 0) (b := a_l0) (bs := []) (rs := []) (by decide +kernel) rfl rfl c_4_44 (Or.inl rfl) rfl rfl rfl (by decide +kernel) (by simp only [List.length_cons, List.length_nil]; decide) (Nat.le_of_ble_eq_true rfl) h0
theorem Text_findError_4 (l0 : Value) (l1 : Value) (w : Wd) (I : MI) (L : ML) (P : MP)  : go 66 4 [l0, l1] [] w I L P = go 66 6 [(fix1 l0), .int (nI 0)] [] w I L P := by
  refine (go_ic (m := 66) (pc := 4) (n := 0) (by decide +kernel) ic_0).trans ?_
  refine (go_istore_n (m := 66) (pc := 5) (k := 1) (ls' := [(fix1 l0), .int (nI 0)]) (by decide +kernel) (by simp only [List.length_cons, List.length_nil]; decide) rfl).trans ?_
  rfl
theorem Text_findError_6 (l0 : Value) (x_l1 : Int32) (w : Wd) (I : MI) (L : ML) (P : MP)  : go 66 6 [l0, .int x_l1] [] w I L P = if (nI 100) ≤ x_l1 then go 66 25 [l0, .int x_l1] [] w I L P else go 66 12 [l0, .int x_l1] [] w I L P := by
  refine (go_iload_n (m := 66) (pc := 6) (k := 1) (by decide +kernel) rfl).trans ?_
  refine (go_bi (m := 66) (pc := 7) (n := 100) (by decide +kernel) bi_100).trans ?_
  exact go_icmpge (m := 66) (pc := 9) (off := 16) (t := 25) (by decide +kernel) (by decide)
theorem Text_findError_12 (a_l0 : Nat) (l1 : Value) (w : Wd) (I : MI) (L : ML) (P : MP) (h0 : w.1 a_l0 = some (4, 0)) : go 66 12 [.ref a_l0, l1] [] w I L P = kC (call 67 [.ref a_l0] w I L P) (fun v w1 I1 L1 P1 => go 66 16 [.ref a_l0, l1] (v.toList ++ []) w1 I1 L1 P1) := by
  refine (go_aload_n (m := 66) (pc := 12) (k := 0) (by decide +kernel) rfl).trans ?_
  exact go_vir (m := 66) (pc := 13) (o := 4) (x := 47) (y := 67) (kd := 0) (b := a_l0) (bs := []) (rs := []) (by decide +kernel) rfl rfl c_4_47 (Or.inl rfl) rfl rfl rfl (by decide +kernel) (by simp only [List.length_cons, List.length_nil]; decide) (Nat.le_of_ble_eq_true rfl) h0
theorem Text_findError_16 (l0 : Value) (l1 : Value) (y0 : Int32) (w : Wd) (I : MI) (L : ML) (P : MP)  : go 66 16 [l0, l1] [.int y0] w I L P = if y0 = 0 then go 66 25 [l0, l1] [] w I L P else go 66 19 [l0, l1] [] w I L P := by
  exact go_ifeq (m := 66) (pc := 16) (off := 9) (t := 25) (by decide +kernel) (by decide)
theorem Text_findError_19 (l0 : Value) (x_l1 : Int32) (w : Wd) (I : MI) (L : ML) (P : MP)  : go 66 19 [l0, .int x_l1] [] w I L P = go 66 6 [(fix1 l0), .int (x_l1 + (nI 1))] [] w I L P := by
  refine (go_iinc (m := 66) (pc := 19) (k := 1) (n := 1) (x := x_l1) (v := x_l1 + (nI 1)) (ls' := [(fix1 l0), .int (x_l1 + (nI 1))]) (by decide +kernel) rfl (by rw [ic_1]) rfl).trans ?_
  refine (go_goto (m := 66) (pc := 22) (off := -16) (t := 6) (by decide +kernel) (by decide)).trans ?_
  rfl
theorem Text_findError_25 (a_l0 : Nat) (l1 : Value) (w : Wd) (I : MI) (L : ML) (P : MP) (h0 : w.1 a_l0 = some (4, 0)) : go 66 25 [.ref a_l0, l1] [] w I L P = some (.inl (some (.int (I a_l0 3))), w, I, L, P) := by
  refine (go_aload_n (m := 66) (pc := 25) (k := 0) (by decide +kernel) rfl).trans ?_
  refine (go_getI (m := 66) (pc := 26) (o := 4) (x := 22) (ci := 4) (k := 3) (by decide +kernel) rfl f_4_22 rfl h0).trans ?_
  exact go_retI (m := 66) (pc := 29) (by decide +kernel) rfl
theorem Text_findError_E (this : Nat) (w : Wd) (I : MI) (L : ML) (P : MP) : call 66 [.ref this] w I L P = go 66 0 [.ref this, unk] [] w I L P := rfl
theorem Text_nextOrder_0 (a_l0 : Nat) (w : Wd) (I : MI) (L : ML) (P : MP) (h0 : w.1 a_l0 = some (4, 0)) : go 67 0 [.ref a_l0] [] w I L P = if (I a_l0 2) < (I a_l0 1) then go 67 13 [.ref a_l0] [] w I L P else go 67 11 [.ref a_l0] [] w I L P := by
  refine (go_aload_n (m := 67) (pc := 0) (k := 0) (by decide +kernel) rfl).trans ?_
  refine (go_getI (m := 67) (pc := 1) (o := 4) (x := 19) (ci := 4) (k := 2) (by decide +kernel) rfl f_4_19 rfl h0).trans ?_
  refine (go_aload_n (m := 67) (pc := 4) (k := 0) (by decide +kernel) rfl).trans ?_
  refine (go_getI (m := 67) (pc := 5) (o := 4) (x := 15) (ci := 4) (k := 1) (by decide +kernel) rfl f_4_15 rfl h0).trans ?_
  exact go_icmplt (m := 67) (pc := 8) (off := 5) (t := 13) (by decide +kernel) (by decide)
theorem Text_nextOrder_11 (l0 : Value) (w : Wd) (I : MI) (L : ML) (P : MP) (h0 : (nI 0) &&& 1 = (nI 0)) : go 67 11 [l0] [] w I L P = some (.inl (some (.int (nI 0))), w, I, L, P) := by
  refine (go_ic (m := 67) (pc := 11) (n := 0) (by decide +kernel) ic_0).trans ?_
  exact go_retZ (m := 67) (pc := 12) (by decide +kernel) rfl h0
theorem Text_nextOrder_13 (a_l0 : Nat) (w : Wd) (I : MI) (L : ML) (P : MP) (h0 : w.1 a_l0 = some (4, 0)) : go 67 13 [.ref a_l0] [] w I L P = kC (call 78 [.ref a_l0] w I L P) (fun v w1 I1 L1 P1 => go 67 18 [.ref a_l0] (v.toList ++ [.ref a_l0]) w1 I1 L1 P1) := by
  refine (go_aload_n (m := 67) (pc := 13) (k := 0) (by decide +kernel) rfl).trans ?_
  refine (go_aload_n (m := 67) (pc := 14) (k := 0) (by decide +kernel) rfl).trans ?_
  exact go_vir (m := 67) (pc := 15) (o := 4) (x := 51) (y := 78) (kd := 0) (b := a_l0) (bs := []) (rs := [.ref a_l0]) (by decide +kernel) rfl rfl c_4_51 (Or.inl rfl) rfl rfl rfl (by decide +kernel) (by simp only [List.length_cons, List.length_nil]; decide) (Nat.le_of_ble_eq_true rfl) h0
theorem Text_nextOrder_18 (a_l0 : Nat) (a_s0 : Nat) (y1 : Int32) (w : Wd) (I : MI) (L : ML) (P : MP) (h0 : w.1 a_s0 = some (4, 0)) (h1 : w.1 a_l0 = some (4, 0)) : go 67 18 [.ref a_l0] [.int y1, .ref a_s0] w I L P = go 67 25 [.ref a_l0] [.int ((updI I a_s0 5 y1) a_l0 5)] w (updI I a_s0 5 y1) L P := by
  refine (go_putI (m := 67) (pc := 18) (o := 4) (x := 28) (ci := 4) (k := 5) (by decide +kernel) rfl f_4_28 rfl (by decide +kernel) h0).trans ?_
  refine (go_aload_n (m := 67) (pc := 21) (k := 0) (by decide +kernel) rfl).trans ?_
  refine (go_getI (m := 67) (pc := 22) (o := 4) (x := 28) (ci := 4) (k := 5) (by decide +kernel) rfl f_4_28 rfl h1).trans ?_
  rfl
theorem Text_nextOrder_25_k114 (l0 : Value) (w : Wd) (I : MI) (L : ML) (P : MP) : go 67 25 [l0] [.int (nI 114)] w I L P = go 67 108 [l0] [] w I L P := go_lsI (m := 67) (pc := 25) (z := 114) (off := 83) (t := 108) (dflt := 163) (ps := #[(114, 83), (115, 131), (119, 35)]) (len := 35) (by decide +kernel) (by decide) (by decide) (by decide) (by decide)
theorem Text_nextOrder_25_k115 (l0 : Value) (w : Wd) (I : MI) (L : ML) (P : MP) : go 67 25 [l0] [.int (nI 115)] w I L P = go 67 156 [l0] [] w I L P := go_lsI (m := 67) (pc := 25) (z := 115) (off := 131) (t := 156) (dflt := 163) (ps := #[(114, 83), (115, 131), (119, 35)]) (len := 35) (by decide +kernel) (by decide) (by decide) (by decide) (by decide)
theorem Text_nextOrder_25_k119 (l0 : Value) (w : Wd) (I : MI) (L : ML) (P : MP) : go 67 25 [l0] [.int (nI 119)] w I L P = go 67 60 [l0] [] w I L P := go_lsI (m := 67) (pc := 25) (z := 119) (off := 35) (t := 60) (dflt := 163) (ps := #[(114, 83), (115, 131), (119, 35)]) (len := 35) (by decide +kernel) (by decide) (by decide) (by decide) (by decide)
theorem Text_nextOrder_25_kd (l0 : Value) (w : Wd) (I : MI) (L : ML) (P : MP) (y : Int32) (h0 : ¬ y = nI 114) (h1 : ¬ y = nI 115) (h2 : ¬ y = nI 119) : go 67 25 [l0] [.int y] w I L P = go 67 188 [l0] [] w I L P := by
  refine go_lsO (m := 67) (pc := 25) (off := 163) (t := 188) (dflt := 163) (ps := #[(114, 83), (115, 131), (119, 35)]) (len := 35) (by decide +kernel) (by decide) ?_ (by decide)
  refine (lv_osw h0 (by decide)).trans ?_
  refine (lv_osw h1 (by decide)).trans ?_
  refine (lv_osw h2 (by decide)).trans ?_
  rfl
theorem Text_nextOrder_60 (a_l0 : Nat) (w : Wd) (I : MI) (L : ML) (P : MP) (h0 : w.1 a_l0 = some (4, 0)) : go 67 60 [.ref a_l0] [] w I L P = kC (call 68 [.ref a_l0] w (updI I a_l0 2 ((I a_l0 2) + (nI 1))) L P) (fun v w1 I1 L1 P1 => go 67 74 [.ref a_l0] (v.toList ++ []) w1 I1 L1 P1) := by
  refine (go_aload_n (m := 67) (pc := 60) (k := 0) (by decide +kernel) rfl).trans ?_
  refine (go_dup (m := 67) (pc := 61) (by decide +kernel) rfl).trans ?_
  refine (go_getI (m := 67) (pc := 62) (o := 4) (x := 19) (ci := 4) (k := 2) (by decide +kernel) rfl f_4_19 rfl h0).trans ?_
  refine (go_ic (m := 67) (pc := 65) (n := 1) (by decide +kernel) ic_1).trans ?_
  refine (go_iadd (m := 67) (pc := 66) (by decide +kernel)).trans ?_
  refine (go_putI (m := 67) (pc := 67) (o := 4) (x := 19) (ci := 4) (k := 2) (by decide +kernel) rfl f_4_19 rfl (by decide +kernel) h0).trans ?_
  refine (go_aload_n (m := 67) (pc := 70) (k := 0) (by decide +kernel) rfl).trans ?_
  exact go_vir (m := 67) (pc := 71) (o := 4) (x := 55) (y := 68) (kd := 0) (b := a_l0) (bs := []) (rs := []) (by decide +kernel) rfl rfl c_4_55 (Or.inl rfl) rfl rfl rfl (by decide +kernel) (by simp only [List.length_cons, List.length_nil]; decide) (Nat.le_of_ble_eq_true rfl) h0
theorem Text_nextOrder_74 (l0 : Value) (y0 : Int32) (w : Wd) (I : MI) (L : ML) (P : MP)  : go 67 74 [l0] [.int y0] w I L P = if y0 = 0 then go 67 106 [l0] [] w I L P else go 67 77 [l0] [] w I L P := by
  exact go_ifeq (m := 67) (pc := 74) (off := 32) (t := 106) (by decide +kernel) (by decide)
theorem Text_nextOrder_77 (a_l0 : Nat) (w : Wd) (I : MI) (L : ML) (P : MP) (h0 : w.1 a_l0 = some (4, 0)) : go 67 77 [.ref a_l0] [] w I L P = kC (call 74 [.ref a_l0, .int (nI 61)] w I L P) (fun v w1 I1 L1 P1 => go 67 83 [.ref a_l0] (v.toList ++ []) w1 I1 L1 P1) := by
  refine (go_aload_n (m := 67) (pc := 77) (k := 0) (by decide +kernel) rfl).trans ?_
  refine (go_bi (m := 67) (pc := 78) (n := 61) (by decide +kernel) bi_61).trans ?_
  exact go_vir (m := 67) (pc := 80) (o := 4) (x := 58) (y := 74) (kd := 0) (b := a_l0) (bs := [.int (nI 61)]) (rs := []) (by decide +kernel) rfl rfl c_4_58 (Or.inl rfl) rfl rfl rfl (by decide +kernel) (by simp only [List.length_cons, List.length_nil]; decide) (Nat.le_of_ble_eq_true rfl) h0
theorem Text_nextOrder_83 (l0 : Value) (y0 : Int32) (w : Wd) (I : MI) (L : ML) (P : MP)  : go 67 83 [l0] [.int y0] w I L P = if y0 = 0 then go 67 106 [l0] [] w I L P else go 67 86 [l0] [] w I L P := by
  exact go_ifeq (m := 67) (pc := 83) (off := 23) (t := 106) (by decide +kernel) (by decide)
theorem Text_nextOrder_86 (a_l0 : Nat) (w : Wd) (I : MI) (L : ML) (P : MP) (h0 : w.1 a_l0 = some (4, 0)) : go 67 86 [.ref a_l0] [] w I L P = kC (call 69 [.ref a_l0] w I L P) (fun v w1 I1 L1 P1 => go 67 90 [.ref a_l0] (v.toList ++ []) w1 I1 L1 P1) := by
  refine (go_aload_n (m := 67) (pc := 86) (k := 0) (by decide +kernel) rfl).trans ?_
  exact go_vir (m := 67) (pc := 87) (o := 4) (x := 62) (y := 69) (kd := 0) (b := a_l0) (bs := []) (rs := []) (by decide +kernel) rfl rfl c_4_62 (Or.inl rfl) rfl rfl rfl (by decide +kernel) (by simp only [List.length_cons, List.length_nil]; decide) (Nat.le_of_ble_eq_true rfl) h0
theorem Text_nextOrder_90 (l0 : Value) (y0 : Int32) (w : Wd) (I : MI) (L : ML) (P : MP)  : go 67 90 [l0] [.int y0] w I L P = if y0 = 0 then go 67 106 [l0] [] w I L P else go 67 93 [l0] [] w I L P := by
  exact go_ifeq (m := 67) (pc := 90) (off := 16) (t := 106) (by decide +kernel) (by decide)
theorem Text_nextOrder_93 (a_l0 : Nat) (w : Wd) (I : MI) (L : ML) (P : MP) (h0 : w.1 a_l0 = some (4, 0)) : go 67 93 [.ref a_l0] [] w I L P = kC (call 74 [.ref a_l0, .int (nI 59)] w I L P) (fun v w1 I1 L1 P1 => go 67 99 [.ref a_l0] (v.toList ++ []) w1 I1 L1 P1) := by
  refine (go_aload_n (m := 67) (pc := 93) (k := 0) (by decide +kernel) rfl).trans ?_
  refine (go_bi (m := 67) (pc := 94) (n := 59) (by decide +kernel) bi_59).trans ?_
  exact go_vir (m := 67) (pc := 96) (o := 4) (x := 58) (y := 74) (kd := 0) (b := a_l0) (bs := [.int (nI 59)]) (rs := []) (by decide +kernel) rfl rfl c_4_58 (Or.inl rfl) rfl rfl rfl (by decide +kernel) (by simp only [List.length_cons, List.length_nil]; decide) (Nat.le_of_ble_eq_true rfl) h0
theorem Text_nextOrder_99 (l0 : Value) (y0 : Int32) (w : Wd) (I : MI) (L : ML) (P : MP)  : go 67 99 [l0] [.int y0] w I L P = if y0 = 0 then go 67 106 [l0] [] w I L P else go 67 102 [l0] [] w I L P := by
  exact go_ifeq (m := 67) (pc := 99) (off := 7) (t := 106) (by decide +kernel) (by decide)
theorem Text_nextOrder_102 (l0 : Value) (w : Wd) (I : MI) (L : ML) (P : MP)  : go 67 102 [l0] [] w I L P = go 67 107 [l0] [.int (nI 1)] w I L P := by
  refine (go_ic (m := 67) (pc := 102) (n := 1) (by decide +kernel) ic_1).trans ?_
  refine (go_goto (m := 67) (pc := 103) (off := 4) (t := 107) (by decide +kernel) (by decide)).trans ?_
  rfl
theorem Text_nextOrder_106 (l0 : Value) (w : Wd) (I : MI) (L : ML) (P : MP)  : go 67 106 [l0] [] w I L P = go 67 107 [l0] [.int (nI 0)] w I L P := by
  refine (go_ic (m := 67) (pc := 106) (n := 0) (by decide +kernel) ic_0).trans ?_
  rfl
theorem Text_nextOrder_107 (l0 : Value) (y0 : Int32) (w : Wd) (I : MI) (L : ML) (P : MP) (h0 : y0 &&& 1 = y0) : go 67 107 [l0] [.int y0] w I L P = some (.inl (some (.int y0)), w, I, L, P) := by
  exact go_retZ (m := 67) (pc := 107) (by decide +kernel) rfl h0
theorem Text_nextOrder_108 (a_l0 : Nat) (w : Wd) (I : MI) (L : ML) (P : MP) (h0 : w.1 a_l0 = some (4, 0)) : go 67 108 [.ref a_l0] [] w I L P = kC (call 68 [.ref a_l0] w (updI I a_l0 2 ((I a_l0 2) + (nI 1))) L P) (fun v w1 I1 L1 P1 => go 67 122 [.ref a_l0] (v.toList ++ []) w1 I1 L1 P1) := by
  refine (go_aload_n (m := 67) (pc := 108) (k := 0) (by decide +kernel) rfl).trans ?_
  refine (go_dup (m := 67) (pc := 109) (by decide +kernel) rfl).trans ?_
  refine (go_getI (m := 67) (pc := 110) (o := 4) (x := 19) (ci := 4) (k := 2) (by decide +kernel) rfl f_4_19 rfl h0).trans ?_
  refine (go_ic (m := 67) (pc := 113) (n := 1) (by decide +kernel) ic_1).trans ?_
  refine (go_iadd (m := 67) (pc := 114) (by decide +kernel)).trans ?_
  refine (go_putI (m := 67) (pc := 115) (o := 4) (x := 19) (ci := 4) (k := 2) (by decide +kernel) rfl f_4_19 rfl (by decide +kernel) h0).trans ?_
  refine (go_aload_n (m := 67) (pc := 118) (k := 0) (by decide +kernel) rfl).trans ?_
  exact go_vir (m := 67) (pc := 119) (o := 4) (x := 55) (y := 68) (kd := 0) (b := a_l0) (bs := []) (rs := []) (by decide +kernel) rfl rfl c_4_55 (Or.inl rfl) rfl rfl rfl (by decide +kernel) (by simp only [List.length_cons, List.length_nil]; decide) (Nat.le_of_ble_eq_true rfl) h0
theorem Text_nextOrder_122 (l0 : Value) (y0 : Int32) (w : Wd) (I : MI) (L : ML) (P : MP)  : go 67 122 [l0] [.int y0] w I L P = if y0 = 0 then go 67 154 [l0] [] w I L P else go 67 125 [l0] [] w I L P := by
  exact go_ifeq (m := 67) (pc := 122) (off := 32) (t := 154) (by decide +kernel) (by decide)
theorem Text_nextOrder_125 (a_l0 : Nat) (w : Wd) (I : MI) (L : ML) (P : MP) (h0 : w.1 a_l0 = some (4, 0)) : go 67 125 [.ref a_l0] [] w I L P = kC (call 74 [.ref a_l0, .int (nI 42)] w I L P) (fun v w1 I1 L1 P1 => go 67 131 [.ref a_l0] (v.toList ++ []) w1 I1 L1 P1) := by
  refine (go_aload_n (m := 67) (pc := 125) (k := 0) (by decide +kernel) rfl).trans ?_
  refine (go_bi (m := 67) (pc := 126) (n := 42) (by decide +kernel) bi_42).trans ?_
  exact go_vir (m := 67) (pc := 128) (o := 4) (x := 58) (y := 74) (kd := 0) (b := a_l0) (bs := [.int (nI 42)]) (rs := []) (by decide +kernel) rfl rfl c_4_58 (Or.inl rfl) rfl rfl rfl (by decide +kernel) (by simp only [List.length_cons, List.length_nil]; decide) (Nat.le_of_ble_eq_true rfl) h0
theorem Text_nextOrder_131 (l0 : Value) (y0 : Int32) (w : Wd) (I : MI) (L : ML) (P : MP)  : go 67 131 [l0] [.int y0] w I L P = if y0 = 0 then go 67 154 [l0] [] w I L P else go 67 134 [l0] [] w I L P := by
  exact go_ifeq (m := 67) (pc := 131) (off := 23) (t := 154) (by decide +kernel) (by decide)
theorem Text_nextOrder_134 (a_l0 : Nat) (w : Wd) (I : MI) (L : ML) (P : MP) (h0 : w.1 a_l0 = some (4, 0)) : go 67 134 [.ref a_l0] [] w I L P = kC (call 70 [.ref a_l0] w I L P) (fun v w1 I1 L1 P1 => go 67 138 [.ref a_l0] (v.toList ++ []) w1 I1 L1 P1) := by
  refine (go_aload_n (m := 67) (pc := 134) (k := 0) (by decide +kernel) rfl).trans ?_
  exact go_vir (m := 67) (pc := 135) (o := 4) (x := 65) (y := 70) (kd := 0) (b := a_l0) (bs := []) (rs := []) (by decide +kernel) rfl rfl c_4_65 (Or.inl rfl) rfl rfl rfl (by decide +kernel) (by simp only [List.length_cons, List.length_nil]; decide) (Nat.le_of_ble_eq_true rfl) h0
theorem Text_nextOrder_138 (l0 : Value) (y0 : Int32) (w : Wd) (I : MI) (L : ML) (P : MP)  : go 67 138 [l0] [.int y0] w I L P = if y0 = 0 then go 67 154 [l0] [] w I L P else go 67 141 [l0] [] w I L P := by
  exact go_ifeq (m := 67) (pc := 138) (off := 16) (t := 154) (by decide +kernel) (by decide)
theorem Text_nextOrder_141 (a_l0 : Nat) (w : Wd) (I : MI) (L : ML) (P : MP) (h0 : w.1 a_l0 = some (4, 0)) : go 67 141 [.ref a_l0] [] w I L P = kC (call 74 [.ref a_l0, .int (nI 59)] w I L P) (fun v w1 I1 L1 P1 => go 67 147 [.ref a_l0] (v.toList ++ []) w1 I1 L1 P1) := by
  refine (go_aload_n (m := 67) (pc := 141) (k := 0) (by decide +kernel) rfl).trans ?_
  refine (go_bi (m := 67) (pc := 142) (n := 59) (by decide +kernel) bi_59).trans ?_
  exact go_vir (m := 67) (pc := 144) (o := 4) (x := 58) (y := 74) (kd := 0) (b := a_l0) (bs := [.int (nI 59)]) (rs := []) (by decide +kernel) rfl rfl c_4_58 (Or.inl rfl) rfl rfl rfl (by decide +kernel) (by simp only [List.length_cons, List.length_nil]; decide) (Nat.le_of_ble_eq_true rfl) h0
theorem Text_nextOrder_147 (l0 : Value) (y0 : Int32) (w : Wd) (I : MI) (L : ML) (P : MP)  : go 67 147 [l0] [.int y0] w I L P = if y0 = 0 then go 67 154 [l0] [] w I L P else go 67 150 [l0] [] w I L P := by
  exact go_ifeq (m := 67) (pc := 147) (off := 7) (t := 154) (by decide +kernel) (by decide)
theorem Text_nextOrder_150 (l0 : Value) (w : Wd) (I : MI) (L : ML) (P : MP)  : go 67 150 [l0] [] w I L P = go 67 155 [l0] [.int (nI 1)] w I L P := by
  refine (go_ic (m := 67) (pc := 150) (n := 1) (by decide +kernel) ic_1).trans ?_
  refine (go_goto (m := 67) (pc := 151) (off := 4) (t := 155) (by decide +kernel) (by decide)).trans ?_
  rfl
theorem Text_nextOrder_154 (l0 : Value) (w : Wd) (I : MI) (L : ML) (P : MP)  : go 67 154 [l0] [] w I L P = go 67 155 [l0] [.int (nI 0)] w I L P := by
  refine (go_ic (m := 67) (pc := 154) (n := 0) (by decide +kernel) ic_0).trans ?_
  rfl
theorem Text_nextOrder_155 (l0 : Value) (y0 : Int32) (w : Wd) (I : MI) (L : ML) (P : MP) (h0 : y0 &&& 1 = y0) : go 67 155 [l0] [.int y0] w I L P = some (.inl (some (.int y0)), w, I, L, P) := by
  exact go_retZ (m := 67) (pc := 155) (by decide +kernel) rfl h0
theorem Text_nextOrder_156 (a_l0 : Nat) (w : Wd) (I : MI) (L : ML) (P : MP) (h0 : w.1 a_l0 = some (4, 0)) : go 67 156 [.ref a_l0] [] w I L P = kC (call 71 [.ref a_l0] w (updI I a_l0 2 ((I a_l0 2) + (nI 1))) L P) (fun v w1 I1 L1 P1 => go 67 170 [.ref a_l0] (v.toList ++ []) w1 I1 L1 P1) := by
  refine (go_aload_n (m := 67) (pc := 156) (k := 0) (by decide +kernel) rfl).trans ?_
  refine (go_dup (m := 67) (pc := 157) (by decide +kernel) rfl).trans ?_
  refine (go_getI (m := 67) (pc := 158) (o := 4) (x := 19) (ci := 4) (k := 2) (by decide +kernel) rfl f_4_19 rfl h0).trans ?_
  refine (go_ic (m := 67) (pc := 161) (n := 1) (by decide +kernel) ic_1).trans ?_
  refine (go_iadd (m := 67) (pc := 162) (by decide +kernel)).trans ?_
  refine (go_putI (m := 67) (pc := 163) (o := 4) (x := 19) (ci := 4) (k := 2) (by decide +kernel) rfl f_4_19 rfl (by decide +kernel) h0).trans ?_
  refine (go_aload_n (m := 67) (pc := 166) (k := 0) (by decide +kernel) rfl).trans ?_
  exact go_vir (m := 67) (pc := 167) (o := 4) (x := 68) (y := 71) (kd := 0) (b := a_l0) (bs := []) (rs := []) (by decide +kernel) rfl rfl c_4_68 (Or.inl rfl) rfl rfl rfl (by decide +kernel) (by simp only [List.length_cons, List.length_nil]; decide) (Nat.le_of_ble_eq_true rfl) h0
theorem Text_nextOrder_170 (l0 : Value) (y0 : Int32) (w : Wd) (I : MI) (L : ML) (P : MP)  : go 67 170 [l0] [.int y0] w I L P = if y0 = 0 then go 67 186 [l0] [] w I L P else go 67 173 [l0] [] w I L P := by
  exact go_ifeq (m := 67) (pc := 170) (off := 16) (t := 186) (by decide +kernel) (by decide)
theorem Text_nextOrder_173 (a_l0 : Nat) (w : Wd) (I : MI) (L : ML) (P : MP) (h0 : w.1 a_l0 = some (4, 0)) : go 67 173 [.ref a_l0] [] w I L P = kC (call 74 [.ref a_l0, .int (nI 59)] w I L P) (fun v w1 I1 L1 P1 => go 67 179 [.ref a_l0] (v.toList ++ []) w1 I1 L1 P1) := by
  refine (go_aload_n (m := 67) (pc := 173) (k := 0) (by decide +kernel) rfl).trans ?_
  refine (go_bi (m := 67) (pc := 174) (n := 59) (by decide +kernel) bi_59).trans ?_
  exact go_vir (m := 67) (pc := 176) (o := 4) (x := 58) (y := 74) (kd := 0) (b := a_l0) (bs := [.int (nI 59)]) (rs := []) (by decide +kernel) rfl rfl c_4_58 (Or.inl rfl) rfl rfl rfl (by decide +kernel) (by simp only [List.length_cons, List.length_nil]; decide) (Nat.le_of_ble_eq_true rfl) h0
theorem Text_nextOrder_179 (l0 : Value) (y0 : Int32) (w : Wd) (I : MI) (L : ML) (P : MP)  : go 67 179 [l0] [.int y0] w I L P = if y0 = 0 then go 67 186 [l0] [] w I L P else go 67 182 [l0] [] w I L P := by
  exact go_ifeq (m := 67) (pc := 179) (off := 7) (t := 186) (by decide +kernel) (by decide)
theorem Text_nextOrder_182 (l0 : Value) (w : Wd) (I : MI) (L : ML) (P : MP)  : go 67 182 [l0] [] w I L P = go 67 187 [l0] [.int (nI 1)] w I L P := by
  refine (go_ic (m := 67) (pc := 182) (n := 1) (by decide +kernel) ic_1).trans ?_
  refine (go_goto (m := 67) (pc := 183) (off := 4) (t := 187) (by decide +kernel) (by decide)).trans ?_
  rfl
theorem Text_nextOrder_186 (l0 : Value) (w : Wd) (I : MI) (L : ML) (P : MP)  : go 67 186 [l0] [] w I L P = go 67 187 [l0] [.int (nI 0)] w I L P := by
  refine (go_ic (m := 67) (pc := 186) (n := 0) (by decide +kernel) ic_0).trans ?_
  rfl
theorem Text_nextOrder_187 (l0 : Value) (y0 : Int32) (w : Wd) (I : MI) (L : ML) (P : MP) (h0 : y0 &&& 1 = y0) : go 67 187 [l0] [.int y0] w I L P = some (.inl (some (.int y0)), w, I, L, P) := by
  exact go_retZ (m := 67) (pc := 187) (by decide +kernel) rfl h0
theorem Text_nextOrder_188 (a_l0 : Nat) (w : Wd) (I : MI) (L : ML) (P : MP) (h0 : w.1 a_l0 = some (4, 0)) : go 67 188 [.ref a_l0] [] w I L P = kC (call 76 [.ref a_l0, .int (I a_l0 2)] w I L P) (fun v w1 I1 L1 P1 => go 67 196 [.ref a_l0] (v.toList ++ []) w1 I1 L1 P1) := by
  refine (go_aload_n (m := 67) (pc := 188) (k := 0) (by decide +kernel) rfl).trans ?_
  refine (go_aload_n (m := 67) (pc := 189) (k := 0) (by decide +kernel) rfl).trans ?_
  refine (go_getI (m := 67) (pc := 190) (o := 4) (x := 19) (ci := 4) (k := 2) (by decide +kernel) rfl f_4_19 rfl h0).trans ?_
  exact go_vir (m := 67) (pc := 193) (o := 4) (x := 71) (y := 76) (kd := 0) (b := a_l0) (bs := [.int (I a_l0 2)]) (rs := []) (by decide +kernel) rfl rfl c_4_71 (Or.inl rfl) rfl rfl rfl (by decide +kernel) (by simp only [List.length_cons, List.length_nil]; decide) (Nat.le_of_ble_eq_true rfl) h0
theorem Text_nextOrder_196 (l0 : Value) (y0 : Int32) (w : Wd) (I : MI) (L : ML) (P : MP) (h0 : y0 &&& 1 = y0) : go 67 196 [l0] [.int y0] w I L P = some (.inl (some (.int y0)), w, I, L, P) := by
  exact go_retZ (m := 67) (pc := 196) (by decide +kernel) rfl h0
theorem Text_nextOrder_E (this : Nat) (w : Wd) (I : MI) (L : ML) (P : MP) : call 67 [.ref this] w I L P = go 67 0 [.ref this] [] w I L P := rfl
theorem Text_readTarget_0 (a_l0 : Nat) (w : Wd) (I : MI) (L : ML) (P : MP) (h0 : w.1 a_l0 = some (4, 0)) : go 68 0 [.ref a_l0] [] w I L P = kC (call 73 [.ref a_l0, .int (nI 48), .int (nI 50)] w I L P) (fun v w1 I1 L1 P1 => go 68 8 [.ref a_l0] (v.toList ++ []) w1 I1 L1 P1) := by
  refine (go_aload_n (m := 68) (pc := 0) (k := 0) (by decide +kernel) rfl).trans ?_
  refine (go_bi (m := 68) (pc := 1) (n := 48) (by decide +kernel) bi_48).trans ?_
  refine (go_bi (m := 68) (pc := 3) (n := 50) (by decide +kernel) bi_50).trans ?_
  exact go_vir (m := 68) (pc := 5) (o := 4) (x := 74) (y := 73) (kd := 0) (b := a_l0) (bs := [.int (nI 48), .int (nI 50)]) (rs := []) (by decide +kernel) rfl rfl c_4_74 (Or.inl rfl) rfl rfl rfl (by decide +kernel) (by simp only [List.length_cons, List.length_nil]; decide) (Nat.le_of_ble_eq_true rfl) h0
theorem Text_readTarget_8 (l0 : Value) (y0 : Int32) (w : Wd) (I : MI) (L : ML) (P : MP)  : go 68 8 [l0] [.int y0] w I L P = if y0 ≠ 0 then go 68 13 [l0] [] w I L P else go 68 11 [l0] [] w I L P := by
  exact go_ifne (m := 68) (pc := 8) (off := 5) (t := 13) (by decide +kernel) (by decide)
theorem Text_readTarget_11 (l0 : Value) (w : Wd) (I : MI) (L : ML) (P : MP) (h0 : (nI 0) &&& 1 = (nI 0)) : go 68 11 [l0] [] w I L P = some (.inl (some (.int (nI 0))), w, I, L, P) := by
  refine (go_ic (m := 68) (pc := 11) (n := 0) (by decide +kernel) ic_0).trans ?_
  exact go_retZ (m := 68) (pc := 12) (by decide +kernel) rfl h0
theorem Text_readTarget_13 (a_l0 : Nat) (w : Wd) (I : MI) (L : ML) (P : MP) (h0 : w.1 a_l0 = some (4, 0)) : go 68 13 [.ref a_l0] [] w I L P = kC (call 74 [.ref a_l0, .int (nI 58)] w (updI I a_l0 6 (I a_l0 4)) L P) (fun v w1 I1 L1 P1 => go 68 27 [.ref a_l0] (v.toList ++ []) w1 I1 L1 P1) := by
  refine (go_aload_n (m := 68) (pc := 13) (k := 0) (by decide +kernel) rfl).trans ?_
  refine (go_aload_n (m := 68) (pc := 14) (k := 0) (by decide +kernel) rfl).trans ?_
  refine (go_getI (m := 68) (pc := 15) (o := 4) (x := 25) (ci := 4) (k := 4) (by decide +kernel) rfl f_4_25 rfl h0).trans ?_
  refine (go_putI (m := 68) (pc := 18) (o := 4) (x := 31) (ci := 4) (k := 6) (by decide +kernel) rfl f_4_31 rfl (by decide +kernel) h0).trans ?_
  refine (go_aload_n (m := 68) (pc := 21) (k := 0) (by decide +kernel) rfl).trans ?_
  refine (go_bi (m := 68) (pc := 22) (n := 58) (by decide +kernel) bi_58).trans ?_
  exact go_vir (m := 68) (pc := 24) (o := 4) (x := 58) (y := 74) (kd := 0) (b := a_l0) (bs := [.int (nI 58)]) (rs := []) (by decide +kernel) rfl rfl c_4_58 (Or.inl rfl) rfl rfl rfl (by decide +kernel) (by simp only [List.length_cons, List.length_nil]; decide) (Nat.le_of_ble_eq_true rfl) h0
theorem Text_readTarget_27 (l0 : Value) (y0 : Int32) (w : Wd) (I : MI) (L : ML) (P : MP)  : go 68 27 [l0] [.int y0] w I L P = if y0 = 0 then go 68 40 [l0] [] w I L P else go 68 30 [l0] [] w I L P := by
  exact go_ifeq (m := 68) (pc := 27) (off := 13) (t := 40) (by decide +kernel) (by decide)
theorem Text_readTarget_30 (a_l0 : Nat) (w : Wd) (I : MI) (L : ML) (P : MP) (h0 : w.1 a_l0 = some (4, 0)) : go 68 30 [.ref a_l0] [] w I L P = kC (call 72 [.ref a_l0, .int (nI 0), .int (nI 127)] w I L P) (fun v w1 I1 L1 P1 => go 68 37 [.ref a_l0] (v.toList ++ []) w1 I1 L1 P1) := by
  refine (go_aload_n (m := 68) (pc := 30) (k := 0) (by decide +kernel) rfl).trans ?_
  refine (go_ic (m := 68) (pc := 31) (n := 0) (by decide +kernel) ic_0).trans ?_
  refine (go_bi (m := 68) (pc := 32) (n := 127) (by decide +kernel) bi_127).trans ?_
  exact go_vir (m := 68) (pc := 34) (o := 4) (x := 78) (y := 72) (kd := 0) (b := a_l0) (bs := [.int (nI 0), .int (nI 127)]) (rs := []) (by decide +kernel) rfl rfl c_4_78 (Or.inl rfl) rfl rfl rfl (by decide +kernel) (by simp only [List.length_cons, List.length_nil]; decide) (Nat.le_of_ble_eq_true rfl) h0
theorem Text_readTarget_37 (l0 : Value) (y0 : Int32) (w : Wd) (I : MI) (L : ML) (P : MP)  : go 68 37 [l0] [.int y0] w I L P = if y0 ≠ 0 then go 68 42 [l0] [] w I L P else go 68 40 [l0] [] w I L P := by
  exact go_ifne (m := 68) (pc := 37) (off := 5) (t := 42) (by decide +kernel) (by decide)
theorem Text_readTarget_40 (l0 : Value) (w : Wd) (I : MI) (L : ML) (P : MP) (h0 : (nI 0) &&& 1 = (nI 0)) : go 68 40 [l0] [] w I L P = some (.inl (some (.int (nI 0))), w, I, L, P) := by
  refine (go_ic (m := 68) (pc := 40) (n := 0) (by decide +kernel) ic_0).trans ?_
  exact go_retZ (m := 68) (pc := 41) (by decide +kernel) rfl h0
theorem Text_readTarget_42 (a_l0 : Nat) (w : Wd) (I : MI) (L : ML) (P : MP) (h0 : w.1 a_l0 = some (4, 0)) (h1 : (nI 1) &&& 1 = (nI 1)) : go 68 42 [.ref a_l0] [] w I L P = some (.inl (some (.int (nI 1))), w, (updI I a_l0 7 (I a_l0 4)), L, P) := by
  refine (go_aload_n (m := 68) (pc := 42) (k := 0) (by decide +kernel) rfl).trans ?_
  refine (go_aload_n (m := 68) (pc := 43) (k := 0) (by decide +kernel) rfl).trans ?_
  refine (go_getI (m := 68) (pc := 44) (o := 4) (x := 25) (ci := 4) (k := 4) (by decide +kernel) rfl f_4_25 rfl h0).trans ?_
  refine (go_putI (m := 68) (pc := 47) (o := 4) (x := 34) (ci := 4) (k := 7) (by decide +kernel) rfl f_4_34 rfl (by decide +kernel) h0).trans ?_
  refine (go_ic (m := 68) (pc := 50) (n := 1) (by decide +kernel) ic_1).trans ?_
  exact go_retZ (m := 68) (pc := 51) (by decide +kernel) rfl h1
theorem Text_readTarget_E (this : Nat) (w : Wd) (I : MI) (L : ML) (P : MP) : call 68 [.ref this] w I L P = go 68 0 [.ref this] [] w I L P := rfl
theorem Text_readBytes_0 (a_l0 : Nat) (w : Wd) (I : MI) (L : ML) (P : MP) (h0 : w.1 a_l0 = some (4, 0)) : go 69 0 [.ref a_l0] [] w I L P = go 69 10 [.ref a_l0] [] w (updI I a_l0 8 (nI 0)) (updL L a_l0 9 0) P := by
  refine (go_aload_n (m := 69) (pc := 0) (k := 0) (by decide +kernel) rfl).trans ?_
  refine (go_ic (m := 69) (pc := 1) (n := 0) (by decide +kernel) ic_0).trans ?_
  refine (go_putI (m := 69) (pc := 2) (o := 4) (x := 37) (ci := 4) (k := 8) (by decide +kernel) rfl f_4_37 rfl (by decide +kernel) h0).trans ?_
  refine (go_aload_n (m := 69) (pc := 5) (k := 0) (by decide +kernel) rfl).trans ?_
  refine (go_lc (m := 69) (pc := 6) (n := 0) (v := 0) (by decide +kernel) rfl).trans ?_
  refine (go_putJ (m := 69) (pc := 7) (o := 4) (x := 40) (ci := 4) (k := 9) (by decide +kernel) rfl f_4_40 rfl (by decide +kernel) h0).trans ?_
  rfl
theorem Text_readBytes_10 (a_l0 : Nat) (w : Wd) (I : MI) (L : ML) (P : MP) (h0 : w.1 a_l0 = some (4, 0)) : go 69 10 [.ref a_l0] [] w I L P = kC (call 72 [.ref a_l0, .int (nI 0), .int (nI 255)] w I L P) (fun v w1 I1 L1 P1 => go 69 18 [.ref a_l0] (v.toList ++ []) w1 I1 L1 P1) := by
  refine (go_aload_n (m := 69) (pc := 10) (k := 0) (by decide +kernel) rfl).trans ?_
  refine (go_ic (m := 69) (pc := 11) (n := 0) (by decide +kernel) ic_0).trans ?_
  refine (go_si (m := 69) (pc := 12) (n := 255) (by decide +kernel) si_255).trans ?_
  exact go_vir (m := 69) (pc := 15) (o := 4) (x := 78) (y := 72) (kd := 0) (b := a_l0) (bs := [.int (nI 0), .int (nI 255)]) (rs := []) (by decide +kernel) rfl rfl c_4_78 (Or.inl rfl) rfl rfl rfl (by decide +kernel) (by simp only [List.length_cons, List.length_nil]; decide) (Nat.le_of_ble_eq_true rfl) h0
theorem Text_readBytes_18 (l0 : Value) (y0 : Int32) (w : Wd) (I : MI) (L : ML) (P : MP)  : go 69 18 [l0] [.int y0] w I L P = if y0 ≠ 0 then go 69 23 [l0] [] w I L P else go 69 21 [l0] [] w I L P := by
  exact go_ifne (m := 69) (pc := 18) (off := 5) (t := 23) (by decide +kernel) (by decide)
theorem Text_readBytes_21 (l0 : Value) (w : Wd) (I : MI) (L : ML) (P : MP) (h0 : (nI 0) &&& 1 = (nI 0)) : go 69 21 [l0] [] w I L P = some (.inl (some (.int (nI 0))), w, I, L, P) := by
  refine (go_ic (m := 69) (pc := 21) (n := 0) (by decide +kernel) ic_0).trans ?_
  exact go_retZ (m := 69) (pc := 22) (by decide +kernel) rfl h0
theorem Text_readBytes_23 (a_l0 : Nat) (w : Wd) (I : MI) (L : ML) (P : MP) (h0 : w.1 a_l0 = some (4, 0)) : go 69 23 [.ref a_l0] [] w I L P = if (nI 4) ≤ ((updI I a_l0 8 ((I a_l0 8) + (nI 1))) a_l0 8) then go 69 67 [.ref a_l0] [] w (updI I a_l0 8 ((I a_l0 8) + (nI 1))) (updL L a_l0 9 (((L a_l0 9) <<< (Int32.toInt64 (nI 8) &&& 63)) ||| (Int32.toInt64 (I a_l0 4)))) P else go 69 58 [.ref a_l0] [] w (updI I a_l0 8 ((I a_l0 8) + (nI 1))) (updL L a_l0 9 (((L a_l0 9) <<< (Int32.toInt64 (nI 8) &&& 63)) ||| (Int32.toInt64 (I a_l0 4)))) P := by
  refine (go_aload_n (m := 69) (pc := 23) (k := 0) (by decide +kernel) rfl).trans ?_
  refine (go_aload_n (m := 69) (pc := 24) (k := 0) (by decide +kernel) rfl).trans ?_
  refine (go_getJ (m := 69) (pc := 25) (o := 4) (x := 40) (ci := 4) (k := 9) (by decide +kernel) rfl f_4_40 rfl h0).trans ?_
  refine (go_bi (m := 69) (pc := 28) (n := 8) (by decide +kernel) bi_8).trans ?_
  refine (go_lshl (m := 69) (pc := 30) (by decide +kernel)).trans ?_
  refine (go_aload_n (m := 69) (pc := 31) (k := 0) (by decide +kernel) rfl).trans ?_
  refine (go_getI (m := 69) (pc := 32) (o := 4) (x := 25) (ci := 4) (k := 4) (by decide +kernel) rfl f_4_25 rfl h0).trans ?_
  refine (go_i2l (m := 69) (pc := 35) (by decide +kernel)).trans ?_
  refine (go_lor (m := 69) (pc := 36) (by decide +kernel)).trans ?_
  refine (go_putJ (m := 69) (pc := 37) (o := 4) (x := 40) (ci := 4) (k := 9) (by decide +kernel) rfl f_4_40 rfl (by decide +kernel) h0).trans ?_
  refine (go_aload_n (m := 69) (pc := 40) (k := 0) (by decide +kernel) rfl).trans ?_
  refine (go_dup (m := 69) (pc := 41) (by decide +kernel) rfl).trans ?_
  refine (go_getI (m := 69) (pc := 42) (o := 4) (x := 37) (ci := 4) (k := 8) (by decide +kernel) rfl f_4_37 rfl h0).trans ?_
  refine (go_ic (m := 69) (pc := 45) (n := 1) (by decide +kernel) ic_1).trans ?_
  refine (go_iadd (m := 69) (pc := 46) (by decide +kernel)).trans ?_
  refine (go_putI (m := 69) (pc := 47) (o := 4) (x := 37) (ci := 4) (k := 8) (by decide +kernel) rfl f_4_37 rfl (by decide +kernel) h0).trans ?_
  refine (go_aload_n (m := 69) (pc := 50) (k := 0) (by decide +kernel) rfl).trans ?_
  refine (go_getI (m := 69) (pc := 51) (o := 4) (x := 37) (ci := 4) (k := 8) (by decide +kernel) rfl f_4_37 rfl h0).trans ?_
  refine (go_ic (m := 69) (pc := 54) (n := 4) (by decide +kernel) ic_4).trans ?_
  exact go_icmpge (m := 69) (pc := 55) (off := 12) (t := 67) (by decide +kernel) (by decide)
theorem Text_readBytes_58 (a_l0 : Nat) (w : Wd) (I : MI) (L : ML) (P : MP) (h0 : w.1 a_l0 = some (4, 0)) : go 69 58 [.ref a_l0] [] w I L P = kC (call 75 [.ref a_l0, .int (nI 44)] w I L P) (fun v w1 I1 L1 P1 => go 69 64 [.ref a_l0] (v.toList ++ []) w1 I1 L1 P1) := by
  refine (go_aload_n (m := 69) (pc := 58) (k := 0) (by decide +kernel) rfl).trans ?_
  refine (go_bi (m := 69) (pc := 59) (n := 44) (by decide +kernel) bi_44).trans ?_
  exact go_vir (m := 69) (pc := 61) (o := 4) (x := 81) (y := 75) (kd := 0) (b := a_l0) (bs := [.int (nI 44)]) (rs := []) (by decide +kernel) rfl rfl c_4_81 (Or.inl rfl) rfl rfl rfl (by decide +kernel) (by simp only [List.length_cons, List.length_nil]; decide) (Nat.le_of_ble_eq_true rfl) h0
theorem Text_readBytes_64 (l0 : Value) (y0 : Int32) (w : Wd) (I : MI) (L : ML) (P : MP)  : go 69 64 [l0] [.int y0] w I L P = if y0 ≠ 0 then go 69 10 [l0] [] w I L P else go 69 67 [l0] [] w I L P := by
  exact go_ifne (m := 69) (pc := 64) (off := -54) (t := 10) (by decide +kernel) (by decide)
theorem Text_readBytes_67 (l0 : Value) (w : Wd) (I : MI) (L : ML) (P : MP) (h0 : (nI 1) &&& 1 = (nI 1)) : go 69 67 [l0] [] w I L P = some (.inl (some (.int (nI 1))), w, I, L, P) := by
  refine (go_ic (m := 69) (pc := 67) (n := 1) (by decide +kernel) ic_1).trans ?_
  exact go_retZ (m := 69) (pc := 68) (by decide +kernel) rfl h0
theorem Text_readBytes_E (this : Nat) (w : Wd) (I : MI) (L : ML) (P : MP) : call 69 [.ref this] w I L P = go 69 0 [.ref this] [] w I L P := rfl
theorem Text_readCount_0 (a_l0 : Nat) (l1 : Value) (w : Wd) (I : MI) (L : ML) (P : MP) (h0 : w.1 a_l0 = some (4, 0)) : go 70 0 [.ref a_l0, l1] [] w I L P = kC (call 73 [.ref a_l0, .int (nI 49), .int (nI 52)] w I (updL L a_l0 9 0) P) (fun v w1 I1 L1 P1 => go 70 13 [.ref a_l0, l1] (v.toList ++ []) w1 I1 L1 P1) := by
  refine (go_aload_n (m := 70) (pc := 0) (k := 0) (by decide +kernel) rfl).trans ?_
  refine (go_lc (m := 70) (pc := 1) (n := 0) (v := 0) (by decide +kernel) rfl).trans ?_
  refine (go_putJ (m := 70) (pc := 2) (o := 4) (x := 40) (ci := 4) (k := 9) (by decide +kernel) rfl f_4_40 rfl (by decide +kernel) h0).trans ?_
  refine (go_aload_n (m := 70) (pc := 5) (k := 0) (by decide +kernel) rfl).trans ?_
  refine (go_bi (m := 70) (pc := 6) (n := 49) (by decide +kernel) bi_49).trans ?_
  refine (go_bi (m := 70) (pc := 8) (n := 52) (by decide +kernel) bi_52).trans ?_
  exact go_vir (m := 70) (pc := 10) (o := 4) (x := 74) (y := 73) (kd := 0) (b := a_l0) (bs := [.int (nI 49), .int (nI 52)]) (rs := []) (by decide +kernel) rfl rfl c_4_74 (Or.inl rfl) rfl rfl rfl (by decide +kernel) (by simp only [List.length_cons, List.length_nil]; decide) (Nat.le_of_ble_eq_true rfl) h0
theorem Text_readCount_13 (a_l0 : Nat) (l1 : Value) (y0 : Int32) (w : Wd) (I : MI) (L : ML) (P : MP) (h0 : w.1 a_l0 = some (4, 0)) (h1 : y0 &&& 1 = y0) : go 70 13 [.ref a_l0, l1] [.int y0] w I L P = some (.inl (some (.int y0)), w, (updI I a_l0 8 (I a_l0 4)), L, P) := by
  refine (go_istore_n (m := 70) (pc := 13) (k := 1) (ls' := [.ref a_l0, .int y0]) (by decide +kernel) (by simp only [List.length_cons, List.length_nil]; decide) rfl).trans ?_
  refine (go_aload_n (m := 70) (pc := 14) (k := 0) (by decide +kernel) rfl).trans ?_
  refine (go_aload_n (m := 70) (pc := 15) (k := 0) (by decide +kernel) rfl).trans ?_
  refine (go_getI (m := 70) (pc := 16) (o := 4) (x := 25) (ci := 4) (k := 4) (by decide +kernel) rfl f_4_25 rfl h0).trans ?_
  refine (go_putI (m := 70) (pc := 19) (o := 4) (x := 37) (ci := 4) (k := 8) (by decide +kernel) rfl f_4_37 rfl (by decide +kernel) h0).trans ?_
  refine (go_iload_n (m := 70) (pc := 22) (k := 1) (by decide +kernel) rfl).trans ?_
  exact go_retZ (m := 70) (pc := 23) (by decide +kernel) rfl h1
theorem Text_readCount_E (this : Nat) (w : Wd) (I : MI) (L : ML) (P : MP) : call 70 [.ref this] w I L P = go 70 0 [.ref this, unk] [] w I L P := rfl
theorem Text_readSlots_0 (a_l0 : Nat) (l1 : Value) (w : Wd) (I : MI) (L : ML) (P : MP) (h0 : w.1 a_l0 = some (4, 0)) : go 71 0 [.ref a_l0, l1] [] w I L P = kC (call 72 [.ref a_l0, .int (nI 1), .int (nI 200)] w I L P) (fun v w1 I1 L1 P1 => go 71 8 [.ref a_l0, l1] (v.toList ++ []) w1 I1 L1 P1) := by
  refine (go_aload_n (m := 71) (pc := 0) (k := 0) (by decide +kernel) rfl).trans ?_
  refine (go_ic (m := 71) (pc := 1) (n := 1) (by decide +kernel) ic_1).trans ?_
  refine (go_si (m := 71) (pc := 2) (n := 200) (by decide +kernel) si_200).trans ?_
  exact go_vir (m := 71) (pc := 5) (o := 4) (x := 78) (y := 72) (kd := 0) (b := a_l0) (bs := [.int (nI 1), .int (nI 200)]) (rs := []) (by decide +kernel) rfl rfl c_4_78 (Or.inl rfl) rfl rfl rfl (by decide +kernel) (by simp only [List.length_cons, List.length_nil]; decide) (Nat.le_of_ble_eq_true rfl) h0
theorem Text_readSlots_8 (a_l0 : Nat) (l1 : Value) (y0 : Int32) (w : Wd) (I : MI) (L : ML) (P : MP) (h0 : w.1 a_l0 = some (4, 0)) (h1 : y0 &&& 1 = y0) : go 71 8 [.ref a_l0, l1] [.int y0] w I L P = some (.inl (some (.int y0)), w, (updI I a_l0 8 (I a_l0 4)), L, P) := by
  refine (go_istore_n (m := 71) (pc := 8) (k := 1) (ls' := [.ref a_l0, .int y0]) (by decide +kernel) (by simp only [List.length_cons, List.length_nil]; decide) rfl).trans ?_
  refine (go_aload_n (m := 71) (pc := 9) (k := 0) (by decide +kernel) rfl).trans ?_
  refine (go_aload_n (m := 71) (pc := 10) (k := 0) (by decide +kernel) rfl).trans ?_
  refine (go_getI (m := 71) (pc := 11) (o := 4) (x := 25) (ci := 4) (k := 4) (by decide +kernel) rfl f_4_25 rfl h0).trans ?_
  refine (go_putI (m := 71) (pc := 14) (o := 4) (x := 37) (ci := 4) (k := 8) (by decide +kernel) rfl f_4_37 rfl (by decide +kernel) h0).trans ?_
  refine (go_iload_n (m := 71) (pc := 17) (k := 1) (by decide +kernel) rfl).trans ?_
  exact go_retZ (m := 71) (pc := 18) (by decide +kernel) rfl h1
theorem Text_readSlots_E (this : Nat) (w : Wd) (I : MI) (L : ML) (P : MP) : call 71 [.ref this] w I L P = go 71 0 [.ref this, unk] [] w I L P := rfl
theorem Text_readNumber_0 (a_l0 : Nat) (l1 : Value) (l2 : Value) (l3 : Value) (w : Wd) (I : MI) (L : ML) (P : MP) (h0 : w.1 a_l0 = some (4, 0)) : go 72 0 [.ref a_l0, l1, l2, l3] [] w I L P = go 72 10 [.ref a_l0, l1, (fix1 l2), .int (I a_l0 2)] [] w (updI I a_l0 4 (nI 0)) L P := by
  refine (go_aload_n (m := 72) (pc := 0) (k := 0) (by decide +kernel) rfl).trans ?_
  refine (go_getI (m := 72) (pc := 1) (o := 4) (x := 19) (ci := 4) (k := 2) (by decide +kernel) rfl f_4_19 rfl h0).trans ?_
  refine (go_istore_n (m := 72) (pc := 4) (k := 3) (ls' := [.ref a_l0, l1, (fix1 l2), .int (I a_l0 2)]) (by decide +kernel) (by simp only [List.length_cons, List.length_nil]; decide) rfl).trans ?_
  refine (go_aload_n (m := 72) (pc := 5) (k := 0) (by decide +kernel) rfl).trans ?_
  refine (go_ic (m := 72) (pc := 6) (n := 0) (by decide +kernel) ic_0).trans ?_
  refine (go_putI (m := 72) (pc := 7) (o := 4) (x := 25) (ci := 4) (k := 4) (by decide +kernel) rfl f_4_25 rfl (by decide +kernel) h0).trans ?_
  rfl
theorem Text_readNumber_10 (a_l0 : Nat) (l1 : Value) (l2 : Value) (x_l3 : Int32) (w : Wd) (I : MI) (L : ML) (P : MP) (h0 : w.1 a_l0 = some (4, 0)) : go 72 10 [.ref a_l0, l1, l2, .int x_l3] [] w I L P = if (x_l3 + (nI 3)) ≤ (I a_l0 2) then go 72 62 [.ref a_l0, l1, l2, .int x_l3] [] w I L P else go 72 20 [.ref a_l0, l1, l2, .int x_l3] [] w I L P := by
  refine (go_aload_n (m := 72) (pc := 10) (k := 0) (by decide +kernel) rfl).trans ?_
  refine (go_getI (m := 72) (pc := 11) (o := 4) (x := 19) (ci := 4) (k := 2) (by decide +kernel) rfl f_4_19 rfl h0).trans ?_
  refine (go_iload_n (m := 72) (pc := 14) (k := 3) (by decide +kernel) rfl).trans ?_
  refine (go_ic (m := 72) (pc := 15) (n := 3) (by decide +kernel) ic_3).trans ?_
  refine (go_iadd (m := 72) (pc := 16) (by decide +kernel)).trans ?_
  exact go_icmpge (m := 72) (pc := 17) (off := 45) (t := 62) (by decide +kernel) (by decide)
theorem Text_readNumber_20 (a_l0 : Nat) (l1 : Value) (l2 : Value) (l3 : Value) (w : Wd) (I : MI) (L : ML) (P : MP) (h0 : w.1 a_l0 = some (4, 0)) : go 72 20 [.ref a_l0, l1, l2, l3] [] w I L P = kC (call 78 [.ref a_l0] w I L P) (fun v w1 I1 L1 P1 => go 72 24 [.ref a_l0, l1, l2, l3] (v.toList ++ []) w1 I1 L1 P1) := by
  refine (go_aload_n (m := 72) (pc := 20) (k := 0) (by decide +kernel) rfl).trans ?_
  exact go_vir (m := 72) (pc := 21) (o := 4) (x := 51) (y := 78) (kd := 0) (b := a_l0) (bs := []) (rs := []) (by decide +kernel) rfl rfl c_4_51 (Or.inl rfl) rfl rfl rfl (by decide +kernel) (by simp only [List.length_cons, List.length_nil]; decide) (Nat.le_of_ble_eq_true rfl) h0
theorem Text_readNumber_24 (l0 : Value) (l1 : Value) (l2 : Value) (l3 : Value) (y0 : Int32) (w : Wd) (I : MI) (L : ML) (P : MP)  : go 72 24 [l0, l1, l2, l3] [.int y0] w I L P = kC (call 77 [.int y0] w I L P) (fun v w1 I1 L1 P1 => go 72 27 [l0, l1, l2, l3] (v.toList ++ []) w1 I1 L1 P1) := by
  exact go_sta (m := 72) (pc := 24) (o := 4) (x := 84) (y := 77) (kd := 2) (as := [.int y0]) (rs := []) (by decide +kernel) rfl rfl c_4_84 (Or.inl rfl) rfl rfl rfl (by decide +kernel) (by simp only [List.length_cons, List.length_nil]; decide) (Nat.le_of_ble_eq_true rfl)
theorem Text_readNumber_27 (l0 : Value) (l1 : Value) (l2 : Value) (l3 : Value) (y0 : Int32) (w : Wd) (I : MI) (L : ML) (P : MP)  : go 72 27 [l0, l1, l2, l3] [.int y0] w I L P = if y0 = 0 then go 72 62 [l0, l1, l2, l3] [] w I L P else go 72 30 [l0, l1, l2, l3] [] w I L P := by
  exact go_ifeq (m := 72) (pc := 27) (off := 35) (t := 62) (by decide +kernel) (by decide)
theorem Text_readNumber_30 (a_l0 : Nat) (l1 : Value) (l2 : Value) (l3 : Value) (w : Wd) (I : MI) (L : ML) (P : MP) (h0 : w.1 a_l0 = some (4, 0)) : go 72 30 [.ref a_l0, l1, l2, l3] [] w I L P = kC (call 78 [.ref a_l0] w I L P) (fun v w1 I1 L1 P1 => go 72 42 [.ref a_l0, l1, l2, l3] (v.toList ++ [.int ((nI 10) * (I a_l0 4)), .ref a_l0]) w1 I1 L1 P1) := by
  refine (go_aload_n (m := 72) (pc := 30) (k := 0) (by decide +kernel) rfl).trans ?_
  refine (go_bi (m := 72) (pc := 31) (n := 10) (by decide +kernel) bi_10).trans ?_
  refine (go_aload_n (m := 72) (pc := 33) (k := 0) (by decide +kernel) rfl).trans ?_
  refine (go_getI (m := 72) (pc := 34) (o := 4) (x := 25) (ci := 4) (k := 4) (by decide +kernel) rfl f_4_25 rfl h0).trans ?_
  refine (go_imul (m := 72) (pc := 37) (by decide +kernel)).trans ?_
  refine (go_aload_n (m := 72) (pc := 38) (k := 0) (by decide +kernel) rfl).trans ?_
  exact go_vir (m := 72) (pc := 39) (o := 4) (x := 51) (y := 78) (kd := 0) (b := a_l0) (bs := []) (rs := [.int ((nI 10) * (I a_l0 4)), .ref a_l0]) (by decide +kernel) rfl rfl c_4_51 (Or.inl rfl) rfl rfl rfl (by decide +kernel) (by simp only [List.length_cons, List.length_nil]; decide) (Nat.le_of_ble_eq_true rfl) h0
theorem Text_readNumber_42 (a_l0 : Nat) (l1 : Value) (l2 : Value) (l3 : Value) (a_s0 : Nat) (y1 : Int32) (y2 : Int32) (w : Wd) (I : MI) (L : ML) (P : MP) (h0 : w.1 a_s0 = some (4, 0)) (h1 : w.1 a_l0 = some (4, 0)) : go 72 42 [.ref a_l0, l1, l2, l3] [.int y2, .int y1, .ref a_s0] w I L P = go 72 10 [.ref a_l0, l1, l2, l3] [] w (updI (updI I a_s0 4 ((y1 + y2) - (nI 48))) a_l0 2 (((updI I a_s0 4 ((y1 + y2) - (nI 48))) a_l0 2) + (nI 1))) L P := by
  refine (go_iadd (m := 72) (pc := 42) (by decide +kernel)).trans ?_
  refine (go_bi (m := 72) (pc := 43) (n := 48) (by decide +kernel) bi_48).trans ?_
  refine (go_isub (m := 72) (pc := 45) (by decide +kernel)).trans ?_
  refine (go_putI (m := 72) (pc := 46) (o := 4) (x := 25) (ci := 4) (k := 4) (by decide +kernel) rfl f_4_25 rfl (by decide +kernel) h0).trans ?_
  refine (go_aload_n (m := 72) (pc := 49) (k := 0) (by decide +kernel) rfl).trans ?_
  refine (go_dup (m := 72) (pc := 50) (by decide +kernel) rfl).trans ?_
  refine (go_getI (m := 72) (pc := 51) (o := 4) (x := 19) (ci := 4) (k := 2) (by decide +kernel) rfl f_4_19 rfl h1).trans ?_
  refine (go_ic (m := 72) (pc := 54) (n := 1) (by decide +kernel) ic_1).trans ?_
  refine (go_iadd (m := 72) (pc := 55) (by decide +kernel)).trans ?_
  refine (go_putI (m := 72) (pc := 56) (o := 4) (x := 19) (ci := 4) (k := 2) (by decide +kernel) rfl f_4_19 rfl (by decide +kernel) h1).trans ?_
  refine (go_goto (m := 72) (pc := 59) (off := -49) (t := 10) (by decide +kernel) (by decide)).trans ?_
  rfl
theorem Text_readNumber_62 (a_l0 : Nat) (l1 : Value) (l2 : Value) (x_l3 : Int32) (w : Wd) (I : MI) (L : ML) (P : MP) (h0 : w.1 a_l0 = some (4, 0)) : go 72 62 [.ref a_l0, l1, l2, .int x_l3] [] w I L P = if (I a_l0 2) = x_l3 then go 72 80 [.ref a_l0, l1, l2, .int x_l3] [] w I L P else go 72 70 [.ref a_l0, l1, l2, .int x_l3] [] w I L P := by
  refine (go_aload_n (m := 72) (pc := 62) (k := 0) (by decide +kernel) rfl).trans ?_
  refine (go_getI (m := 72) (pc := 63) (o := 4) (x := 19) (ci := 4) (k := 2) (by decide +kernel) rfl f_4_19 rfl h0).trans ?_
  refine (go_iload_n (m := 72) (pc := 66) (k := 3) (by decide +kernel) rfl).trans ?_
  exact go_icmpeq (m := 72) (pc := 67) (off := 13) (t := 80) (by decide +kernel) (by decide)
theorem Text_readNumber_70 (a_l0 : Nat) (l1 : Value) (l2 : Value) (l3 : Value) (w : Wd) (I : MI) (L : ML) (P : MP) (h0 : w.1 a_l0 = some (4, 0)) : go 72 70 [.ref a_l0, l1, l2, l3] [] w I L P = kC (call 78 [.ref a_l0] w I L P) (fun v w1 I1 L1 P1 => go 72 74 [.ref a_l0, l1, l2, l3] (v.toList ++ []) w1 I1 L1 P1) := by
  refine (go_aload_n (m := 72) (pc := 70) (k := 0) (by decide +kernel) rfl).trans ?_
  exact go_vir (m := 72) (pc := 71) (o := 4) (x := 51) (y := 78) (kd := 0) (b := a_l0) (bs := []) (rs := []) (by decide +kernel) rfl rfl c_4_51 (Or.inl rfl) rfl rfl rfl (by decide +kernel) (by simp only [List.length_cons, List.length_nil]; decide) (Nat.le_of_ble_eq_true rfl) h0
theorem Text_readNumber_74 (l0 : Value) (l1 : Value) (l2 : Value) (l3 : Value) (y0 : Int32) (w : Wd) (I : MI) (L : ML) (P : MP)  : go 72 74 [l0, l1, l2, l3] [.int y0] w I L P = kC (call 77 [.int y0] w I L P) (fun v w1 I1 L1 P1 => go 72 77 [l0, l1, l2, l3] (v.toList ++ []) w1 I1 L1 P1) := by
  exact go_sta (m := 72) (pc := 74) (o := 4) (x := 84) (y := 77) (kd := 2) (as := [.int y0]) (rs := []) (by decide +kernel) rfl rfl c_4_84 (Or.inl rfl) rfl rfl rfl (by decide +kernel) (by simp only [List.length_cons, List.length_nil]; decide) (Nat.le_of_ble_eq_true rfl)
theorem Text_readNumber_77 (l0 : Value) (l1 : Value) (l2 : Value) (l3 : Value) (y0 : Int32) (w : Wd) (I : MI) (L : ML) (P : MP)  : go 72 77 [l0, l1, l2, l3] [.int y0] w I L P = if y0 = 0 then go 72 89 [l0, l1, l2, l3] [] w I L P else go 72 80 [l0, l1, l2, l3] [] w I L P := by
  exact go_ifeq (m := 72) (pc := 77) (off := 12) (t := 89) (by decide +kernel) (by decide)
theorem Text_readNumber_80 (a_l0 : Nat) (l1 : Value) (l2 : Value) (l3 : Value) (w : Wd) (I : MI) (L : ML) (P : MP) (h0 : w.1 a_l0 = some (4, 0)) : go 72 80 [.ref a_l0, l1, l2, l3] [] w I L P = kC (call 76 [.ref a_l0, .int (I a_l0 2)] w I L P) (fun v w1 I1 L1 P1 => go 72 88 [.ref a_l0, l1, l2, l3] (v.toList ++ []) w1 I1 L1 P1) := by
  refine (go_aload_n (m := 72) (pc := 80) (k := 0) (by decide +kernel) rfl).trans ?_
  refine (go_aload_n (m := 72) (pc := 81) (k := 0) (by decide +kernel) rfl).trans ?_
  refine (go_getI (m := 72) (pc := 82) (o := 4) (x := 19) (ci := 4) (k := 2) (by decide +kernel) rfl f_4_19 rfl h0).trans ?_
  exact go_vir (m := 72) (pc := 85) (o := 4) (x := 71) (y := 76) (kd := 0) (b := a_l0) (bs := [.int (I a_l0 2)]) (rs := []) (by decide +kernel) rfl rfl c_4_71 (Or.inl rfl) rfl rfl rfl (by decide +kernel) (by simp only [List.length_cons, List.length_nil]; decide) (Nat.le_of_ble_eq_true rfl) h0
theorem Text_readNumber_88 (l0 : Value) (l1 : Value) (l2 : Value) (l3 : Value) (y0 : Int32) (w : Wd) (I : MI) (L : ML) (P : MP) (h0 : y0 &&& 1 = y0) : go 72 88 [l0, l1, l2, l3] [.int y0] w I L P = some (.inl (some (.int y0)), w, I, L, P) := by
  exact go_retZ (m := 72) (pc := 88) (by decide +kernel) rfl h0
theorem Text_readNumber_89 (a_l0 : Nat) (x_l1 : Int32) (l2 : Value) (l3 : Value) (w : Wd) (I : MI) (L : ML) (P : MP) (h0 : w.1 a_l0 = some (4, 0)) : go 72 89 [.ref a_l0, .int x_l1, l2, l3] [] w I L P = if (I a_l0 4) < x_l1 then go 72 105 [.ref a_l0, .int x_l1, l2, l3] [] w I L P else go 72 97 [.ref a_l0, .int x_l1, l2, l3] [] w I L P := by
  refine (go_aload_n (m := 72) (pc := 89) (k := 0) (by decide +kernel) rfl).trans ?_
  refine (go_getI (m := 72) (pc := 90) (o := 4) (x := 25) (ci := 4) (k := 4) (by decide +kernel) rfl f_4_25 rfl h0).trans ?_
  refine (go_iload_n (m := 72) (pc := 93) (k := 1) (by decide +kernel) rfl).trans ?_
  exact go_icmplt (m := 72) (pc := 94) (off := 11) (t := 105) (by decide +kernel) (by decide)
theorem Text_readNumber_97 (a_l0 : Nat) (l1 : Value) (x_l2 : Int32) (l3 : Value) (w : Wd) (I : MI) (L : ML) (P : MP) (h0 : w.1 a_l0 = some (4, 0)) : go 72 97 [.ref a_l0, l1, .int x_l2, l3] [] w I L P = if (I a_l0 4) ≤ x_l2 then go 72 111 [.ref a_l0, l1, .int x_l2, l3] [] w I L P else go 72 105 [.ref a_l0, l1, .int x_l2, l3] [] w I L P := by
  refine (go_aload_n (m := 72) (pc := 97) (k := 0) (by decide +kernel) rfl).trans ?_
  refine (go_getI (m := 72) (pc := 98) (o := 4) (x := 25) (ci := 4) (k := 4) (by decide +kernel) rfl f_4_25 rfl h0).trans ?_
  refine (go_iload_n (m := 72) (pc := 101) (k := 2) (by decide +kernel) rfl).trans ?_
  exact go_icmple (m := 72) (pc := 102) (off := 9) (t := 111) (by decide +kernel) (by decide)
theorem Text_readNumber_105 (a_l0 : Nat) (l1 : Value) (l2 : Value) (x_l3 : Int32) (w : Wd) (I : MI) (L : ML) (P : MP) (h0 : w.1 a_l0 = some (4, 0)) : go 72 105 [.ref a_l0, l1, l2, .int x_l3] [] w I L P = kC (call 76 [.ref a_l0, .int x_l3] w I L P) (fun v w1 I1 L1 P1 => go 72 110 [.ref a_l0, l1, l2, .int x_l3] (v.toList ++ []) w1 I1 L1 P1) := by
  refine (go_aload_n (m := 72) (pc := 105) (k := 0) (by decide +kernel) rfl).trans ?_
  refine (go_iload_n (m := 72) (pc := 106) (k := 3) (by decide +kernel) rfl).trans ?_
  exact go_vir (m := 72) (pc := 107) (o := 4) (x := 71) (y := 76) (kd := 0) (b := a_l0) (bs := [.int x_l3]) (rs := []) (by decide +kernel) rfl rfl c_4_71 (Or.inl rfl) rfl rfl rfl (by decide +kernel) (by simp only [List.length_cons, List.length_nil]; decide) (Nat.le_of_ble_eq_true rfl) h0
theorem Text_readNumber_110 (l0 : Value) (l1 : Value) (l2 : Value) (l3 : Value) (y0 : Int32) (w : Wd) (I : MI) (L : ML) (P : MP) (h0 : y0 &&& 1 = y0) : go 72 110 [l0, l1, l2, l3] [.int y0] w I L P = some (.inl (some (.int y0)), w, I, L, P) := by
  exact go_retZ (m := 72) (pc := 110) (by decide +kernel) rfl h0
theorem Text_readNumber_111 (l0 : Value) (l1 : Value) (l2 : Value) (l3 : Value) (w : Wd) (I : MI) (L : ML) (P : MP) (h0 : (nI 1) &&& 1 = (nI 1)) : go 72 111 [l0, l1, l2, l3] [] w I L P = some (.inl (some (.int (nI 1))), w, I, L, P) := by
  refine (go_ic (m := 72) (pc := 111) (n := 1) (by decide +kernel) ic_1).trans ?_
  exact go_retZ (m := 72) (pc := 112) (by decide +kernel) rfl h0
theorem Text_readNumber_E (this : Nat) (p0 : Int32) (p1 : Int32) (w : Wd) (I : MI) (L : ML) (P : MP) : call 72 [.ref this, .int p0, .int p1] w I L P = go 72 0 [.ref this, .int p0, .int p1, unk] [] w I L P := rfl
theorem Text_readDigit_0 (a_l0 : Nat) (l1 : Value) (l2 : Value) (l3 : Value) (w : Wd) (I : MI) (L : ML) (P : MP) (h0 : w.1 a_l0 = some (4, 0)) : go 73 0 [.ref a_l0, l1, l2, l3] [] w I L P = kC (call 78 [.ref a_l0] w I L P) (fun v w1 I1 L1 P1 => go 73 4 [.ref a_l0, l1, l2, l3] (v.toList ++ []) w1 I1 L1 P1) := by
  refine (go_aload_n (m := 73) (pc := 0) (k := 0) (by decide +kernel) rfl).trans ?_
  exact go_vir (m := 73) (pc := 1) (o := 4) (x := 51) (y := 78) (kd := 0) (b := a_l0) (bs := []) (rs := []) (by decide +kernel) rfl rfl c_4_51 (Or.inl rfl) rfl rfl rfl (by decide +kernel) (by simp only [List.length_cons, List.length_nil]; decide) (Nat.le_of_ble_eq_true rfl) h0
theorem Text_readDigit_4 (l0 : Value) (x_l1 : Int32) (l2 : Value) (l3 : Value) (y0 : Int32) (w : Wd) (I : MI) (L : ML) (P : MP)  : go 73 4 [l0, .int x_l1, l2, l3] [.int y0] w I L P = if y0 < x_l1 then go 73 15 [l0, .int x_l1, (fix1 l2), .int y0] [] w I L P else go 73 10 [l0, .int x_l1, (fix1 l2), .int y0] [] w I L P := by
  refine (go_istore_n (m := 73) (pc := 4) (k := 3) (ls' := [l0, .int x_l1, (fix1 l2), .int y0]) (by decide +kernel) (by simp only [List.length_cons, List.length_nil]; decide) rfl).trans ?_
  refine (go_iload_n (m := 73) (pc := 5) (k := 3) (by decide +kernel) rfl).trans ?_
  refine (go_iload_n (m := 73) (pc := 6) (k := 1) (by decide +kernel) rfl).trans ?_
  exact go_icmplt (m := 73) (pc := 7) (off := 8) (t := 15) (by decide +kernel) (by decide)
theorem Text_readDigit_10 (l0 : Value) (l1 : Value) (x_l2 : Int32) (x_l3 : Int32) (w : Wd) (I : MI) (L : ML) (P : MP)  : go 73 10 [l0, l1, .int x_l2, .int x_l3] [] w I L P = if x_l3 ≤ x_l2 then go 73 24 [l0, l1, .int x_l2, .int x_l3] [] w I L P else go 73 15 [l0, l1, .int x_l2, .int x_l3] [] w I L P := by
  refine (go_iload_n (m := 73) (pc := 10) (k := 3) (by decide +kernel) rfl).trans ?_
  refine (go_iload_n (m := 73) (pc := 11) (k := 2) (by decide +kernel) rfl).trans ?_
  exact go_icmple (m := 73) (pc := 12) (off := 12) (t := 24) (by decide +kernel) (by decide)
theorem Text_readDigit_15 (a_l0 : Nat) (l1 : Value) (l2 : Value) (l3 : Value) (w : Wd) (I : MI) (L : ML) (P : MP) (h0 : w.1 a_l0 = some (4, 0)) : go 73 15 [.ref a_l0, l1, l2, l3] [] w I L P = kC (call 76 [.ref a_l0, .int (I a_l0 2)] w I L P) (fun v w1 I1 L1 P1 => go 73 23 [.ref a_l0, l1, l2, l3] (v.toList ++ []) w1 I1 L1 P1) := by
  refine (go_aload_n (m := 73) (pc := 15) (k := 0) (by decide +kernel) rfl).trans ?_
  refine (go_aload_n (m := 73) (pc := 16) (k := 0) (by decide +kernel) rfl).trans ?_
  refine (go_getI (m := 73) (pc := 17) (o := 4) (x := 19) (ci := 4) (k := 2) (by decide +kernel) rfl f_4_19 rfl h0).trans ?_
  exact go_vir (m := 73) (pc := 20) (o := 4) (x := 71) (y := 76) (kd := 0) (b := a_l0) (bs := [.int (I a_l0 2)]) (rs := []) (by decide +kernel) rfl rfl c_4_71 (Or.inl rfl) rfl rfl rfl (by decide +kernel) (by simp only [List.length_cons, List.length_nil]; decide) (Nat.le_of_ble_eq_true rfl) h0
theorem Text_readDigit_23 (l0 : Value) (l1 : Value) (l2 : Value) (l3 : Value) (y0 : Int32) (w : Wd) (I : MI) (L : ML) (P : MP) (h0 : y0 &&& 1 = y0) : go 73 23 [l0, l1, l2, l3] [.int y0] w I L P = some (.inl (some (.int y0)), w, I, L, P) := by
  exact go_retZ (m := 73) (pc := 23) (by decide +kernel) rfl h0
theorem Text_readDigit_24 (a_l0 : Nat) (l1 : Value) (l2 : Value) (x_l3 : Int32) (w : Wd) (I : MI) (L : ML) (P : MP) (h0 : w.1 a_l0 = some (4, 0)) (h1 : (nI 1) &&& 1 = (nI 1)) : go 73 24 [.ref a_l0, l1, l2, .int x_l3] [] w I L P = some (.inl (some (.int (nI 1))), w, (updI (updI I a_l0 4 (x_l3 - (nI 48))) a_l0 2 (((updI I a_l0 4 (x_l3 - (nI 48))) a_l0 2) + (nI 1))), L, P) := by
  refine (go_aload_n (m := 73) (pc := 24) (k := 0) (by decide +kernel) rfl).trans ?_
  refine (go_iload_n (m := 73) (pc := 25) (k := 3) (by decide +kernel) rfl).trans ?_
  refine (go_bi (m := 73) (pc := 26) (n := 48) (by decide +kernel) bi_48).trans ?_
  refine (go_isub (m := 73) (pc := 28) (by decide +kernel)).trans ?_
  refine (go_putI (m := 73) (pc := 29) (o := 4) (x := 25) (ci := 4) (k := 4) (by decide +kernel) rfl f_4_25 rfl (by decide +kernel) h0).trans ?_
  refine (go_aload_n (m := 73) (pc := 32) (k := 0) (by decide +kernel) rfl).trans ?_
  refine (go_dup (m := 73) (pc := 33) (by decide +kernel) rfl).trans ?_
  refine (go_getI (m := 73) (pc := 34) (o := 4) (x := 19) (ci := 4) (k := 2) (by decide +kernel) rfl f_4_19 rfl h0).trans ?_
  refine (go_ic (m := 73) (pc := 37) (n := 1) (by decide +kernel) ic_1).trans ?_
  refine (go_iadd (m := 73) (pc := 38) (by decide +kernel)).trans ?_
  refine (go_putI (m := 73) (pc := 39) (o := 4) (x := 19) (ci := 4) (k := 2) (by decide +kernel) rfl f_4_19 rfl (by decide +kernel) h0).trans ?_
  refine (go_ic (m := 73) (pc := 42) (n := 1) (by decide +kernel) ic_1).trans ?_
  exact go_retZ (m := 73) (pc := 43) (by decide +kernel) rfl h1
theorem Text_readDigit_E (this : Nat) (p0 : Int32) (p1 : Int32) (w : Wd) (I : MI) (L : ML) (P : MP) : call 73 [.ref this, .int p0, .int p1] w I L P = go 73 0 [.ref this, .int p0, .int p1, unk] [] w I L P := rfl
theorem Text_take_0 (a_l0 : Nat) (x_l1 : Int32) (w : Wd) (I : MI) (L : ML) (P : MP) (h0 : w.1 a_l0 = some (4, 0)) : go 74 0 [.ref a_l0, .int x_l1] [] w I L P = kC (call 75 [.ref a_l0, .int x_l1] w I L P) (fun v w1 I1 L1 P1 => go 74 5 [.ref a_l0, .int x_l1] (v.toList ++ []) w1 I1 L1 P1) := by
  refine (go_aload_n (m := 74) (pc := 0) (k := 0) (by decide +kernel) rfl).trans ?_
  refine (go_iload_n (m := 74) (pc := 1) (k := 1) (by decide +kernel) rfl).trans ?_
  exact go_vir (m := 74) (pc := 2) (o := 4) (x := 81) (y := 75) (kd := 0) (b := a_l0) (bs := [.int x_l1]) (rs := []) (by decide +kernel) rfl rfl c_4_81 (Or.inl rfl) rfl rfl rfl (by decide +kernel) (by simp only [List.length_cons, List.length_nil]; decide) (Nat.le_of_ble_eq_true rfl) h0
theorem Text_take_5 (l0 : Value) (l1 : Value) (y0 : Int32) (w : Wd) (I : MI) (L : ML) (P : MP)  : go 74 5 [l0, l1] [.int y0] w I L P = if y0 ≠ 0 then go 74 19 [l0, l1] [] w I L P else go 74 8 [l0, l1] [] w I L P := by
  exact go_ifne (m := 74) (pc := 5) (off := 14) (t := 19) (by decide +kernel) (by decide)
theorem Text_take_8 (a_l0 : Nat) (l1 : Value) (w : Wd) (I : MI) (L : ML) (P : MP) (h0 : w.1 a_l0 = some (4, 0)) : go 74 8 [.ref a_l0, l1] [] w I L P = kC (call 76 [.ref a_l0, .int (I a_l0 2)] w I L P) (fun v w1 I1 L1 P1 => go 74 16 [.ref a_l0, l1] (v.toList ++ []) w1 I1 L1 P1) := by
  refine (go_aload_n (m := 74) (pc := 8) (k := 0) (by decide +kernel) rfl).trans ?_
  refine (go_aload_n (m := 74) (pc := 9) (k := 0) (by decide +kernel) rfl).trans ?_
  refine (go_getI (m := 74) (pc := 10) (o := 4) (x := 19) (ci := 4) (k := 2) (by decide +kernel) rfl f_4_19 rfl h0).trans ?_
  exact go_vir (m := 74) (pc := 13) (o := 4) (x := 71) (y := 76) (kd := 0) (b := a_l0) (bs := [.int (I a_l0 2)]) (rs := []) (by decide +kernel) rfl rfl c_4_71 (Or.inl rfl) rfl rfl rfl (by decide +kernel) (by simp only [List.length_cons, List.length_nil]; decide) (Nat.le_of_ble_eq_true rfl) h0
theorem Text_take_16 (l0 : Value) (l1 : Value) (y0 : Int32) (w : Wd) (I : MI) (L : ML) (P : MP)  : go 74 16 [l0, l1] [.int y0] w I L P = if y0 = 0 then go 74 23 [l0, l1] [] w I L P else go 74 19 [l0, l1] [] w I L P := by
  exact go_ifeq (m := 74) (pc := 16) (off := 7) (t := 23) (by decide +kernel) (by decide)
theorem Text_take_19 (l0 : Value) (l1 : Value) (w : Wd) (I : MI) (L : ML) (P : MP)  : go 74 19 [l0, l1] [] w I L P = go 74 24 [l0, l1] [.int (nI 1)] w I L P := by
  refine (go_ic (m := 74) (pc := 19) (n := 1) (by decide +kernel) ic_1).trans ?_
  refine (go_goto (m := 74) (pc := 20) (off := 4) (t := 24) (by decide +kernel) (by decide)).trans ?_
  rfl
theorem Text_take_23 (l0 : Value) (l1 : Value) (w : Wd) (I : MI) (L : ML) (P : MP)  : go 74 23 [l0, l1] [] w I L P = go 74 24 [l0, l1] [.int (nI 0)] w I L P := by
  refine (go_ic (m := 74) (pc := 23) (n := 0) (by decide +kernel) ic_0).trans ?_
  rfl
theorem Text_take_24 (l0 : Value) (l1 : Value) (y0 : Int32) (w : Wd) (I : MI) (L : ML) (P : MP) (h0 : y0 &&& 1 = y0) : go 74 24 [l0, l1] [.int y0] w I L P = some (.inl (some (.int y0)), w, I, L, P) := by
  exact go_retZ (m := 74) (pc := 24) (by decide +kernel) rfl h0
theorem Text_take_E (this : Nat) (p0 : Int32) (w : Wd) (I : MI) (L : ML) (P : MP) : call 74 [.ref this, .int p0] w I L P = go 74 0 [.ref this, .int p0] [] w I L P := rfl
theorem Text_takeIfThere_0 (a_l0 : Nat) (l1 : Value) (w : Wd) (I : MI) (L : ML) (P : MP) (h0 : w.1 a_l0 = some (4, 0)) : go 75 0 [.ref a_l0, l1] [] w I L P = kC (call 78 [.ref a_l0] w I L P) (fun v w1 I1 L1 P1 => go 75 4 [.ref a_l0, l1] (v.toList ++ []) w1 I1 L1 P1) := by
  refine (go_aload_n (m := 75) (pc := 0) (k := 0) (by decide +kernel) rfl).trans ?_
  exact go_vir (m := 75) (pc := 1) (o := 4) (x := 51) (y := 78) (kd := 0) (b := a_l0) (bs := []) (rs := []) (by decide +kernel) rfl rfl c_4_51 (Or.inl rfl) rfl rfl rfl (by decide +kernel) (by simp only [List.length_cons, List.length_nil]; decide) (Nat.le_of_ble_eq_true rfl) h0
theorem Text_takeIfThere_4 (l0 : Value) (x_l1 : Int32) (y0 : Int32) (w : Wd) (I : MI) (L : ML) (P : MP)  : go 75 4 [l0, .int x_l1] [.int y0] w I L P = if y0 = x_l1 then go 75 10 [l0, .int x_l1] [] w I L P else go 75 8 [l0, .int x_l1] [] w I L P := by
  refine (go_iload_n (m := 75) (pc := 4) (k := 1) (by decide +kernel) rfl).trans ?_
  exact go_icmpeq (m := 75) (pc := 5) (off := 5) (t := 10) (by decide +kernel) (by decide)
theorem Text_takeIfThere_8 (l0 : Value) (l1 : Value) (w : Wd) (I : MI) (L : ML) (P : MP) (h0 : (nI 0) &&& 1 = (nI 0)) : go 75 8 [l0, l1] [] w I L P = some (.inl (some (.int (nI 0))), w, I, L, P) := by
  refine (go_ic (m := 75) (pc := 8) (n := 0) (by decide +kernel) ic_0).trans ?_
  exact go_retZ (m := 75) (pc := 9) (by decide +kernel) rfl h0
theorem Text_takeIfThere_10 (a_l0 : Nat) (l1 : Value) (w : Wd) (I : MI) (L : ML) (P : MP) (h0 : w.1 a_l0 = some (4, 0)) (h1 : (nI 1) &&& 1 = (nI 1)) : go 75 10 [.ref a_l0, l1] [] w I L P = some (.inl (some (.int (nI 1))), w, (updI I a_l0 2 ((I a_l0 2) + (nI 1))), L, P) := by
  refine (go_aload_n (m := 75) (pc := 10) (k := 0) (by decide +kernel) rfl).trans ?_
  refine (go_dup (m := 75) (pc := 11) (by decide +kernel) rfl).trans ?_
  refine (go_getI (m := 75) (pc := 12) (o := 4) (x := 19) (ci := 4) (k := 2) (by decide +kernel) rfl f_4_19 rfl h0).trans ?_
  refine (go_ic (m := 75) (pc := 15) (n := 1) (by decide +kernel) ic_1).trans ?_
  refine (go_iadd (m := 75) (pc := 16) (by decide +kernel)).trans ?_
  refine (go_putI (m := 75) (pc := 17) (o := 4) (x := 19) (ci := 4) (k := 2) (by decide +kernel) rfl f_4_19 rfl (by decide +kernel) h0).trans ?_
  refine (go_ic (m := 75) (pc := 20) (n := 1) (by decide +kernel) ic_1).trans ?_
  exact go_retZ (m := 75) (pc := 21) (by decide +kernel) rfl h1
theorem Text_takeIfThere_E (this : Nat) (p0 : Int32) (w : Wd) (I : MI) (L : ML) (P : MP) : call 75 [.ref this, .int p0] w I L P = go 75 0 [.ref this, .int p0] [] w I L P := rfl
theorem Text_fail_0 (a_l0 : Nat) (x_l1 : Int32) (w : Wd) (I : MI) (L : ML) (P : MP) (h0 : w.1 a_l0 = some (4, 0)) (h1 : (nI 0) &&& 1 = (nI 0)) : go 76 0 [.ref a_l0, .int x_l1] [] w I L P = some (.inl (some (.int (nI 0))), w, (updI I a_l0 3 x_l1), L, P) := by
  refine (go_aload_n (m := 76) (pc := 0) (k := 0) (by decide +kernel) rfl).trans ?_
  refine (go_iload_n (m := 76) (pc := 1) (k := 1) (by decide +kernel) rfl).trans ?_
  refine (go_putI (m := 76) (pc := 2) (o := 4) (x := 22) (ci := 4) (k := 3) (by decide +kernel) rfl f_4_22 rfl (by decide +kernel) h0).trans ?_
  refine (go_ic (m := 76) (pc := 5) (n := 0) (by decide +kernel) ic_0).trans ?_
  exact go_retZ (m := 76) (pc := 6) (by decide +kernel) rfl h1
theorem Text_fail_E (this : Nat) (p0 : Int32) (w : Wd) (I : MI) (L : ML) (P : MP) : call 76 [.ref this, .int p0] w I L P = go 76 0 [.ref this, .int p0] [] w I L P := rfl
theorem Text_isDigit_0 (x_l0 : Int32) (w : Wd) (I : MI) (L : ML) (P : MP)  : go 77 0 [.int x_l0] [] w I L P = if x_l0 < (nI 48) then go 77 16 [.int x_l0] [] w I L P else go 77 6 [.int x_l0] [] w I L P := by
  refine (go_iload_n (m := 77) (pc := 0) (k := 0) (by decide +kernel) rfl).trans ?_
  refine (go_bi (m := 77) (pc := 1) (n := 48) (by decide +kernel) bi_48).trans ?_
  exact go_icmplt (m := 77) (pc := 3) (off := 13) (t := 16) (by decide +kernel) (by decide)
theorem Text_isDigit_6 (x_l0 : Int32) (w : Wd) (I : MI) (L : ML) (P : MP)  : go 77 6 [.int x_l0] [] w I L P = if (nI 57) < x_l0 then go 77 16 [.int x_l0] [] w I L P else go 77 12 [.int x_l0] [] w I L P := by
  refine (go_iload_n (m := 77) (pc := 6) (k := 0) (by decide +kernel) rfl).trans ?_
  refine (go_bi (m := 77) (pc := 7) (n := 57) (by decide +kernel) bi_57).trans ?_
  exact go_icmpgt (m := 77) (pc := 9) (off := 7) (t := 16) (by decide +kernel) (by decide)
theorem Text_isDigit_12 (l0 : Value) (w : Wd) (I : MI) (L : ML) (P : MP)  : go 77 12 [l0] [] w I L P = go 77 17 [l0] [.int (nI 1)] w I L P := by
  refine (go_ic (m := 77) (pc := 12) (n := 1) (by decide +kernel) ic_1).trans ?_
  refine (go_goto (m := 77) (pc := 13) (off := 4) (t := 17) (by decide +kernel) (by decide)).trans ?_
  rfl
theorem Text_isDigit_16 (l0 : Value) (w : Wd) (I : MI) (L : ML) (P : MP)  : go 77 16 [l0] [] w I L P = go 77 17 [l0] [.int (nI 0)] w I L P := by
  refine (go_ic (m := 77) (pc := 16) (n := 0) (by decide +kernel) ic_0).trans ?_
  rfl
theorem Text_isDigit_17 (l0 : Value) (y0 : Int32) (w : Wd) (I : MI) (L : ML) (P : MP) (h0 : y0 &&& 1 = y0) : go 77 17 [l0] [.int y0] w I L P = some (.inl (some (.int y0)), w, I, L, P) := by
  exact go_retZ (m := 77) (pc := 17) (by decide +kernel) rfl h0
theorem Text_isDigit_E (p0 : Int32) (w : Wd) (I : MI) (L : ML) (P : MP) : call 77 [.int p0] w I L P = go 77 0 [.int p0] [] w I L P := rfl
theorem Text_nextByte_0 (a_l0 : Nat) (w : Wd) (I : MI) (L : ML) (P : MP) (h0 : w.1 a_l0 = some (4, 0)) : go 78 0 [.ref a_l0] [] w I L P = if (I a_l0 2) < 0 then go 78 42 [.ref a_l0] [] w I L P else go 78 7 [.ref a_l0] [] w I L P := by
  refine (go_aload_n (m := 78) (pc := 0) (k := 0) (by decide +kernel) rfl).trans ?_
  refine (go_getI (m := 78) (pc := 1) (o := 4) (x := 19) (ci := 4) (k := 2) (by decide +kernel) rfl f_4_19 rfl h0).trans ?_
  exact go_iflt (m := 78) (pc := 4) (off := 38) (t := 42) (by decide +kernel) (by decide)
theorem Text_nextByte_7 (a_l0 : Nat) (w : Wd) (I : MI) (L : ML) (P : MP) (h0 : w.1 a_l0 = some (4, 0)) : go 78 7 [.ref a_l0] [] w I L P = if (I a_l0 1) ≤ (I a_l0 2) then go 78 42 [.ref a_l0] [] w I L P else go 78 18 [.ref a_l0] [] w I L P := by
  refine (go_aload_n (m := 78) (pc := 7) (k := 0) (by decide +kernel) rfl).trans ?_
  refine (go_getI (m := 78) (pc := 8) (o := 4) (x := 19) (ci := 4) (k := 2) (by decide +kernel) rfl f_4_19 rfl h0).trans ?_
  refine (go_aload_n (m := 78) (pc := 11) (k := 0) (by decide +kernel) rfl).trans ?_
  refine (go_getI (m := 78) (pc := 12) (o := 4) (x := 15) (ci := 4) (k := 1) (by decide +kernel) rfl f_4_15 rfl h0).trans ?_
  exact go_icmpge (m := 78) (pc := 15) (off := 27) (t := 42) (by decide +kernel) (by decide)
theorem Text_nextByte_18 (a_l0 : Nat) (w : Wd) (I : MI) (L : ML) (P : MP) (h0 : w.1 a_l0 = some (4, 0)) : go 78 18 [.ref a_l0] [] w I L P = go 78 26 [.ref a_l0] [(va_rf (P a_l0 0)), .int (I a_l0 2)] w I L P := by
  refine (go_aload_n (m := 78) (pc := 18) (k := 0) (by decide +kernel) rfl).trans ?_
  refine (go_getI (m := 78) (pc := 19) (o := 4) (x := 19) (ci := 4) (k := 2) (by decide +kernel) rfl f_4_19 rfl h0).trans ?_
  refine (go_aload_n (m := 78) (pc := 22) (k := 0) (by decide +kernel) rfl).trans ?_
  refine (go_getR (m := 78) (pc := 23) (o := 4) (x := 9) (ci := 4) (k := 0) (by decide +kernel) rfl f_4_9 rfl h0).trans ?_
  rfl
theorem Text_nextByte_26 (l0 : Value) (y0 : Int32) (a_s1 : Nat) (w : Wd) (I : MI) (L : ML) (P : MP) (h0 : isAr w a_s1 8) : go 78 26 [l0] [.ref a_s1, .int y0] w I L P = if (alen w a_s1) ≤ y0 then go 78 42 [l0] [] w I L P else go 78 30 [l0] [] w I L P := by
  refine (go_alen8 (m := 78) (pc := 26) (by decide +kernel) h0).trans ?_
  exact go_icmpge (m := 78) (pc := 27) (off := 15) (t := 42) (by decide +kernel) (by decide)
theorem Text_nextByte_30 (a_l0 : Nat) (w : Wd) (I : MI) (L : ML) (P : MP) (h0 : w.1 a_l0 = some (4, 0)) : go 78 30 [.ref a_l0] [] w I L P = go 78 34 [.ref a_l0] [(va_rf (P a_l0 0))] w I L P := by
  refine (go_aload_n (m := 78) (pc := 30) (k := 0) (by decide +kernel) rfl).trans ?_
  refine (go_getR (m := 78) (pc := 31) (o := 4) (x := 9) (ci := 4) (k := 0) (by decide +kernel) rfl f_4_9 rfl h0).trans ?_
  rfl
theorem Text_nextByte_34 (a_l0 : Nat) (a_s0 : Nat) (w : Wd) (I : MI) (L : ML) (P : MP) (h0 : w.1 a_l0 = some (4, 0)) (h1 : inA w a_s0 8 (I a_l0 2)) : go 78 34 [.ref a_l0] [.ref a_s0] w I L P = go 78 43 [.ref a_l0] [.int (I a_s0 (Int32.toNatClampNeg (I a_l0 2)))] w I L P := by
  refine (go_aload_n (m := 78) (pc := 34) (k := 0) (by decide +kernel) rfl).trans ?_
  refine (go_getI (m := 78) (pc := 35) (o := 4) (x := 19) (ci := 4) (k := 2) (by decide +kernel) rfl f_4_19 rfl h0).trans ?_
  refine (go_iald (m := 78) (pc := 38) (by decide +kernel) h1).trans ?_
  refine (go_goto (m := 78) (pc := 39) (off := 4) (t := 43) (by decide +kernel) (by decide)).trans ?_
  rfl
theorem Text_nextByte_42 (l0 : Value) (w : Wd) (I : MI) (L : ML) (P : MP)  : go 78 42 [l0] [] w I L P = go 78 43 [l0] [.int (-1)] w I L P := by
  refine (go_ic (m := 78) (pc := 42) (n := -1) (by decide +kernel) ic_m1).trans ?_
  rfl
theorem Text_nextByte_43 (l0 : Value) (y0 : Int32) (w : Wd) (I : MI) (L : ML) (P : MP)  : go 78 43 [l0] [.int y0] w I L P = some (.inl (some (.int y0)), w, I, L, P) := by
  exact go_retI (m := 78) (pc := 43) (by decide +kernel) rfl
theorem Text_nextByte_E (this : Nat) (w : Wd) (I : MI) (L : ML) (P : MP) : call 78 [.ref this] w I L P = go 78 0 [.ref this] [] w I L P := rfl
