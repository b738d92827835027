theorem Message_init_0 (a_l0 : Nat) (w : Wd) (I : MI) (L : ML) (P : MP) (h0 : w.1 a_l0 = some (3, 0)) (h1 : (nI 0) &&& 1 = (nI 0)) : go 0 0 [.ref a_l0] [] w I L P = some (.inl none, w, (updI (updI (updI (updI I a_l0 0 (nI 0)) a_l0 1 (nI 0)) a_l0 2 (nI 1)) a_l0 3 (nI 0)), (updL L a_l0 4 0), P) := by
  refine (go_aload_n (m := 0) (pc := 0) (k := 0) (by decide +kernel) rfl).trans ?_
  refine (go_obj (m := 0) (pc := 1) (o := 3) (x := 3) (y := 999) (by decide +kernel) rfl (by decide +kernel) (by decide +kernel)).trans ?_
  refine (go_aload_n (m := 0) (pc := 4) (k := 0) (by decide +kernel) rfl).trans ?_
  refine (go_ic (m := 0) (pc := 5) (n := 0) (by decide +kernel) ic_0).trans ?_
  refine (go_putZ (m := 0) (pc := 6) (o := 3) (x := 9) (ci := 3) (k := 0) (by decide +kernel) rfl f_3_9 rfl (by decide +kernel) h1 h0).trans ?_
  refine (go_aload_n (m := 0) (pc := 9) (k := 0) (by decide +kernel) rfl).trans ?_
  refine (go_ic (m := 0) (pc := 10) (n := 0) (by decide +kernel) ic_0).trans ?_
  refine (go_putI (m := 0) (pc := 11) (o := 3) (x := 15) (ci := 3) (k := 1) (by decide +kernel) rfl f_3_15 rfl (by decide +kernel) h0).trans ?_
  refine (go_aload_n (m := 0) (pc := 14) (k := 0) (by decide +kernel) rfl).trans ?_
  refine (go_ic (m := 0) (pc := 15) (n := 1) (by decide +kernel) ic_1).trans ?_
  refine (go_putI (m := 0) (pc := 16) (o := 3) (x := 19) (ci := 3) (k := 2) (by decide +kernel) rfl f_3_19 rfl (by decide +kernel) h0).trans ?_
  refine (go_aload_n (m := 0) (pc := 19) (k := 0) (by decide +kernel) rfl).trans ?_
  refine (go_ic (m := 0) (pc := 20) (n := 0) (by decide +kernel) ic_0).trans ?_
  refine (go_putI (m := 0) (pc := 21) (o := 3) (x := 22) (ci := 3) (k := 3) (by decide +kernel) rfl f_3_22 rfl (by decide +kernel) h0).trans ?_
  refine (go_aload_n (m := 0) (pc := 24) (k := 0) (by decide +kernel) rfl).trans ?_
  refine (go_lc (m := 0) (pc := 25) (n := 0) (v := 0) (by decide +kernel) rfl).trans ?_
  refine (go_putJ (m := 0) (pc := 26) (o := 3) (x := 25) (ci := 3) (k := 4) (by decide +kernel) rfl f_3_25 rfl (by decide +kernel) h0).trans ?_
  exact go_retV (m := 0) (pc := 29) (by decide +kernel) rfl
theorem Message_init_E (this : Nat) (w : Wd) (I : MI) (L : ML) (P : MP) : call 0 [.ref this] w I L P = go 0 0 [.ref this] [] w I L P := rfl
theorem Message_copyFrom_0 (a_l0 : Nat) (a_l1 : Nat) (w : Wd) (I : MI) (L : ML) (P : MP) (h0 : w.1 a_l1 = some (3, 0)) (h1 : w.1 a_l0 = some (3, 0)) (h2 : (I a_l1 0 &&& 1) &&& 1 = (I a_l1 0 &&& 1)) : go 1 0 [.ref a_l0, .ref a_l1] [] w I L P = some (.inl none, w, (updI (updI (updI (updI I a_l0 0 (I a_l1 0 &&& 1)) a_l0 1 ((updI I a_l0 0 (I a_l1 0 &&& 1)) a_l1 1)) a_l0 2 ((updI (updI I a_l0 0 (I a_l1 0 &&& 1)) a_l0 1 ((updI I a_l0 0 (I a_l1 0 &&& 1)) a_l1 1)) a_l1 2)) a_l0 3 ((updI (updI (updI I a_l0 0 (I a_l1 0 &&& 1)) a_l0 1 ((updI I a_l0 0 (I a_l1 0 &&& 1)) a_l1 1)) a_l0 2 ((updI (updI I a_l0 0 (I a_l1 0 &&& 1)) a_l0 1 ((updI I a_l0 0 (I a_l1 0 &&& 1)) a_l1 1)) a_l1 2)) a_l1 3)), (updL L a_l0 4 (L a_l1 4)), P) := by
  refine (go_aload_n (m := 1) (pc := 0) (k := 0) (by decide +kernel) rfl).trans ?_
  refine (go_aload_n (m := 1) (pc := 1) (k := 1) (by decide +kernel) rfl).trans ?_
  refine (go_getZ (m := 1) (pc := 2) (o := 3) (x := 9) (ci := 3) (k := 0) (by decide +kernel) rfl f_3_9 rfl h0).trans ?_
  refine (go_putZ (m := 1) (pc := 5) (o := 3) (x := 9) (ci := 3) (k := 0) (by decide +kernel) rfl f_3_9 rfl (by decide +kernel) h2 h1).trans ?_
  refine (go_aload_n (m := 1) (pc := 8) (k := 0) (by decide +kernel) rfl).trans ?_
  refine (go_aload_n (m := 1) (pc := 9) (k := 1) (by decide +kernel) rfl).trans ?_
  refine (go_getI (m := 1) (pc := 10) (o := 3) (x := 15) (ci := 3) (k := 1) (by decide +kernel) rfl f_3_15 rfl h0).trans ?_
  refine (go_putI (m := 1) (pc := 13) (o := 3) (x := 15) (ci := 3) (k := 1) (by decide +kernel) rfl f_3_15 rfl (by decide +kernel) h1).trans ?_
  refine (go_aload_n (m := 1) (pc := 16) (k := 0) (by decide +kernel) rfl).trans ?_
  refine (go_aload_n (m := 1) (pc := 17) (k := 1) (by decide +kernel) rfl).trans ?_
  refine (go_getI (m := 1) (pc := 18) (o := 3) (x := 19) (ci := 3) (k := 2) (by decide +kernel) rfl f_3_19 rfl h0).trans ?_
  refine (go_putI (m := 1) (pc := 21) (o := 3) (x := 19) (ci := 3) (k := 2) (by decide +kernel) rfl f_3_19 rfl (by decide +kernel) h1).trans ?_
  refine (go_aload_n (m := 1) (pc := 24) (k := 0) (by decide +kernel) rfl).trans ?_
  refine (go_aload_n (m := 1) (pc := 25) (k := 1) (by decide +kernel) rfl).trans ?_
  refine (go_getI (m := 1) (pc := 26) (o := 3) (x := 22) (ci := 3) (k := 3) (by decide +kernel) rfl f_3_22 rfl h0).trans ?_
  refine (go_putI (m := 1) (pc := 29) (o := 3) (x := 22) (ci := 3) (k := 3) (by decide +kernel) rfl f_3_22 rfl (by decide +kernel) h1).trans ?_
  refine (go_aload_n (m := 1) (pc := 32) (k := 0) (by decide +kernel) rfl).trans ?_
  refine (go_aload_n (m := 1) (pc := 33) (k := 1) (by decide +kernel) rfl).trans ?_
  refine (go_getJ (m := 1) (pc := 34) (o := 3) (x := 25) (ci := 3) (k := 4) (by decide +kernel) rfl f_3_25 rfl h0).trans ?_
  refine (go_putJ (m := 1) (pc := 37) (o := 3) (x := 25) (ci := 3) (k := 4) (by decide +kernel) rfl f_3_25 rfl (by decide +kernel) h1).trans ?_
  exact go_retV (m := 1) (pc := 40) (by decide +kernel) rfl
theorem Message_copyFrom_E (this : Nat) (p0 : Nat) (w : Wd) (I : MI) (L : ML) (P : MP) : call 1 [.ref this, .ref p0] w I L P = go 1 0 [.ref this, .ref p0] [] w I L P := rfl
theorem Message_copyFrom_E1 (this : Nat) (w : Wd) (I : MI) (L : ML) (P : MP) : call 1 [.ref this, .null] w I L P = go 1 0 [.ref this, .null] [] w I L P := rfl
theorem Message_header_0 (a_l0 : Nat) (w : Wd) (I : MI) (L : ML) (P : MP) (h0 : w.1 a_l0 = some (3, 0)) : go 2 0 [.ref a_l0] [] w I L P = if (I a_l0 0 &&& 1) = 0 then go 2 17 [.ref a_l0] [.int ((nI 2) * (I a_l0 1))] w I L P else go 2 13 [.ref a_l0] [.int ((nI 2) * (I a_l0 1))] w I L P := by
  refine (go_ic (m := 2) (pc := 0) (n := 2) (by decide +kernel) ic_2).trans ?_
  refine (go_aload_n (m := 2) (pc := 1) (k := 0) (by decide +kernel) rfl).trans ?_
  refine (go_getI (m := 2) (pc := 2) (o := 3) (x := 15) (ci := 3) (k := 1) (by decide +kernel) rfl f_3_15 rfl h0).trans ?_
  refine (go_imul (m := 2) (pc := 5) (by decide +kernel)).trans ?_
  refine (go_aload_n (m := 2) (pc := 6) (k := 0) (by decide +kernel) rfl).trans ?_
  refine (go_getZ (m := 2) (pc := 7) (o := 3) (x := 9) (ci := 3) (k := 0) (by decide +kernel) rfl f_3_9 rfl h0).trans ?_
  exact go_ifeq (m := 2) (pc := 10) (off := 7) (t := 17) (by decide +kernel) (by decide)
theorem Message_header_13 (l0 : Value) (y0 : Int32) (w : Wd) (I : MI) (L : ML) (P : MP)  : go 2 13 [l0] [.int y0] w I L P = go 2 18 [l0] [.int (nI 1), .int y0] w I L P := by
  refine (go_ic (m := 2) (pc := 13) (n := 1) (by decide +kernel) ic_1).trans ?_
  refine (go_goto (m := 2) (pc := 14) (off := 4) (t := 18) (by decide +kernel) (by decide)).trans ?_
  rfl
theorem Message_header_17 (l0 : Value) (y0 : Int32) (w : Wd) (I : MI) (L : ML) (P : MP)  : go 2 17 [l0] [.int y0] w I L P = go 2 18 [l0] [.int (nI 0), .int y0] w I L P := by
  refine (go_ic (m := 2) (pc := 17) (n := 0) (by decide +kernel) ic_0).trans ?_
  rfl
theorem Message_header_18 (l0 : Value) (y0 : Int32) (y1 : Int32) (w : Wd) (I : MI) (L : ML) (P : MP)  : go 2 18 [l0] [.int y1, .int y0] w I L P = some (.inl (some (.int (y0 + y1))), w, I, L, P) := by
  refine (go_iadd (m := 2) (pc := 18) (by decide +kernel)).trans ?_
  exact go_retI (m := 2) (pc := 19) (by decide +kernel) rfl
theorem Message_header_E (this : Nat) (w : Wd) (I : MI) (L : ML) (P : MP) : call 2 [.ref this] w I L P = go 2 0 [.ref this] [] w I L P := rfl
theorem Message_byteAt_0 (a_l0 : Nat) (l1 : Value) (w : Wd) (I : MI) (L : ML) (P : MP) (h0 : w.1 a_l0 = some (3, 0)) : go 3 0 [.ref a_l0, l1] [] w I L P = if (I a_l0 0 &&& 1) ≠ 0 then go 3 19 [.ref a_l0, l1] [] w I L P else go 3 7 [.ref a_l0, l1] [] w I L P := by
  refine (go_aload_n (m := 3) (pc := 0) (k := 0) (by decide +kernel) rfl).trans ?_
  refine (go_getZ (m := 3) (pc := 1) (o := 3) (x := 9) (ci := 3) (k := 0) (by decide +kernel) rfl f_3_9 rfl h0).trans ?_
  exact go_ifne (m := 3) (pc := 4) (off := 15) (t := 19) (by decide +kernel) (by decide)
theorem Message_byteAt_7 (l0 : Value) (x_l1 : Int32) (w : Wd) (I : MI) (L : ML) (P : MP)  : go 3 7 [l0, .int x_l1] [] w I L P = if x_l1 < 0 then go 3 19 [l0, .int x_l1] [] w I L P else go 3 11 [l0, .int x_l1] [] w I L P := by
  refine (go_iload_n (m := 3) (pc := 7) (k := 1) (by decide +kernel) rfl).trans ?_
  exact go_iflt (m := 3) (pc := 8) (off := 11) (t := 19) (by decide +kernel) (by decide)
theorem Message_byteAt_11 (a_l0 : Nat) (x_l1 : Int32) (w : Wd) (I : MI) (L : ML) (P : MP) (h0 : w.1 a_l0 = some (3, 0)) : go 3 11 [.ref a_l0, .int x_l1] [] w I L P = if x_l1 < (I a_l0 2) then go 3 21 [.ref a_l0, .int x_l1] [] w I L P else go 3 19 [.ref a_l0, .int x_l1] [] w I L P := by
  refine (go_iload_n (m := 3) (pc := 11) (k := 1) (by decide +kernel) rfl).trans ?_
  refine (go_aload_n (m := 3) (pc := 12) (k := 0) (by decide +kernel) rfl).trans ?_
  refine (go_getI (m := 3) (pc := 13) (o := 3) (x := 19) (ci := 3) (k := 2) (by decide +kernel) rfl f_3_19 rfl h0).trans ?_
  exact go_icmplt (m := 3) (pc := 16) (off := 5) (t := 21) (by decide +kernel) (by decide)
theorem Message_byteAt_19 (l0 : Value) (l1 : Value) (w : Wd) (I : MI) (L : ML) (P : MP)  : go 3 19 [l0, l1] [] w I L P = some (.inl (some (.int (-1))), w, I, L, P) := by
  refine (go_ic (m := 3) (pc := 19) (n := -1) (by decide +kernel) ic_m1).trans ?_
  exact go_retI (m := 3) (pc := 20) (by decide +kernel) rfl
theorem Message_byteAt_21 (a_l0 : Nat) (x_l1 : Int32) (w : Wd) (I : MI) (L : ML) (P : MP) (h0 : w.1 a_l0 = some (3, 0)) : go 3 21 [.ref a_l0, .int x_l1] [] w I L P = some (.inl (some (.int ((Int64.toInt32 ((L a_l0 4) >>> (Int32.toInt64 ((nI 8) * (((I a_l0 2) - (nI 1)) - x_l1)) &&& 63))) &&& (nI 255)))), w, I, L, P) := by
  refine (go_aload_n (m := 3) (pc := 21) (k := 0) (by decide +kernel) rfl).trans ?_
  refine (go_getJ (m := 3) (pc := 22) (o := 3) (x := 25) (ci := 3) (k := 4) (by decide +kernel) rfl f_3_25 rfl h0).trans ?_
  refine (go_bi (m := 3) (pc := 25) (n := 8) (by decide +kernel) bi_8).trans ?_
  refine (go_aload_n (m := 3) (pc := 27) (k := 0) (by decide +kernel) rfl).trans ?_
  refine (go_getI (m := 3) (pc := 28) (o := 3) (x := 19) (ci := 3) (k := 2) (by decide +kernel) rfl f_3_19 rfl h0).trans ?_
  refine (go_ic (m := 3) (pc := 31) (n := 1) (by decide +kernel) ic_1).trans ?_
  refine (go_isub (m := 3) (pc := 32) (by decide +kernel)).trans ?_
  refine (go_iload_n (m := 3) (pc := 33) (k := 1) (by decide +kernel) rfl).trans ?_
  refine (go_isub (m := 3) (pc := 34) (by decide +kernel)).trans ?_
  refine (go_imul (m := 3) (pc := 35) (by decide +kernel)).trans ?_
  refine (go_lshr (m := 3) (pc := 36) (by decide +kernel)).trans ?_
  refine (go_l2i (m := 3) (pc := 37) (by decide +kernel)).trans ?_
  refine (go_si (m := 3) (pc := 38) (n := 255) (by decide +kernel) si_255).trans ?_
  refine (go_iand (m := 3) (pc := 41) (by decide +kernel)).trans ?_
  exact go_retI (m := 3) (pc := 42) (by decide +kernel) rfl
theorem Message_byteAt_E (this : Nat) (p0 : Int32) (w : Wd) (I : MI) (L : ML) (P : MP) : call 3 [.ref this, .int p0] w I L P = go 3 0 [.ref this, .int p0] [] w I L P := rfl
theorem Message_tell_0 (l0 : Value) (x_l1 : Int32) (w : Wd) (I : MI) (L : ML) (P : MP)  : go 4 0 [l0, .int x_l1] [] w I L P = go 4 1 [l0, .int x_l1] [.int x_l1] w I L P := by
  refine (go_iload_n (m := 4) (pc := 0) (k := 1) (by decide +kernel) rfl).trans ?_
  rfl
theorem Message_tell_1_k0 (l0 : Value) (l1 : Value) (w : Wd) (I : MI) (L : ML) (P : MP) : go 4 1 [l0, l1] [.int (nI 0)] w I L P = go 4 32 [l0, l1] [] w I L P := go_tsI (m := 4) (pc := 1) (z := 0) (off := 31) (t := 32) (dflt := 59) (lo := 0) (hi := 3) (offs := #[31, 36, 49, 54]) (len := 31) (by decide +kernel) (by decide) (by decide) (by decide) (by decide) (by decide)
theorem Message_tell_1_k1 (l0 : Value) (l1 : Value) (w : Wd) (I : MI) (L : ML) (P : MP) : go 4 1 [l0, l1] [.int (nI 1)] w I L P = go 4 37 [l0, l1] [] w I L P := go_tsI (m := 4) (pc := 1) (z := 1) (off := 36) (t := 37) (dflt := 59) (lo := 0) (hi := 3) (offs := #[31, 36, 49, 54]) (len := 31) (by decide +kernel) (by decide) (by decide) (by decide) (by decide) (by decide)
theorem Message_tell_1_k2 (l0 : Value) (l1 : Value) (w : Wd) (I : MI) (L : ML) (P : MP) : go 4 1 [l0, l1] [.int (nI 2)] w I L P = go 4 50 [l0, l1] [] w I L P := go_tsI (m := 4) (pc := 1) (z := 2) (off := 49) (t := 50) (dflt := 59) (lo := 0) (hi := 3) (offs := #[31, 36, 49, 54]) (len := 31) (by decide +kernel) (by decide) (by decide) (by decide) (by decide) (by decide)
theorem Message_tell_1_k3 (l0 : Value) (l1 : Value) (w : Wd) (I : MI) (L : ML) (P : MP) : go 4 1 [l0, l1] [.int (nI 3)] w I L P = go 4 55 [l0, l1] [] w I L P := go_tsI (m := 4) (pc := 1) (z := 3) (off := 54) (t := 55) (dflt := 59) (lo := 0) (hi := 3) (offs := #[31, 36, 49, 54]) (len := 31) (by decide +kernel) (by decide) (by decide) (by decide) (by decide) (by decide)
theorem Message_tell_1_kd (l0 : Value) (l1 : Value) (w : Wd) (I : MI) (L : ML) (P : MP) (y : Int32) (h0 : y.toInt < 0 ∨ 3 < y.toInt) : go 4 1 [l0, l1] [.int y] w I L P = go 4 60 [l0, l1] [] w I L P := go_tsO (m := 4) (pc := 1) (t := 60) (dflt := 59) (lo := 0) (hi := 3) (offs := #[31, 36, 49, 54]) (len := 31) (by decide +kernel) h0 (by decide)
theorem Message_tell_32 (a_l0 : Nat) (l1 : Value) (w : Wd) (I : MI) (L : ML) (P : MP) (h0 : w.1 a_l0 = some (3, 0)) : go 4 32 [.ref a_l0, l1] [] w I L P = some (.inl (some (.int (I a_l0 1))), w, I, L, P) := by
  refine (go_aload_n (m := 4) (pc := 32) (k := 0) (by decide +kernel) rfl).trans ?_
  refine (go_getI (m := 4) (pc := 33) (o := 3) (x := 15) (ci := 3) (k := 1) (by decide +kernel) rfl f_3_15 rfl h0).trans ?_
  exact go_retI (m := 4) (pc := 36) (by decide +kernel) rfl
theorem Message_tell_37 (a_l0 : Nat) (l1 : Value) (w : Wd) (I : MI) (L : ML) (P : MP) (h0 : w.1 a_l0 = some (3, 0)) : go 4 37 [.ref a_l0, l1] [] w I L P = if (I a_l0 0 &&& 1) = 0 then go 4 48 [.ref a_l0, l1] [] w I L P else go 4 44 [.ref a_l0, l1] [] w I L P := by
  refine (go_aload_n (m := 4) (pc := 37) (k := 0) (by decide +kernel) rfl).trans ?_
  refine (go_getZ (m := 4) (pc := 38) (o := 3) (x := 9) (ci := 3) (k := 0) (by decide +kernel) rfl f_3_9 rfl h0).trans ?_
  exact go_ifeq (m := 4) (pc := 41) (off := 7) (t := 48) (by decide +kernel) (by decide)
theorem Message_tell_44 (l0 : Value) (l1 : Value) (w : Wd) (I : MI) (L : ML) (P : MP)  : go 4 44 [l0, l1] [] w I L P = go 4 49 [l0, l1] [.int (nI 1)] w I L P := by
  refine (go_ic (m := 4) (pc := 44) (n := 1) (by decide +kernel) ic_1).trans ?_
  refine (go_goto (m := 4) (pc := 45) (off := 4) (t := 49) (by decide +kernel) (by decide)).trans ?_
  rfl
theorem Message_tell_48 (l0 : Value) (l1 : Value) (w : Wd) (I : MI) (L : ML) (P : MP)  : go 4 48 [l0, l1] [] w I L P = go 4 49 [l0, l1] [.int (nI 0)] w I L P := by
  refine (go_ic (m := 4) (pc := 48) (n := 0) (by decide +kernel) ic_0).trans ?_
  rfl
theorem Message_tell_49 (l0 : Value) (l1 : Value) (y0 : Int32) (w : Wd) (I : MI) (L : ML) (P : MP)  : go 4 49 [l0, l1] [.int y0] w I L P = some (.inl (some (.int y0)), w, I, L, P) := by
  exact go_retI (m := 4) (pc := 49) (by decide +kernel) rfl
theorem Message_tell_50 (a_l0 : Nat) (l1 : Value) (w : Wd) (I : MI) (L : ML) (P : MP) (h0 : w.1 a_l0 = some (3, 0)) : go 4 50 [.ref a_l0, l1] [] w I L P = some (.inl (some (.int (I a_l0 2))), w, I, L, P) := by
  refine (go_aload_n (m := 4) (pc := 50) (k := 0) (by decide +kernel) rfl).trans ?_
  refine (go_getI (m := 4) (pc := 51) (o := 3) (x := 19) (ci := 3) (k := 2) (by decide +kernel) rfl f_3_19 rfl h0).trans ?_
  exact go_retI (m := 4) (pc := 54) (by decide +kernel) rfl
theorem Message_tell_55 (a_l0 : Nat) (l1 : Value) (w : Wd) (I : MI) (L : ML) (P : MP) (h0 : w.1 a_l0 = some (3, 0)) : go 4 55 [.ref a_l0, l1] [] w I L P = some (.inl (some (.int (I a_l0 3))), w, I, L, P) := by
  refine (go_aload_n (m := 4) (pc := 55) (k := 0) (by decide +kernel) rfl).trans ?_
  refine (go_getI (m := 4) (pc := 56) (o := 3) (x := 22) (ci := 3) (k := 3) (by decide +kernel) rfl f_3_22 rfl h0).trans ?_
  exact go_retI (m := 4) (pc := 59) (by decide +kernel) rfl
theorem Message_tell_60 (a_l0 : Nat) (x_l1 : Int32) (w : Wd) (I : MI) (L : ML) (P : MP) (h0 : w.1 a_l0 = some (3, 0)) : go 4 60 [.ref a_l0, .int x_l1] [] w I L P = kC (call 3 [.ref a_l0, .int (x_l1 - (nI 4))] w I L P) (fun v w1 I1 L1 P1 => go 4 67 [.ref a_l0, .int x_l1] (v.toList ++ []) w1 I1 L1 P1) := by
  refine (go_aload_n (m := 4) (pc := 60) (k := 0) (by decide +kernel) rfl).trans ?_
  refine (go_iload_n (m := 4) (pc := 61) (k := 1) (by decide +kernel) rfl).trans ?_
  refine (go_ic (m := 4) (pc := 62) (n := 4) (by decide +kernel) ic_4).trans ?_
  refine (go_isub (m := 4) (pc := 63) (by decide +kernel)).trans ?_
  exact go_vir (m := 4) (pc := 64) (o := 3) (x := 29) (y := 3) (kd := 0) (b := a_l0) (bs := [.int (x_l1 - (nI 4))]) (rs := []) (by decide +kernel) rfl rfl c_3_29 (Or.inl rfl) rfl rfl rfl (by decide +kernel) (by simp only [List.length_cons, List.length_nil]; decide) (Nat.le_of_ble_eq_true rfl) h0
theorem Message_tell_67 (l0 : Value) (l1 : Value) (y0 : Int32) (w : Wd) (I : MI) (L : ML) (P : MP)  : go 4 67 [l0, l1] [.int y0] w I L P = some (.inl (some (.int y0)), w, I, L, P) := by
  exact go_retI (m := 4) (pc := 67) (by decide +kernel) rfl
theorem Message_tell_E (this : Nat) (p0 : Int32) (w : Wd) (I : MI) (L : ML) (P : MP) : call 4 [.ref this, .int p0] w I L P = go 4 0 [.ref this, .int p0] [] w I L P := rfl
theorem Caller_init_0 (a_l0 : Nat) (l1 : Value) (T : Nat → Option (Nat × Nat)) (q0 kc ks : Nat) (I : MI) (L : ML) (P : MP) (h0 : ¬ (nI 4) < 0 ∧ Int32.toNatClampNeg (nI 4) ≤ 65536) (h1 : (tagU T q0 13 (Int32.toNatClampNeg (nI 4))) a_l0 = some (1, 0)) (h2 : ¬ (nI 5) < 0 ∧ Int32.toNatClampNeg (nI 5) ≤ 65536) (h3 : (tagU (tagU T q0 13 (Int32.toNatClampNeg (nI 4))) (q0 + 1) 8 (Int32.toNatClampNeg (nI 5))) a_l0 = some (1, 0)) : go 5 0 [.ref a_l0, l1] [] (T, some q0, kc, ks) I L P = go 5 41 [.ref a_l0, .int (nI 0)] [] ((tagU (tagU T q0 13 (Int32.toNatClampNeg (nI 4))) (q0 + 1) 8 (Int32.toNatClampNeg (nI 5))), some ((q0 + 1) + 1), ((kc + 1) + 1), ((ks + Int32.toNatClampNeg (nI 4)) + Int32.toNatClampNeg (nI 5))) (updI (updI (updI (rowI (updI I a_l0 1 (nI 0)) (q0 + 1)) a_l0 3 (nI 0)) a_l0 4 (nI 0)) a_l0 5 (-1)) L (updP (updP (rowP P q0) a_l0 0 (some q0)) a_l0 2 (some (q0 + 1))) := by
  refine (go_aload_n (m := 5) (pc := 0) (k := 0) (by decide +kernel) rfl).trans ?_
  refine (go_obj (m := 5) (pc := 1) (o := 1) (x := 3) (y := 999) (by decide +kernel) rfl (by decide +kernel) (by decide +kernel)).trans ?_
  refine (go_aload_n (m := 5) (pc := 4) (k := 0) (by decide +kernel) rfl).trans ?_
  refine (go_ic (m := 5) (pc := 5) (n := 4) (by decide +kernel) ic_4).trans ?_
  refine (go_newR (m := 5) (pc := 6) (o := 1) (j := 9) (ci := 3) (by decide +kernel) rfl (by decide +kernel) ⟨by decide, h0⟩).trans ?_
  refine (go_putR (m := 5) (pc := 9) (o := 1) (x := 11) (ci := 1) (k := 0) (by decide +kernel) rfl f_1_11 rfl (by decide +kernel) h1).trans ?_
  refine (go_aload_n (m := 5) (pc := 12) (k := 0) (by decide +kernel) rfl).trans ?_
  refine (go_ic (m := 5) (pc := 13) (n := 0) (by decide +kernel) ic_0).trans ?_
  refine (go_putI (m := 5) (pc := 14) (o := 1) (x := 17) (ci := 1) (k := 1) (by decide +kernel) rfl f_1_17 rfl (by decide +kernel) h1).trans ?_
  refine (go_aload_n (m := 5) (pc := 17) (k := 0) (by decide +kernel) rfl).trans ?_
  refine (go_ic (m := 5) (pc := 18) (n := 5) (by decide +kernel) ic_5).trans ?_
  refine (go_newI (m := 5) (pc := 19) (by decide +kernel) h2).trans ?_
  refine (go_putR (m := 5) (pc := 21) (o := 1) (x := 21) (ci := 1) (k := 2) (by decide +kernel) rfl f_1_21 rfl (by decide +kernel) h3).trans ?_
  refine (go_aload_n (m := 5) (pc := 24) (k := 0) (by decide +kernel) rfl).trans ?_
  refine (go_ic (m := 5) (pc := 25) (n := 0) (by decide +kernel) ic_0).trans ?_
  refine (go_putI (m := 5) (pc := 26) (o := 1) (x := 25) (ci := 1) (k := 3) (by decide +kernel) rfl f_1_25 rfl (by decide +kernel) h3).trans ?_
  refine (go_aload_n (m := 5) (pc := 29) (k := 0) (by decide +kernel) rfl).trans ?_
  refine (go_ic (m := 5) (pc := 30) (n := 0) (by decide +kernel) ic_0).trans ?_
  refine (go_putI (m := 5) (pc := 31) (o := 1) (x := 28) (ci := 1) (k := 4) (by decide +kernel) rfl f_1_28 rfl (by decide +kernel) h3).trans ?_
  refine (go_aload_n (m := 5) (pc := 34) (k := 0) (by decide +kernel) rfl).trans ?_
  refine (go_ic (m := 5) (pc := 35) (n := -1) (by decide +kernel) ic_m1).trans ?_
  refine (go_putI (m := 5) (pc := 36) (o := 1) (x := 31) (ci := 1) (k := 5) (by decide +kernel) rfl f_1_31 rfl (by decide +kernel) h3).trans ?_
  refine (go_ic (m := 5) (pc := 39) (n := 0) (by decide +kernel) ic_0).trans ?_
  refine (go_istore_n (m := 5) (pc := 40) (k := 1) (ls' := [.ref a_l0, .int (nI 0)]) (by decide +kernel) (by simp only [List.length_cons, List.length_nil]; decide) rfl).trans ?_
  rfl
theorem Caller_init_41 (a_l0 : Nat) (x_l1 : Int32) (w : Wd) (I : MI) (L : ML) (P : MP) (h0 : w.1 a_l0 = some (1, 0)) : go 5 41 [.ref a_l0, .int x_l1] [] w I L P = go 5 46 [.ref a_l0, .int x_l1] [(va_rf (P a_l0 0)), .int x_l1] w I L P := by
  refine (go_iload_n (m := 5) (pc := 41) (k := 1) (by decide +kernel) rfl).trans ?_
  refine (go_aload_n (m := 5) (pc := 42) (k := 0) (by decide +kernel) rfl).trans ?_
  refine (go_getR (m := 5) (pc := 43) (o := 1) (x := 11) (ci := 1) (k := 0) (by decide +kernel) rfl f_1_11 rfl h0).trans ?_
  rfl
theorem Caller_init_46 (l0 : Value) (l1 : Value) (y0 : Int32) (a_s1 : Nat) (w : Wd) (I : MI) (L : ML) (P : MP) (h0 : isAr w a_s1 13) : go 5 46 [l0, l1] [.ref a_s1, .int y0] w I L P = if (alen w a_s1) ≤ y0 then go 5 69 [l0, l1] [] w I L P else go 5 50 [l0, l1] [] w I L P := by
  refine (go_alen13 (m := 5) (pc := 46) (by decide +kernel) h0).trans ?_
  exact go_icmpge (m := 5) (pc := 47) (off := 22) (t := 69) (by decide +kernel) (by decide)
theorem Caller_init_50 (a_l0 : Nat) (l1 : Value) (w : Wd) (I : MI) (L : ML) (P : MP) (h0 : w.1 a_l0 = some (1, 0)) : go 5 50 [.ref a_l0, l1] [] w I L P = go 5 54 [.ref a_l0, l1] [(va_rf (P a_l0 0))] w I L P := by
  refine (go_aload_n (m := 5) (pc := 50) (k := 0) (by decide +kernel) rfl).trans ?_
  refine (go_getR (m := 5) (pc := 51) (o := 1) (x := 11) (ci := 1) (k := 0) (by decide +kernel) rfl f_1_11 rfl h0).trans ?_
  rfl
theorem Caller_init_54 (l0 : Value) (x_l1 : Int32) (v0 : Value) (T : Nat → Option (Nat × Nat)) (q0 kc ks : Nat) (I : MI) (L : ML) (P : MP)  : go 5 54 [l0, .int x_l1] [v0] (T, some q0, kc, ks) I L P = kC (call 0 [.ref q0] ((tagU T q0 3 0), some (q0 + 1), (kc + 1), (ks + 5)) (rowI I q0) (rowL L q0) (rowP P q0)) (fun v w1 I1 L1 P1 => go 5 62 [l0, .int x_l1] (v.toList ++ [.ref q0, .int x_l1, v0]) w1 I1 L1 P1) := by
  refine (go_iload_n (m := 5) (pc := 54) (k := 1) (by decide +kernel) rfl).trans ?_
  refine (go_new (m := 5) (pc := 55) (o := 1) (x := 9) (ci := 3) (nf := 5) (by decide +kernel) rfl (by decide +kernel) (by decide) rfl).trans ?_
  refine (go_dup (m := 5) (pc := 58) (by decide +kernel) rfl).trans ?_
  exact go_spc (m := 5) (pc := 59) (o := 1) (x := 34) (y := 0) (kd := 6) (b := q0) (bs := []) (rs := [.ref q0, .int x_l1, v0]) (by decide +kernel) rfl rfl c_1_34 (Or.inr rfl) rfl rfl rfl (by decide +kernel) (by simp only [List.length_cons, List.length_nil]; decide) (Nat.le_of_ble_eq_true rfl)
theorem Caller_init_62 (l0 : Value) (x_l1 : Int32) (a_s0 : Nat) (y1 : Int32) (a_s2 : Nat) (w : Wd) (I : MI) (L : ML) (P : MP) (h0 : inA w a_s0 13 y1) (h1 : w.1 a_s2 = some (3, 0)) : go 5 62 [l0, .int x_l1] [.ref a_s2, .int y1, .ref a_s0] w I L P = go 5 41 [(fix1 l0), .int (x_l1 + (nI 1))] [] w I L (updP P a_s0 (Int32.toNatClampNeg y1) (some a_s2)) := by
  refine (go_aast13 (m := 5) (pc := 62) (by decide +kernel) h0 h1).trans ?_
  refine (go_iinc (m := 5) (pc := 63) (k := 1) (n := 1) (x := x_l1) (v := x_l1 + (nI 1)) (ls' := [(fix1 l0), .int (x_l1 + (nI 1))]) (by decide +kernel) rfl (by rw [ic_1]) rfl).trans ?_
  refine (go_goto (m := 5) (pc := 66) (off := -25) (t := 41) (by decide +kernel) (by decide)).trans ?_
  rfl
theorem Caller_init_69 (l0 : Value) (l1 : Value) (w : Wd) (I : MI) (L : ML) (P : MP)  : go 5 69 [l0, l1] [] w I L P = some (.inl none, w, I, L, P) := by
  exact go_retV (m := 5) (pc := 69) (by decide +kernel) rfl
theorem Caller_init_E (this : Nat) (w : Wd) (I : MI) (L : ML) (P : MP) : call 5 [.ref this] w I L P = go 5 0 [.ref this, unk] [] w I L P := rfl
theorem Caller_copyFrom_0 (l0 : Value) (l1 : Value) (l2 : Value) (l3 : Value) (l4 : Value) (w : Wd) (I : MI) (L : ML) (P : MP)  : go 6 0 [l0, l1, l2, l3, l4] [] w I L P = go 6 2 [l0, (fix1 l1), .int (nI 0), l3, l4] [] w I L P := by
  refine (go_ic (m := 6) (pc := 0) (n := 0) (by decide +kernel) ic_0).trans ?_
  refine (go_istore_n (m := 6) (pc := 1) (k := 2) (ls' := [l0, (fix1 l1), .int (nI 0), l3, l4]) (by decide +kernel) (by simp only [List.length_cons, List.length_nil]; decide) rfl).trans ?_
  rfl
theorem Caller_copyFrom_2 (a_l0 : Nat) (l1 : Value) (x_l2 : Int32) (l3 : Value) (l4 : Value) (w : Wd) (I : MI) (L : ML) (P : MP) (h0 : w.1 a_l0 = some (1, 0)) : go 6 2 [.ref a_l0, l1, .int x_l2, l3, l4] [] w I L P = go 6 7 [.ref a_l0, l1, .int x_l2, l3, l4] [(va_rf (P a_l0 0)), .int x_l2] w I L P := by
  refine (go_iload_n (m := 6) (pc := 2) (k := 2) (by decide +kernel) rfl).trans ?_
  refine (go_aload_n (m := 6) (pc := 3) (k := 0) (by decide +kernel) rfl).trans ?_
  refine (go_getR (m := 6) (pc := 4) (o := 1) (x := 11) (ci := 1) (k := 0) (by decide +kernel) rfl f_1_11 rfl h0).trans ?_
  rfl
theorem Caller_copyFrom_7 (l0 : Value) (l1 : Value) (l2 : Value) (l3 : Value) (l4 : Value) (y0 : Int32) (a_s1 : Nat) (w : Wd) (I : MI) (L : ML) (P : MP) (h0 : isAr w a_s1 13) : go 6 7 [l0, l1, l2, l3, l4] [.ref a_s1, .int y0] w I L P = if (alen w a_s1) ≤ y0 then go 6 56 [l0, l1, l2, l3, l4] [] w I L P else go 6 11 [l0, l1, l2, l3, l4] [] w I L P := by
  refine (go_alen13 (m := 6) (pc := 7) (by decide +kernel) h0).trans ?_
  exact go_icmpge (m := 6) (pc := 8) (off := 48) (t := 56) (by decide +kernel) (by decide)
theorem Caller_copyFrom_11 (l0 : Value) (a_l1 : Nat) (x_l2 : Int32) (l3 : Value) (l4 : Value) (w : Wd) (I : MI) (L : ML) (P : MP) (h0 : w.1 a_l1 = some (1, 0)) : go 6 11 [l0, .ref a_l1, .int x_l2, l3, l4] [] w I L P = go 6 16 [l0, .ref a_l1, .int x_l2, l3, l4] [(va_rf (P a_l1 0)), .int x_l2] w I L P := by
  refine (go_iload_n (m := 6) (pc := 11) (k := 2) (by decide +kernel) rfl).trans ?_
  refine (go_aload_n (m := 6) (pc := 12) (k := 1) (by decide +kernel) rfl).trans ?_
  refine (go_getR (m := 6) (pc := 13) (o := 1) (x := 11) (ci := 1) (k := 0) (by decide +kernel) rfl f_1_11 rfl h0).trans ?_
  rfl
theorem Caller_copyFrom_16 (l0 : Value) (l1 : Value) (l2 : Value) (l3 : Value) (l4 : Value) (y0 : Int32) (a_s1 : Nat) (w : Wd) (I : MI) (L : ML) (P : MP) (h0 : isAr w a_s1 13) : go 6 16 [l0, l1, l2, l3, l4] [.ref a_s1, .int y0] w I L P = if (alen w a_s1) ≤ y0 then go 6 56 [l0, l1, l2, l3, l4] [] w I L P else go 6 20 [l0, l1, l2, l3, l4] [] w I L P := by
  refine (go_alen13 (m := 6) (pc := 16) (by decide +kernel) h0).trans ?_
  exact go_icmpge (m := 6) (pc := 17) (off := 39) (t := 56) (by decide +kernel) (by decide)
theorem Caller_copyFrom_20 (a_l0 : Nat) (l1 : Value) (l2 : Value) (l3 : Value) (l4 : Value) (w : Wd) (I : MI) (L : ML) (P : MP) (h0 : w.1 a_l0 = some (1, 0)) : go 6 20 [.ref a_l0, l1, l2, l3, l4] [] w I L P = go 6 24 [.ref a_l0, l1, l2, l3, l4] [(va_rf (P a_l0 0))] w I L P := by
  refine (go_aload_n (m := 6) (pc := 20) (k := 0) (by decide +kernel) rfl).trans ?_
  refine (go_getR (m := 6) (pc := 21) (o := 1) (x := 11) (ci := 1) (k := 0) (by decide +kernel) rfl f_1_11 rfl h0).trans ?_
  rfl
theorem Caller_copyFrom_24 (l0 : Value) (l1 : Value) (x_l2 : Int32) (l3 : Value) (l4 : Value) (a_s0 : Nat) (w : Wd) (I : MI) (L : ML) (P : MP) (h0 : inA w a_s0 13 x_l2) : go 6 24 [l0, l1, .int x_l2, l3, l4] [.ref a_s0] w I L P = go 6 26 [l0, l1, .int x_l2, l3, l4] [(va_rf (P a_s0 (Int32.toNatClampNeg x_l2)))] w I L P := by
  refine (go_iload_n (m := 6) (pc := 24) (k := 2) (by decide +kernel) rfl).trans ?_
  refine (go_aald13 (m := 6) (pc := 25) (by decide +kernel) h0).trans ?_
  rfl
theorem Caller_copyFrom_26_0 (l0 : Value) (a_l1 : Nat) (l2 : Value) (l3 : Value) (l4 : Value) (w : Wd) (I : MI) (L : ML) (P : MP) (h0 : w.1 a_l1 = some (1, 0)) : go 6 26 [l0, .ref a_l1, l2, l3, l4] [.null] w I L P = go 6 31 [l0, .ref a_l1, (fix1 l2), .null, l4] [(va_rf (P a_l1 0))] w I L P := by
  refine (go_astore_nN (m := 6) (pc := 26) (k := 3) (ls' := [l0, .ref a_l1, (fix1 l2), .null, l4]) (by decide +kernel) (by simp only [List.length_cons, List.length_nil]; decide) rfl).trans ?_
  refine (go_aload_n (m := 6) (pc := 27) (k := 1) (by decide +kernel) rfl).trans ?_
  refine (go_getR (m := 6) (pc := 28) (o := 1) (x := 11) (ci := 1) (k := 0) (by decide +kernel) rfl f_1_11 rfl h0).trans ?_
  rfl
theorem Caller_copyFrom_26_1 (l0 : Value) (a_l1 : Nat) (l2 : Value) (l3 : Value) (l4 : Value) (a_s0 : Nat) (w : Wd) (I : MI) (L : ML) (P : MP) (h0 : w.1 a_l1 = some (1, 0)) : go 6 26 [l0, .ref a_l1, l2, l3, l4] [.ref a_s0] w I L P = go 6 31 [l0, .ref a_l1, (fix1 l2), .ref a_s0, l4] [(va_rf (P a_l1 0))] w I L P := by
  refine (go_astore_n (m := 6) (pc := 26) (k := 3) (ls' := [l0, .ref a_l1, (fix1 l2), .ref a_s0, l4]) (by decide +kernel) (by simp only [List.length_cons, List.length_nil]; decide) rfl).trans ?_
  refine (go_aload_n (m := 6) (pc := 27) (k := 1) (by decide +kernel) rfl).trans ?_
  refine (go_getR (m := 6) (pc := 28) (o := 1) (x := 11) (ci := 1) (k := 0) (by decide +kernel) rfl f_1_11 rfl h0).trans ?_
  rfl
theorem Caller_copyFrom_31 (l0 : Value) (l1 : Value) (x_l2 : Int32) (l3 : Value) (l4 : Value) (a_s0 : Nat) (w : Wd) (I : MI) (L : ML) (P : MP) (h0 : inA w a_s0 13 x_l2) : go 6 31 [l0, l1, .int x_l2, l3, l4] [.ref a_s0] w I L P = go 6 33 [l0, l1, .int x_l2, l3, l4] [(va_rf (P a_s0 (Int32.toNatClampNeg x_l2)))] w I L P := by
  refine (go_iload_n (m := 6) (pc := 31) (k := 2) (by decide +kernel) rfl).trans ?_
  refine (go_aald13 (m := 6) (pc := 32) (by decide +kernel) h0).trans ?_
  rfl
theorem Caller_copyFrom_33_0 (l0 : Value) (l1 : Value) (l2 : Value) (l4 : Value) (w : Wd) (I : MI) (L : ML) (P : MP)  : go 6 33 [l0, l1, l2, .null, l4] [.null] w I L P = go 6 50 [l0, l1, l2, .null, .null] [] w I L P := by
  refine (go_astoreN (m := 6) (pc := 33) (k := 4) (ls' := [l0, l1, l2, .null, .null]) (by decide +kernel) (by simp only [List.length_cons, List.length_nil]; decide) rfl).trans ?_
  refine (go_aload_nN (m := 6) (pc := 35) (k := 3) (by decide +kernel) rfl).trans ?_
  exact go_ifnullN (m := 6) (pc := 36) (off := 14) (t := 50) (by decide +kernel) (by decide)
theorem Caller_copyFrom_33_1 (l0 : Value) (l1 : Value) (l2 : Value) (l4 : Value) (a_s0 : Nat) (w : Wd) (I : MI) (L : ML) (P : MP)  : go 6 33 [l0, l1, l2, .null, l4] [.ref a_s0] w I L P = go 6 50 [l0, l1, l2, .null, .ref a_s0] [] w I L P := by
  refine (go_astore (m := 6) (pc := 33) (k := 4) (ls' := [l0, l1, l2, .null, .ref a_s0]) (by decide +kernel) (by simp only [List.length_cons, List.length_nil]; decide) rfl).trans ?_
  refine (go_aload_nN (m := 6) (pc := 35) (k := 3) (by decide +kernel) rfl).trans ?_
  exact go_ifnullN (m := 6) (pc := 36) (off := 14) (t := 50) (by decide +kernel) (by decide)
theorem Caller_copyFrom_33_2 (l0 : Value) (l1 : Value) (l2 : Value) (a_l3 : Nat) (l4 : Value) (w : Wd) (I : MI) (L : ML) (P : MP)  : go 6 33 [l0, l1, l2, .ref a_l3, l4] [.null] w I L P = go 6 39 [l0, l1, l2, .ref a_l3, .null] [] w I L P := by
  refine (go_astoreN (m := 6) (pc := 33) (k := 4) (ls' := [l0, l1, l2, .ref a_l3, .null]) (by decide +kernel) (by simp only [List.length_cons, List.length_nil]; decide) rfl).trans ?_
  refine (go_aload_n (m := 6) (pc := 35) (k := 3) (by decide +kernel) rfl).trans ?_
  exact go_ifnullR (m := 6) (pc := 36) (off := 14) (by decide +kernel)
theorem Caller_copyFrom_33_3 (l0 : Value) (l1 : Value) (l2 : Value) (a_l3 : Nat) (l4 : Value) (a_s0 : Nat) (w : Wd) (I : MI) (L : ML) (P : MP)  : go 6 33 [l0, l1, l2, .ref a_l3, l4] [.ref a_s0] w I L P = go 6 39 [l0, l1, l2, .ref a_l3, .ref a_s0] [] w I L P := by
  refine (go_astore (m := 6) (pc := 33) (k := 4) (ls' := [l0, l1, l2, .ref a_l3, .ref a_s0]) (by decide +kernel) (by simp only [List.length_cons, List.length_nil]; decide) rfl).trans ?_
  refine (go_aload_n (m := 6) (pc := 35) (k := 3) (by decide +kernel) rfl).trans ?_
  exact go_ifnullR (m := 6) (pc := 36) (off := 14) (by decide +kernel)
theorem Caller_copyFrom_39_0 (l0 : Value) (l1 : Value) (l2 : Value) (l3 : Value) (w : Wd) (I : MI) (L : ML) (P : MP)  : go 6 39 [l0, l1, l2, l3, .null] [] w I L P = go 6 50 [l0, l1, l2, l3, .null] [] w I L P := by
  refine (go_aloadN (m := 6) (pc := 39) (k := 4) (by decide +kernel) rfl).trans ?_
  exact go_ifnullN (m := 6) (pc := 41) (off := 9) (t := 50) (by decide +kernel) (by decide)
theorem Caller_copyFrom_39_1 (l0 : Value) (l1 : Value) (l2 : Value) (l3 : Value) (a_l4 : Nat) (w : Wd) (I : MI) (L : ML) (P : MP)  : go 6 39 [l0, l1, l2, l3, .ref a_l4] [] w I L P = go 6 44 [l0, l1, l2, l3, .ref a_l4] [] w I L P := by
  refine (go_aload (m := 6) (pc := 39) (k := 4) (by decide +kernel) rfl).trans ?_
  exact go_ifnullR (m := 6) (pc := 41) (off := 9) (by decide +kernel)
theorem Caller_copyFrom_44_0 (l0 : Value) (l1 : Value) (l2 : Value) (a_l3 : Nat) (w : Wd) (I : MI) (L : ML) (P : MP) (h0 : w.1 a_l3 = some (3, 0)) : go 6 44 [l0, l1, l2, .ref a_l3, .null] [] w I L P = kC (call 1 [.ref a_l3, .null] w I L P) (fun v w1 I1 L1 P1 => go 6 50 [l0, l1, l2, .ref a_l3, .null] (v.toList ++ []) w1 I1 L1 P1) := by
  refine (go_aload_n (m := 6) (pc := 44) (k := 3) (by decide +kernel) rfl).trans ?_
  refine (go_aloadN (m := 6) (pc := 45) (k := 4) (by decide +kernel) rfl).trans ?_
  exact go_vir (m := 6) (pc := 47) (o := 1) (x := 35) (y := 1) (kd := 1) (b := a_l3) (bs := [.null]) (rs := []) (by decide +kernel) rfl rfl c_1_35 (Or.inr rfl) rfl rfl rfl (by decide +kernel) (by simp only [List.length_cons, List.length_nil]; decide) (Nat.le_of_ble_eq_true rfl) h0
theorem Caller_copyFrom_44_1 (l0 : Value) (l1 : Value) (l2 : Value) (a_l3 : Nat) (a_l4 : Nat) (w : Wd) (I : MI) (L : ML) (P : MP) (h0 : w.1 a_l3 = some (3, 0)) : go 6 44 [l0, l1, l2, .ref a_l3, .ref a_l4] [] w I L P = kC (call 1 [.ref a_l3, .ref a_l4] w I L P) (fun v w1 I1 L1 P1 => go 6 50 [l0, l1, l2, .ref a_l3, .ref a_l4] (v.toList ++ []) w1 I1 L1 P1) := by
  refine (go_aload_n (m := 6) (pc := 44) (k := 3) (by decide +kernel) rfl).trans ?_
  refine (go_aload (m := 6) (pc := 45) (k := 4) (by decide +kernel) rfl).trans ?_
  exact go_vir (m := 6) (pc := 47) (o := 1) (x := 35) (y := 1) (kd := 1) (b := a_l3) (bs := [.ref a_l4]) (rs := []) (by decide +kernel) rfl rfl c_1_35 (Or.inr rfl) rfl rfl rfl (by decide +kernel) (by simp only [List.length_cons, List.length_nil]; decide) (Nat.le_of_ble_eq_true rfl) h0
theorem Caller_copyFrom_50 (l0 : Value) (l1 : Value) (x_l2 : Int32) (l3 : Value) (l4 : Value) (w : Wd) (I : MI) (L : ML) (P : MP)  : go 6 50 [l0, l1, .int x_l2, l3, l4] [] w I L P = go 6 2 [l0, (fix1 l1), .int (x_l2 + (nI 1)), l3, l4] [] w I L P := by
  refine (go_iinc (m := 6) (pc := 50) (k := 2) (n := 1) (x := x_l2) (v := x_l2 + (nI 1)) (ls' := [l0, (fix1 l1), .int (x_l2 + (nI 1)), l3, l4]) (by decide +kernel) rfl (by rw [ic_1]) rfl).trans ?_
  refine (go_goto (m := 6) (pc := 53) (off := -51) (t := 2) (by decide +kernel) (by decide)).trans ?_
  rfl
theorem Caller_copyFrom_56 (a_l0 : Nat) (a_l1 : Nat) (l2 : Value) (l3 : Value) (l4 : Value) (w : Wd) (I : MI) (L : ML) (P : MP) (h0 : w.1 a_l1 = some (1, 0)) (h1 : w.1 a_l0 = some (1, 0)) : go 6 56 [.ref a_l0, .ref a_l1, l2, l3, l4] [] w I L P = go 6 68 [.ref a_l0, .ref a_l1, l2, l3, l4] [(va_rf (P a_l1 2))] w (updI I a_l0 1 (I a_l1 1)) L P := by
  refine (go_aload_n (m := 6) (pc := 56) (k := 0) (by decide +kernel) rfl).trans ?_
  refine (go_aload_n (m := 6) (pc := 57) (k := 1) (by decide +kernel) rfl).trans ?_
  refine (go_getI (m := 6) (pc := 58) (o := 1) (x := 17) (ci := 1) (k := 1) (by decide +kernel) rfl f_1_17 rfl h0).trans ?_
  refine (go_putI (m := 6) (pc := 61) (o := 1) (x := 17) (ci := 1) (k := 1) (by decide +kernel) rfl f_1_17 rfl (by decide +kernel) h1).trans ?_
  refine (go_aload_n (m := 6) (pc := 64) (k := 1) (by decide +kernel) rfl).trans ?_
  refine (go_getR (m := 6) (pc := 65) (o := 1) (x := 21) (ci := 1) (k := 2) (by decide +kernel) rfl f_1_21 rfl h0).trans ?_
  rfl
theorem Caller_copyFrom_68 (a_l0 : Nat) (l1 : Value) (l2 : Value) (l3 : Value) (l4 : Value) (v0 : Value) (w : Wd) (I : MI) (L : ML) (P : MP) (h0 : w.1 a_l0 = some (1, 0)) : go 6 68 [.ref a_l0, l1, l2, l3, l4] [v0] w I L P = go 6 72 [.ref a_l0, l1, l2, l3, l4] [(va_rf (P a_l0 2)), v0] w I L P := by
  refine (go_aload_n (m := 6) (pc := 68) (k := 0) (by decide +kernel) rfl).trans ?_
  refine (go_getR (m := 6) (pc := 69) (o := 1) (x := 21) (ci := 1) (k := 2) (by decide +kernel) rfl f_1_21 rfl h0).trans ?_
  rfl
theorem Caller_copyFrom_72_0 (l0 : Value) (l1 : Value) (l2 : Value) (l3 : Value) (l4 : Value) (w : Wd) (I : MI) (L : ML) (P : MP)  : go 6 72 [l0, l1, l2, l3, l4] [.null, .null] w I L P = kC (call 119 [.null, .null] w I L P) (fun v w1 I1 L1 P1 => go 6 75 [l0, l1, l2, l3, l4] (v.toList ++ []) w1 I1 L1 P1) := by
  exact go_sta (m := 6) (pc := 72) (o := 1) (x := 39) (y := 119) (kd := 3) (as := [.null, .null]) (rs := []) (by decide +kernel) rfl rfl c_1_39 (Or.inr (Or.inl rfl)) rfl rfl rfl (by decide +kernel) (by simp only [List.length_cons, List.length_nil]; decide) (Nat.le_of_ble_eq_true rfl)
theorem Caller_copyFrom_72_1 (l0 : Value) (l1 : Value) (l2 : Value) (l3 : Value) (l4 : Value) (a_s1 : Nat) (w : Wd) (I : MI) (L : ML) (P : MP)  : go 6 72 [l0, l1, l2, l3, l4] [.ref a_s1, .null] w I L P = kC (call 119 [.null, .ref a_s1] w I L P) (fun v w1 I1 L1 P1 => go 6 75 [l0, l1, l2, l3, l4] (v.toList ++ []) w1 I1 L1 P1) := by
  exact go_sta (m := 6) (pc := 72) (o := 1) (x := 39) (y := 119) (kd := 3) (as := [.null, .ref a_s1]) (rs := []) (by decide +kernel) rfl rfl c_1_39 (Or.inr (Or.inl rfl)) rfl rfl rfl (by decide +kernel) (by simp only [List.length_cons, List.length_nil]; decide) (Nat.le_of_ble_eq_true rfl)
theorem Caller_copyFrom_72_2 (l0 : Value) (l1 : Value) (l2 : Value) (l3 : Value) (l4 : Value) (a_s0 : Nat) (w : Wd) (I : MI) (L : ML) (P : MP)  : go 6 72 [l0, l1, l2, l3, l4] [.null, .ref a_s0] w I L P = kC (call 119 [.ref a_s0, .null] w I L P) (fun v w1 I1 L1 P1 => go 6 75 [l0, l1, l2, l3, l4] (v.toList ++ []) w1 I1 L1 P1) := by
  exact go_sta (m := 6) (pc := 72) (o := 1) (x := 39) (y := 119) (kd := 3) (as := [.ref a_s0, .null]) (rs := []) (by decide +kernel) rfl rfl c_1_39 (Or.inr (Or.inl rfl)) rfl rfl rfl (by decide +kernel) (by simp only [List.length_cons, List.length_nil]; decide) (Nat.le_of_ble_eq_true rfl)
theorem Caller_copyFrom_72_3 (l0 : Value) (l1 : Value) (l2 : Value) (l3 : Value) (l4 : Value) (a_s0 : Nat) (a_s1 : Nat) (w : Wd) (I : MI) (L : ML) (P : MP)  : go 6 72 [l0, l1, l2, l3, l4] [.ref a_s1, .ref a_s0] w I L P = kC (call 119 [.ref a_s0, .ref a_s1] w I L P) (fun v w1 I1 L1 P1 => go 6 75 [l0, l1, l2, l3, l4] (v.toList ++ []) w1 I1 L1 P1) := by
  exact go_sta (m := 6) (pc := 72) (o := 1) (x := 39) (y := 119) (kd := 3) (as := [.ref a_s0, .ref a_s1]) (rs := []) (by decide +kernel) rfl rfl c_1_39 (Or.inr (Or.inl rfl)) rfl rfl rfl (by decide +kernel) (by simp only [List.length_cons, List.length_nil]; decide) (Nat.le_of_ble_eq_true rfl)
theorem Caller_copyFrom_75 (a_l0 : Nat) (a_l1 : Nat) (l2 : Value) (l3 : Value) (l4 : Value) (w : Wd) (I : MI) (L : ML) (P : MP) (h0 : w.1 a_l1 = some (1, 0)) (h1 : w.1 a_l0 = some (1, 0)) : go 6 75 [.ref a_l0, .ref a_l1, l2, l3, l4] [] w I L P = some (.inl none, w, (updI (updI (updI I a_l0 3 (I a_l1 3)) a_l0 4 ((updI I a_l0 3 (I a_l1 3)) a_l1 4)) a_l0 5 ((updI (updI I a_l0 3 (I a_l1 3)) a_l0 4 ((updI I a_l0 3 (I a_l1 3)) a_l1 4)) a_l1 5)), L, P) := by
  refine (go_aload_n (m := 6) (pc := 75) (k := 0) (by decide +kernel) rfl).trans ?_
  refine (go_aload_n (m := 6) (pc := 76) (k := 1) (by decide +kernel) rfl).trans ?_
  refine (go_getI (m := 6) (pc := 77) (o := 1) (x := 25) (ci := 1) (k := 3) (by decide +kernel) rfl f_1_25 rfl h0).trans ?_
  refine (go_putI (m := 6) (pc := 80) (o := 1) (x := 25) (ci := 1) (k := 3) (by decide +kernel) rfl f_1_25 rfl (by decide +kernel) h1).trans ?_
  refine (go_aload_n (m := 6) (pc := 83) (k := 0) (by decide +kernel) rfl).trans ?_
  refine (go_aload_n (m := 6) (pc := 84) (k := 1) (by decide +kernel) rfl).trans ?_
  refine (go_getI (m := 6) (pc := 85) (o := 1) (x := 28) (ci := 1) (k := 4) (by decide +kernel) rfl f_1_28 rfl h0).trans ?_
  refine (go_putI (m := 6) (pc := 88) (o := 1) (x := 28) (ci := 1) (k := 4) (by decide +kernel) rfl f_1_28 rfl (by decide +kernel) h1).trans ?_
  refine (go_aload_n (m := 6) (pc := 91) (k := 0) (by decide +kernel) rfl).trans ?_
  refine (go_aload_n (m := 6) (pc := 92) (k := 1) (by decide +kernel) rfl).trans ?_
  refine (go_getI (m := 6) (pc := 93) (o := 1) (x := 31) (ci := 1) (k := 5) (by decide +kernel) rfl f_1_31 rfl h0).trans ?_
  refine (go_putI (m := 6) (pc := 96) (o := 1) (x := 31) (ci := 1) (k := 5) (by decide +kernel) rfl f_1_31 rfl (by decide +kernel) h1).trans ?_
  exact go_retV (m := 6) (pc := 99) (by decide +kernel) rfl
theorem Caller_copyFrom_E (this : Nat) (p0 : Nat) (w : Wd) (I : MI) (L : ML) (P : MP) : call 6 [.ref this, .ref p0] w I L P = go 6 0 [.ref this, .ref p0, unk, unk, unk] [] w I L P := rfl
theorem Caller_copyFrom_E1 (this : Nat) (w : Wd) (I : MI) (L : ML) (P : MP) : call 6 [.ref this, .null] w I L P = go 6 0 [.ref this, .null, unk, unk, unk] [] w I L P := rfl
theorem Caller_messageAt_0 (l0 : Value) (x_l1 : Int32) (w : Wd) (I : MI) (L : ML) (P : MP)  : go 7 0 [l0, .int x_l1] [] w I L P = if x_l1 < 0 then go 7 30 [l0, .int x_l1] [] w I L P else go 7 4 [l0, .int x_l1] [] w I L P := by
  refine (go_iload_n (m := 7) (pc := 0) (k := 1) (by decide +kernel) rfl).trans ?_
  exact go_iflt (m := 7) (pc := 1) (off := 29) (t := 30) (by decide +kernel) (by decide)
theorem Caller_messageAt_4 (a_l0 : Nat) (x_l1 : Int32) (w : Wd) (I : MI) (L : ML) (P : MP) (h0 : w.1 a_l0 = some (1, 0)) : go 7 4 [.ref a_l0, .int x_l1] [] w I L P = if (I a_l0 1) ≤ x_l1 then go 7 30 [.ref a_l0, .int x_l1] [] w I L P else go 7 12 [.ref a_l0, .int x_l1] [] w I L P := by
  refine (go_iload_n (m := 7) (pc := 4) (k := 1) (by decide +kernel) rfl).trans ?_
  refine (go_aload_n (m := 7) (pc := 5) (k := 0) (by decide +kernel) rfl).trans ?_
  refine (go_getI (m := 7) (pc := 6) (o := 1) (x := 17) (ci := 1) (k := 1) (by decide +kernel) rfl f_1_17 rfl h0).trans ?_
  exact go_icmpge (m := 7) (pc := 9) (off := 21) (t := 30) (by decide +kernel) (by decide)
theorem Caller_messageAt_12 (a_l0 : Nat) (x_l1 : Int32) (w : Wd) (I : MI) (L : ML) (P : MP) (h0 : w.1 a_l0 = some (1, 0)) : go 7 12 [.ref a_l0, .int x_l1] [] w I L P = go 7 17 [.ref a_l0, .int x_l1] [(va_rf (P a_l0 0)), .int x_l1] w I L P := by
  refine (go_iload_n (m := 7) (pc := 12) (k := 1) (by decide +kernel) rfl).trans ?_
  refine (go_aload_n (m := 7) (pc := 13) (k := 0) (by decide +kernel) rfl).trans ?_
  refine (go_getR (m := 7) (pc := 14) (o := 1) (x := 11) (ci := 1) (k := 0) (by decide +kernel) rfl f_1_11 rfl h0).trans ?_
  rfl
theorem Caller_messageAt_17 (l0 : Value) (l1 : Value) (y0 : Int32) (a_s1 : Nat) (w : Wd) (I : MI) (L : ML) (P : MP) (h0 : isAr w a_s1 13) : go 7 17 [l0, l1] [.ref a_s1, .int y0] w I L P = if (alen w a_s1) ≤ y0 then go 7 30 [l0, l1] [] w I L P else go 7 21 [l0, l1] [] w I L P := by
  refine (go_alen13 (m := 7) (pc := 17) (by decide +kernel) h0).trans ?_
  exact go_icmpge (m := 7) (pc := 18) (off := 12) (t := 30) (by decide +kernel) (by decide)
theorem Caller_messageAt_21 (a_l0 : Nat) (l1 : Value) (w : Wd) (I : MI) (L : ML) (P : MP) (h0 : w.1 a_l0 = some (1, 0)) : go 7 21 [.ref a_l0, l1] [] w I L P = go 7 25 [.ref a_l0, l1] [(va_rf (P a_l0 0))] w I L P := by
  refine (go_aload_n (m := 7) (pc := 21) (k := 0) (by decide +kernel) rfl).trans ?_
  refine (go_getR (m := 7) (pc := 22) (o := 1) (x := 11) (ci := 1) (k := 0) (by decide +kernel) rfl f_1_11 rfl h0).trans ?_
  rfl
theorem Caller_messageAt_25 (l0 : Value) (x_l1 : Int32) (a_s0 : Nat) (w : Wd) (I : MI) (L : ML) (P : MP) (h0 : inA w a_s0 13 x_l1) : go 7 25 [l0, .int x_l1] [.ref a_s0] w I L P = go 7 27 [l0, .int x_l1] [(va_rf (P a_s0 (Int32.toNatClampNeg x_l1)))] w I L P := by
  refine (go_iload_n (m := 7) (pc := 25) (k := 1) (by decide +kernel) rfl).trans ?_
  refine (go_aald13 (m := 7) (pc := 26) (by decide +kernel) h0).trans ?_
  rfl
theorem Caller_messageAt_27 (l0 : Value) (l1 : Value) (v0 : Value) (w : Wd) (I : MI) (L : ML) (P : MP)  : go 7 27 [l0, l1] [v0] w I L P = go 7 31 [l0, l1] [v0] w I L P := by
  refine (go_goto (m := 7) (pc := 27) (off := 4) (t := 31) (by decide +kernel) (by decide)).trans ?_
  rfl
theorem Caller_messageAt_30 (l0 : Value) (l1 : Value) (w : Wd) (I : MI) (L : ML) (P : MP)  : go 7 30 [l0, l1] [] w I L P = go 7 31 [l0, l1] [.null] w I L P := by
  refine (go_anull (m := 7) (pc := 30) (by decide +kernel)).trans ?_
  rfl
theorem Caller_messageAt_31_0 (l0 : Value) (l1 : Value) (w : Wd) (I : MI) (L : ML) (P : MP)  : go 7 31 [l0, l1] [.null] w I L P = some (.inl (some (.null)), w, I, L, P) := by
  exact go_retN (m := 7) (pc := 31) (by decide +kernel) rfl
theorem Caller_messageAt_31_1 (l0 : Value) (l1 : Value) (a_s0 : Nat) (w : Wd) (I : MI) (L : ML) (P : MP)  : go 7 31 [l0, l1] [.ref a_s0] w I L P = some (.inl (some (.ref a_s0)), w, I, L, P) := by
  exact go_retR (m := 7) (pc := 31) (by decide +kernel) rfl
theorem Caller_messageAt_E (this : Nat) (p0 : Int32) (w : Wd) (I : MI) (L : ML) (P : MP) : call 7 [.ref this, .int p0] w I L P = go 7 0 [.ref this, .int p0] [] w I L P := rfl
theorem Caller_enqueue_0 (a_l0 : Nat) (l1 : Value) (l2 : Value) (l3 : Value) (l4 : Value) (l5 : Value) (l6 : Value) (w : Wd) (I : MI) (L : ML) (P : MP) (h0 : w.1 a_l0 = some (1, 0)) : go 8 0 [.ref a_l0, l1, l2, l3, l4, l5, l6] [] w I L P = if (I a_l0 1) < 0 then go 8 31 [.ref a_l0, l1, l2, l3, l4, l5, l6] [] w I L P else go 8 7 [.ref a_l0, l1, l2, l3, l4, l5, l6] [] w I L P := by
  refine (go_aload_n (m := 8) (pc := 0) (k := 0) (by decide +kernel) rfl).trans ?_
  refine (go_getI (m := 8) (pc := 1) (o := 1) (x := 17) (ci := 1) (k := 1) (by decide +kernel) rfl f_1_17 rfl h0).trans ?_
  exact go_iflt (m := 8) (pc := 4) (off := 27) (t := 31) (by decide +kernel) (by decide)
theorem Caller_enqueue_7 (a_l0 : Nat) (l1 : Value) (l2 : Value) (l3 : Value) (l4 : Value) (l5 : Value) (l6 : Value) (w : Wd) (I : MI) (L : ML) (P : MP) (h0 : w.1 a_l0 = some (1, 0)) : go 8 7 [.ref a_l0, l1, l2, l3, l4, l5, l6] [] w I L P = go 8 15 [.ref a_l0, l1, l2, l3, l4, l5, l6] [(va_rf (P a_l0 0)), .int (I a_l0 1)] w I L P := by
  refine (go_aload_n (m := 8) (pc := 7) (k := 0) (by decide +kernel) rfl).trans ?_
  refine (go_getI (m := 8) (pc := 8) (o := 1) (x := 17) (ci := 1) (k := 1) (by decide +kernel) rfl f_1_17 rfl h0).trans ?_
  refine (go_aload_n (m := 8) (pc := 11) (k := 0) (by decide +kernel) rfl).trans ?_
  refine (go_getR (m := 8) (pc := 12) (o := 1) (x := 11) (ci := 1) (k := 0) (by decide +kernel) rfl f_1_11 rfl h0).trans ?_
  rfl
theorem Caller_enqueue_15 (l0 : Value) (l1 : Value) (l2 : Value) (l3 : Value) (l4 : Value) (l5 : Value) (l6 : Value) (y0 : Int32) (a_s1 : Nat) (w : Wd) (I : MI) (L : ML) (P : MP) (h0 : isAr w a_s1 13) : go 8 15 [l0, l1, l2, l3, l4, l5, l6] [.ref a_s1, .int y0] w I L P = if (alen w a_s1) ≤ y0 then go 8 31 [l0, l1, l2, l3, l4, l5, l6] [] w I L P else go 8 19 [l0, l1, l2, l3, l4, l5, l6] [] w I L P := by
  refine (go_alen13 (m := 8) (pc := 15) (by decide +kernel) h0).trans ?_
  exact go_icmpge (m := 8) (pc := 16) (off := 15) (t := 31) (by decide +kernel) (by decide)
theorem Caller_enqueue_19 (a_l0 : Nat) (l1 : Value) (l2 : Value) (l3 : Value) (l4 : Value) (l5 : Value) (l6 : Value) (w : Wd) (I : MI) (L : ML) (P : MP) (h0 : w.1 a_l0 = some (1, 0)) : go 8 19 [.ref a_l0, l1, l2, l3, l4, l5, l6] [] w I L P = go 8 23 [.ref a_l0, l1, l2, l3, l4, l5, l6] [(va_rf (P a_l0 0))] w I L P := by
  refine (go_aload_n (m := 8) (pc := 19) (k := 0) (by decide +kernel) rfl).trans ?_
  refine (go_getR (m := 8) (pc := 20) (o := 1) (x := 11) (ci := 1) (k := 0) (by decide +kernel) rfl f_1_11 rfl h0).trans ?_
  rfl
theorem Caller_enqueue_23 (a_l0 : Nat) (l1 : Value) (l2 : Value) (l3 : Value) (l4 : Value) (l5 : Value) (l6 : Value) (a_s0 : Nat) (w : Wd) (I : MI) (L : ML) (P : MP) (h0 : w.1 a_l0 = some (1, 0)) (h1 : inA w a_s0 13 (I a_l0 1)) : go 8 23 [.ref a_l0, l1, l2, l3, l4, l5, l6] [.ref a_s0] w I L P = go 8 28 [.ref a_l0, l1, l2, l3, l4, l5, l6] [(va_rf (P a_s0 (Int32.toNatClampNeg (I a_l0 1))))] w I L P := by
  refine (go_aload_n (m := 8) (pc := 23) (k := 0) (by decide +kernel) rfl).trans ?_
  refine (go_getI (m := 8) (pc := 24) (o := 1) (x := 17) (ci := 1) (k := 1) (by decide +kernel) rfl f_1_17 rfl h0).trans ?_
  refine (go_aald13 (m := 8) (pc := 27) (by decide +kernel) h1).trans ?_
  rfl
theorem Caller_enqueue_28 (l0 : Value) (l1 : Value) (l2 : Value) (l3 : Value) (l4 : Value) (l5 : Value) (l6 : Value) (v0 : Value) (w : Wd) (I : MI) (L : ML) (P : MP)  : go 8 28 [l0, l1, l2, l3, l4, l5, l6] [v0] w I L P = go 8 32 [l0, l1, l2, l3, l4, l5, l6] [v0] w I L P := by
  refine (go_goto (m := 8) (pc := 28) (off := 4) (t := 32) (by decide +kernel) (by decide)).trans ?_
  rfl
theorem Caller_enqueue_31 (l0 : Value) (l1 : Value) (l2 : Value) (l3 : Value) (l4 : Value) (l5 : Value) (l6 : Value) (w : Wd) (I : MI) (L : ML) (P : MP)  : go 8 31 [l0, l1, l2, l3, l4, l5, l6] [] w I L P = go 8 32 [l0, l1, l2, l3, l4, l5, l6] [.null] w I L P := by
  refine (go_anull (m := 8) (pc := 31) (by decide +kernel)).trans ?_
  rfl
theorem Caller_enqueue_32_0 (l0 : Value) (l1 : Value) (l2 : Value) (l3 : Value) (l4 : Value) (l5 : Value) (l6 : Value) (w : Wd) (I : MI) (L : ML) (P : MP)  : go 8 32 [l0, l1, l2, l3, l4, l5, l6] [.null] w I L P = go 8 39 [l0, l1, l2, l3, l4, (fix1 l5), .null] [] w I L P := by
  refine (go_astoreN (m := 8) (pc := 32) (k := 6) (ls' := [l0, l1, l2, l3, l4, (fix1 l5), .null]) (by decide +kernel) (by simp only [List.length_cons, List.length_nil]; decide) rfl).trans ?_
  refine (go_aloadN (m := 8) (pc := 34) (k := 6) (by decide +kernel) rfl).trans ?_
  exact go_ifnonnullN (m := 8) (pc := 36) (off := 5) (by decide +kernel)
theorem Caller_enqueue_32_1 (l0 : Value) (l1 : Value) (l2 : Value) (l3 : Value) (l4 : Value) (l5 : Value) (l6 : Value) (a_s0 : Nat) (w : Wd) (I : MI) (L : ML) (P : MP)  : go 8 32 [l0, l1, l2, l3, l4, l5, l6] [.ref a_s0] w I L P = go 8 41 [l0, l1, l2, l3, l4, (fix1 l5), .ref a_s0] [] w I L P := by
  refine (go_astore (m := 8) (pc := 32) (k := 6) (ls' := [l0, l1, l2, l3, l4, (fix1 l5), .ref a_s0]) (by decide +kernel) (by simp only [List.length_cons, List.length_nil]; decide) rfl).trans ?_
  refine (go_aload (m := 8) (pc := 34) (k := 6) (by decide +kernel) rfl).trans ?_
  exact go_ifnonnullR (m := 8) (pc := 36) (off := 5) (t := 41) (by decide +kernel) (by decide)
theorem Caller_enqueue_39 (l0 : Value) (l1 : Value) (l2 : Value) (l3 : Value) (l4 : Value) (l5 : Value) (l6 : Value) (w : Wd) (I : MI) (L : ML) (P : MP) (h0 : (nI 0) &&& 1 = (nI 0)) : go 8 39 [l0, l1, l2, l3, l4, l5, l6] [] w I L P = some (.inl (some (.int (nI 0))), w, I, L, P) := by
  refine (go_ic (m := 8) (pc := 39) (n := 0) (by decide +kernel) ic_0).trans ?_
  exact go_retZ (m := 8) (pc := 40) (by decide +kernel) rfl h0
theorem Caller_enqueue_41 (a_l0 : Nat) (x_l1 : Int32) (x_l2 : Int32) (x_l3 : Int32) (x_l4 : Int64) (l5 : Value) (a_l6 : Nat) (w : Wd) (I : MI) (L : ML) (P : MP) (h0 : w.1 a_l6 = some (3, 0)) (h1 : x_l1 &&& 1 = x_l1) (h2 : w.1 a_l0 = some (1, 0)) (h3 : (nI 1) &&& 1 = (nI 1)) : go 8 41 [.ref a_l0, .int x_l1, .int x_l2, .int x_l3, .long x_l4, l5, .ref a_l6] [] w I L P = some (.inl (some (.int (nI 1))), w, (updI (updI (updI (updI (updI I a_l6 0 x_l1) a_l6 1 x_l2) a_l6 2 x_l3) a_l6 3 (nI 0)) a_l0 1 (((updI (updI (updI (updI I a_l6 0 x_l1) a_l6 1 x_l2) a_l6 2 x_l3) a_l6 3 (nI 0)) a_l0 1) + (nI 1))), (updL L a_l6 4 x_l4), P) := by
  refine (go_aload (m := 8) (pc := 41) (k := 6) (by decide +kernel) rfl).trans ?_
  refine (go_iload_n (m := 8) (pc := 43) (k := 1) (by decide +kernel) rfl).trans ?_
  refine (go_putZ (m := 8) (pc := 44) (o := 1) (x := 43) (ci := 3) (k := 0) (by decide +kernel) rfl f_1_43 rfl (by decide +kernel) h1 h0).trans ?_
  refine (go_aload (m := 8) (pc := 47) (k := 6) (by decide +kernel) rfl).trans ?_
  refine (go_iload_n (m := 8) (pc := 49) (k := 2) (by decide +kernel) rfl).trans ?_
  refine (go_putI (m := 8) (pc := 50) (o := 1) (x := 47) (ci := 3) (k := 1) (by decide +kernel) rfl f_1_47 rfl (by decide +kernel) h0).trans ?_
  refine (go_aload (m := 8) (pc := 53) (k := 6) (by decide +kernel) rfl).trans ?_
  refine (go_iload_n (m := 8) (pc := 55) (k := 3) (by decide +kernel) rfl).trans ?_
  refine (go_putI (m := 8) (pc := 56) (o := 1) (x := 50) (ci := 3) (k := 2) (by decide +kernel) rfl f_1_50 rfl (by decide +kernel) h0).trans ?_
  refine (go_aload (m := 8) (pc := 59) (k := 6) (by decide +kernel) rfl).trans ?_
  refine (go_ic (m := 8) (pc := 61) (n := 0) (by decide +kernel) ic_0).trans ?_
  refine (go_putI (m := 8) (pc := 62) (o := 1) (x := 53) (ci := 3) (k := 3) (by decide +kernel) rfl f_1_53 rfl (by decide +kernel) h0).trans ?_
  refine (go_aload (m := 8) (pc := 65) (k := 6) (by decide +kernel) rfl).trans ?_
  refine (go_lload (m := 8) (pc := 67) (k := 4) (by decide +kernel) rfl).trans ?_
  refine (go_putJ (m := 8) (pc := 69) (o := 1) (x := 54) (ci := 3) (k := 4) (by decide +kernel) rfl f_1_54 rfl (by decide +kernel) h0).trans ?_
  refine (go_aload_n (m := 8) (pc := 72) (k := 0) (by decide +kernel) rfl).trans ?_
  refine (go_dup (m := 8) (pc := 73) (by decide +kernel) rfl).trans ?_
  refine (go_getI (m := 8) (pc := 74) (o := 1) (x := 17) (ci := 1) (k := 1) (by decide +kernel) rfl f_1_17 rfl h2).trans ?_
  refine (go_ic (m := 8) (pc := 77) (n := 1) (by decide +kernel) ic_1).trans ?_
  refine (go_iadd (m := 8) (pc := 78) (by decide +kernel)).trans ?_
  refine (go_putI (m := 8) (pc := 79) (o := 1) (x := 17) (ci := 1) (k := 1) (by decide +kernel) rfl f_1_17 rfl (by decide +kernel) h2).trans ?_
  refine (go_ic (m := 8) (pc := 82) (n := 1) (by decide +kernel) ic_1).trans ?_
  exact go_retZ (m := 8) (pc := 83) (by decide +kernel) rfl h3
theorem Caller_enqueue_E (this : Nat) (p0 : Int32) (p1 : Int32) (p2 : Int32) (p3 : Int64) (w : Wd) (I : MI) (L : ML) (P : MP) : call 8 [.ref this, .int p0, .int p1, .int p2, .long p3] w I L P = go 8 0 [.ref this, .int p0, .int p1, .int p2, .long p3, unk, unk] [] w I L P := rfl
theorem Caller_takeBack_0 (a_l0 : Nat) (l1 : Value) (w : Wd) (I : MI) (L : ML) (P : MP) (h0 : w.1 a_l0 = some (1, 0)) : go 9 0 [.ref a_l0, l1] [] w I L P = kC (call 7 [.ref a_l0, .int ((I a_l0 1) - (nI 1))] w I L P) (fun v w1 I1 L1 P1 => go 9 10 [.ref a_l0, l1] (v.toList ++ []) w1 I1 L1 P1) := by
  refine (go_aload_n (m := 9) (pc := 0) (k := 0) (by decide +kernel) rfl).trans ?_
  refine (go_aload_n (m := 9) (pc := 1) (k := 0) (by decide +kernel) rfl).trans ?_
  refine (go_getI (m := 9) (pc := 2) (o := 1) (x := 17) (ci := 1) (k := 1) (by decide +kernel) rfl f_1_17 rfl h0).trans ?_
  refine (go_ic (m := 9) (pc := 5) (n := 1) (by decide +kernel) ic_1).trans ?_
  refine (go_isub (m := 9) (pc := 6) (by decide +kernel)).trans ?_
  exact go_vir (m := 9) (pc := 7) (o := 1) (x := 58) (y := 7) (kd := 0) (b := a_l0) (bs := [.int ((I a_l0 1) - (nI 1))]) (rs := []) (by decide +kernel) rfl rfl c_1_58 (Or.inl rfl) rfl rfl rfl (by decide +kernel) (by simp only [List.length_cons, List.length_nil]; decide) (Nat.le_of_ble_eq_true rfl) h0
theorem Caller_takeBack_10_0 (l0 : Value) (l1 : Value) (w : Wd) (I : MI) (L : ML) (P : MP)  : go 9 10 [l0, l1] [.null] w I L P = go 9 15 [(fix1 l0), .null] [] w I L P := by
  refine (go_astore_nN (m := 9) (pc := 10) (k := 1) (ls' := [(fix1 l0), .null]) (by decide +kernel) (by simp only [List.length_cons, List.length_nil]; decide) rfl).trans ?_
  refine (go_aload_nN (m := 9) (pc := 11) (k := 1) (by decide +kernel) rfl).trans ?_
  exact go_ifnonnullN (m := 9) (pc := 12) (off := 5) (by decide +kernel)
theorem Caller_takeBack_10_1 (l0 : Value) (l1 : Value) (a_s0 : Nat) (w : Wd) (I : MI) (L : ML) (P : MP)  : go 9 10 [l0, l1] [.ref a_s0] w I L P = go 9 17 [(fix1 l0), .ref a_s0] [] w I L P := by
  refine (go_astore_n (m := 9) (pc := 10) (k := 1) (ls' := [(fix1 l0), .ref a_s0]) (by decide +kernel) (by simp only [List.length_cons, List.length_nil]; decide) rfl).trans ?_
  refine (go_aload_n (m := 9) (pc := 11) (k := 1) (by decide +kernel) rfl).trans ?_
  exact go_ifnonnullR (m := 9) (pc := 12) (off := 5) (t := 17) (by decide +kernel) (by decide)
theorem Caller_takeBack_15 (l0 : Value) (l1 : Value) (w : Wd) (I : MI) (L : ML) (P : MP)  : go 9 15 [l0, l1] [] w I L P = some (.inl (some (.int (-1))), w, I, L, P) := by
  refine (go_ic (m := 9) (pc := 15) (n := -1) (by decide +kernel) ic_m1).trans ?_
  exact go_retI (m := 9) (pc := 16) (by decide +kernel) rfl
theorem Caller_takeBack_17 (a_l0 : Nat) (a_l1 : Nat) (w : Wd) (I : MI) (L : ML) (P : MP) (h0 : w.1 a_l0 = some (1, 0)) (h1 : w.1 a_l1 = some (3, 0)) : go 9 17 [.ref a_l0, .ref a_l1] [] w I L P = some (.inl (some (.int ((updI I a_l0 1 ((I a_l0 1) - (nI 1))) a_l1 1))), w, (updI I a_l0 1 ((I a_l0 1) - (nI 1))), L, P) := by
  refine (go_aload_n (m := 9) (pc := 17) (k := 0) (by decide +kernel) rfl).trans ?_
  refine (go_dup (m := 9) (pc := 18) (by decide +kernel) rfl).trans ?_
  refine (go_getI (m := 9) (pc := 19) (o := 1) (x := 17) (ci := 1) (k := 1) (by decide +kernel) rfl f_1_17 rfl h0).trans ?_
  refine (go_ic (m := 9) (pc := 22) (n := 1) (by decide +kernel) ic_1).trans ?_
  refine (go_isub (m := 9) (pc := 23) (by decide +kernel)).trans ?_
  refine (go_putI (m := 9) (pc := 24) (o := 1) (x := 17) (ci := 1) (k := 1) (by decide +kernel) rfl f_1_17 rfl (by decide +kernel) h0).trans ?_
  refine (go_aload_n (m := 9) (pc := 27) (k := 1) (by decide +kernel) rfl).trans ?_
  refine (go_getI (m := 9) (pc := 28) (o := 1) (x := 47) (ci := 3) (k := 1) (by decide +kernel) rfl f_1_47 rfl h1).trans ?_
  exact go_retI (m := 9) (pc := 31) (by decide +kernel) rfl
theorem Caller_takeBack_E (this : Nat) (w : Wd) (I : MI) (L : ML) (P : MP) : call 9 [.ref this] w I L P = go 9 0 [.ref this, unk] [] w I L P := rfl
theorem Caller_endFirst_0 (a_l0 : Nat) (l1 : Value) (l2 : Value) (l3 : Value) (w : Wd) (I : MI) (L : ML) (P : MP) (h0 : w.1 a_l0 = some (1, 0)) : go 10 0 [.ref a_l0, l1, l2, l3] [] w I L P = if (I a_l0 1) ≤ 0 then go 10 20 [.ref a_l0, l1, l2, l3] [] w I L P else go 10 7 [.ref a_l0, l1, l2, l3] [] w I L P := by
  refine (go_aload_n (m := 10) (pc := 0) (k := 0) (by decide +kernel) rfl).trans ?_
  refine (go_getI (m := 10) (pc := 1) (o := 1) (x := 17) (ci := 1) (k := 1) (by decide +kernel) rfl f_1_17 rfl h0).trans ?_
  exact go_ifle (m := 10) (pc := 4) (off := 16) (t := 20) (by decide +kernel) (by decide)
theorem Caller_endFirst_7 (l0 : Value) (x_l1 : Int32) (l2 : Value) (l3 : Value) (w : Wd) (I : MI) (L : ML) (P : MP)  : go 10 7 [l0, .int x_l1, l2, l3] [] w I L P = if x_l1 < 0 then go 10 20 [l0, .int x_l1, l2, l3] [] w I L P else go 10 11 [l0, .int x_l1, l2, l3] [] w I L P := by
  refine (go_iload_n (m := 10) (pc := 7) (k := 1) (by decide +kernel) rfl).trans ?_
  exact go_iflt (m := 10) (pc := 8) (off := 12) (t := 20) (by decide +kernel) (by decide)
theorem Caller_endFirst_11 (a_l0 : Nat) (x_l1 : Int32) (l2 : Value) (l3 : Value) (w : Wd) (I : MI) (L : ML) (P : MP) (h0 : w.1 a_l0 = some (1, 0)) : go 10 11 [.ref a_l0, .int x_l1, l2, l3] [] w I L P = go 10 16 [.ref a_l0, .int x_l1, l2, l3] [(va_rf (P a_l0 2)), .int x_l1] w I L P := by
  refine (go_iload_n (m := 10) (pc := 11) (k := 1) (by decide +kernel) rfl).trans ?_
  refine (go_aload_n (m := 10) (pc := 12) (k := 0) (by decide +kernel) rfl).trans ?_
  refine (go_getR (m := 10) (pc := 13) (o := 1) (x := 21) (ci := 1) (k := 2) (by decide +kernel) rfl f_1_21 rfl h0).trans ?_
  rfl
theorem Caller_endFirst_16 (l0 : Value) (l1 : Value) (l2 : Value) (l3 : Value) (y0 : Int32) (a_s1 : Nat) (w : Wd) (I : MI) (L : ML) (P : MP) (h0 : isAr w a_s1 8) : go 10 16 [l0, l1, l2, l3] [.ref a_s1, .int y0] w I L P = if y0 < (alen w a_s1) then go 10 21 [l0, l1, l2, l3] [] w I L P else go 10 20 [l0, l1, l2, l3] [] w I L P := by
  refine (go_alen8 (m := 10) (pc := 16) (by decide +kernel) h0).trans ?_
  exact go_icmplt (m := 10) (pc := 17) (off := 4) (t := 21) (by decide +kernel) (by decide)
theorem Caller_endFirst_20 (l0 : Value) (l1 : Value) (l2 : Value) (l3 : Value) (w : Wd) (I : MI) (L : ML) (P : MP)  : go 10 20 [l0, l1, l2, l3] [] w I L P = some (.inl none, w, I, L, P) := by
  exact go_retV (m := 10) (pc := 20) (by decide +kernel) rfl
theorem Caller_endFirst_21 (a_l0 : Nat) (l1 : Value) (l2 : Value) (l3 : Value) (w : Wd) (I : MI) (L : ML) (P : MP) (h0 : w.1 a_l0 = some (1, 0)) : go 10 21 [.ref a_l0, l1, l2, l3] [] w I L P = go 10 25 [.ref a_l0, l1, l2, l3] [(va_rf (P a_l0 0))] w I L P := by
  refine (go_aload_n (m := 10) (pc := 21) (k := 0) (by decide +kernel) rfl).trans ?_
  refine (go_getR (m := 10) (pc := 22) (o := 1) (x := 11) (ci := 1) (k := 0) (by decide +kernel) rfl f_1_11 rfl h0).trans ?_
  rfl
theorem Caller_endFirst_25 (l0 : Value) (l1 : Value) (l2 : Value) (l3 : Value) (a_s0 : Nat) (w : Wd) (I : MI) (L : ML) (P : MP) (h0 : inA w a_s0 13 (nI 0)) : go 10 25 [l0, l1, l2, l3] [.ref a_s0] w I L P = go 10 27 [l0, l1, l2, l3] [(va_rf (P a_s0 (Int32.toNatClampNeg (nI 0))))] w I L P := by
  refine (go_ic (m := 10) (pc := 25) (n := 0) (by decide +kernel) ic_0).trans ?_
  refine (go_aald13 (m := 10) (pc := 26) (by decide +kernel) h0).trans ?_
  rfl
theorem Caller_endFirst_27_0 (l0 : Value) (l1 : Value) (l2 : Value) (l3 : Value) (w : Wd) (I : MI) (L : ML) (P : MP)  : go 10 27 [l0, l1, l2, l3] [.null] w I L P = go 10 30 [l0, (fix1 l1), .null, .int (nI 1)] [] w I L P := by
  refine (go_astore_nN (m := 10) (pc := 27) (k := 2) (ls' := [l0, (fix1 l1), .null, l3]) (by decide +kernel) (by simp only [List.length_cons, List.length_nil]; decide) rfl).trans ?_
  refine (go_ic (m := 10) (pc := 28) (n := 1) (by decide +kernel) ic_1).trans ?_
  refine (go_istore_n (m := 10) (pc := 29) (k := 3) (ls' := [l0, (fix1 l1), .null, .int (nI 1)]) (by decide +kernel) (by simp only [List.length_cons, List.length_nil]; decide) rfl).trans ?_
  rfl
theorem Caller_endFirst_27_1 (l0 : Value) (l1 : Value) (l2 : Value) (l3 : Value) (a_s0 : Nat) (w : Wd) (I : MI) (L : ML) (P : MP)  : go 10 27 [l0, l1, l2, l3] [.ref a_s0] w I L P = go 10 30 [l0, (fix1 l1), .ref a_s0, .int (nI 1)] [] w I L P := by
  refine (go_astore_n (m := 10) (pc := 27) (k := 2) (ls' := [l0, (fix1 l1), .ref a_s0, l3]) (by decide +kernel) (by simp only [List.length_cons, List.length_nil]; decide) rfl).trans ?_
  refine (go_ic (m := 10) (pc := 28) (n := 1) (by decide +kernel) ic_1).trans ?_
  refine (go_istore_n (m := 10) (pc := 29) (k := 3) (ls' := [l0, (fix1 l1), .ref a_s0, .int (nI 1)]) (by decide +kernel) (by simp only [List.length_cons, List.length_nil]; decide) rfl).trans ?_
  rfl
theorem Caller_endFirst_30 (a_l0 : Nat) (l1 : Value) (l2 : Value) (x_l3 : Int32) (w : Wd) (I : MI) (L : ML) (P : MP) (h0 : w.1 a_l0 = some (1, 0)) : go 10 30 [.ref a_l0, l1, l2, .int x_l3] [] w I L P = go 10 35 [.ref a_l0, l1, l2, .int x_l3] [(va_rf (P a_l0 0)), .int x_l3] w I L P := by
  refine (go_iload_n (m := 10) (pc := 30) (k := 3) (by decide +kernel) rfl).trans ?_
  refine (go_aload_n (m := 10) (pc := 31) (k := 0) (by decide +kernel) rfl).trans ?_
  refine (go_getR (m := 10) (pc := 32) (o := 1) (x := 11) (ci := 1) (k := 0) (by decide +kernel) rfl f_1_11 rfl h0).trans ?_
  rfl
theorem Caller_endFirst_35 (l0 : Value) (l1 : Value) (l2 : Value) (l3 : Value) (y0 : Int32) (a_s1 : Nat) (w : Wd) (I : MI) (L : ML) (P : MP) (h0 : isAr w a_s1 13) : go 10 35 [l0, l1, l2, l3] [.ref a_s1, .int y0] w I L P = if (alen w a_s1) ≤ y0 then go 10 59 [l0, l1, l2, l3] [] w I L P else go 10 39 [l0, l1, l2, l3] [] w I L P := by
  refine (go_alen13 (m := 10) (pc := 35) (by decide +kernel) h0).trans ?_
  exact go_icmpge (m := 10) (pc := 36) (off := 23) (t := 59) (by decide +kernel) (by decide)
theorem Caller_endFirst_39 (a_l0 : Nat) (l1 : Value) (l2 : Value) (l3 : Value) (w : Wd) (I : MI) (L : ML) (P : MP) (h0 : w.1 a_l0 = some (1, 0)) : go 10 39 [.ref a_l0, l1, l2, l3] [] w I L P = go 10 43 [.ref a_l0, l1, l2, l3] [(va_rf (P a_l0 0))] w I L P := by
  refine (go_aload_n (m := 10) (pc := 39) (k := 0) (by decide +kernel) rfl).trans ?_
  refine (go_getR (m := 10) (pc := 40) (o := 1) (x := 11) (ci := 1) (k := 0) (by decide +kernel) rfl f_1_11 rfl h0).trans ?_
  rfl
theorem Caller_endFirst_43 (a_l0 : Nat) (l1 : Value) (l2 : Value) (x_l3 : Int32) (v0 : Value) (w : Wd) (I : MI) (L : ML) (P : MP) (h0 : w.1 a_l0 = some (1, 0)) : go 10 43 [.ref a_l0, l1, l2, .int x_l3] [v0] w I L P = go 10 50 [.ref a_l0, l1, l2, .int x_l3] [(va_rf (P a_l0 0)), .int (x_l3 - (nI 1)), v0] w I L P := by
  refine (go_iload_n (m := 10) (pc := 43) (k := 3) (by decide +kernel) rfl).trans ?_
  refine (go_ic (m := 10) (pc := 44) (n := 1) (by decide +kernel) ic_1).trans ?_
  refine (go_isub (m := 10) (pc := 45) (by decide +kernel)).trans ?_
  refine (go_aload_n (m := 10) (pc := 46) (k := 0) (by decide +kernel) rfl).trans ?_
  refine (go_getR (m := 10) (pc := 47) (o := 1) (x := 11) (ci := 1) (k := 0) (by decide +kernel) rfl f_1_11 rfl h0).trans ?_
  rfl
theorem Caller_endFirst_50 (l0 : Value) (l1 : Value) (l2 : Value) (x_l3 : Int32) (v0 : Value) (y1 : Int32) (a_s2 : Nat) (w : Wd) (I : MI) (L : ML) (P : MP) (h0 : inA w a_s2 13 x_l3) : go 10 50 [l0, l1, l2, .int x_l3] [.ref a_s2, .int y1, v0] w I L P = go 10 52 [l0, l1, l2, .int x_l3] [(va_rf (P a_s2 (Int32.toNatClampNeg x_l3))), .int y1, v0] w I L P := by
  refine (go_iload_n (m := 10) (pc := 50) (k := 3) (by decide +kernel) rfl).trans ?_
  refine (go_aald13 (m := 10) (pc := 51) (by decide +kernel) h0).trans ?_
  rfl
theorem Caller_endFirst_52 (l0 : Value) (l1 : Value) (l2 : Value) (x_l3 : Int32) (a_s0 : Nat) (y1 : Int32) (a_s2 : Nat) (w : Wd) (I : MI) (L : ML) (P : MP) (h0 : inA w a_s0 13 y1) (h1 : w.1 a_s2 = some (3, 0)) : go 10 52 [l0, l1, l2, .int x_l3] [.ref a_s2, .int y1, .ref a_s0] w I L P = go 10 30 [l0, l1, (fix1 l2), .int (x_l3 + (nI 1))] [] w I L (updP P a_s0 (Int32.toNatClampNeg y1) (some a_s2)) := by
  refine (go_aast13 (m := 10) (pc := 52) (by decide +kernel) h0 h1).trans ?_
  refine (go_iinc (m := 10) (pc := 53) (k := 3) (n := 1) (x := x_l3) (v := x_l3 + (nI 1)) (ls' := [l0, l1, (fix1 l2), .int (x_l3 + (nI 1))]) (by decide +kernel) rfl (by rw [ic_1]) rfl).trans ?_
  refine (go_goto (m := 10) (pc := 56) (off := -26) (t := 30) (by decide +kernel) (by decide)).trans ?_
  rfl
theorem Caller_endFirst_59 (a_l0 : Nat) (l1 : Value) (l2 : Value) (l3 : Value) (w : Wd) (I : MI) (L : ML) (P : MP) (h0 : w.1 a_l0 = some (1, 0)) : go 10 59 [.ref a_l0, l1, l2, l3] [] w I L P = go 10 63 [.ref a_l0, l1, l2, l3] [(va_rf (P a_l0 0))] w I L P := by
  refine (go_aload_n (m := 10) (pc := 59) (k := 0) (by decide +kernel) rfl).trans ?_
  refine (go_getR (m := 10) (pc := 60) (o := 1) (x := 11) (ci := 1) (k := 0) (by decide +kernel) rfl f_1_11 rfl h0).trans ?_
  rfl
theorem Caller_endFirst_63 (a_l0 : Nat) (l1 : Value) (l2 : Value) (l3 : Value) (v0 : Value) (w : Wd) (I : MI) (L : ML) (P : MP) (h0 : w.1 a_l0 = some (1, 0)) : go 10 63 [.ref a_l0, l1, l2, l3] [v0] w I L P = go 10 67 [.ref a_l0, l1, l2, l3] [(va_rf (P a_l0 0)), v0] w I L P := by
  refine (go_aload_n (m := 10) (pc := 63) (k := 0) (by decide +kernel) rfl).trans ?_
  refine (go_getR (m := 10) (pc := 64) (o := 1) (x := 11) (ci := 1) (k := 0) (by decide +kernel) rfl f_1_11 rfl h0).trans ?_
  rfl
theorem Caller_endFirst_67 (a_l0 : Nat) (l1 : Value) (a_l2 : Nat) (l3 : Value) (a_s0 : Nat) (a_s1 : Nat) (w : Wd) (I : MI) (L : ML) (P : MP) (h0 : isAr w a_s1 13) (h1 : inA w a_s0 13 ((alen w a_s1) - (nI 1))) (h2 : w.1 a_l2 = some (3, 0)) (h3 : w.1 a_l0 = some (1, 0)) : go 10 67 [.ref a_l0, l1, .ref a_l2, l3] [.ref a_s1, .ref a_s0] w I L P = go 10 86 [.ref a_l0, l1, .ref a_l2, l3] [(va_rf ((updP P a_s0 (Int32.toNatClampNeg ((alen w a_s1) - (nI 1))) (some a_l2)) a_l0 2))] w (updI I a_l0 1 ((I a_l0 1) - (nI 1))) L (updP P a_s0 (Int32.toNatClampNeg ((alen w a_s1) - (nI 1))) (some a_l2)) := by
  refine (go_alen13 (m := 10) (pc := 67) (by decide +kernel) h0).trans ?_
  refine (go_ic (m := 10) (pc := 68) (n := 1) (by decide +kernel) ic_1).trans ?_
  refine (go_isub (m := 10) (pc := 69) (by decide +kernel)).trans ?_
  refine (go_aload_n (m := 10) (pc := 70) (k := 2) (by decide +kernel) rfl).trans ?_
  refine (go_aast13 (m := 10) (pc := 71) (by decide +kernel) h1 h2).trans ?_
  refine (go_aload_n (m := 10) (pc := 72) (k := 0) (by decide +kernel) rfl).trans ?_
  refine (go_dup (m := 10) (pc := 73) (by decide +kernel) rfl).trans ?_
  refine (go_getI (m := 10) (pc := 74) (o := 1) (x := 17) (ci := 1) (k := 1) (by decide +kernel) rfl f_1_17 rfl h3).trans ?_
  refine (go_ic (m := 10) (pc := 77) (n := 1) (by decide +kernel) ic_1).trans ?_
  refine (go_isub (m := 10) (pc := 78) (by decide +kernel)).trans ?_
  refine (go_putI (m := 10) (pc := 79) (o := 1) (x := 17) (ci := 1) (k := 1) (by decide +kernel) rfl f_1_17 rfl (by decide +kernel) h3).trans ?_
  refine (go_aload_n (m := 10) (pc := 82) (k := 0) (by decide +kernel) rfl).trans ?_
  refine (go_getR (m := 10) (pc := 83) (o := 1) (x := 21) (ci := 1) (k := 2) (by decide +kernel) rfl f_1_21 rfl h3).trans ?_
  rfl
theorem Caller_endFirst_86 (l0 : Value) (x_l1 : Int32) (l2 : Value) (l3 : Value) (a_s0 : Nat) (w : Wd) (I : MI) (L : ML) (P : MP) (h0 : inA w a_s0 8 x_l1) : go 10 86 [l0, .int x_l1, l2, l3] [.ref a_s0] w I L P = some (.inl none, w, (updI I a_s0 (Int32.toNatClampNeg x_l1) ((I a_s0 (Int32.toNatClampNeg x_l1)) + (nI 1))), L, P) := by
  refine (go_iload_n (m := 10) (pc := 86) (k := 1) (by decide +kernel) rfl).trans ?_
  refine (go_dup2 (m := 10) (pc := 87) (by decide +kernel) rfl rfl).trans ?_
  refine (go_iald (m := 10) (pc := 88) (by decide +kernel) h0).trans ?_
  refine (go_ic (m := 10) (pc := 89) (n := 1) (by decide +kernel) ic_1).trans ?_
  refine (go_iadd (m := 10) (pc := 90) (by decide +kernel)).trans ?_
  refine (go_iast (m := 10) (pc := 91) (by decide +kernel) h0).trans ?_
  exact go_retV (m := 10) (pc := 92) (by decide +kernel) rfl
theorem Caller_endFirst_E (this : Nat) (p0 : Int32) (w : Wd) (I : MI) (L : ML) (P : MP) : call 10 [.ref this, .int p0] w I L P = go 10 0 [.ref this, .int p0, unk, unk] [] w I L P := rfl
theorem Caller_loseBit_0 (a_l0 : Nat) (l1 : Value) (l2 : Value) (w : Wd) (I : MI) (L : ML) (P : MP) (h0 : w.1 a_l0 = some (1, 0)) : go 11 0 [.ref a_l0, l1, l2] [] w I L P = kC (call 7 [.ref a_l0, .int (nI 0)] w I L P) (fun v w1 I1 L1 P1 => go 11 5 [.ref a_l0, l1, l2] (v.toList ++ []) w1 I1 L1 P1) := by
  refine (go_aload_n (m := 11) (pc := 0) (k := 0) (by decide +kernel) rfl).trans ?_
  refine (go_ic (m := 11) (pc := 1) (n := 0) (by decide +kernel) ic_0).trans ?_
  exact go_vir (m := 11) (pc := 2) (o := 1) (x := 58) (y := 7) (kd := 0) (b := a_l0) (bs := [.int (nI 0)]) (rs := []) (by decide +kernel) rfl rfl c_1_58 (Or.inl rfl) rfl rfl rfl (by decide +kernel) (by simp only [List.length_cons, List.length_nil]; decide) (Nat.le_of_ble_eq_true rfl) h0
theorem Caller_loseBit_5_0 (l0 : Value) (l1 : Value) (l2 : Value) (w : Wd) (I : MI) (L : ML) (P : MP)  : go 11 5 [l0, l1, l2] [.null] w I L P = go 11 10 [l0, (fix1 l1), .null] [] w I L P := by
  refine (go_astore_nN (m := 11) (pc := 5) (k := 2) (ls' := [l0, (fix1 l1), .null]) (by decide +kernel) (by simp only [List.length_cons, List.length_nil]; decide) rfl).trans ?_
  refine (go_aload_nN (m := 11) (pc := 6) (k := 2) (by decide +kernel) rfl).trans ?_
  exact go_ifnonnullN (m := 11) (pc := 7) (off := 4) (by decide +kernel)
theorem Caller_loseBit_5_1 (l0 : Value) (l1 : Value) (l2 : Value) (a_s0 : Nat) (w : Wd) (I : MI) (L : ML) (P : MP)  : go 11 5 [l0, l1, l2] [.ref a_s0] w I L P = go 11 11 [l0, (fix1 l1), .ref a_s0] [] w I L P := by
  refine (go_astore_n (m := 11) (pc := 5) (k := 2) (ls' := [l0, (fix1 l1), .ref a_s0]) (by decide +kernel) (by simp only [List.length_cons, List.length_nil]; decide) rfl).trans ?_
  refine (go_aload_n (m := 11) (pc := 6) (k := 2) (by decide +kernel) rfl).trans ?_
  exact go_ifnonnullR (m := 11) (pc := 7) (off := 4) (t := 11) (by decide +kernel) (by decide)
theorem Caller_loseBit_10 (l0 : Value) (l1 : Value) (l2 : Value) (w : Wd) (I : MI) (L : ML) (P : MP)  : go 11 10 [l0, l1, l2] [] w I L P = some (.inl none, w, I, L, P) := by
  exact go_retV (m := 11) (pc := 10) (by decide +kernel) rfl
theorem Caller_loseBit_11 (a_l0 : Nat) (x_l1 : Int32) (a_l2 : Nat) (w : Wd) (I : MI) (L : ML) (P : MP) (h0 : w.1 a_l2 = some (3, 0)) (h1 : w.1 a_l0 = some (1, 0)) : go 11 11 [.ref a_l0, .int x_l1, .ref a_l2] [] w I L P = if ((updI (updI I a_l2 3 ((I a_l2 3) + (nI 1))) a_l0 3 (((updI I a_l2 3 ((I a_l2 3) + (nI 1))) a_l0 3) + (nI 1))) a_l2 3) < x_l1 then go 11 44 [.ref a_l0, .int x_l1, .ref a_l2] [] w (updI (updI I a_l2 3 ((I a_l2 3) + (nI 1))) a_l0 3 (((updI I a_l2 3 ((I a_l2 3) + (nI 1))) a_l0 3) + (nI 1))) L P else go 11 39 [.ref a_l0, .int x_l1, .ref a_l2] [] w (updI (updI I a_l2 3 ((I a_l2 3) + (nI 1))) a_l0 3 (((updI I a_l2 3 ((I a_l2 3) + (nI 1))) a_l0 3) + (nI 1))) L P := by
  refine (go_aload_n (m := 11) (pc := 11) (k := 2) (by decide +kernel) rfl).trans ?_
  refine (go_dup (m := 11) (pc := 12) (by decide +kernel) rfl).trans ?_
  refine (go_getI (m := 11) (pc := 13) (o := 1) (x := 53) (ci := 3) (k := 3) (by decide +kernel) rfl f_1_53 rfl h0).trans ?_
  refine (go_ic (m := 11) (pc := 16) (n := 1) (by decide +kernel) ic_1).trans ?_
  refine (go_iadd (m := 11) (pc := 17) (by decide +kernel)).trans ?_
  refine (go_putI (m := 11) (pc := 18) (o := 1) (x := 53) (ci := 3) (k := 3) (by decide +kernel) rfl f_1_53 rfl (by decide +kernel) h0).trans ?_
  refine (go_aload_n (m := 11) (pc := 21) (k := 0) (by decide +kernel) rfl).trans ?_
  refine (go_dup (m := 11) (pc := 22) (by decide +kernel) rfl).trans ?_
  refine (go_getI (m := 11) (pc := 23) (o := 1) (x := 25) (ci := 1) (k := 3) (by decide +kernel) rfl f_1_25 rfl h1).trans ?_
  refine (go_ic (m := 11) (pc := 26) (n := 1) (by decide +kernel) ic_1).trans ?_
  refine (go_iadd (m := 11) (pc := 27) (by decide +kernel)).trans ?_
  refine (go_putI (m := 11) (pc := 28) (o := 1) (x := 25) (ci := 1) (k := 3) (by decide +kernel) rfl f_1_25 rfl (by decide +kernel) h1).trans ?_
  refine (go_aload_n (m := 11) (pc := 31) (k := 2) (by decide +kernel) rfl).trans ?_
  refine (go_getI (m := 11) (pc := 32) (o := 1) (x := 53) (ci := 3) (k := 3) (by decide +kernel) rfl f_1_53 rfl h0).trans ?_
  refine (go_iload_n (m := 11) (pc := 35) (k := 1) (by decide +kernel) rfl).trans ?_
  exact go_icmplt (m := 11) (pc := 36) (off := 8) (t := 44) (by decide +kernel) (by decide)
theorem Caller_loseBit_39 (a_l0 : Nat) (l1 : Value) (l2 : Value) (w : Wd) (I : MI) (L : ML) (P : MP) (h0 : w.1 a_l0 = some (1, 0)) : go 11 39 [.ref a_l0, l1, l2] [] w I L P = kC (call 10 [.ref a_l0, .int (nI 4)] w I L P) (fun v w1 I1 L1 P1 => go 11 44 [.ref a_l0, l1, l2] (v.toList ++ []) w1 I1 L1 P1) := by
  refine (go_aload_n (m := 11) (pc := 39) (k := 0) (by decide +kernel) rfl).trans ?_
  refine (go_ic (m := 11) (pc := 40) (n := 4) (by decide +kernel) ic_4).trans ?_
  exact go_vir (m := 11) (pc := 41) (o := 1) (x := 62) (y := 10) (kd := 0) (b := a_l0) (bs := [.int (nI 4)]) (rs := []) (by decide +kernel) rfl rfl c_1_62 (Or.inl rfl) rfl rfl rfl (by decide +kernel) (by simp only [List.length_cons, List.length_nil]; decide) (Nat.le_of_ble_eq_true rfl) h0
theorem Caller_loseBit_44 (l0 : Value) (l1 : Value) (l2 : Value) (w : Wd) (I : MI) (L : ML) (P : MP)  : go 11 44 [l0, l1, l2] [] w I L P = some (.inl none, w, I, L, P) := by
  exact go_retV (m := 11) (pc := 44) (by decide +kernel) rfl
theorem Caller_loseBit_E (this : Nat) (p0 : Int32) (w : Wd) (I : MI) (L : ML) (P : MP) : call 11 [.ref this, .int p0] w I L P = go 11 0 [.ref this, .int p0, unk] [] w I L P := rfl
theorem Caller_receiveByte_0 (a_l0 : Nat) (x_l1 : Int32) (w : Wd) (I : MI) (L : ML) (P : MP) (h0 : w.1 a_l0 = some (1, 0)) : go 12 0 [.ref a_l0, .int x_l1] [] w I L P = some (.inl none, w, (updI (updI I a_l0 4 ((I a_l0 4) + (nI 1))) a_l0 5 x_l1), L, P) := by
  refine (go_aload_n (m := 12) (pc := 0) (k := 0) (by decide +kernel) rfl).trans ?_
  refine (go_dup (m := 12) (pc := 1) (by decide +kernel) rfl).trans ?_
  refine (go_getI (m := 12) (pc := 2) (o := 1) (x := 28) (ci := 1) (k := 4) (by decide +kernel) rfl f_1_28 rfl h0).trans ?_
  refine (go_ic (m := 12) (pc := 5) (n := 1) (by decide +kernel) ic_1).trans ?_
  refine (go_iadd (m := 12) (pc := 6) (by decide +kernel)).trans ?_
  refine (go_putI (m := 12) (pc := 7) (o := 1) (x := 28) (ci := 1) (k := 4) (by decide +kernel) rfl f_1_28 rfl (by decide +kernel) h0).trans ?_
  refine (go_aload_n (m := 12) (pc := 10) (k := 0) (by decide +kernel) rfl).trans ?_
  refine (go_iload_n (m := 12) (pc := 11) (k := 1) (by decide +kernel) rfl).trans ?_
  refine (go_putI (m := 12) (pc := 12) (o := 1) (x := 31) (ci := 1) (k := 5) (by decide +kernel) rfl f_1_31 rfl (by decide +kernel) h0).trans ?_
  exact go_retV (m := 12) (pc := 15) (by decide +kernel) rfl
theorem Caller_receiveByte_E (this : Nat) (p0 : Int32) (w : Wd) (I : MI) (L : ML) (P : MP) : call 12 [.ref this, .int p0] w I L P = go 12 0 [.ref this, .int p0] [] w I L P := rfl
theorem Caller_tell_0 (l0 : Value) (x_l1 : Int32) (w : Wd) (I : MI) (L : ML) (P : MP)  : go 13 0 [l0, .int x_l1] [] w I L P = go 13 1 [l0, .int x_l1] [.int x_l1] w I L P := by
  refine (go_iload_n (m := 13) (pc := 0) (k := 1) (by decide +kernel) rfl).trans ?_
  rfl
theorem Caller_tell_1_k0 (l0 : Value) (l1 : Value) (w : Wd) (I : MI) (L : ML) (P : MP) : go 13 1 [l0, l1] [.int (nI 0)] w I L P = go 13 48 [l0, l1] [] w I L P := go_tsI (m := 13) (pc := 1) (z := 0) (off := 47) (t := 48) (dflt := 67) (lo := 0) (hi := 7) (offs := #[47, 67, 67, 67, 67, 52, 57, 62]) (len := 47) (by decide +kernel) (by decide) (by decide) (by decide) (by decide) (by decide)
theorem Caller_tell_1_k1 (l0 : Value) (l1 : Value) (w : Wd) (I : MI) (L : ML) (P : MP) : go 13 1 [l0, l1] [.int (nI 1)] w I L P = go 13 68 [l0, l1] [] w I L P := go_tsI (m := 13) (pc := 1) (z := 1) (off := 67) (t := 68) (dflt := 67) (lo := 0) (hi := 7) (offs := #[47, 67, 67, 67, 67, 52, 57, 62]) (len := 47) (by decide +kernel) (by decide) (by decide) (by decide) (by decide) (by decide)
theorem Caller_tell_1_k2 (l0 : Value) (l1 : Value) (w : Wd) (I : MI) (L : ML) (P : MP) : go 13 1 [l0, l1] [.int (nI 2)] w I L P = go 13 68 [l0, l1] [] w I L P := go_tsI (m := 13) (pc := 1) (z := 2) (off := 67) (t := 68) (dflt := 67) (lo := 0) (hi := 7) (offs := #[47, 67, 67, 67, 67, 52, 57, 62]) (len := 47) (by decide +kernel) (by decide) (by decide) (by decide) (by decide) (by decide)
theorem Caller_tell_1_k3 (l0 : Value) (l1 : Value) (w : Wd) (I : MI) (L : ML) (P : MP) : go 13 1 [l0, l1] [.int (nI 3)] w I L P = go 13 68 [l0, l1] [] w I L P := go_tsI (m := 13) (pc := 1) (z := 3) (off := 67) (t := 68) (dflt := 67) (lo := 0) (hi := 7) (offs := #[47, 67, 67, 67, 67, 52, 57, 62]) (len := 47) (by decide +kernel) (by decide) (by decide) (by decide) (by decide) (by decide)
theorem Caller_tell_1_k4 (l0 : Value) (l1 : Value) (w : Wd) (I : MI) (L : ML) (P : MP) : go 13 1 [l0, l1] [.int (nI 4)] w I L P = go 13 68 [l0, l1] [] w I L P := go_tsI (m := 13) (pc := 1) (z := 4) (off := 67) (t := 68) (dflt := 67) (lo := 0) (hi := 7) (offs := #[47, 67, 67, 67, 67, 52, 57, 62]) (len := 47) (by decide +kernel) (by decide) (by decide) (by decide) (by decide) (by decide)
theorem Caller_tell_1_k5 (l0 : Value) (l1 : Value) (w : Wd) (I : MI) (L : ML) (P : MP) : go 13 1 [l0, l1] [.int (nI 5)] w I L P = go 13 53 [l0, l1] [] w I L P := go_tsI (m := 13) (pc := 1) (z := 5) (off := 52) (t := 53) (dflt := 67) (lo := 0) (hi := 7) (offs := #[47, 67, 67, 67, 67, 52, 57, 62]) (len := 47) (by decide +kernel) (by decide) (by decide) (by decide) (by decide) (by decide)
theorem Caller_tell_1_k6 (l0 : Value) (l1 : Value) (w : Wd) (I : MI) (L : ML) (P : MP) : go 13 1 [l0, l1] [.int (nI 6)] w I L P = go 13 58 [l0, l1] [] w I L P := go_tsI (m := 13) (pc := 1) (z := 6) (off := 57) (t := 58) (dflt := 67) (lo := 0) (hi := 7) (offs := #[47, 67, 67, 67, 67, 52, 57, 62]) (len := 47) (by decide +kernel) (by decide) (by decide) (by decide) (by decide) (by decide)
theorem Caller_tell_1_k7 (l0 : Value) (l1 : Value) (w : Wd) (I : MI) (L : ML) (P : MP) : go 13 1 [l0, l1] [.int (nI 7)] w I L P = go 13 63 [l0, l1] [] w I L P := go_tsI (m := 13) (pc := 1) (z := 7) (off := 62) (t := 63) (dflt := 67) (lo := 0) (hi := 7) (offs := #[47, 67, 67, 67, 67, 52, 57, 62]) (len := 47) (by decide +kernel) (by decide) (by decide) (by decide) (by decide) (by decide)
theorem Caller_tell_1_kd (l0 : Value) (l1 : Value) (w : Wd) (I : MI) (L : ML) (P : MP) (y : Int32) (h0 : y.toInt < 0 ∨ 7 < y.toInt) : go 13 1 [l0, l1] [.int y] w I L P = go 13 68 [l0, l1] [] w I L P := go_tsO (m := 13) (pc := 1) (t := 68) (dflt := 67) (lo := 0) (hi := 7) (offs := #[47, 67, 67, 67, 67, 52, 57, 62]) (len := 47) (by decide +kernel) h0 (by decide)
theorem Caller_tell_48 (a_l0 : Nat) (l1 : Value) (w : Wd) (I : MI) (L : ML) (P : MP) (h0 : w.1 a_l0 = some (1, 0)) : go 13 48 [.ref a_l0, l1] [] w I L P = some (.inl (some (.int (I a_l0 1))), w, I, L, P) := by
  refine (go_aload_n (m := 13) (pc := 48) (k := 0) (by decide +kernel) rfl).trans ?_
  refine (go_getI (m := 13) (pc := 49) (o := 1) (x := 17) (ci := 1) (k := 1) (by decide +kernel) rfl f_1_17 rfl h0).trans ?_
  exact go_retI (m := 13) (pc := 52) (by decide +kernel) rfl
theorem Caller_tell_53 (a_l0 : Nat) (l1 : Value) (w : Wd) (I : MI) (L : ML) (P : MP) (h0 : w.1 a_l0 = some (1, 0)) : go 13 53 [.ref a_l0, l1] [] w I L P = some (.inl (some (.int (I a_l0 3))), w, I, L, P) := by
  refine (go_aload_n (m := 13) (pc := 53) (k := 0) (by decide +kernel) rfl).trans ?_
  refine (go_getI (m := 13) (pc := 54) (o := 1) (x := 25) (ci := 1) (k := 3) (by decide +kernel) rfl f_1_25 rfl h0).trans ?_
  exact go_retI (m := 13) (pc := 57) (by decide +kernel) rfl
theorem Caller_tell_58 (a_l0 : Nat) (l1 : Value) (w : Wd) (I : MI) (L : ML) (P : MP) (h0 : w.1 a_l0 = some (1, 0)) : go 13 58 [.ref a_l0, l1] [] w I L P = some (.inl (some (.int (I a_l0 4))), w, I, L, P) := by
  refine (go_aload_n (m := 13) (pc := 58) (k := 0) (by decide +kernel) rfl).trans ?_
  refine (go_getI (m := 13) (pc := 59) (o := 1) (x := 28) (ci := 1) (k := 4) (by decide +kernel) rfl f_1_28 rfl h0).trans ?_
  exact go_retI (m := 13) (pc := 62) (by decide +kernel) rfl
theorem Caller_tell_63 (a_l0 : Nat) (l1 : Value) (w : Wd) (I : MI) (L : ML) (P : MP) (h0 : w.1 a_l0 = some (1, 0)) : go 13 63 [.ref a_l0, l1] [] w I L P = some (.inl (some (.int (I a_l0 5))), w, I, L, P) := by
  refine (go_aload_n (m := 13) (pc := 63) (k := 0) (by decide +kernel) rfl).trans ?_
  refine (go_getI (m := 13) (pc := 64) (o := 1) (x := 31) (ci := 1) (k := 5) (by decide +kernel) rfl f_1_31 rfl h0).trans ?_
  exact go_retI (m := 13) (pc := 67) (by decide +kernel) rfl
theorem Caller_tell_68 (l0 : Value) (x_l1 : Int32) (w : Wd) (I : MI) (L : ML) (P : MP)  : go 13 68 [l0, .int x_l1] [] w I L P = if x_l1 ≤ 0 then go 13 90 [l0, .int x_l1] [] w I L P else go 13 72 [l0, .int x_l1] [] w I L P := by
  refine (go_iload_n (m := 13) (pc := 68) (k := 1) (by decide +kernel) rfl).trans ?_
  exact go_ifle (m := 13) (pc := 69) (off := 21) (t := 90) (by decide +kernel) (by decide)
theorem Caller_tell_72 (a_l0 : Nat) (x_l1 : Int32) (w : Wd) (I : MI) (L : ML) (P : MP) (h0 : w.1 a_l0 = some (1, 0)) : go 13 72 [.ref a_l0, .int x_l1] [] w I L P = go 13 77 [.ref a_l0, .int x_l1] [(va_rf (P a_l0 2)), .int x_l1] w I L P := by
  refine (go_iload_n (m := 13) (pc := 72) (k := 1) (by decide +kernel) rfl).trans ?_
  refine (go_aload_n (m := 13) (pc := 73) (k := 0) (by decide +kernel) rfl).trans ?_
  refine (go_getR (m := 13) (pc := 74) (o := 1) (x := 21) (ci := 1) (k := 2) (by decide +kernel) rfl f_1_21 rfl h0).trans ?_
  rfl
theorem Caller_tell_77 (l0 : Value) (l1 : Value) (y0 : Int32) (a_s1 : Nat) (w : Wd) (I : MI) (L : ML) (P : MP) (h0 : isAr w a_s1 8) : go 13 77 [l0, l1] [.ref a_s1, .int y0] w I L P = if (alen w a_s1) ≤ y0 then go 13 90 [l0, l1] [] w I L P else go 13 81 [l0, l1] [] w I L P := by
  refine (go_alen8 (m := 13) (pc := 77) (by decide +kernel) h0).trans ?_
  exact go_icmpge (m := 13) (pc := 78) (off := 12) (t := 90) (by decide +kernel) (by decide)
theorem Caller_tell_81 (a_l0 : Nat) (l1 : Value) (w : Wd) (I : MI) (L : ML) (P : MP) (h0 : w.1 a_l0 = some (1, 0)) : go 13 81 [.ref a_l0, l1] [] w I L P = go 13 85 [.ref a_l0, l1] [(va_rf (P a_l0 2))] w I L P := by
  refine (go_aload_n (m := 13) (pc := 81) (k := 0) (by decide +kernel) rfl).trans ?_
  refine (go_getR (m := 13) (pc := 82) (o := 1) (x := 21) (ci := 1) (k := 2) (by decide +kernel) rfl f_1_21 rfl h0).trans ?_
  rfl
theorem Caller_tell_85 (l0 : Value) (x_l1 : Int32) (a_s0 : Nat) (w : Wd) (I : MI) (L : ML) (P : MP) (h0 : inA w a_s0 8 x_l1) : go 13 85 [l0, .int x_l1] [.ref a_s0] w I L P = go 13 91 [l0, .int x_l1] [.int (I a_s0 (Int32.toNatClampNeg x_l1))] w I L P := by
  refine (go_iload_n (m := 13) (pc := 85) (k := 1) (by decide +kernel) rfl).trans ?_
  refine (go_iald (m := 13) (pc := 86) (by decide +kernel) h0).trans ?_
  refine (go_goto (m := 13) (pc := 87) (off := 4) (t := 91) (by decide +kernel) (by decide)).trans ?_
  rfl
theorem Caller_tell_90 (l0 : Value) (l1 : Value) (w : Wd) (I : MI) (L : ML) (P : MP)  : go 13 90 [l0, l1] [] w I L P = go 13 91 [l0, l1] [.int (nI 0)] w I L P := by
  refine (go_ic (m := 13) (pc := 90) (n := 0) (by decide +kernel) ic_0).trans ?_
  rfl
theorem Caller_tell_91 (l0 : Value) (l1 : Value) (y0 : Int32) (w : Wd) (I : MI) (L : ML) (P : MP)  : go 13 91 [l0, l1] [.int y0] w I L P = some (.inl (some (.int y0)), w, I, L, P) := by
  exact go_retI (m := 13) (pc := 91) (by decide +kernel) rfl
theorem Caller_tell_E (this : Nat) (p0 : Int32) (w : Wd) (I : MI) (L : ML) (P : MP) : call 13 [.ref this, .int p0] w I L P = go 13 0 [.ref this, .int p0] [] w I L P := rfl
theorem Listener_init_0 (a_l0 : Nat) (T : Nat → Option (Nat × Nat)) (q0 kc ks : Nat) (I : MI) (L : ML) (P : MP) (h0 : T a_l0 = some (2, 0)) (h1 : (nI 1) &&& 1 = (nI 1)) (h2 : ¬ (nI 16) < 0 ∧ Int32.toNatClampNeg (nI 16) ≤ 65536) (h3 : (tagU T q0 8 (Int32.toNatClampNeg (nI 16))) a_l0 = some (2, 0)) : go 14 0 [.ref a_l0] [] (T, some q0, kc, ks) I L P = some (.inl none, ((tagU T q0 8 (Int32.toNatClampNeg (nI 16))), some (q0 + 1), (kc + 1), (ks + Int32.toNatClampNeg (nI 16))), (updI (updI (rowI (updI (updI (updI (updI I a_l0 0 (nI 0)) a_l0 1 (nI 0)) a_l0 2 (nI 1)) a_l0 3 (nI 0)) q0) a_l0 5 (nI 0)) a_l0 6 (nI 0)), L, (updP P a_l0 4 (some q0))) := by
  refine (go_aload_n (m := 14) (pc := 0) (k := 0) (by decide +kernel) rfl).trans ?_
  refine (go_obj (m := 14) (pc := 1) (o := 2) (x := 3) (y := 999) (by decide +kernel) rfl (by decide +kernel) (by decide +kernel)).trans ?_
  refine (go_aload_n (m := 14) (pc := 4) (k := 0) (by decide +kernel) rfl).trans ?_
  refine (go_ic (m := 14) (pc := 5) (n := 0) (by decide +kernel) ic_0).trans ?_
  refine (go_putI (m := 14) (pc := 6) (o := 2) (x := 9) (ci := 2) (k := 0) (by decide +kernel) rfl f_2_9 rfl (by decide +kernel) h0).trans ?_
  refine (go_aload_n (m := 14) (pc := 9) (k := 0) (by decide +kernel) rfl).trans ?_
  refine (go_ic (m := 14) (pc := 10) (n := 0) (by decide +kernel) ic_0).trans ?_
  refine (go_putI (m := 14) (pc := 11) (o := 2) (x := 15) (ci := 2) (k := 1) (by decide +kernel) rfl f_2_15 rfl (by decide +kernel) h0).trans ?_
  refine (go_aload_n (m := 14) (pc := 14) (k := 0) (by decide +kernel) rfl).trans ?_
  refine (go_ic (m := 14) (pc := 15) (n := 1) (by decide +kernel) ic_1).trans ?_
  refine (go_putZ (m := 14) (pc := 16) (o := 2) (x := 18) (ci := 2) (k := 2) (by decide +kernel) rfl f_2_18 rfl (by decide +kernel) h1 h0).trans ?_
  refine (go_aload_n (m := 14) (pc := 19) (k := 0) (by decide +kernel) rfl).trans ?_
  refine (go_ic (m := 14) (pc := 20) (n := 0) (by decide +kernel) ic_0).trans ?_
  refine (go_putI (m := 14) (pc := 21) (o := 2) (x := 22) (ci := 2) (k := 3) (by decide +kernel) rfl f_2_22 rfl (by decide +kernel) h0).trans ?_
  refine (go_aload_n (m := 14) (pc := 24) (k := 0) (by decide +kernel) rfl).trans ?_
  refine (go_bi (m := 14) (pc := 25) (n := 16) (by decide +kernel) bi_16).trans ?_
  refine (go_newI (m := 14) (pc := 27) (by decide +kernel) h2).trans ?_
  refine (go_putR (m := 14) (pc := 29) (o := 2) (x := 25) (ci := 2) (k := 4) (by decide +kernel) rfl f_2_25 rfl (by decide +kernel) h3).trans ?_
  refine (go_aload_n (m := 14) (pc := 32) (k := 0) (by decide +kernel) rfl).trans ?_
  refine (go_ic (m := 14) (pc := 33) (n := 0) (by decide +kernel) ic_0).trans ?_
  refine (go_putI (m := 14) (pc := 34) (o := 2) (x := 29) (ci := 2) (k := 5) (by decide +kernel) rfl f_2_29 rfl (by decide +kernel) h3).trans ?_
  refine (go_aload_n (m := 14) (pc := 37) (k := 0) (by decide +kernel) rfl).trans ?_
  refine (go_ic (m := 14) (pc := 38) (n := 0) (by decide +kernel) ic_0).trans ?_
  refine (go_putI (m := 14) (pc := 39) (o := 2) (x := 32) (ci := 2) (k := 6) (by decide +kernel) rfl f_2_32 rfl (by decide +kernel) h3).trans ?_
  exact go_retV (m := 14) (pc := 42) (by decide +kernel) rfl
theorem Listener_init_E (this : Nat) (w : Wd) (I : MI) (L : ML) (P : MP) : call 14 [.ref this] w I L P = go 14 0 [.ref this] [] w I L P := rfl
theorem Listener_copyFrom_0 (a_l0 : Nat) (a_l1 : Nat) (w : Wd) (I : MI) (L : ML) (P : MP) (h0 : w.1 a_l1 = some (2, 0)) (h1 : w.1 a_l0 = some (2, 0)) (h2 : ((updI (updI I a_l0 0 (I a_l1 0)) a_l0 1 ((updI I a_l0 0 (I a_l1 0)) a_l1 1)) a_l1 2 &&& 1) &&& 1 = ((updI (updI I a_l0 0 (I a_l1 0)) a_l0 1 ((updI I a_l0 0 (I a_l1 0)) a_l1 1)) a_l1 2 &&& 1)) : go 15 0 [.ref a_l0, .ref a_l1] [] w I L P = go 15 36 [.ref a_l0, .ref a_l1] [(va_rf (P a_l1 4))] w (updI (updI (updI (updI I a_l0 0 (I a_l1 0)) a_l0 1 ((updI I a_l0 0 (I a_l1 0)) a_l1 1)) a_l0 2 ((updI (updI I a_l0 0 (I a_l1 0)) a_l0 1 ((updI I a_l0 0 (I a_l1 0)) a_l1 1)) a_l1 2 &&& 1)) a_l0 3 ((updI (updI (updI I a_l0 0 (I a_l1 0)) a_l0 1 ((updI I a_l0 0 (I a_l1 0)) a_l1 1)) a_l0 2 ((updI (updI I a_l0 0 (I a_l1 0)) a_l0 1 ((updI I a_l0 0 (I a_l1 0)) a_l1 1)) a_l1 2 &&& 1)) a_l1 3)) L P := by
  refine (go_aload_n (m := 15) (pc := 0) (k := 0) (by decide +kernel) rfl).trans ?_
  refine (go_aload_n (m := 15) (pc := 1) (k := 1) (by decide +kernel) rfl).trans ?_
  refine (go_getI (m := 15) (pc := 2) (o := 2) (x := 9) (ci := 2) (k := 0) (by decide +kernel) rfl f_2_9 rfl h0).trans ?_
  refine (go_putI (m := 15) (pc := 5) (o := 2) (x := 9) (ci := 2) (k := 0) (by decide +kernel) rfl f_2_9 rfl (by decide +kernel) h1).trans ?_
  refine (go_aload_n (m := 15) (pc := 8) (k := 0) (by decide +kernel) rfl).trans ?_
  refine (go_aload_n (m := 15) (pc := 9) (k := 1) (by decide +kernel) rfl).trans ?_
  refine (go_getI (m := 15) (pc := 10) (o := 2) (x := 15) (ci := 2) (k := 1) (by decide +kernel) rfl f_2_15 rfl h0).trans ?_
  refine (go_putI (m := 15) (pc := 13) (o := 2) (x := 15) (ci := 2) (k := 1) (by decide +kernel) rfl f_2_15 rfl (by decide +kernel) h1).trans ?_
  refine (go_aload_n (m := 15) (pc := 16) (k := 0) (by decide +kernel) rfl).trans ?_
  refine (go_aload_n (m := 15) (pc := 17) (k := 1) (by decide +kernel) rfl).trans ?_
  refine (go_getZ (m := 15) (pc := 18) (o := 2) (x := 18) (ci := 2) (k := 2) (by decide +kernel) rfl f_2_18 rfl h0).trans ?_
  refine (go_putZ (m := 15) (pc := 21) (o := 2) (x := 18) (ci := 2) (k := 2) (by decide +kernel) rfl f_2_18 rfl (by decide +kernel) h2 h1).trans ?_
  refine (go_aload_n (m := 15) (pc := 24) (k := 0) (by decide +kernel) rfl).trans ?_
  refine (go_aload_n (m := 15) (pc := 25) (k := 1) (by decide +kernel) rfl).trans ?_
  refine (go_getI (m := 15) (pc := 26) (o := 2) (x := 22) (ci := 2) (k := 3) (by decide +kernel) rfl f_2_22 rfl h0).trans ?_
  refine (go_putI (m := 15) (pc := 29) (o := 2) (x := 22) (ci := 2) (k := 3) (by decide +kernel) rfl f_2_22 rfl (by decide +kernel) h1).trans ?_
  refine (go_aload_n (m := 15) (pc := 32) (k := 1) (by decide +kernel) rfl).trans ?_
  refine (go_getR (m := 15) (pc := 33) (o := 2) (x := 25) (ci := 2) (k := 4) (by decide +kernel) rfl f_2_25 rfl h0).trans ?_
  rfl
theorem Listener_copyFrom_36 (a_l0 : Nat) (l1 : Value) (v0 : Value) (w : Wd) (I : MI) (L : ML) (P : MP) (h0 : w.1 a_l0 = some (2, 0)) : go 15 36 [.ref a_l0, l1] [v0] w I L P = go 15 40 [.ref a_l0, l1] [(va_rf (P a_l0 4)), v0] w I L P := by
  refine (go_aload_n (m := 15) (pc := 36) (k := 0) (by decide +kernel) rfl).trans ?_
  refine (go_getR (m := 15) (pc := 37) (o := 2) (x := 25) (ci := 2) (k := 4) (by decide +kernel) rfl f_2_25 rfl h0).trans ?_
  rfl
theorem Listener_copyFrom_40_0 (l0 : Value) (l1 : Value) (w : Wd) (I : MI) (L : ML) (P : MP)  : go 15 40 [l0, l1] [.null, .null] w I L P = kC (call 119 [.null, .null] w I L P) (fun v w1 I1 L1 P1 => go 15 43 [l0, l1] (v.toList ++ []) w1 I1 L1 P1) := by
  exact go_sta (m := 15) (pc := 40) (o := 2) (x := 35) (y := 119) (kd := 3) (as := [.null, .null]) (rs := []) (by decide +kernel) rfl rfl c_2_35 (Or.inr (Or.inl rfl)) rfl rfl rfl (by decide +kernel) (by simp only [List.length_cons, List.length_nil]; decide) (Nat.le_of_ble_eq_true rfl)
theorem Listener_copyFrom_40_1 (l0 : Value) (l1 : Value) (a_s1 : Nat) (w : Wd) (I : MI) (L : ML) (P : MP)  : go 15 40 [l0, l1] [.ref a_s1, .null] w I L P = kC (call 119 [.null, .ref a_s1] w I L P) (fun v w1 I1 L1 P1 => go 15 43 [l0, l1] (v.toList ++ []) w1 I1 L1 P1) := by
  exact go_sta (m := 15) (pc := 40) (o := 2) (x := 35) (y := 119) (kd := 3) (as := [.null, .ref a_s1]) (rs := []) (by decide +kernel) rfl rfl c_2_35 (Or.inr (Or.inl rfl)) rfl rfl rfl (by decide +kernel) (by simp only [List.length_cons, List.length_nil]; decide) (Nat.le_of_ble_eq_true rfl)
theorem Listener_copyFrom_40_2 (l0 : Value) (l1 : Value) (a_s0 : Nat) (w : Wd) (I : MI) (L : ML) (P : MP)  : go 15 40 [l0, l1] [.null, .ref a_s0] w I L P = kC (call 119 [.ref a_s0, .null] w I L P) (fun v w1 I1 L1 P1 => go 15 43 [l0, l1] (v.toList ++ []) w1 I1 L1 P1) := by
  exact go_sta (m := 15) (pc := 40) (o := 2) (x := 35) (y := 119) (kd := 3) (as := [.ref a_s0, .null]) (rs := []) (by decide +kernel) rfl rfl c_2_35 (Or.inr (Or.inl rfl)) rfl rfl rfl (by decide +kernel) (by simp only [List.length_cons, List.length_nil]; decide) (Nat.le_of_ble_eq_true rfl)
theorem Listener_copyFrom_40_3 (l0 : Value) (l1 : Value) (a_s0 : Nat) (a_s1 : Nat) (w : Wd) (I : MI) (L : ML) (P : MP)  : go 15 40 [l0, l1] [.ref a_s1, .ref a_s0] w I L P = kC (call 119 [.ref a_s0, .ref a_s1] w I L P) (fun v w1 I1 L1 P1 => go 15 43 [l0, l1] (v.toList ++ []) w1 I1 L1 P1) := by
  exact go_sta (m := 15) (pc := 40) (o := 2) (x := 35) (y := 119) (kd := 3) (as := [.ref a_s0, .ref a_s1]) (rs := []) (by decide +kernel) rfl rfl c_2_35 (Or.inr (Or.inl rfl)) rfl rfl rfl (by decide +kernel) (by simp only [List.length_cons, List.length_nil]; decide) (Nat.le_of_ble_eq_true rfl)
theorem Listener_copyFrom_43 (a_l0 : Nat) (a_l1 : Nat) (w : Wd) (I : MI) (L : ML) (P : MP) (h0 : w.1 a_l1 = some (2, 0)) (h1 : w.1 a_l0 = some (2, 0)) : go 15 43 [.ref a_l0, .ref a_l1] [] w I L P = some (.inl none, w, (updI (updI I a_l0 5 (I a_l1 5)) a_l0 6 ((updI I a_l0 5 (I a_l1 5)) a_l1 6)), L, P) := by
  refine (go_aload_n (m := 15) (pc := 43) (k := 0) (by decide +kernel) rfl).trans ?_
  refine (go_aload_n (m := 15) (pc := 44) (k := 1) (by decide +kernel) rfl).trans ?_
  refine (go_getI (m := 15) (pc := 45) (o := 2) (x := 29) (ci := 2) (k := 5) (by decide +kernel) rfl f_2_29 rfl h0).trans ?_
  refine (go_putI (m := 15) (pc := 48) (o := 2) (x := 29) (ci := 2) (k := 5) (by decide +kernel) rfl f_2_29 rfl (by decide +kernel) h1).trans ?_
  refine (go_aload_n (m := 15) (pc := 51) (k := 0) (by decide +kernel) rfl).trans ?_
  refine (go_aload_n (m := 15) (pc := 52) (k := 1) (by decide +kernel) rfl).trans ?_
  refine (go_getI (m := 15) (pc := 53) (o := 2) (x := 32) (ci := 2) (k := 6) (by decide +kernel) rfl f_2_32 rfl h0).trans ?_
  refine (go_putI (m := 15) (pc := 56) (o := 2) (x := 32) (ci := 2) (k := 6) (by decide +kernel) rfl f_2_32 rfl (by decide +kernel) h1).trans ?_
  exact go_retV (m := 15) (pc := 59) (by decide +kernel) rfl
theorem Listener_copyFrom_E (this : Nat) (p0 : Nat) (w : Wd) (I : MI) (L : ML) (P : MP) : call 15 [.ref this, .ref p0] w I L P = go 15 0 [.ref this, .ref p0] [] w I L P := rfl
theorem Listener_copyFrom_E1 (this : Nat) (w : Wd) (I : MI) (L : ML) (P : MP) : call 15 [.ref this, .null] w I L P = go 15 0 [.ref this, .null] [] w I L P := rfl
theorem Listener_forget_0 (a_l0 : Nat) (l1 : Value) (w : Wd) (I : MI) (L : ML) (P : MP) (h0 : w.1 a_l0 = some (2, 0)) : go 16 0 [.ref a_l0, l1] [] w I L P = some (.inl (some (.int (I a_l0 5))), w, (updI (updI I a_l0 5 (nI 0)) a_l0 6 (nI 0)), L, P) := by
  refine (go_aload_n (m := 16) (pc := 0) (k := 0) (by decide +kernel) rfl).trans ?_
  refine (go_getI (m := 16) (pc := 1) (o := 2) (x := 29) (ci := 2) (k := 5) (by decide +kernel) rfl f_2_29 rfl h0).trans ?_
  refine (go_istore_n (m := 16) (pc := 4) (k := 1) (ls' := [.ref a_l0, .int (I a_l0 5)]) (by decide +kernel) (by simp only [List.length_cons, List.length_nil]; decide) rfl).trans ?_
  refine (go_aload_n (m := 16) (pc := 5) (k := 0) (by decide +kernel) rfl).trans ?_
  refine (go_ic (m := 16) (pc := 6) (n := 0) (by decide +kernel) ic_0).trans ?_
  refine (go_putI (m := 16) (pc := 7) (o := 2) (x := 29) (ci := 2) (k := 5) (by decide +kernel) rfl f_2_29 rfl (by decide +kernel) h0).trans ?_
  refine (go_aload_n (m := 16) (pc := 10) (k := 0) (by decide +kernel) rfl).trans ?_
  refine (go_ic (m := 16) (pc := 11) (n := 0) (by decide +kernel) ic_0).trans ?_
  refine (go_putI (m := 16) (pc := 12) (o := 2) (x := 32) (ci := 2) (k := 6) (by decide +kernel) rfl f_2_32 rfl (by decide +kernel) h0).trans ?_
  refine (go_iload_n (m := 16) (pc := 15) (k := 1) (by decide +kernel) rfl).trans ?_
  exact go_retI (m := 16) (pc := 16) (by decide +kernel) rfl
theorem Listener_forget_E (this : Nat) (w : Wd) (I : MI) (L : ML) (P : MP) : call 16 [.ref this] w I L P = go 16 0 [.ref this, unk] [] w I L P := rfl
theorem Listener_byteAt_0 (l0 : Value) (x_l1 : Int32) (w : Wd) (I : MI) (L : ML) (P : MP)  : go 17 0 [l0, .int x_l1] [] w I L P = if x_l1 < 0 then go 17 30 [l0, .int x_l1] [] w I L P else go 17 4 [l0, .int x_l1] [] w I L P := by
  refine (go_iload_n (m := 17) (pc := 0) (k := 1) (by decide +kernel) rfl).trans ?_
  exact go_iflt (m := 17) (pc := 1) (off := 29) (t := 30) (by decide +kernel) (by decide)
theorem Listener_byteAt_4 (a_l0 : Nat) (x_l1 : Int32) (w : Wd) (I : MI) (L : ML) (P : MP) (h0 : w.1 a_l0 = some (2, 0)) : go 17 4 [.ref a_l0, .int x_l1] [] w I L P = if (I a_l0 5) ≤ x_l1 then go 17 30 [.ref a_l0, .int x_l1] [] w I L P else go 17 12 [.ref a_l0, .int x_l1] [] w I L P := by
  refine (go_iload_n (m := 17) (pc := 4) (k := 1) (by decide +kernel) rfl).trans ?_
  refine (go_aload_n (m := 17) (pc := 5) (k := 0) (by decide +kernel) rfl).trans ?_
  refine (go_getI (m := 17) (pc := 6) (o := 2) (x := 29) (ci := 2) (k := 5) (by decide +kernel) rfl f_2_29 rfl h0).trans ?_
  exact go_icmpge (m := 17) (pc := 9) (off := 21) (t := 30) (by decide +kernel) (by decide)
theorem Listener_byteAt_12 (a_l0 : Nat) (x_l1 : Int32) (w : Wd) (I : MI) (L : ML) (P : MP) (h0 : w.1 a_l0 = some (2, 0)) : go 17 12 [.ref a_l0, .int x_l1] [] w I L P = go 17 17 [.ref a_l0, .int x_l1] [(va_rf (P a_l0 4)), .int x_l1] w I L P := by
  refine (go_iload_n (m := 17) (pc := 12) (k := 1) (by decide +kernel) rfl).trans ?_
  refine (go_aload_n (m := 17) (pc := 13) (k := 0) (by decide +kernel) rfl).trans ?_
  refine (go_getR (m := 17) (pc := 14) (o := 2) (x := 25) (ci := 2) (k := 4) (by decide +kernel) rfl f_2_25 rfl h0).trans ?_
  rfl
theorem Listener_byteAt_17 (l0 : Value) (l1 : Value) (y0 : Int32) (a_s1 : Nat) (w : Wd) (I : MI) (L : ML) (P : MP) (h0 : isAr w a_s1 8) : go 17 17 [l0, l1] [.ref a_s1, .int y0] w I L P = if (alen w a_s1) ≤ y0 then go 17 30 [l0, l1] [] w I L P else go 17 21 [l0, l1] [] w I L P := by
  refine (go_alen8 (m := 17) (pc := 17) (by decide +kernel) h0).trans ?_
  exact go_icmpge (m := 17) (pc := 18) (off := 12) (t := 30) (by decide +kernel) (by decide)
theorem Listener_byteAt_21 (a_l0 : Nat) (l1 : Value) (w : Wd) (I : MI) (L : ML) (P : MP) (h0 : w.1 a_l0 = some (2, 0)) : go 17 21 [.ref a_l0, l1] [] w I L P = go 17 25 [.ref a_l0, l1] [(va_rf (P a_l0 4))] w I L P := by
  refine (go_aload_n (m := 17) (pc := 21) (k := 0) (by decide +kernel) rfl).trans ?_
  refine (go_getR (m := 17) (pc := 22) (o := 2) (x := 25) (ci := 2) (k := 4) (by decide +kernel) rfl f_2_25 rfl h0).trans ?_
  rfl
theorem Listener_byteAt_25 (l0 : Value) (x_l1 : Int32) (a_s0 : Nat) (w : Wd) (I : MI) (L : ML) (P : MP) (h0 : inA w a_s0 8 x_l1) : go 17 25 [l0, .int x_l1] [.ref a_s0] w I L P = go 17 33 [l0, .int x_l1] [.int (I a_s0 (Int32.toNatClampNeg x_l1))] w I L P := by
  refine (go_iload_n (m := 17) (pc := 25) (k := 1) (by decide +kernel) rfl).trans ?_
  refine (go_iald (m := 17) (pc := 26) (by decide +kernel) h0).trans ?_
  refine (go_goto (m := 17) (pc := 27) (off := 6) (t := 33) (by decide +kernel) (by decide)).trans ?_
  rfl
theorem Listener_byteAt_30 (l0 : Value) (l1 : Value) (w : Wd) (I : MI) (L : ML) (P : MP)  : go 17 30 [l0, l1] [] w I L P = go 17 33 [l0, l1] [.int (nI 255)] w I L P := by
  refine (go_si (m := 17) (pc := 30) (n := 255) (by decide +kernel) si_255).trans ?_
  rfl
theorem Listener_byteAt_33 (l0 : Value) (l1 : Value) (y0 : Int32) (w : Wd) (I : MI) (L : ML) (P : MP)  : go 17 33 [l0, l1] [.int y0] w I L P = some (.inl (some (.int y0)), w, I, L, P) := by
  exact go_retI (m := 17) (pc := 33) (by decide +kernel) rfl
theorem Listener_byteAt_E (this : Nat) (p0 : Int32) (w : Wd) (I : MI) (L : ML) (P : MP) : call 17 [.ref this, .int p0] w I L P = go 17 0 [.ref this, .int p0] [] w I L P := rfl
theorem Listener_storeByte_0 (a_l0 : Nat) (l1 : Value) (w : Wd) (I : MI) (L : ML) (P : MP) (h0 : w.1 a_l0 = some (2, 0)) : go 18 0 [.ref a_l0, l1] [] w I L P = if (I a_l0 5) < 0 then go 18 19 [.ref a_l0, l1] [] w I L P else go 18 7 [.ref a_l0, l1] [] w I L P := by
  refine (go_aload_n (m := 18) (pc := 0) (k := 0) (by decide +kernel) rfl).trans ?_
  refine (go_getI (m := 18) (pc := 1) (o := 2) (x := 29) (ci := 2) (k := 5) (by decide +kernel) rfl f_2_29 rfl h0).trans ?_
  exact go_iflt (m := 18) (pc := 4) (off := 15) (t := 19) (by decide +kernel) (by decide)
theorem Listener_storeByte_7 (a_l0 : Nat) (l1 : Value) (w : Wd) (I : MI) (L : ML) (P : MP) (h0 : w.1 a_l0 = some (2, 0)) : go 18 7 [.ref a_l0, l1] [] w I L P = go 18 15 [.ref a_l0, l1] [(va_rf (P a_l0 4)), .int (I a_l0 5)] w I L P := by
  refine (go_aload_n (m := 18) (pc := 7) (k := 0) (by decide +kernel) rfl).trans ?_
  refine (go_getI (m := 18) (pc := 8) (o := 2) (x := 29) (ci := 2) (k := 5) (by decide +kernel) rfl f_2_29 rfl h0).trans ?_
  refine (go_aload_n (m := 18) (pc := 11) (k := 0) (by decide +kernel) rfl).trans ?_
  refine (go_getR (m := 18) (pc := 12) (o := 2) (x := 25) (ci := 2) (k := 4) (by decide +kernel) rfl f_2_25 rfl h0).trans ?_
  rfl
theorem Listener_storeByte_15 (l0 : Value) (l1 : Value) (y0 : Int32) (a_s1 : Nat) (w : Wd) (I : MI) (L : ML) (P : MP) (h0 : isAr w a_s1 8) : go 18 15 [l0, l1] [.ref a_s1, .int y0] w I L P = if y0 < (alen w a_s1) then go 18 21 [l0, l1] [] w I L P else go 18 19 [l0, l1] [] w I L P := by
  refine (go_alen8 (m := 18) (pc := 15) (by decide +kernel) h0).trans ?_
  exact go_icmplt (m := 18) (pc := 16) (off := 5) (t := 21) (by decide +kernel) (by decide)
theorem Listener_storeByte_19 (l0 : Value) (l1 : Value) (w : Wd) (I : MI) (L : ML) (P : MP) (h0 : (nI 0) &&& 1 = (nI 0)) : go 18 19 [l0, l1] [] w I L P = some (.inl (some (.int (nI 0))), w, I, L, P) := by
  refine (go_ic (m := 18) (pc := 19) (n := 0) (by decide +kernel) ic_0).trans ?_
  exact go_retZ (m := 18) (pc := 20) (by decide +kernel) rfl h0
theorem Listener_storeByte_21 (a_l0 : Nat) (l1 : Value) (w : Wd) (I : MI) (L : ML) (P : MP) (h0 : w.1 a_l0 = some (2, 0)) : go 18 21 [.ref a_l0, l1] [] w I L P = go 18 25 [.ref a_l0, l1] [(va_rf (P a_l0 4))] w I L P := by
  refine (go_aload_n (m := 18) (pc := 21) (k := 0) (by decide +kernel) rfl).trans ?_
  refine (go_getR (m := 18) (pc := 22) (o := 2) (x := 25) (ci := 2) (k := 4) (by decide +kernel) rfl f_2_25 rfl h0).trans ?_
  rfl
theorem Listener_storeByte_25 (a_l0 : Nat) (x_l1 : Int32) (a_s0 : Nat) (w : Wd) (I : MI) (L : ML) (P : MP) (h0 : w.1 a_l0 = some (2, 0)) (h1 : inA w a_s0 8 (I a_l0 5)) (h2 : (nI 1) &&& 1 = (nI 1)) : go 18 25 [.ref a_l0, .int x_l1] [.ref a_s0] w I L P = some (.inl (some (.int (nI 1))), w, (updI (updI I a_s0 (Int32.toNatClampNeg (I a_l0 5)) x_l1) a_l0 5 (((updI I a_s0 (Int32.toNatClampNeg (I a_l0 5)) x_l1) a_l0 5) + (nI 1))), L, P) := by
  refine (go_aload_n (m := 18) (pc := 25) (k := 0) (by decide +kernel) rfl).trans ?_
  refine (go_getI (m := 18) (pc := 26) (o := 2) (x := 29) (ci := 2) (k := 5) (by decide +kernel) rfl f_2_29 rfl h0).trans ?_
  refine (go_iload_n (m := 18) (pc := 29) (k := 1) (by decide +kernel) rfl).trans ?_
  refine (go_iast (m := 18) (pc := 30) (by decide +kernel) h1).trans ?_
  refine (go_aload_n (m := 18) (pc := 31) (k := 0) (by decide +kernel) rfl).trans ?_
  refine (go_dup (m := 18) (pc := 32) (by decide +kernel) rfl).trans ?_
  refine (go_getI (m := 18) (pc := 33) (o := 2) (x := 29) (ci := 2) (k := 5) (by decide +kernel) rfl f_2_29 rfl h0).trans ?_
  refine (go_ic (m := 18) (pc := 36) (n := 1) (by decide +kernel) ic_1).trans ?_
  refine (go_iadd (m := 18) (pc := 37) (by decide +kernel)).trans ?_
  refine (go_putI (m := 18) (pc := 38) (o := 2) (x := 29) (ci := 2) (k := 5) (by decide +kernel) rfl f_2_29 rfl (by decide +kernel) h0).trans ?_
  refine (go_ic (m := 18) (pc := 41) (n := 1) (by decide +kernel) ic_1).trans ?_
  exact go_retZ (m := 18) (pc := 42) (by decide +kernel) rfl h2
theorem Listener_storeByte_E (this : Nat) (p0 : Int32) (w : Wd) (I : MI) (L : ML) (P : MP) : call 18 [.ref this, .int p0] w I L P = go 18 0 [.ref this, .int p0] [] w I L P := rfl
theorem Listener_movePointer_0 (a_l0 : Nat) (w : Wd) (I : MI) (L : ML) (P : MP) (h0 : w.1 a_l0 = some (2, 0)) : go 19 0 [.ref a_l0] [] w I L P = if ((updI I a_l0 6 ((I a_l0 6) + (nI 1))) a_l0 6) < ((updI I a_l0 6 ((I a_l0 6) + (nI 1))) a_l0 5) then go 19 26 [.ref a_l0] [] w (updI I a_l0 6 ((I a_l0 6) + (nI 1))) L P else go 19 21 [.ref a_l0] [] w (updI I a_l0 6 ((I a_l0 6) + (nI 1))) L P := by
  refine (go_aload_n (m := 19) (pc := 0) (k := 0) (by decide +kernel) rfl).trans ?_
  refine (go_dup (m := 19) (pc := 1) (by decide +kernel) rfl).trans ?_
  refine (go_getI (m := 19) (pc := 2) (o := 2) (x := 32) (ci := 2) (k := 6) (by decide +kernel) rfl f_2_32 rfl h0).trans ?_
  refine (go_ic (m := 19) (pc := 5) (n := 1) (by decide +kernel) ic_1).trans ?_
  refine (go_iadd (m := 19) (pc := 6) (by decide +kernel)).trans ?_
  refine (go_putI (m := 19) (pc := 7) (o := 2) (x := 32) (ci := 2) (k := 6) (by decide +kernel) rfl f_2_32 rfl (by decide +kernel) h0).trans ?_
  refine (go_aload_n (m := 19) (pc := 10) (k := 0) (by decide +kernel) rfl).trans ?_
  refine (go_getI (m := 19) (pc := 11) (o := 2) (x := 32) (ci := 2) (k := 6) (by decide +kernel) rfl f_2_32 rfl h0).trans ?_
  refine (go_aload_n (m := 19) (pc := 14) (k := 0) (by decide +kernel) rfl).trans ?_
  refine (go_getI (m := 19) (pc := 15) (o := 2) (x := 29) (ci := 2) (k := 5) (by decide +kernel) rfl f_2_29 rfl h0).trans ?_
  exact go_icmplt (m := 19) (pc := 18) (off := 8) (t := 26) (by decide +kernel) (by decide)
theorem Listener_movePointer_21 (a_l0 : Nat) (w : Wd) (I : MI) (L : ML) (P : MP) (h0 : w.1 a_l0 = some (2, 0)) : go 19 21 [.ref a_l0] [] w I L P = go 19 26 [.ref a_l0] [] w (updI I a_l0 6 (nI 0)) L P := by
  refine (go_aload_n (m := 19) (pc := 21) (k := 0) (by decide +kernel) rfl).trans ?_
  refine (go_ic (m := 19) (pc := 22) (n := 0) (by decide +kernel) ic_0).trans ?_
  refine (go_putI (m := 19) (pc := 23) (o := 2) (x := 32) (ci := 2) (k := 6) (by decide +kernel) rfl f_2_32 rfl (by decide +kernel) h0).trans ?_
  rfl
theorem Listener_movePointer_26 (l0 : Value) (w : Wd) (I : MI) (L : ML) (P : MP)  : go 19 26 [l0] [] w I L P = some (.inl none, w, I, L, P) := by
  exact go_retV (m := 19) (pc := 26) (by decide +kernel) rfl
theorem Listener_movePointer_E (this : Nat) (w : Wd) (I : MI) (L : ML) (P : MP) : call 19 [.ref this] w I L P = go 19 0 [.ref this] [] w I L P := rfl
theorem Listener_tell_0 (l0 : Value) (x_l1 : Int32) (w : Wd) (I : MI) (L : ML) (P : MP)  : go 20 0 [l0, .int x_l1] [] w I L P = go 20 1 [l0, .int x_l1] [.int x_l1] w I L P := by
  refine (go_iload_n (m := 20) (pc := 0) (k := 1) (by decide +kernel) rfl).trans ?_
  rfl
theorem Listener_tell_1_k0 (l0 : Value) (l1 : Value) (w : Wd) (I : MI) (L : ML) (P : MP) : go 20 1 [l0, l1] [.int (nI 0)] w I L P = go 20 36 [l0, l1] [] w I L P := go_tsI (m := 20) (pc := 1) (z := 0) (off := 35) (t := 36) (dflt := 68) (lo := 0) (hi := 4) (offs := #[35, 40, 45, 50, 55]) (len := 35) (by decide +kernel) (by decide) (by decide) (by decide) (by decide) (by decide)
theorem Listener_tell_1_k1 (l0 : Value) (l1 : Value) (w : Wd) (I : MI) (L : ML) (P : MP) : go 20 1 [l0, l1] [.int (nI 1)] w I L P = go 20 41 [l0, l1] [] w I L P := go_tsI (m := 20) (pc := 1) (z := 1) (off := 40) (t := 41) (dflt := 68) (lo := 0) (hi := 4) (offs := #[35, 40, 45, 50, 55]) (len := 35) (by decide +kernel) (by decide) (by decide) (by decide) (by decide) (by decide)
theorem Listener_tell_1_k2 (l0 : Value) (l1 : Value) (w : Wd) (I : MI) (L : ML) (P : MP) : go 20 1 [l0, l1] [.int (nI 2)] w I L P = go 20 46 [l0, l1] [] w I L P := go_tsI (m := 20) (pc := 1) (z := 2) (off := 45) (t := 46) (dflt := 68) (lo := 0) (hi := 4) (offs := #[35, 40, 45, 50, 55]) (len := 35) (by decide +kernel) (by decide) (by decide) (by decide) (by decide) (by decide)
theorem Listener_tell_1_k3 (l0 : Value) (l1 : Value) (w : Wd) (I : MI) (L : ML) (P : MP) : go 20 1 [l0, l1] [.int (nI 3)] w I L P = go 20 51 [l0, l1] [] w I L P := go_tsI (m := 20) (pc := 1) (z := 3) (off := 50) (t := 51) (dflt := 68) (lo := 0) (hi := 4) (offs := #[35, 40, 45, 50, 55]) (len := 35) (by decide +kernel) (by decide) (by decide) (by decide) (by decide) (by decide)
theorem Listener_tell_1_k4 (l0 : Value) (l1 : Value) (w : Wd) (I : MI) (L : ML) (P : MP) : go 20 1 [l0, l1] [.int (nI 4)] w I L P = go 20 56 [l0, l1] [] w I L P := go_tsI (m := 20) (pc := 1) (z := 4) (off := 55) (t := 56) (dflt := 68) (lo := 0) (hi := 4) (offs := #[35, 40, 45, 50, 55]) (len := 35) (by decide +kernel) (by decide) (by decide) (by decide) (by decide) (by decide)
theorem Listener_tell_1_kd (l0 : Value) (l1 : Value) (w : Wd) (I : MI) (L : ML) (P : MP) (y : Int32) (h0 : y.toInt < 0 ∨ 4 < y.toInt) : go 20 1 [l0, l1] [.int y] w I L P = go 20 69 [l0, l1] [] w I L P := go_tsO (m := 20) (pc := 1) (t := 69) (dflt := 68) (lo := 0) (hi := 4) (offs := #[35, 40, 45, 50, 55]) (len := 35) (by decide +kernel) h0 (by decide)
theorem Listener_tell_36 (a_l0 : Nat) (l1 : Value) (w : Wd) (I : MI) (L : ML) (P : MP) (h0 : w.1 a_l0 = some (2, 0)) : go 20 36 [.ref a_l0, l1] [] w I L P = some (.inl (some (.int (I a_l0 0))), w, I, L, P) := by
  refine (go_aload_n (m := 20) (pc := 36) (k := 0) (by decide +kernel) rfl).trans ?_
  refine (go_getI (m := 20) (pc := 37) (o := 2) (x := 9) (ci := 2) (k := 0) (by decide +kernel) rfl f_2_9 rfl h0).trans ?_
  exact go_retI (m := 20) (pc := 40) (by decide +kernel) rfl
theorem Listener_tell_41 (a_l0 : Nat) (l1 : Value) (w : Wd) (I : MI) (L : ML) (P : MP) (h0 : w.1 a_l0 = some (2, 0)) : go 20 41 [.ref a_l0, l1] [] w I L P = some (.inl (some (.int (I a_l0 1))), w, I, L, P) := by
  refine (go_aload_n (m := 20) (pc := 41) (k := 0) (by decide +kernel) rfl).trans ?_
  refine (go_getI (m := 20) (pc := 42) (o := 2) (x := 15) (ci := 2) (k := 1) (by decide +kernel) rfl f_2_15 rfl h0).trans ?_
  exact go_retI (m := 20) (pc := 45) (by decide +kernel) rfl
theorem Listener_tell_46 (a_l0 : Nat) (l1 : Value) (w : Wd) (I : MI) (L : ML) (P : MP) (h0 : w.1 a_l0 = some (2, 0)) : go 20 46 [.ref a_l0, l1] [] w I L P = some (.inl (some (.int (I a_l0 5))), w, I, L, P) := by
  refine (go_aload_n (m := 20) (pc := 46) (k := 0) (by decide +kernel) rfl).trans ?_
  refine (go_getI (m := 20) (pc := 47) (o := 2) (x := 29) (ci := 2) (k := 5) (by decide +kernel) rfl f_2_29 rfl h0).trans ?_
  exact go_retI (m := 20) (pc := 50) (by decide +kernel) rfl
theorem Listener_tell_51 (a_l0 : Nat) (l1 : Value) (w : Wd) (I : MI) (L : ML) (P : MP) (h0 : w.1 a_l0 = some (2, 0)) : go 20 51 [.ref a_l0, l1] [] w I L P = some (.inl (some (.int (I a_l0 6))), w, I, L, P) := by
  refine (go_aload_n (m := 20) (pc := 51) (k := 0) (by decide +kernel) rfl).trans ?_
  refine (go_getI (m := 20) (pc := 52) (o := 2) (x := 32) (ci := 2) (k := 6) (by decide +kernel) rfl f_2_32 rfl h0).trans ?_
  exact go_retI (m := 20) (pc := 55) (by decide +kernel) rfl
theorem Listener_tell_56 (a_l0 : Nat) (l1 : Value) (w : Wd) (I : MI) (L : ML) (P : MP) (h0 : w.1 a_l0 = some (2, 0)) : go 20 56 [.ref a_l0, l1] [] w I L P = if (I a_l0 2 &&& 1) = 0 then go 20 67 [.ref a_l0, l1] [] w I L P else go 20 63 [.ref a_l0, l1] [] w I L P := by
  refine (go_aload_n (m := 20) (pc := 56) (k := 0) (by decide +kernel) rfl).trans ?_
  refine (go_getZ (m := 20) (pc := 57) (o := 2) (x := 18) (ci := 2) (k := 2) (by decide +kernel) rfl f_2_18 rfl h0).trans ?_
  exact go_ifeq (m := 20) (pc := 60) (off := 7) (t := 67) (by decide +kernel) (by decide)
theorem Listener_tell_63 (l0 : Value) (l1 : Value) (w : Wd) (I : MI) (L : ML) (P : MP)  : go 20 63 [l0, l1] [] w I L P = go 20 68 [l0, l1] [.int (nI 1)] w I L P := by
  refine (go_ic (m := 20) (pc := 63) (n := 1) (by decide +kernel) ic_1).trans ?_
  refine (go_goto (m := 20) (pc := 64) (off := 4) (t := 68) (by decide +kernel) (by decide)).trans ?_
  rfl
theorem Listener_tell_67 (l0 : Value) (l1 : Value) (w : Wd) (I : MI) (L : ML) (P : MP)  : go 20 67 [l0, l1] [] w I L P = go 20 68 [l0, l1] [.int (nI 0)] w I L P := by
  refine (go_ic (m := 20) (pc := 67) (n := 0) (by decide +kernel) ic_0).trans ?_
  rfl
theorem Listener_tell_68 (l0 : Value) (l1 : Value) (y0 : Int32) (w : Wd) (I : MI) (L : ML) (P : MP)  : go 20 68 [l0, l1] [.int y0] w I L P = some (.inl (some (.int y0)), w, I, L, P) := by
  exact go_retI (m := 20) (pc := 68) (by decide +kernel) rfl
theorem Listener_tell_69 (a_l0 : Nat) (l1 : Value) (w : Wd) (I : MI) (L : ML) (P : MP) (h0 : w.1 a_l0 = some (2, 0)) : go 20 69 [.ref a_l0, l1] [] w I L P = some (.inl (some (.int (I a_l0 3))), w, I, L, P) := by
  refine (go_aload_n (m := 20) (pc := 69) (k := 0) (by decide +kernel) rfl).trans ?_
  refine (go_getI (m := 20) (pc := 70) (o := 2) (x := 22) (ci := 2) (k := 3) (by decide +kernel) rfl f_2_22 rfl h0).trans ?_
  exact go_retI (m := 20) (pc := 73) (by decide +kernel) rfl
theorem Listener_tell_E (this : Nat) (p0 : Int32) (w : Wd) (I : MI) (L : ML) (P : MP) : call 20 [.ref this, .int p0] w I L P = go 20 0 [.ref this, .int p0] [] w I L P := rfl
theorem Log_init_0 (a_l0 : Nat) (T : Nat → Option (Nat × Nat)) (q0 kc ks : Nat) (I : MI) (L : ML) (P : MP) (h0 : T a_l0 = some (5, 0)) (h1 : ¬ (nI 64) < 0 ∧ Int32.toNatClampNeg (nI 64) ≤ 65536) (h2 : (tagU T q0 8 (Int32.toNatClampNeg (nI 64))) a_l0 = some (5, 0)) (h3 : (tagU (tagU T q0 8 (Int32.toNatClampNeg (nI 64))) (q0 + 1) 8 (Int32.toNatClampNeg (nI 64))) a_l0 = some (5, 0)) (h4 : (tagU (tagU (tagU T q0 8 (Int32.toNatClampNeg (nI 64))) (q0 + 1) 8 (Int32.toNatClampNeg (nI 64))) ((q0 + 1) + 1) 8 (Int32.toNatClampNeg (nI 64))) a_l0 = some (5, 0)) : go 21 0 [.ref a_l0] [] (T, some q0, kc, ks) I L P = some (.inl none, ((tagU (tagU (tagU T q0 8 (Int32.toNatClampNeg (nI 64))) (q0 + 1) 8 (Int32.toNatClampNeg (nI 64))) ((q0 + 1) + 1) 8 (Int32.toNatClampNeg (nI 64))), some (((q0 + 1) + 1) + 1), (((kc + 1) + 1) + 1), (((ks + Int32.toNatClampNeg (nI 64)) + Int32.toNatClampNeg (nI 64)) + Int32.toNatClampNeg (nI 64))), (rowI (rowI (rowI (updI (updI (updI I a_l0 0 (nI 0)) a_l0 1 (nI 0)) a_l0 2 (nI 0)) q0) (q0 + 1)) ((q0 + 1) + 1)), L, (updP (updP (updP P a_l0 3 (some q0)) a_l0 4 (some (q0 + 1))) a_l0 5 (some ((q0 + 1) + 1)))) := by
  refine (go_aload_n (m := 21) (pc := 0) (k := 0) (by decide +kernel) rfl).trans ?_
  refine (go_obj (m := 21) (pc := 1) (o := 5) (x := 3) (y := 999) (by decide +kernel) rfl (by decide +kernel) (by decide +kernel)).trans ?_
  refine (go_aload_n (m := 21) (pc := 4) (k := 0) (by decide +kernel) rfl).trans ?_
  refine (go_ic (m := 21) (pc := 5) (n := 0) (by decide +kernel) ic_0).trans ?_
  refine (go_putI (m := 21) (pc := 6) (o := 5) (x := 9) (ci := 5) (k := 0) (by decide +kernel) rfl f_5_9 rfl (by decide +kernel) h0).trans ?_
  refine (go_aload_n (m := 21) (pc := 9) (k := 0) (by decide +kernel) rfl).trans ?_
  refine (go_ic (m := 21) (pc := 10) (n := 0) (by decide +kernel) ic_0).trans ?_
  refine (go_putI (m := 21) (pc := 11) (o := 5) (x := 15) (ci := 5) (k := 1) (by decide +kernel) rfl f_5_15 rfl (by decide +kernel) h0).trans ?_
  refine (go_aload_n (m := 21) (pc := 14) (k := 0) (by decide +kernel) rfl).trans ?_
  refine (go_ic (m := 21) (pc := 15) (n := 0) (by decide +kernel) ic_0).trans ?_
  refine (go_putI (m := 21) (pc := 16) (o := 5) (x := 18) (ci := 5) (k := 2) (by decide +kernel) rfl f_5_18 rfl (by decide +kernel) h0).trans ?_
  refine (go_aload_n (m := 21) (pc := 19) (k := 0) (by decide +kernel) rfl).trans ?_
  refine (go_bi (m := 21) (pc := 20) (n := 64) (by decide +kernel) bi_64).trans ?_
  refine (go_newI (m := 21) (pc := 22) (by decide +kernel) h1).trans ?_
  refine (go_putR (m := 21) (pc := 24) (o := 5) (x := 21) (ci := 5) (k := 3) (by decide +kernel) rfl f_5_21 rfl (by decide +kernel) h2).trans ?_
  refine (go_aload_n (m := 21) (pc := 27) (k := 0) (by decide +kernel) rfl).trans ?_
  refine (go_bi (m := 21) (pc := 28) (n := 64) (by decide +kernel) bi_64).trans ?_
  refine (go_newI (m := 21) (pc := 30) (by decide +kernel) h1).trans ?_
  refine (go_putR (m := 21) (pc := 32) (o := 5) (x := 25) (ci := 5) (k := 4) (by decide +kernel) rfl f_5_25 rfl (by decide +kernel) h3).trans ?_
  refine (go_aload_n (m := 21) (pc := 35) (k := 0) (by decide +kernel) rfl).trans ?_
  refine (go_bi (m := 21) (pc := 36) (n := 64) (by decide +kernel) bi_64).trans ?_
  refine (go_newI (m := 21) (pc := 38) (by decide +kernel) h1).trans ?_
  refine (go_putR (m := 21) (pc := 40) (o := 5) (x := 28) (ci := 5) (k := 5) (by decide +kernel) rfl f_5_28 rfl (by decide +kernel) h4).trans ?_
  exact go_retV (m := 21) (pc := 43) (by decide +kernel) rfl
theorem Log_init_E (this : Nat) (w : Wd) (I : MI) (L : ML) (P : MP) : call 21 [.ref this] w I L P = go 21 0 [.ref this] [] w I L P := rfl
theorem Log_copyFrom_0 (a_l0 : Nat) (a_l1 : Nat) (w : Wd) (I : MI) (L : ML) (P : MP) (h0 : w.1 a_l1 = some (5, 0)) (h1 : w.1 a_l0 = some (5, 0)) : go 22 0 [.ref a_l0, .ref a_l1] [] w I L P = go 22 28 [.ref a_l0, .ref a_l1] [(va_rf (P a_l1 3))] w (updI (updI (updI I a_l0 0 (I a_l1 0)) a_l0 1 ((updI I a_l0 0 (I a_l1 0)) a_l1 1)) a_l0 2 ((updI (updI I a_l0 0 (I a_l1 0)) a_l0 1 ((updI I a_l0 0 (I a_l1 0)) a_l1 1)) a_l1 2)) L P := by
  refine (go_aload_n (m := 22) (pc := 0) (k := 0) (by decide +kernel) rfl).trans ?_
  refine (go_aload_n (m := 22) (pc := 1) (k := 1) (by decide +kernel) rfl).trans ?_
  refine (go_getI (m := 22) (pc := 2) (o := 5) (x := 9) (ci := 5) (k := 0) (by decide +kernel) rfl f_5_9 rfl h0).trans ?_
  refine (go_putI (m := 22) (pc := 5) (o := 5) (x := 9) (ci := 5) (k := 0) (by decide +kernel) rfl f_5_9 rfl (by decide +kernel) h1).trans ?_
  refine (go_aload_n (m := 22) (pc := 8) (k := 0) (by decide +kernel) rfl).trans ?_
  refine (go_aload_n (m := 22) (pc := 9) (k := 1) (by decide +kernel) rfl).trans ?_
  refine (go_getI (m := 22) (pc := 10) (o := 5) (x := 15) (ci := 5) (k := 1) (by decide +kernel) rfl f_5_15 rfl h0).trans ?_
  refine (go_putI (m := 22) (pc := 13) (o := 5) (x := 15) (ci := 5) (k := 1) (by decide +kernel) rfl f_5_15 rfl (by decide +kernel) h1).trans ?_
  refine (go_aload_n (m := 22) (pc := 16) (k := 0) (by decide +kernel) rfl).trans ?_
  refine (go_aload_n (m := 22) (pc := 17) (k := 1) (by decide +kernel) rfl).trans ?_
  refine (go_getI (m := 22) (pc := 18) (o := 5) (x := 18) (ci := 5) (k := 2) (by decide +kernel) rfl f_5_18 rfl h0).trans ?_
  refine (go_putI (m := 22) (pc := 21) (o := 5) (x := 18) (ci := 5) (k := 2) (by decide +kernel) rfl f_5_18 rfl (by decide +kernel) h1).trans ?_
  refine (go_aload_n (m := 22) (pc := 24) (k := 1) (by decide +kernel) rfl).trans ?_
  refine (go_getR (m := 22) (pc := 25) (o := 5) (x := 21) (ci := 5) (k := 3) (by decide +kernel) rfl f_5_21 rfl h0).trans ?_
  rfl
theorem Log_copyFrom_28 (a_l0 : Nat) (l1 : Value) (v0 : Value) (w : Wd) (I : MI) (L : ML) (P : MP) (h0 : w.1 a_l0 = some (5, 0)) : go 22 28 [.ref a_l0, l1] [v0] w I L P = go 22 32 [.ref a_l0, l1] [(va_rf (P a_l0 3)), v0] w I L P := by
  refine (go_aload_n (m := 22) (pc := 28) (k := 0) (by decide +kernel) rfl).trans ?_
  refine (go_getR (m := 22) (pc := 29) (o := 5) (x := 21) (ci := 5) (k := 3) (by decide +kernel) rfl f_5_21 rfl h0).trans ?_
  rfl
theorem Log_copyFrom_32_0 (l0 : Value) (l1 : Value) (w : Wd) (I : MI) (L : ML) (P : MP)  : go 22 32 [l0, l1] [.null, .null] w I L P = kC (call 119 [.null, .null] w I L P) (fun v w1 I1 L1 P1 => go 22 35 [l0, l1] (v.toList ++ []) w1 I1 L1 P1) := by
  exact go_sta (m := 22) (pc := 32) (o := 5) (x := 31) (y := 119) (kd := 3) (as := [.null, .null]) (rs := []) (by decide +kernel) rfl rfl c_5_31 (Or.inr (Or.inl rfl)) rfl rfl rfl (by decide +kernel) (by simp only [List.length_cons, List.length_nil]; decide) (Nat.le_of_ble_eq_true rfl)
theorem Log_copyFrom_32_1 (l0 : Value) (l1 : Value) (a_s1 : Nat) (w : Wd) (I : MI) (L : ML) (P : MP)  : go 22 32 [l0, l1] [.ref a_s1, .null] w I L P = kC (call 119 [.null, .ref a_s1] w I L P) (fun v w1 I1 L1 P1 => go 22 35 [l0, l1] (v.toList ++ []) w1 I1 L1 P1) := by
  exact go_sta (m := 22) (pc := 32) (o := 5) (x := 31) (y := 119) (kd := 3) (as := [.null, .ref a_s1]) (rs := []) (by decide +kernel) rfl rfl c_5_31 (Or.inr (Or.inl rfl)) rfl rfl rfl (by decide +kernel) (by simp only [List.length_cons, List.length_nil]; decide) (Nat.le_of_ble_eq_true rfl)
theorem Log_copyFrom_32_2 (l0 : Value) (l1 : Value) (a_s0 : Nat) (w : Wd) (I : MI) (L : ML) (P : MP)  : go 22 32 [l0, l1] [.null, .ref a_s0] w I L P = kC (call 119 [.ref a_s0, .null] w I L P) (fun v w1 I1 L1 P1 => go 22 35 [l0, l1] (v.toList ++ []) w1 I1 L1 P1) := by
  exact go_sta (m := 22) (pc := 32) (o := 5) (x := 31) (y := 119) (kd := 3) (as := [.ref a_s0, .null]) (rs := []) (by decide +kernel) rfl rfl c_5_31 (Or.inr (Or.inl rfl)) rfl rfl rfl (by decide +kernel) (by simp only [List.length_cons, List.length_nil]; decide) (Nat.le_of_ble_eq_true rfl)
theorem Log_copyFrom_32_3 (l0 : Value) (l1 : Value) (a_s0 : Nat) (a_s1 : Nat) (w : Wd) (I : MI) (L : ML) (P : MP)  : go 22 32 [l0, l1] [.ref a_s1, .ref a_s0] w I L P = kC (call 119 [.ref a_s0, .ref a_s1] w I L P) (fun v w1 I1 L1 P1 => go 22 35 [l0, l1] (v.toList ++ []) w1 I1 L1 P1) := by
  exact go_sta (m := 22) (pc := 32) (o := 5) (x := 31) (y := 119) (kd := 3) (as := [.ref a_s0, .ref a_s1]) (rs := []) (by decide +kernel) rfl rfl c_5_31 (Or.inr (Or.inl rfl)) rfl rfl rfl (by decide +kernel) (by simp only [List.length_cons, List.length_nil]; decide) (Nat.le_of_ble_eq_true rfl)
theorem Log_copyFrom_35 (l0 : Value) (a_l1 : Nat) (w : Wd) (I : MI) (L : ML) (P : MP) (h0 : w.1 a_l1 = some (5, 0)) : go 22 35 [l0, .ref a_l1] [] w I L P = go 22 39 [l0, .ref a_l1] [(va_rf (P a_l1 4))] w I L P := by
  refine (go_aload_n (m := 22) (pc := 35) (k := 1) (by decide +kernel) rfl).trans ?_
  refine (go_getR (m := 22) (pc := 36) (o := 5) (x := 25) (ci := 5) (k := 4) (by decide +kernel) rfl f_5_25 rfl h0).trans ?_
  rfl
theorem Log_copyFrom_39 (a_l0 : Nat) (l1 : Value) (v0 : Value) (w : Wd) (I : MI) (L : ML) (P : MP) (h0 : w.1 a_l0 = some (5, 0)) : go 22 39 [.ref a_l0, l1] [v0] w I L P = go 22 43 [.ref a_l0, l1] [(va_rf (P a_l0 4)), v0] w I L P := by
  refine (go_aload_n (m := 22) (pc := 39) (k := 0) (by decide +kernel) rfl).trans ?_
  refine (go_getR (m := 22) (pc := 40) (o := 5) (x := 25) (ci := 5) (k := 4) (by decide +kernel) rfl f_5_25 rfl h0).trans ?_
  rfl
theorem Log_copyFrom_43_0 (l0 : Value) (l1 : Value) (w : Wd) (I : MI) (L : ML) (P : MP)  : go 22 43 [l0, l1] [.null, .null] w I L P = kC (call 119 [.null, .null] w I L P) (fun v w1 I1 L1 P1 => go 22 46 [l0, l1] (v.toList ++ []) w1 I1 L1 P1) := by
  exact go_sta (m := 22) (pc := 43) (o := 5) (x := 31) (y := 119) (kd := 3) (as := [.null, .null]) (rs := []) (by decide +kernel) rfl rfl c_5_31 (Or.inr (Or.inl rfl)) rfl rfl rfl (by decide +kernel) (by simp only [List.length_cons, List.length_nil]; decide) (Nat.le_of_ble_eq_true rfl)
theorem Log_copyFrom_43_1 (l0 : Value) (l1 : Value) (a_s1 : Nat) (w : Wd) (I : MI) (L : ML) (P : MP)  : go 22 43 [l0, l1] [.ref a_s1, .null] w I L P = kC (call 119 [.null, .ref a_s1] w I L P) (fun v w1 I1 L1 P1 => go 22 46 [l0, l1] (v.toList ++ []) w1 I1 L1 P1) := by
  exact go_sta (m := 22) (pc := 43) (o := 5) (x := 31) (y := 119) (kd := 3) (as := [.null, .ref a_s1]) (rs := []) (by decide +kernel) rfl rfl c_5_31 (Or.inr (Or.inl rfl)) rfl rfl rfl (by decide +kernel) (by simp only [List.length_cons, List.length_nil]; decide) (Nat.le_of_ble_eq_true rfl)
theorem Log_copyFrom_43_2 (l0 : Value) (l1 : Value) (a_s0 : Nat) (w : Wd) (I : MI) (L : ML) (P : MP)  : go 22 43 [l0, l1] [.null, .ref a_s0] w I L P = kC (call 119 [.ref a_s0, .null] w I L P) (fun v w1 I1 L1 P1 => go 22 46 [l0, l1] (v.toList ++ []) w1 I1 L1 P1) := by
  exact go_sta (m := 22) (pc := 43) (o := 5) (x := 31) (y := 119) (kd := 3) (as := [.ref a_s0, .null]) (rs := []) (by decide +kernel) rfl rfl c_5_31 (Or.inr (Or.inl rfl)) rfl rfl rfl (by decide +kernel) (by simp only [List.length_cons, List.length_nil]; decide) (Nat.le_of_ble_eq_true rfl)
theorem Log_copyFrom_43_3 (l0 : Value) (l1 : Value) (a_s0 : Nat) (a_s1 : Nat) (w : Wd) (I : MI) (L : ML) (P : MP)  : go 22 43 [l0, l1] [.ref a_s1, .ref a_s0] w I L P = kC (call 119 [.ref a_s0, .ref a_s1] w I L P) (fun v w1 I1 L1 P1 => go 22 46 [l0, l1] (v.toList ++ []) w1 I1 L1 P1) := by
  exact go_sta (m := 22) (pc := 43) (o := 5) (x := 31) (y := 119) (kd := 3) (as := [.ref a_s0, .ref a_s1]) (rs := []) (by decide +kernel) rfl rfl c_5_31 (Or.inr (Or.inl rfl)) rfl rfl rfl (by decide +kernel) (by simp only [List.length_cons, List.length_nil]; decide) (Nat.le_of_ble_eq_true rfl)
theorem Log_copyFrom_46 (l0 : Value) (a_l1 : Nat) (w : Wd) (I : MI) (L : ML) (P : MP) (h0 : w.1 a_l1 = some (5, 0)) : go 22 46 [l0, .ref a_l1] [] w I L P = go 22 50 [l0, .ref a_l1] [(va_rf (P a_l1 5))] w I L P := by
  refine (go_aload_n (m := 22) (pc := 46) (k := 1) (by decide +kernel) rfl).trans ?_
  refine (go_getR (m := 22) (pc := 47) (o := 5) (x := 28) (ci := 5) (k := 5) (by decide +kernel) rfl f_5_28 rfl h0).trans ?_
  rfl
theorem Log_copyFrom_50 (a_l0 : Nat) (l1 : Value) (v0 : Value) (w : Wd) (I : MI) (L : ML) (P : MP) (h0 : w.1 a_l0 = some (5, 0)) : go 22 50 [.ref a_l0, l1] [v0] w I L P = go 22 54 [.ref a_l0, l1] [(va_rf (P a_l0 5)), v0] w I L P := by
  refine (go_aload_n (m := 22) (pc := 50) (k := 0) (by decide +kernel) rfl).trans ?_
  refine (go_getR (m := 22) (pc := 51) (o := 5) (x := 28) (ci := 5) (k := 5) (by decide +kernel) rfl f_5_28 rfl h0).trans ?_
  rfl
theorem Log_copyFrom_54_0 (l0 : Value) (l1 : Value) (w : Wd) (I : MI) (L : ML) (P : MP)  : go 22 54 [l0, l1] [.null, .null] w I L P = kC (call 119 [.null, .null] w I L P) (fun v w1 I1 L1 P1 => go 22 57 [l0, l1] (v.toList ++ []) w1 I1 L1 P1) := by
  exact go_sta (m := 22) (pc := 54) (o := 5) (x := 31) (y := 119) (kd := 3) (as := [.null, .null]) (rs := []) (by decide +kernel) rfl rfl c_5_31 (Or.inr (Or.inl rfl)) rfl rfl rfl (by decide +kernel) (by simp only [List.length_cons, List.length_nil]; decide) (Nat.le_of_ble_eq_true rfl)
theorem Log_copyFrom_54_1 (l0 : Value) (l1 : Value) (a_s1 : Nat) (w : Wd) (I : MI) (L : ML) (P : MP)  : go 22 54 [l0, l1] [.ref a_s1, .null] w I L P = kC (call 119 [.null, .ref a_s1] w I L P) (fun v w1 I1 L1 P1 => go 22 57 [l0, l1] (v.toList ++ []) w1 I1 L1 P1) := by
  exact go_sta (m := 22) (pc := 54) (o := 5) (x := 31) (y := 119) (kd := 3) (as := [.null, .ref a_s1]) (rs := []) (by decide +kernel) rfl rfl c_5_31 (Or.inr (Or.inl rfl)) rfl rfl rfl (by decide +kernel) (by simp only [List.length_cons, List.length_nil]; decide) (Nat.le_of_ble_eq_true rfl)
theorem Log_copyFrom_54_2 (l0 : Value) (l1 : Value) (a_s0 : Nat) (w : Wd) (I : MI) (L : ML) (P : MP)  : go 22 54 [l0, l1] [.null, .ref a_s0] w I L P = kC (call 119 [.ref a_s0, .null] w I L P) (fun v w1 I1 L1 P1 => go 22 57 [l0, l1] (v.toList ++ []) w1 I1 L1 P1) := by
  exact go_sta (m := 22) (pc := 54) (o := 5) (x := 31) (y := 119) (kd := 3) (as := [.ref a_s0, .null]) (rs := []) (by decide +kernel) rfl rfl c_5_31 (Or.inr (Or.inl rfl)) rfl rfl rfl (by decide +kernel) (by simp only [List.length_cons, List.length_nil]; decide) (Nat.le_of_ble_eq_true rfl)
theorem Log_copyFrom_54_3 (l0 : Value) (l1 : Value) (a_s0 : Nat) (a_s1 : Nat) (w : Wd) (I : MI) (L : ML) (P : MP)  : go 22 54 [l0, l1] [.ref a_s1, .ref a_s0] w I L P = kC (call 119 [.ref a_s0, .ref a_s1] w I L P) (fun v w1 I1 L1 P1 => go 22 57 [l0, l1] (v.toList ++ []) w1 I1 L1 P1) := by
  exact go_sta (m := 22) (pc := 54) (o := 5) (x := 31) (y := 119) (kd := 3) (as := [.ref a_s0, .ref a_s1]) (rs := []) (by decide +kernel) rfl rfl c_5_31 (Or.inr (Or.inl rfl)) rfl rfl rfl (by decide +kernel) (by simp only [List.length_cons, List.length_nil]; decide) (Nat.le_of_ble_eq_true rfl)
theorem Log_copyFrom_57 (l0 : Value) (l1 : Value) (w : Wd) (I : MI) (L : ML) (P : MP)  : go 22 57 [l0, l1] [] w I L P = some (.inl none, w, I, L, P) := by
  exact go_retV (m := 22) (pc := 57) (by decide +kernel) rfl
theorem Log_copyFrom_E (this : Nat) (p0 : Nat) (w : Wd) (I : MI) (L : ML) (P : MP) : call 22 [.ref this, .ref p0] w I L P = go 22 0 [.ref this, .ref p0] [] w I L P := rfl
theorem Log_copyFrom_E1 (this : Nat) (w : Wd) (I : MI) (L : ML) (P : MP) : call 22 [.ref this, .null] w I L P = go 22 0 [.ref this, .null] [] w I L P := rfl
theorem Log_keptCount_0 (a_l0 : Nat) (w : Wd) (I : MI) (L : ML) (P : MP) (h0 : w.1 a_l0 = some (5, 0)) : go 23 0 [.ref a_l0] [] w I L P = some (.inl (some (.int (if (nI 64) < (I a_l0 0) then (nI 64) else (I a_l0 0)))), w, I, L, P) := by
  refine (go_aload_n (m := 23) (pc := 0) (k := 0) (by decide +kernel) rfl).trans ?_
  refine (go_getI (m := 23) (pc := 1) (o := 5) (x := 9) (ci := 5) (k := 0) (by decide +kernel) rfl f_5_9 rfl h0).trans ?_
  refine (go_bi (m := 23) (pc := 4) (n := 64) (by decide +kernel) bi_64).trans ?_
  refine (go_min (m := 23) (pc := 6) (o := 5) (j := 35) (y' := 999) (by decide +kernel) rfl (by decide +kernel) (by simp only [List.length_cons, List.length_nil]; decide +kernel)).trans ?_
  exact go_retI (m := 23) (pc := 9) (by decide +kernel) rfl
theorem Log_keptCount_E (this : Nat) (w : Wd) (I : MI) (L : ML) (P : MP) : call 23 [.ref this] w I L P = go 23 0 [.ref this] [] w I L P := rfl
theorem Log_keep_0 (a_l0 : Nat) (l1 : Value) (l2 : Value) (l3 : Value) (l4 : Value) (w : Wd) (I : MI) (L : ML) (P : MP) (h0 : w.1 a_l0 = some (5, 0)) : go 24 0 [.ref a_l0, l1, l2, l3, l4] [] w I L P = go 24 13 [.ref a_l0, l1, l2, (fix1 l3), .int ((I a_l0 0) &&& (nI 63))] [(va_rf (P a_l0 3))] w I L P := by
  refine (go_aload_n (m := 24) (pc := 0) (k := 0) (by decide +kernel) rfl).trans ?_
  refine (go_getI (m := 24) (pc := 1) (o := 5) (x := 9) (ci := 5) (k := 0) (by decide +kernel) rfl f_5_9 rfl h0).trans ?_
  refine (go_bi (m := 24) (pc := 4) (n := 63) (by decide +kernel) bi_63).trans ?_
  refine (go_iand (m := 24) (pc := 6) (by decide +kernel)).trans ?_
  refine (go_istore (m := 24) (pc := 7) (k := 4) (ls' := [.ref a_l0, l1, l2, (fix1 l3), .int ((I a_l0 0) &&& (nI 63))]) (by decide +kernel) (by simp only [List.length_cons, List.length_nil]; decide) rfl).trans ?_
  refine (go_aload_n (m := 24) (pc := 9) (k := 0) (by decide +kernel) rfl).trans ?_
  refine (go_getR (m := 24) (pc := 10) (o := 5) (x := 21) (ci := 5) (k := 3) (by decide +kernel) rfl f_5_21 rfl h0).trans ?_
  rfl
theorem Log_keep_13 (a_l0 : Nat) (l1 : Value) (x_l2 : Int32) (l3 : Value) (x_l4 : Int32) (a_s0 : Nat) (w : Wd) (I : MI) (L : ML) (P : MP) (h0 : inA w a_s0 8 x_l4) (h1 : w.1 a_l0 = some (5, 0)) : go 24 13 [.ref a_l0, l1, .int x_l2, l3, .int x_l4] [.ref a_s0] w I L P = go 24 21 [.ref a_l0, l1, .int x_l2, l3, .int x_l4] [(va_rf (P a_l0 4))] w (updI I a_s0 (Int32.toNatClampNeg x_l4) x_l2) L P := by
  refine (go_iload (m := 24) (pc := 13) (k := 4) (by decide +kernel) rfl).trans ?_
  refine (go_iload_n (m := 24) (pc := 15) (k := 2) (by decide +kernel) rfl).trans ?_
  refine (go_iast (m := 24) (pc := 16) (by decide +kernel) h0).trans ?_
  refine (go_aload_n (m := 24) (pc := 17) (k := 0) (by decide +kernel) rfl).trans ?_
  refine (go_getR (m := 24) (pc := 18) (o := 5) (x := 25) (ci := 5) (k := 4) (by decide +kernel) rfl f_5_25 rfl h1).trans ?_
  rfl
theorem Log_keep_21 (a_l0 : Nat) (l1 : Value) (l2 : Value) (x_l3 : Int32) (x_l4 : Int32) (a_s0 : Nat) (w : Wd) (I : MI) (L : ML) (P : MP) (h0 : inA w a_s0 8 x_l4) (h1 : w.1 a_l0 = some (5, 0)) : go 24 21 [.ref a_l0, l1, l2, .int x_l3, .int x_l4] [.ref a_s0] w I L P = go 24 29 [.ref a_l0, l1, l2, .int x_l3, .int x_l4] [(va_rf (P a_l0 5))] w (updI I a_s0 (Int32.toNatClampNeg x_l4) x_l3) L P := by
  refine (go_iload (m := 24) (pc := 21) (k := 4) (by decide +kernel) rfl).trans ?_
  refine (go_iload_n (m := 24) (pc := 23) (k := 3) (by decide +kernel) rfl).trans ?_
  refine (go_iast (m := 24) (pc := 24) (by decide +kernel) h0).trans ?_
  refine (go_aload_n (m := 24) (pc := 25) (k := 0) (by decide +kernel) rfl).trans ?_
  refine (go_getR (m := 24) (pc := 26) (o := 5) (x := 28) (ci := 5) (k := 5) (by decide +kernel) rfl f_5_28 rfl h1).trans ?_
  rfl
theorem Log_keep_29 (a_l0 : Nat) (x_l1 : Int32) (l2 : Value) (l3 : Value) (x_l4 : Int32) (a_s0 : Nat) (w : Wd) (I : MI) (L : ML) (P : MP) (h0 : inA w a_s0 8 x_l4) (h1 : w.1 a_l0 = some (5, 0)) : go 24 29 [.ref a_l0, .int x_l1, l2, l3, .int x_l4] [.ref a_s0] w I L P = if x_l1 = 0 then go 24 57 [.ref a_l0, .int x_l1, l2, l3, .int x_l4] [] w (updI (updI I a_s0 (Int32.toNatClampNeg x_l4) x_l1) a_l0 0 (((updI I a_s0 (Int32.toNatClampNeg x_l4) x_l1) a_l0 0) + (nI 1))) L P else go 24 47 [.ref a_l0, .int x_l1, l2, l3, .int x_l4] [] w (updI (updI I a_s0 (Int32.toNatClampNeg x_l4) x_l1) a_l0 0 (((updI I a_s0 (Int32.toNatClampNeg x_l4) x_l1) a_l0 0) + (nI 1))) L P := by
  refine (go_iload (m := 24) (pc := 29) (k := 4) (by decide +kernel) rfl).trans ?_
  refine (go_iload_n (m := 24) (pc := 31) (k := 1) (by decide +kernel) rfl).trans ?_
  refine (go_iast (m := 24) (pc := 32) (by decide +kernel) h0).trans ?_
  refine (go_aload_n (m := 24) (pc := 33) (k := 0) (by decide +kernel) rfl).trans ?_
  refine (go_dup (m := 24) (pc := 34) (by decide +kernel) rfl).trans ?_
  refine (go_getI (m := 24) (pc := 35) (o := 5) (x := 9) (ci := 5) (k := 0) (by decide +kernel) rfl f_5_9 rfl h1).trans ?_
  refine (go_ic (m := 24) (pc := 38) (n := 1) (by decide +kernel) ic_1).trans ?_
  refine (go_iadd (m := 24) (pc := 39) (by decide +kernel)).trans ?_
  refine (go_putI (m := 24) (pc := 40) (o := 5) (x := 9) (ci := 5) (k := 0) (by decide +kernel) rfl f_5_9 rfl (by decide +kernel) h1).trans ?_
  refine (go_iload_n (m := 24) (pc := 43) (k := 1) (by decide +kernel) rfl).trans ?_
  exact go_ifeq (m := 24) (pc := 44) (off := 13) (t := 57) (by decide +kernel) (by decide)
theorem Log_keep_47 (a_l0 : Nat) (l1 : Value) (l2 : Value) (l3 : Value) (l4 : Value) (w : Wd) (I : MI) (L : ML) (P : MP) (h0 : w.1 a_l0 = some (5, 0)) : go 24 47 [.ref a_l0, l1, l2, l3, l4] [] w I L P = go 24 57 [.ref a_l0, l1, l2, l3, l4] [] w (updI I a_l0 1 ((I a_l0 1) + (nI 1))) L P := by
  refine (go_aload_n (m := 24) (pc := 47) (k := 0) (by decide +kernel) rfl).trans ?_
  refine (go_dup (m := 24) (pc := 48) (by decide +kernel) rfl).trans ?_
  refine (go_getI (m := 24) (pc := 49) (o := 5) (x := 15) (ci := 5) (k := 1) (by decide +kernel) rfl f_5_15 rfl h0).trans ?_
  refine (go_ic (m := 24) (pc := 52) (n := 1) (by decide +kernel) ic_1).trans ?_
  refine (go_iadd (m := 24) (pc := 53) (by decide +kernel)).trans ?_
  refine (go_putI (m := 24) (pc := 54) (o := 5) (x := 15) (ci := 5) (k := 1) (by decide +kernel) rfl f_5_15 rfl (by decide +kernel) h0).trans ?_
  rfl
theorem Log_keep_57 (l0 : Value) (x_l1 : Int32) (l2 : Value) (l3 : Value) (l4 : Value) (w : Wd) (I : MI) (L : ML) (P : MP)  : go 24 57 [l0, .int x_l1, l2, l3, l4] [] w I L P = if x_l1 ≠ (nI 6) then go 24 73 [l0, .int x_l1, l2, l3, l4] [] w I L P else go 24 63 [l0, .int x_l1, l2, l3, l4] [] w I L P := by
  refine (go_iload_n (m := 24) (pc := 57) (k := 1) (by decide +kernel) rfl).trans ?_
  refine (go_bi (m := 24) (pc := 58) (n := 6) (by decide +kernel) bi_6).trans ?_
  exact go_icmpne (m := 24) (pc := 60) (off := 13) (t := 73) (by decide +kernel) (by decide)
theorem Log_keep_63 (a_l0 : Nat) (l1 : Value) (l2 : Value) (l3 : Value) (l4 : Value) (w : Wd) (I : MI) (L : ML) (P : MP) (h0 : w.1 a_l0 = some (5, 0)) : go 24 63 [.ref a_l0, l1, l2, l3, l4] [] w I L P = go 24 73 [.ref a_l0, l1, l2, l3, l4] [] w (updI I a_l0 2 ((I a_l0 2) + (nI 1))) L P := by
  refine (go_aload_n (m := 24) (pc := 63) (k := 0) (by decide +kernel) rfl).trans ?_
  refine (go_dup (m := 24) (pc := 64) (by decide +kernel) rfl).trans ?_
  refine (go_getI (m := 24) (pc := 65) (o := 5) (x := 18) (ci := 5) (k := 2) (by decide +kernel) rfl f_5_18 rfl h0).trans ?_
  refine (go_ic (m := 24) (pc := 68) (n := 1) (by decide +kernel) ic_1).trans ?_
  refine (go_iadd (m := 24) (pc := 69) (by decide +kernel)).trans ?_
  refine (go_putI (m := 24) (pc := 70) (o := 5) (x := 18) (ci := 5) (k := 2) (by decide +kernel) rfl f_5_18 rfl (by decide +kernel) h0).trans ?_
  rfl
theorem Log_keep_73 (l0 : Value) (l1 : Value) (l2 : Value) (l3 : Value) (l4 : Value) (w : Wd) (I : MI) (L : ML) (P : MP)  : go 24 73 [l0, l1, l2, l3, l4] [] w I L P = some (.inl none, w, I, L, P) := by
  exact go_retV (m := 24) (pc := 73) (by decide +kernel) rfl
theorem Log_keep_E (this : Nat) (p0 : Int32) (p1 : Int32) (p2 : Int32) (w : Wd) (I : MI) (L : ML) (P : MP) : call 24 [.ref this, .int p0, .int p1, .int p2] w I L P = go 24 0 [.ref this, .int p0, .int p1, .int p2, unk] [] w I L P := rfl
theorem Log_tell_0 (a_l0 : Nat) (x_l1 : Int32) (x_l2 : Int32) (l3 : Value) (w : Wd) (I : MI) (L : ML) (P : MP) (h0 : w.1 a_l0 = some (5, 0)) : go 25 0 [.ref a_l0, .int x_l1, .int x_l2, l3] [] w I L P = go 25 13 [.ref a_l0, .int x_l1, .int x_l2, .int ((((I a_l0 0) - (nI 1)) - x_l1) &&& (nI 63))] [.int x_l2] w I L P := by
  refine (go_aload_n (m := 25) (pc := 0) (k := 0) (by decide +kernel) rfl).trans ?_
  refine (go_getI (m := 25) (pc := 1) (o := 5) (x := 9) (ci := 5) (k := 0) (by decide +kernel) rfl f_5_9 rfl h0).trans ?_
  refine (go_ic (m := 25) (pc := 4) (n := 1) (by decide +kernel) ic_1).trans ?_
  refine (go_isub (m := 25) (pc := 5) (by decide +kernel)).trans ?_
  refine (go_iload_n (m := 25) (pc := 6) (k := 1) (by decide +kernel) rfl).trans ?_
  refine (go_isub (m := 25) (pc := 7) (by decide +kernel)).trans ?_
  refine (go_bi (m := 25) (pc := 8) (n := 63) (by decide +kernel) bi_63).trans ?_
  refine (go_iand (m := 25) (pc := 10) (by decide +kernel)).trans ?_
  refine (go_istore_n (m := 25) (pc := 11) (k := 3) (ls' := [.ref a_l0, .int x_l1, .int x_l2, .int ((((I a_l0 0) - (nI 1)) - x_l1) &&& (nI 63))]) (by decide +kernel) (by simp only [List.length_cons, List.length_nil]; decide) rfl).trans ?_
  refine (go_iload_n (m := 25) (pc := 12) (k := 2) (by decide +kernel) rfl).trans ?_
  rfl
theorem Log_tell_13_k0 (l0 : Value) (l1 : Value) (l2 : Value) (l3 : Value) (w : Wd) (I : MI) (L : ML) (P : MP) : go 25 13 [l0, l1, l2, l3] [.int (nI 0)] w I L P = go 25 40 [l0, l1, l2, l3] [] w I L P := go_lsI (m := 25) (pc := 13) (z := 0) (off := 27) (t := 40) (dflt := 41) (ps := #[(0, 27), (1, 34)]) (len := 27) (by decide +kernel) (by decide) (by decide) (by decide) (by decide)
theorem Log_tell_13_k1 (l0 : Value) (l1 : Value) (l2 : Value) (l3 : Value) (w : Wd) (I : MI) (L : ML) (P : MP) : go 25 13 [l0, l1, l2, l3] [.int (nI 1)] w I L P = go 25 47 [l0, l1, l2, l3] [] w I L P := go_lsI (m := 25) (pc := 13) (z := 1) (off := 34) (t := 47) (dflt := 41) (ps := #[(0, 27), (1, 34)]) (len := 27) (by decide +kernel) (by decide) (by decide) (by decide) (by decide)
theorem Log_tell_13_kd (l0 : Value) (l1 : Value) (l2 : Value) (l3 : Value) (w : Wd) (I : MI) (L : ML) (P : MP) (y : Int32) (h0 : ¬ y = nI 0) (h1 : ¬ y = nI 1) : go 25 13 [l0, l1, l2, l3] [.int y] w I L P = go 25 54 [l0, l1, l2, l3] [] w I L P := by
  refine go_lsO (m := 25) (pc := 13) (off := 41) (t := 54) (dflt := 41) (ps := #[(0, 27), (1, 34)]) (len := 27) (by decide +kernel) (by decide) ?_ (by decide)
  refine (lv_osw h0 (by decide)).trans ?_
  refine (lv_osw h1 (by decide)).trans ?_
  rfl
theorem Log_tell_40 (a_l0 : Nat) (l1 : Value) (l2 : Value) (l3 : Value) (w : Wd) (I : MI) (L : ML) (P : MP) (h0 : w.1 a_l0 = some (5, 0)) : go 25 40 [.ref a_l0, l1, l2, l3] [] w I L P = go 25 44 [.ref a_l0, l1, l2, l3] [(va_rf (P a_l0 3))] w I L P := by
  refine (go_aload_n (m := 25) (pc := 40) (k := 0) (by decide +kernel) rfl).trans ?_
  refine (go_getR (m := 25) (pc := 41) (o := 5) (x := 21) (ci := 5) (k := 3) (by decide +kernel) rfl f_5_21 rfl h0).trans ?_
  rfl
theorem Log_tell_44 (l0 : Value) (l1 : Value) (l2 : Value) (x_l3 : Int32) (a_s0 : Nat) (w : Wd) (I : MI) (L : ML) (P : MP) (h0 : inA w a_s0 8 x_l3) : go 25 44 [l0, l1, l2, .int x_l3] [.ref a_s0] w I L P = some (.inl (some (.int (I a_s0 (Int32.toNatClampNeg x_l3)))), w, I, L, P) := by
  refine (go_iload_n (m := 25) (pc := 44) (k := 3) (by decide +kernel) rfl).trans ?_
  refine (go_iald (m := 25) (pc := 45) (by decide +kernel) h0).trans ?_
  exact go_retI (m := 25) (pc := 46) (by decide +kernel) rfl
theorem Log_tell_47 (a_l0 : Nat) (l1 : Value) (l2 : Value) (l3 : Value) (w : Wd) (I : MI) (L : ML) (P : MP) (h0 : w.1 a_l0 = some (5, 0)) : go 25 47 [.ref a_l0, l1, l2, l3] [] w I L P = go 25 51 [.ref a_l0, l1, l2, l3] [(va_rf (P a_l0 4))] w I L P := by
  refine (go_aload_n (m := 25) (pc := 47) (k := 0) (by decide +kernel) rfl).trans ?_
  refine (go_getR (m := 25) (pc := 48) (o := 5) (x := 25) (ci := 5) (k := 4) (by decide +kernel) rfl f_5_25 rfl h0).trans ?_
  rfl
theorem Log_tell_51 (l0 : Value) (l1 : Value) (l2 : Value) (x_l3 : Int32) (a_s0 : Nat) (w : Wd) (I : MI) (L : ML) (P : MP) (h0 : inA w a_s0 8 x_l3) : go 25 51 [l0, l1, l2, .int x_l3] [.ref a_s0] w I L P = some (.inl (some (.int (I a_s0 (Int32.toNatClampNeg x_l3)))), w, I, L, P) := by
  refine (go_iload_n (m := 25) (pc := 51) (k := 3) (by decide +kernel) rfl).trans ?_
  refine (go_iald (m := 25) (pc := 52) (by decide +kernel) h0).trans ?_
  exact go_retI (m := 25) (pc := 53) (by decide +kernel) rfl
theorem Log_tell_54 (a_l0 : Nat) (l1 : Value) (l2 : Value) (l3 : Value) (w : Wd) (I : MI) (L : ML) (P : MP) (h0 : w.1 a_l0 = some (5, 0)) : go 25 54 [.ref a_l0, l1, l2, l3] [] w I L P = go 25 58 [.ref a_l0, l1, l2, l3] [(va_rf (P a_l0 5))] w I L P := by
  refine (go_aload_n (m := 25) (pc := 54) (k := 0) (by decide +kernel) rfl).trans ?_
  refine (go_getR (m := 25) (pc := 55) (o := 5) (x := 28) (ci := 5) (k := 5) (by decide +kernel) rfl f_5_28 rfl h0).trans ?_
  rfl
theorem Log_tell_58 (l0 : Value) (l1 : Value) (l2 : Value) (x_l3 : Int32) (a_s0 : Nat) (w : Wd) (I : MI) (L : ML) (P : MP) (h0 : inA w a_s0 8 x_l3) : go 25 58 [l0, l1, l2, .int x_l3] [.ref a_s0] w I L P = some (.inl (some (.int (I a_s0 (Int32.toNatClampNeg x_l3)))), w, I, L, P) := by
  refine (go_iload_n (m := 25) (pc := 58) (k := 3) (by decide +kernel) rfl).trans ?_
  refine (go_iald (m := 25) (pc := 59) (by decide +kernel) h0).trans ?_
  exact go_retI (m := 25) (pc := 60) (by decide +kernel) rfl
theorem Log_tell_E (this : Nat) (p0 : Int32) (p1 : Int32) (w : Wd) (I : MI) (L : ML) (P : MP) : call 25 [.ref this, .int p0, .int p1] w I L P = go 25 0 [.ref this, .int p0, .int p1, unk] [] w I L P := rfl
theorem Log_lastLevel_0 (a_l0 : Nat) (w : Wd) (I : MI) (L : ML) (P : MP) (h0 : w.1 a_l0 = some (5, 0)) : go 26 0 [.ref a_l0] [] w I L P = if (I a_l0 0) ≠ 0 then go 26 11 [.ref a_l0] [] w I L P else go 26 7 [.ref a_l0] [] w I L P := by
  refine (go_aload_n (m := 26) (pc := 0) (k := 0) (by decide +kernel) rfl).trans ?_
  refine (go_getI (m := 26) (pc := 1) (o := 5) (x := 9) (ci := 5) (k := 0) (by decide +kernel) rfl f_5_9 rfl h0).trans ?_
  exact go_ifne (m := 26) (pc := 4) (off := 7) (t := 11) (by decide +kernel) (by decide)
theorem Log_lastLevel_7 (l0 : Value) (w : Wd) (I : MI) (L : ML) (P : MP)  : go 26 7 [l0] [] w I L P = go 26 17 [l0] [.int (nI 1)] w I L P := by
  refine (go_ic (m := 26) (pc := 7) (n := 1) (by decide +kernel) ic_1).trans ?_
  refine (go_goto (m := 26) (pc := 8) (off := 9) (t := 17) (by decide +kernel) (by decide)).trans ?_
  rfl
theorem Log_lastLevel_11 (a_l0 : Nat) (w : Wd) (I : MI) (L : ML) (P : MP) (h0 : w.1 a_l0 = some (5, 0)) : go 26 11 [.ref a_l0] [] w I L P = kC (call 25 [.ref a_l0, .int (nI 0), .int (nI 0)] w I L P) (fun v w1 I1 L1 P1 => go 26 17 [.ref a_l0] (v.toList ++ []) w1 I1 L1 P1) := by
  refine (go_aload_n (m := 26) (pc := 11) (k := 0) (by decide +kernel) rfl).trans ?_
  refine (go_ic (m := 26) (pc := 12) (n := 0) (by decide +kernel) ic_0).trans ?_
  refine (go_ic (m := 26) (pc := 13) (n := 0) (by decide +kernel) ic_0).trans ?_
  exact go_vir (m := 26) (pc := 14) (o := 5) (x := 41) (y := 25) (kd := 0) (b := a_l0) (bs := [.int (nI 0), .int (nI 0)]) (rs := []) (by decide +kernel) rfl rfl c_5_41 (Or.inl rfl) rfl rfl rfl (by decide +kernel) (by simp only [List.length_cons, List.length_nil]; decide) (Nat.le_of_ble_eq_true rfl) h0
theorem Log_lastLevel_17 (l0 : Value) (y0 : Int32) (w : Wd) (I : MI) (L : ML) (P : MP)  : go 26 17 [l0] [.int y0] w I L P = some (.inl (some (.int y0)), w, I, L, P) := by
  exact go_retI (m := 26) (pc := 17) (by decide +kernel) rfl
theorem Log_lastLevel_E (this : Nat) (w : Wd) (I : MI) (L : ML) (P : MP) : call 26 [.ref this] w I L P = go 26 0 [.ref this] [] w I L P := rfl
