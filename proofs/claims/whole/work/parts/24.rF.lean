theorem Law_begin_0_ret (a_l0 : Nat) (x_l1 : Int32) (a_l2 : Nat) (l3 : Value) (w : Wd) (I : MI) (L : ML) (P : MP) (v : Option Value) (w1 : Wd) (I1 : MI) (L1 : ML) (P1 : MP) (h0 : w.1 a_l0 = some (6, 0)) (hc : call 80 [.ref a_l0, .int x_l1] w I L P = some (.inl v, w1, I1, L1, P1)) : go 206 0 [.ref a_l0, .int x_l1, .ref a_l2, l3] [] w I L P = go 206 7 [.ref a_l0, .int x_l1, .ref a_l2, l3] (v.toList ++ [.int (nI 0), .ref a_l2]) w1 I1 L1 P1 := by
  refine (go_aload_n (m := 206) (pc := 0) (k := 2) (by decide +kernel) rfl).trans ?_
  refine (go_ic (m := 206) (pc := 1) (n := 0) (by decide +kernel) ic_0).trans ?_
  refine (go_aload_n (m := 206) (pc := 2) (k := 0) (by decide +kernel) rfl).trans ?_
  refine (go_iload_n (m := 206) (pc := 3) (k := 1) (by decide +kernel) rfl).trans ?_
  exact go_virH (m := 206) (pc := 4) (o := 8) (x := 7) (y := 80) (kd := 0) (b := a_l0) (bs := [.int x_l1]) (rs := [.int (nI 0), .ref a_l2]) (by decide +kernel) rfl c_8_7 (Or.inl rfl) rfl rfl rfl (by decide +kernel) (by simp only [List.length_cons, List.length_nil]; decide) (Nat.le_of_ble_eq_true rfl) h0 hc
theorem Law_begin_0_thr0 (a_l0 : Nat) (x_l1 : Int32) (a_l2 : Nat) (l3 : Value) (w : Wd) (I : MI) (L : ML) (P : MP) (w1 : Wd) (I1 : MI) (L1 : ML) (P1 : MP) (h0 : w.1 a_l0 = some (6, 0)) (hc : call 80 [.ref a_l0, .int x_l1] w I L P = some (.inr 0, w1, I1, L1, P1)) : go 206 0 [.ref a_l0, .int x_l1, .ref a_l2, l3] [] w I L P = go 206 13 [.ref a_l0, .int x_l1, .ref a_l2, unk] [] w1 I1 L1 P1 := by
  refine (go_aload_n (m := 206) (pc := 0) (k := 2) (by decide +kernel) rfl).trans ?_
  refine (go_ic (m := 206) (pc := 1) (n := 0) (by decide +kernel) ic_0).trans ?_
  refine (go_aload_n (m := 206) (pc := 2) (k := 0) (by decide +kernel) rfl).trans ?_
  refine (go_iload_n (m := 206) (pc := 3) (k := 1) (by decide +kernel) rfl).trans ?_
  exact go_virT (m := 206) (pc := 4) (e := 0) (pc' := 13) (k := 3) (o := 8) (x := 7) (y := 80) (kd := 0) (b := a_l0) (bs := [.int x_l1]) (rs := [.int (nI 0), .ref a_l2]) (by decide +kernel) rfl c_8_7 (Or.inl rfl) rfl rfl rfl (by decide +kernel) (by simp only [List.length_cons, List.length_nil]; decide) (Nat.le_of_ble_eq_true rfl) h0 (by decide +kernel) (by decide +kernel) (by simp only [List.length_cons, List.length_nil]; decide) hc
theorem Law_begin_7 (l0 : Value) (l1 : Value) (l2 : Value) (l3 : Value) (a_s0 : Nat) (y1 : Int32) (y2 : Int32) (w : Wd) (I : MI) (L : ML) (P : MP) (h0 : inA w a_s0 9 y1) : go 206 7 [l0, l1, l2, l3] [.int y2, .int y1, .ref a_s0] w I L P = go 206 15 [l0, l1, l2, l3] [] w I (updL L a_s0 (Int32.toNatClampNeg y1) (Int32.toInt64 y2)) P := by
  refine (go_i2l (m := 206) (pc := 7) (by decide +kernel)).trans ?_
  refine (go_last (m := 206) (pc := 8) (by decide +kernel) h0).trans ?_
  refine (go_goto (m := 206) (pc := 9) (off := 6) (t := 15) (by decide +kernel) (by decide)).trans ?_
  rfl
theorem Law_begin_13 (l0 : Value) (l1 : Value) (l2 : Value) (l3 : Value) (w : Wd) (I : MI) (L : ML) (P : MP)  : go 206 13 [l0, l1, l2, l3] [] w I L P = some (.inl (some (.int (nI 1))), w, I, L, P) := by
  refine (go_ic (m := 206) (pc := 13) (n := 1) (by decide +kernel) ic_1).trans ?_
  exact go_retI (m := 206) (pc := 14) (by decide +kernel) rfl
theorem Law_begin_15 (l0 : Value) (l1 : Value) (l2 : Value) (l3 : Value) (w : Wd) (I : MI) (L : ML) (P : MP)  : go 206 15 [l0, l1, l2, l3] [] w I L P = some (.inl (some (.int (nI 0))), w, I, L, P) := by
  refine (go_ic (m := 206) (pc := 15) (n := 0) (by decide +kernel) ic_0).trans ?_
  exact go_retI (m := 206) (pc := 16) (by decide +kernel) rfl
theorem Law_begin_E (p0 : Nat) (p1 : Int32) (p2 : Nat) (w : Wd) (I : MI) (L : ML) (P : MP) : call 206 [.ref p0, .int p1, .ref p2] w I L P = go 206 0 [.ref p0, .int p1, .ref p2, unk] [] w I L P := rfl
theorem Law_begin_E1 (p0 : Nat) (p1 : Int32) (w : Wd) (I : MI) (L : ML) (P : MP) : call 206 [.ref p0, .int p1, .null] w I L P = go 206 0 [.ref p0, .int p1, .null, unk] [] w I L P := rfl
theorem Law_begin_E2 (p1 : Int32) (p2 : Nat) (w : Wd) (I : MI) (L : ML) (P : MP) : call 206 [.null, .int p1, .ref p2] w I L P = go 206 0 [.null, .int p1, .ref p2, unk] [] w I L P := rfl
theorem Law_begin_E3 (p1 : Int32) (w : Wd) (I : MI) (L : ML) (P : MP) : call 206 [.null, .int p1, .null] w I L P = go 206 0 [.null, .int p1, .null, unk] [] w I L P := rfl
theorem Law_addListener_0_ret (a_l0 : Nat) (x_l1 : Int32) (x_l2 : Int32) (a_l3 : Nat) (l4 : Value) (w : Wd) (I : MI) (L : ML) (P : MP) (v : Option Value) (w1 : Wd) (I1 : MI) (L1 : ML) (P1 : MP) (h0 : w.1 a_l0 = some (6, 0)) (hc : call 81 [.ref a_l0, .int x_l1, .int x_l2] w I L P = some (.inl v, w1, I1, L1, P1)) : go 207 0 [.ref a_l0, .int x_l1, .int x_l2, .ref a_l3, l4] [] w I L P = go 207 8 [.ref a_l0, .int x_l1, .int x_l2, .ref a_l3, l4] (v.toList ++ [.int (nI 0), .ref a_l3]) w1 I1 L1 P1 := by
  refine (go_aload_n (m := 207) (pc := 0) (k := 3) (by decide +kernel) rfl).trans ?_
  refine (go_ic (m := 207) (pc := 1) (n := 0) (by decide +kernel) ic_0).trans ?_
  refine (go_aload_n (m := 207) (pc := 2) (k := 0) (by decide +kernel) rfl).trans ?_
  refine (go_iload_n (m := 207) (pc := 3) (k := 1) (by decide +kernel) rfl).trans ?_
  refine (go_iload_n (m := 207) (pc := 4) (k := 2) (by decide +kernel) rfl).trans ?_
  exact go_virH (m := 207) (pc := 5) (o := 8) (x := 15) (y := 81) (kd := 0) (b := a_l0) (bs := [.int x_l1, .int x_l2]) (rs := [.int (nI 0), .ref a_l3]) (by decide +kernel) rfl c_8_15 (Or.inl rfl) rfl rfl rfl (by decide +kernel) (by simp only [List.length_cons, List.length_nil]; decide) (Nat.le_of_ble_eq_true rfl) h0 hc
theorem Law_addListener_0_thr0 (a_l0 : Nat) (x_l1 : Int32) (x_l2 : Int32) (a_l3 : Nat) (l4 : Value) (w : Wd) (I : MI) (L : ML) (P : MP) (w1 : Wd) (I1 : MI) (L1 : ML) (P1 : MP) (h0 : w.1 a_l0 = some (6, 0)) (hc : call 81 [.ref a_l0, .int x_l1, .int x_l2] w I L P = some (.inr 0, w1, I1, L1, P1)) : go 207 0 [.ref a_l0, .int x_l1, .int x_l2, .ref a_l3, l4] [] w I L P = go 207 15 [.ref a_l0, .int x_l1, .int x_l2, .ref a_l3, unk] [] w1 I1 L1 P1 := by
  refine (go_aload_n (m := 207) (pc := 0) (k := 3) (by decide +kernel) rfl).trans ?_
  refine (go_ic (m := 207) (pc := 1) (n := 0) (by decide +kernel) ic_0).trans ?_
  refine (go_aload_n (m := 207) (pc := 2) (k := 0) (by decide +kernel) rfl).trans ?_
  refine (go_iload_n (m := 207) (pc := 3) (k := 1) (by decide +kernel) rfl).trans ?_
  refine (go_iload_n (m := 207) (pc := 4) (k := 2) (by decide +kernel) rfl).trans ?_
  exact go_virT (m := 207) (pc := 5) (e := 0) (pc' := 15) (k := 4) (o := 8) (x := 15) (y := 81) (kd := 0) (b := a_l0) (bs := [.int x_l1, .int x_l2]) (rs := [.int (nI 0), .ref a_l3]) (by decide +kernel) rfl c_8_15 (Or.inl rfl) rfl rfl rfl (by decide +kernel) (by simp only [List.length_cons, List.length_nil]; decide) (Nat.le_of_ble_eq_true rfl) h0 (by decide +kernel) (by decide +kernel) (by simp only [List.length_cons, List.length_nil]; decide) hc
theorem Law_addListener_0_thr1 (a_l0 : Nat) (x_l1 : Int32) (x_l2 : Int32) (a_l3 : Nat) (l4 : Value) (w : Wd) (I : MI) (L : ML) (P : MP) (w1 : Wd) (I1 : MI) (L1 : ML) (P1 : MP) (h0 : w.1 a_l0 = some (6, 0)) (hc : call 81 [.ref a_l0, .int x_l1, .int x_l2] w I L P = some (.inr 1, w1, I1, L1, P1)) : go 207 0 [.ref a_l0, .int x_l1, .int x_l2, .ref a_l3, l4] [] w I L P = go 207 19 [.ref a_l0, .int x_l1, .int x_l2, .ref a_l3, unk] [] w1 I1 L1 P1 := by
  refine (go_aload_n (m := 207) (pc := 0) (k := 3) (by decide +kernel) rfl).trans ?_
  refine (go_ic (m := 207) (pc := 1) (n := 0) (by decide +kernel) ic_0).trans ?_
  refine (go_aload_n (m := 207) (pc := 2) (k := 0) (by decide +kernel) rfl).trans ?_
  refine (go_iload_n (m := 207) (pc := 3) (k := 1) (by decide +kernel) rfl).trans ?_
  refine (go_iload_n (m := 207) (pc := 4) (k := 2) (by decide +kernel) rfl).trans ?_
  exact go_virT (m := 207) (pc := 5) (e := 1) (pc' := 19) (k := 4) (o := 8) (x := 15) (y := 81) (kd := 0) (b := a_l0) (bs := [.int x_l1, .int x_l2]) (rs := [.int (nI 0), .ref a_l3]) (by decide +kernel) rfl c_8_15 (Or.inl rfl) rfl rfl rfl (by decide +kernel) (by simp only [List.length_cons, List.length_nil]; decide) (Nat.le_of_ble_eq_true rfl) h0 (by decide +kernel) (by decide +kernel) (by simp only [List.length_cons, List.length_nil]; decide) hc
theorem Law_addListener_8 (l0 : Value) (l1 : Value) (l2 : Value) (l3 : Value) (l4 : Value) (a_s0 : Nat) (y1 : Int32) (y2 : Int32) (w : Wd) (I : MI) (L : ML) (P : MP) (h0 : inA w a_s0 9 y1) : go 207 8 [l0, l1, l2, l3, l4] [.int y2, .int y1, .ref a_s0] w I L P = go 207 21 [l0, l1, l2, l3, l4] [] w I (updL L a_s0 (Int32.toNatClampNeg y1) (Int32.toInt64 y2)) P := by
  refine (go_i2l (m := 207) (pc := 8) (by decide +kernel)).trans ?_
  refine (go_last (m := 207) (pc := 9) (by decide +kernel) h0).trans ?_
  refine (go_goto (m := 207) (pc := 10) (off := 11) (t := 21) (by decide +kernel) (by decide)).trans ?_
  rfl
theorem Law_addListener_15 (l0 : Value) (l1 : Value) (l2 : Value) (l3 : Value) (l4 : Value) (w : Wd) (I : MI) (L : ML) (P : MP)  : go 207 15 [l0, l1, l2, l3, l4] [] w I L P = some (.inl (some (.int (nI 1))), w, I, L, P) := by
  refine (go_ic (m := 207) (pc := 15) (n := 1) (by decide +kernel) ic_1).trans ?_
  exact go_retI (m := 207) (pc := 16) (by decide +kernel) rfl
theorem Law_addListener_19 (l0 : Value) (l1 : Value) (l2 : Value) (l3 : Value) (l4 : Value) (w : Wd) (I : MI) (L : ML) (P : MP)  : go 207 19 [l0, l1, l2, l3, l4] [] w I L P = some (.inl (some (.int (nI 2))), w, I, L, P) := by
  refine (go_ic (m := 207) (pc := 19) (n := 2) (by decide +kernel) ic_2).trans ?_
  exact go_retI (m := 207) (pc := 20) (by decide +kernel) rfl
theorem Law_addListener_21 (l0 : Value) (l1 : Value) (l2 : Value) (l3 : Value) (l4 : Value) (w : Wd) (I : MI) (L : ML) (P : MP)  : go 207 21 [l0, l1, l2, l3, l4] [] w I L P = some (.inl (some (.int (nI 0))), w, I, L, P) := by
  refine (go_ic (m := 207) (pc := 21) (n := 0) (by decide +kernel) ic_0).trans ?_
  exact go_retI (m := 207) (pc := 22) (by decide +kernel) rfl
theorem Law_addListener_E (p0 : Nat) (p1 : Int32) (p2 : Int32) (p3 : Nat) (w : Wd) (I : MI) (L : ML) (P : MP) : call 207 [.ref p0, .int p1, .int p2, .ref p3] w I L P = go 207 0 [.ref p0, .int p1, .int p2, .ref p3, unk] [] w I L P := rfl
theorem Law_addListener_E1 (p0 : Nat) (p1 : Int32) (p2 : Int32) (w : Wd) (I : MI) (L : ML) (P : MP) : call 207 [.ref p0, .int p1, .int p2, .null] w I L P = go 207 0 [.ref p0, .int p1, .int p2, .null, unk] [] w I L P := rfl
theorem Law_addListener_E2 (p1 : Int32) (p2 : Int32) (p3 : Nat) (w : Wd) (I : MI) (L : ML) (P : MP) : call 207 [.null, .int p1, .int p2, .ref p3] w I L P = go 207 0 [.null, .int p1, .int p2, .ref p3, unk] [] w I L P := rfl
theorem Law_addListener_E3 (p1 : Int32) (p2 : Int32) (w : Wd) (I : MI) (L : ML) (P : MP) : call 207 [.null, .int p1, .int p2, .null] w I L P = go 207 0 [.null, .int p1, .int p2, .null, unk] [] w I L P := rfl
theorem Law_turn_0_ret (a_l0 : Nat) (x_l1 : Int32) (x_l2 : Int32) (a_l3 : Nat) (l4 : Value) (w : Wd) (I : MI) (L : ML) (P : MP) (v : Option Value) (w1 : Wd) (I1 : MI) (L1 : ML) (P1 : MP) (h0 : w.1 a_l0 = some (6, 0)) (hc : call 82 [.ref a_l0, .int x_l1, .int x_l2] w I L P = some (.inl v, w1, I1, L1, P1)) : go 208 0 [.ref a_l0, .int x_l1, .int x_l2, .ref a_l3, l4] [] w I L P = go 208 8 [.ref a_l0, .int x_l1, .int x_l2, .ref a_l3, l4] (v.toList ++ [.int (nI 0), .ref a_l3]) w1 I1 L1 P1 := by
  refine (go_aload_n (m := 208) (pc := 0) (k := 3) (by decide +kernel) rfl).trans ?_
  refine (go_ic (m := 208) (pc := 1) (n := 0) (by decide +kernel) ic_0).trans ?_
  refine (go_aload_n (m := 208) (pc := 2) (k := 0) (by decide +kernel) rfl).trans ?_
  refine (go_iload_n (m := 208) (pc := 3) (k := 1) (by decide +kernel) rfl).trans ?_
  refine (go_iload_n (m := 208) (pc := 4) (k := 2) (by decide +kernel) rfl).trans ?_
  exact go_virH (m := 208) (pc := 5) (o := 8) (x := 21) (y := 82) (kd := 0) (b := a_l0) (bs := [.int x_l1, .int x_l2]) (rs := [.int (nI 0), .ref a_l3]) (by decide +kernel) rfl c_8_21 (Or.inl rfl) rfl rfl rfl (by decide +kernel) (by simp only [List.length_cons, List.length_nil]; decide) (Nat.le_of_ble_eq_true rfl) h0 hc
theorem Law_turn_0_thr1 (a_l0 : Nat) (x_l1 : Int32) (x_l2 : Int32) (a_l3 : Nat) (l4 : Value) (w : Wd) (I : MI) (L : ML) (P : MP) (w1 : Wd) (I1 : MI) (L1 : ML) (P1 : MP) (h0 : w.1 a_l0 = some (6, 0)) (hc : call 82 [.ref a_l0, .int x_l1, .int x_l2] w I L P = some (.inr 1, w1, I1, L1, P1)) : go 208 0 [.ref a_l0, .int x_l1, .int x_l2, .ref a_l3, l4] [] w I L P = go 208 19 [.ref a_l0, .int x_l1, .int x_l2, .ref a_l3, unk] [] w1 I1 L1 P1 := by
  refine (go_aload_n (m := 208) (pc := 0) (k := 3) (by decide +kernel) rfl).trans ?_
  refine (go_ic (m := 208) (pc := 1) (n := 0) (by decide +kernel) ic_0).trans ?_
  refine (go_aload_n (m := 208) (pc := 2) (k := 0) (by decide +kernel) rfl).trans ?_
  refine (go_iload_n (m := 208) (pc := 3) (k := 1) (by decide +kernel) rfl).trans ?_
  refine (go_iload_n (m := 208) (pc := 4) (k := 2) (by decide +kernel) rfl).trans ?_
  exact go_virT (m := 208) (pc := 5) (e := 1) (pc' := 19) (k := 4) (o := 8) (x := 21) (y := 82) (kd := 0) (b := a_l0) (bs := [.int x_l1, .int x_l2]) (rs := [.int (nI 0), .ref a_l3]) (by decide +kernel) rfl c_8_21 (Or.inl rfl) rfl rfl rfl (by decide +kernel) (by simp only [List.length_cons, List.length_nil]; decide) (Nat.le_of_ble_eq_true rfl) h0 (by decide +kernel) (by decide +kernel) (by simp only [List.length_cons, List.length_nil]; decide) hc
theorem Law_turn_0_thr2 (a_l0 : Nat) (x_l1 : Int32) (x_l2 : Int32) (a_l3 : Nat) (l4 : Value) (w : Wd) (I : MI) (L : ML) (P : MP) (w1 : Wd) (I1 : MI) (L1 : ML) (P1 : MP) (h0 : w.1 a_l0 = some (6, 0)) (hc : call 82 [.ref a_l0, .int x_l1, .int x_l2] w I L P = some (.inr 2, w1, I1, L1, P1)) : go 208 0 [.ref a_l0, .int x_l1, .int x_l2, .ref a_l3, l4] [] w I L P = go 208 15 [.ref a_l0, .int x_l1, .int x_l2, .ref a_l3, unk] [] w1 I1 L1 P1 := by
  refine (go_aload_n (m := 208) (pc := 0) (k := 3) (by decide +kernel) rfl).trans ?_
  refine (go_ic (m := 208) (pc := 1) (n := 0) (by decide +kernel) ic_0).trans ?_
  refine (go_aload_n (m := 208) (pc := 2) (k := 0) (by decide +kernel) rfl).trans ?_
  refine (go_iload_n (m := 208) (pc := 3) (k := 1) (by decide +kernel) rfl).trans ?_
  refine (go_iload_n (m := 208) (pc := 4) (k := 2) (by decide +kernel) rfl).trans ?_
  exact go_virT (m := 208) (pc := 5) (e := 2) (pc' := 15) (k := 4) (o := 8) (x := 21) (y := 82) (kd := 0) (b := a_l0) (bs := [.int x_l1, .int x_l2]) (rs := [.int (nI 0), .ref a_l3]) (by decide +kernel) rfl c_8_21 (Or.inl rfl) rfl rfl rfl (by decide +kernel) (by simp only [List.length_cons, List.length_nil]; decide) (Nat.le_of_ble_eq_true rfl) h0 (by decide +kernel) (by decide +kernel) (by simp only [List.length_cons, List.length_nil]; decide) hc
theorem Law_turn_8 (l0 : Value) (l1 : Value) (l2 : Value) (l3 : Value) (l4 : Value) (a_s0 : Nat) (y1 : Int32) (y2 : Int32) (w : Wd) (I : MI) (L : ML) (P : MP) (h0 : inA w a_s0 9 y1) : go 208 8 [l0, l1, l2, l3, l4] [.int y2, .int y1, .ref a_s0] w I L P = go 208 21 [l0, l1, l2, l3, l4] [] w I (updL L a_s0 (Int32.toNatClampNeg y1) (Int32.toInt64 y2)) P := by
  refine (go_i2l (m := 208) (pc := 8) (by decide +kernel)).trans ?_
  refine (go_last (m := 208) (pc := 9) (by decide +kernel) h0).trans ?_
  refine (go_goto (m := 208) (pc := 10) (off := 11) (t := 21) (by decide +kernel) (by decide)).trans ?_
  rfl
theorem Law_turn_15 (l0 : Value) (l1 : Value) (l2 : Value) (l3 : Value) (l4 : Value) (w : Wd) (I : MI) (L : ML) (P : MP)  : go 208 15 [l0, l1, l2, l3, l4] [] w I L P = some (.inl (some (.int (nI 1))), w, I, L, P) := by
  refine (go_ic (m := 208) (pc := 15) (n := 1) (by decide +kernel) ic_1).trans ?_
  exact go_retI (m := 208) (pc := 16) (by decide +kernel) rfl
theorem Law_turn_19 (l0 : Value) (l1 : Value) (l2 : Value) (l3 : Value) (l4 : Value) (w : Wd) (I : MI) (L : ML) (P : MP)  : go 208 19 [l0, l1, l2, l3, l4] [] w I L P = some (.inl (some (.int (nI 2))), w, I, L, P) := by
  refine (go_ic (m := 208) (pc := 19) (n := 2) (by decide +kernel) ic_2).trans ?_
  exact go_retI (m := 208) (pc := 20) (by decide +kernel) rfl
theorem Law_turn_21 (l0 : Value) (l1 : Value) (l2 : Value) (l3 : Value) (l4 : Value) (w : Wd) (I : MI) (L : ML) (P : MP)  : go 208 21 [l0, l1, l2, l3, l4] [] w I L P = some (.inl (some (.int (nI 0))), w, I, L, P) := by
  refine (go_ic (m := 208) (pc := 21) (n := 0) (by decide +kernel) ic_0).trans ?_
  exact go_retI (m := 208) (pc := 22) (by decide +kernel) rfl
theorem Law_turn_E (p0 : Nat) (p1 : Int32) (p2 : Int32) (p3 : Nat) (w : Wd) (I : MI) (L : ML) (P : MP) : call 208 [.ref p0, .int p1, .int p2, .ref p3] w I L P = go 208 0 [.ref p0, .int p1, .int p2, .ref p3, unk] [] w I L P := rfl
theorem Law_turn_E1 (p0 : Nat) (p1 : Int32) (p2 : Int32) (w : Wd) (I : MI) (L : ML) (P : MP) : call 208 [.ref p0, .int p1, .int p2, .null] w I L P = go 208 0 [.ref p0, .int p1, .int p2, .null, unk] [] w I L P := rfl
theorem Law_turn_E2 (p1 : Int32) (p2 : Int32) (p3 : Nat) (w : Wd) (I : MI) (L : ML) (P : MP) : call 208 [.null, .int p1, .int p2, .ref p3] w I L P = go 208 0 [.null, .int p1, .int p2, .ref p3, unk] [] w I L P := rfl
theorem Law_turn_E3 (p1 : Int32) (p2 : Int32) (w : Wd) (I : MI) (L : ML) (P : MP) : call 208 [.null, .int p1, .int p2, .null] w I L P = go 208 0 [.null, .int p1, .int p2, .null, unk] [] w I L P := rfl
theorem Law_empty_0_ret (a_l0 : Nat) (x_l1 : Int32) (a_l2 : Nat) (l3 : Value) (w : Wd) (I : MI) (L : ML) (P : MP) (v : Option Value) (w1 : Wd) (I1 : MI) (L1 : ML) (P1 : MP) (h0 : w.1 a_l0 = some (6, 0)) (hc : call 83 [.ref a_l0, .int x_l1] w I L P = some (.inl v, w1, I1, L1, P1)) : go 209 0 [.ref a_l0, .int x_l1, .ref a_l2, l3] [] w I L P = go 209 7 [.ref a_l0, .int x_l1, .ref a_l2, l3] (v.toList ++ [.int (nI 0), .ref a_l2]) w1 I1 L1 P1 := by
  refine (go_aload_n (m := 209) (pc := 0) (k := 2) (by decide +kernel) rfl).trans ?_
  refine (go_ic (m := 209) (pc := 1) (n := 0) (by decide +kernel) ic_0).trans ?_
  refine (go_aload_n (m := 209) (pc := 2) (k := 0) (by decide +kernel) rfl).trans ?_
  refine (go_iload_n (m := 209) (pc := 3) (k := 1) (by decide +kernel) rfl).trans ?_
  exact go_virH (m := 209) (pc := 4) (o := 8) (x := 27) (y := 83) (kd := 0) (b := a_l0) (bs := [.int x_l1]) (rs := [.int (nI 0), .ref a_l2]) (by decide +kernel) rfl c_8_27 (Or.inl rfl) rfl rfl rfl (by decide +kernel) (by simp only [List.length_cons, List.length_nil]; decide) (Nat.le_of_ble_eq_true rfl) h0 hc
theorem Law_empty_0_thr2 (a_l0 : Nat) (x_l1 : Int32) (a_l2 : Nat) (l3 : Value) (w : Wd) (I : MI) (L : ML) (P : MP) (w1 : Wd) (I1 : MI) (L1 : ML) (P1 : MP) (h0 : w.1 a_l0 = some (6, 0)) (hc : call 83 [.ref a_l0, .int x_l1] w I L P = some (.inr 2, w1, I1, L1, P1)) : go 209 0 [.ref a_l0, .int x_l1, .ref a_l2, l3] [] w I L P = go 209 13 [.ref a_l0, .int x_l1, .ref a_l2, unk] [] w1 I1 L1 P1 := by
  refine (go_aload_n (m := 209) (pc := 0) (k := 2) (by decide +kernel) rfl).trans ?_
  refine (go_ic (m := 209) (pc := 1) (n := 0) (by decide +kernel) ic_0).trans ?_
  refine (go_aload_n (m := 209) (pc := 2) (k := 0) (by decide +kernel) rfl).trans ?_
  refine (go_iload_n (m := 209) (pc := 3) (k := 1) (by decide +kernel) rfl).trans ?_
  exact go_virT (m := 209) (pc := 4) (e := 2) (pc' := 13) (k := 3) (o := 8) (x := 27) (y := 83) (kd := 0) (b := a_l0) (bs := [.int x_l1]) (rs := [.int (nI 0), .ref a_l2]) (by decide +kernel) rfl c_8_27 (Or.inl rfl) rfl rfl rfl (by decide +kernel) (by simp only [List.length_cons, List.length_nil]; decide) (Nat.le_of_ble_eq_true rfl) h0 (by decide +kernel) (by decide +kernel) (by simp only [List.length_cons, List.length_nil]; decide) hc
theorem Law_empty_7 (l0 : Value) (l1 : Value) (l2 : Value) (l3 : Value) (a_s0 : Nat) (y1 : Int32) (y2 : Int32) (w : Wd) (I : MI) (L : ML) (P : MP) (h0 : inA w a_s0 9 y1) : go 209 7 [l0, l1, l2, l3] [.int y2, .int y1, .ref a_s0] w I L P = go 209 15 [l0, l1, l2, l3] [] w I (updL L a_s0 (Int32.toNatClampNeg y1) (Int32.toInt64 y2)) P := by
  refine (go_i2l (m := 209) (pc := 7) (by decide +kernel)).trans ?_
  refine (go_last (m := 209) (pc := 8) (by decide +kernel) h0).trans ?_
  refine (go_goto (m := 209) (pc := 9) (off := 6) (t := 15) (by decide +kernel) (by decide)).trans ?_
  rfl
theorem Law_empty_13 (l0 : Value) (l1 : Value) (l2 : Value) (l3 : Value) (w : Wd) (I : MI) (L : ML) (P : MP)  : go 209 13 [l0, l1, l2, l3] [] w I L P = some (.inl (some (.int (nI 1))), w, I, L, P) := by
  refine (go_ic (m := 209) (pc := 13) (n := 1) (by decide +kernel) ic_1).trans ?_
  exact go_retI (m := 209) (pc := 14) (by decide +kernel) rfl
theorem Law_empty_15 (l0 : Value) (l1 : Value) (l2 : Value) (l3 : Value) (w : Wd) (I : MI) (L : ML) (P : MP)  : go 209 15 [l0, l1, l2, l3] [] w I L P = some (.inl (some (.int (nI 0))), w, I, L, P) := by
  refine (go_ic (m := 209) (pc := 15) (n := 0) (by decide +kernel) ic_0).trans ?_
  exact go_retI (m := 209) (pc := 16) (by decide +kernel) rfl
theorem Law_empty_E (p0 : Nat) (p1 : Int32) (p2 : Nat) (w : Wd) (I : MI) (L : ML) (P : MP) : call 209 [.ref p0, .int p1, .ref p2] w I L P = go 209 0 [.ref p0, .int p1, .ref p2, unk] [] w I L P := rfl
theorem Law_empty_E1 (p0 : Nat) (p1 : Int32) (w : Wd) (I : MI) (L : ML) (P : MP) : call 209 [.ref p0, .int p1, .null] w I L P = go 209 0 [.ref p0, .int p1, .null, unk] [] w I L P := rfl
theorem Law_empty_E2 (p1 : Int32) (p2 : Nat) (w : Wd) (I : MI) (L : ML) (P : MP) : call 209 [.null, .int p1, .ref p2] w I L P = go 209 0 [.null, .int p1, .ref p2, unk] [] w I L P := rfl
theorem Law_empty_E3 (p1 : Int32) (w : Wd) (I : MI) (L : ML) (P : MP) : call 209 [.null, .int p1, .null] w I L P = go 209 0 [.null, .int p1, .null, unk] [] w I L P := rfl
theorem Law_setLimit_0_ret (a_l0 : Nat) (x_l1 : Int32) (a_l2 : Nat) (l3 : Value) (w : Wd) (I : MI) (L : ML) (P : MP) (v : Option Value) (w1 : Wd) (I1 : MI) (L1 : ML) (P1 : MP) (h0 : w.1 a_l0 = some (6, 0)) (hc : call 84 [.ref a_l0, .int x_l1] w I L P = some (.inl v, w1, I1, L1, P1)) : go 210 0 [.ref a_l0, .int x_l1, .ref a_l2, l3] [] w I L P = go 210 7 [.ref a_l0, .int x_l1, .ref a_l2, l3] (v.toList ++ [.int (nI 0), .ref a_l2]) w1 I1 L1 P1 := by
  refine (go_aload_n (m := 210) (pc := 0) (k := 2) (by decide +kernel) rfl).trans ?_
  refine (go_ic (m := 210) (pc := 1) (n := 0) (by decide +kernel) ic_0).trans ?_
  refine (go_aload_n (m := 210) (pc := 2) (k := 0) (by decide +kernel) rfl).trans ?_
  refine (go_iload_n (m := 210) (pc := 3) (k := 1) (by decide +kernel) rfl).trans ?_
  exact go_virH (m := 210) (pc := 4) (o := 8) (x := 30) (y := 84) (kd := 0) (b := a_l0) (bs := [.int x_l1]) (rs := [.int (nI 0), .ref a_l2]) (by decide +kernel) rfl c_8_30 (Or.inl rfl) rfl rfl rfl (by decide +kernel) (by simp only [List.length_cons, List.length_nil]; decide) (Nat.le_of_ble_eq_true rfl) h0 hc
theorem Law_setLimit_0_thr0 (a_l0 : Nat) (x_l1 : Int32) (a_l2 : Nat) (l3 : Value) (w : Wd) (I : MI) (L : ML) (P : MP) (w1 : Wd) (I1 : MI) (L1 : ML) (P1 : MP) (h0 : w.1 a_l0 = some (6, 0)) (hc : call 84 [.ref a_l0, .int x_l1] w I L P = some (.inr 0, w1, I1, L1, P1)) : go 210 0 [.ref a_l0, .int x_l1, .ref a_l2, l3] [] w I L P = go 210 13 [.ref a_l0, .int x_l1, .ref a_l2, unk] [] w1 I1 L1 P1 := by
  refine (go_aload_n (m := 210) (pc := 0) (k := 2) (by decide +kernel) rfl).trans ?_
  refine (go_ic (m := 210) (pc := 1) (n := 0) (by decide +kernel) ic_0).trans ?_
  refine (go_aload_n (m := 210) (pc := 2) (k := 0) (by decide +kernel) rfl).trans ?_
  refine (go_iload_n (m := 210) (pc := 3) (k := 1) (by decide +kernel) rfl).trans ?_
  exact go_virT (m := 210) (pc := 4) (e := 0) (pc' := 13) (k := 3) (o := 8) (x := 30) (y := 84) (kd := 0) (b := a_l0) (bs := [.int x_l1]) (rs := [.int (nI 0), .ref a_l2]) (by decide +kernel) rfl c_8_30 (Or.inl rfl) rfl rfl rfl (by decide +kernel) (by simp only [List.length_cons, List.length_nil]; decide) (Nat.le_of_ble_eq_true rfl) h0 (by decide +kernel) (by decide +kernel) (by simp only [List.length_cons, List.length_nil]; decide) hc
theorem Law_setLimit_7 (l0 : Value) (l1 : Value) (l2 : Value) (l3 : Value) (a_s0 : Nat) (y1 : Int32) (y2 : Int32) (w : Wd) (I : MI) (L : ML) (P : MP) (h0 : inA w a_s0 9 y1) : go 210 7 [l0, l1, l2, l3] [.int y2, .int y1, .ref a_s0] w I L P = go 210 15 [l0, l1, l2, l3] [] w I (updL L a_s0 (Int32.toNatClampNeg y1) (Int32.toInt64 y2)) P := by
  refine (go_i2l (m := 210) (pc := 7) (by decide +kernel)).trans ?_
  refine (go_last (m := 210) (pc := 8) (by decide +kernel) h0).trans ?_
  refine (go_goto (m := 210) (pc := 9) (off := 6) (t := 15) (by decide +kernel) (by decide)).trans ?_
  rfl
theorem Law_setLimit_13 (l0 : Value) (l1 : Value) (l2 : Value) (l3 : Value) (w : Wd) (I : MI) (L : ML) (P : MP)  : go 210 13 [l0, l1, l2, l3] [] w I L P = some (.inl (some (.int (nI 1))), w, I, L, P) := by
  refine (go_ic (m := 210) (pc := 13) (n := 1) (by decide +kernel) ic_1).trans ?_
  exact go_retI (m := 210) (pc := 14) (by decide +kernel) rfl
theorem Law_setLimit_15 (l0 : Value) (l1 : Value) (l2 : Value) (l3 : Value) (w : Wd) (I : MI) (L : ML) (P : MP)  : go 210 15 [l0, l1, l2, l3] [] w I L P = some (.inl (some (.int (nI 0))), w, I, L, P) := by
  refine (go_ic (m := 210) (pc := 15) (n := 0) (by decide +kernel) ic_0).trans ?_
  exact go_retI (m := 210) (pc := 16) (by decide +kernel) rfl
theorem Law_setLimit_E (p0 : Nat) (p1 : Int32) (p2 : Nat) (w : Wd) (I : MI) (L : ML) (P : MP) : call 210 [.ref p0, .int p1, .ref p2] w I L P = go 210 0 [.ref p0, .int p1, .ref p2, unk] [] w I L P := rfl
theorem Law_setLimit_E1 (p0 : Nat) (p1 : Int32) (w : Wd) (I : MI) (L : ML) (P : MP) : call 210 [.ref p0, .int p1, .null] w I L P = go 210 0 [.ref p0, .int p1, .null, unk] [] w I L P := rfl
theorem Law_setLimit_E2 (p1 : Int32) (p2 : Nat) (w : Wd) (I : MI) (L : ML) (P : MP) : call 210 [.null, .int p1, .ref p2] w I L P = go 210 0 [.null, .int p1, .ref p2, unk] [] w I L P := rfl
theorem Law_setLimit_E3 (p1 : Int32) (w : Wd) (I : MI) (L : ML) (P : MP) : call 210 [.null, .int p1, .null] w I L P = go 210 0 [.null, .int p1, .null, unk] [] w I L P := rfl
theorem Law_write_0_ret (a_l0 : Nat) (x_l1 : Int32) (x_l2 : Int32) (x_l3 : Int32) (x_l4 : Int64) (l5 : Value) (a_l6 : Nat) (l7 : Value) (w : Wd) (I : MI) (L : ML) (P : MP) (v : Option Value) (w1 : Wd) (I1 : MI) (L1 : ML) (P1 : MP) (h0 : w.1 a_l0 = some (6, 0)) (hc : call 85 [.ref a_l0, .int x_l1, .int x_l2, .int x_l3, .long x_l4] w I L P = some (.inl v, w1, I1, L1, P1)) : go 211 0 [.ref a_l0, .int x_l1, .int x_l2, .int x_l3, .long x_l4, l5, .ref a_l6, l7] [] w I L P = go 211 12 [.ref a_l0, .int x_l1, .int x_l2, .int x_l3, .long x_l4, l5, .ref a_l6, l7] (v.toList ++ [.int (nI 0), .ref a_l6]) w1 I1 L1 P1 := by
  refine (go_aload (m := 211) (pc := 0) (k := 6) (by decide +kernel) rfl).trans ?_
  refine (go_ic (m := 211) (pc := 2) (n := 0) (by decide +kernel) ic_0).trans ?_
  refine (go_aload_n (m := 211) (pc := 3) (k := 0) (by decide +kernel) rfl).trans ?_
  refine (go_iload_n (m := 211) (pc := 4) (k := 1) (by decide +kernel) rfl).trans ?_
  refine (go_iload_n (m := 211) (pc := 5) (k := 2) (by decide +kernel) rfl).trans ?_
  refine (go_iload_n (m := 211) (pc := 6) (k := 3) (by decide +kernel) rfl).trans ?_
  refine (go_lload (m := 211) (pc := 7) (k := 4) (by decide +kernel) rfl).trans ?_
  exact go_virH (m := 211) (pc := 9) (o := 8) (x := 33) (y := 85) (kd := 0) (b := a_l0) (bs := [.int x_l1, .int x_l2, .int x_l3, .long x_l4]) (rs := [.int (nI 0), .ref a_l6]) (by decide +kernel) rfl c_8_33 (Or.inl rfl) rfl rfl rfl (by decide +kernel) (by simp only [List.length_cons, List.length_nil]; decide) (Nat.le_of_ble_eq_true rfl) h0 hc
theorem Law_write_0_thr0 (a_l0 : Nat) (x_l1 : Int32) (x_l2 : Int32) (x_l3 : Int32) (x_l4 : Int64) (l5 : Value) (a_l6 : Nat) (l7 : Value) (w : Wd) (I : MI) (L : ML) (P : MP) (w1 : Wd) (I1 : MI) (L1 : ML) (P1 : MP) (h0 : w.1 a_l0 = some (6, 0)) (hc : call 85 [.ref a_l0, .int x_l1, .int x_l2, .int x_l3, .long x_l4] w I L P = some (.inr 0, w1, I1, L1, P1)) : go 211 0 [.ref a_l0, .int x_l1, .int x_l2, .int x_l3, .long x_l4, l5, .ref a_l6, l7] [] w I L P = go 211 23 [.ref a_l0, .int x_l1, .int x_l2, .int x_l3, .long x_l4, l5, .ref a_l6, unk] [] w1 I1 L1 P1 := by
  refine (go_aload (m := 211) (pc := 0) (k := 6) (by decide +kernel) rfl).trans ?_
  refine (go_ic (m := 211) (pc := 2) (n := 0) (by decide +kernel) ic_0).trans ?_
  refine (go_aload_n (m := 211) (pc := 3) (k := 0) (by decide +kernel) rfl).trans ?_
  refine (go_iload_n (m := 211) (pc := 4) (k := 1) (by decide +kernel) rfl).trans ?_
  refine (go_iload_n (m := 211) (pc := 5) (k := 2) (by decide +kernel) rfl).trans ?_
  refine (go_iload_n (m := 211) (pc := 6) (k := 3) (by decide +kernel) rfl).trans ?_
  refine (go_lload (m := 211) (pc := 7) (k := 4) (by decide +kernel) rfl).trans ?_
  exact go_virT (m := 211) (pc := 9) (e := 0) (pc' := 23) (k := 7) (o := 8) (x := 33) (y := 85) (kd := 0) (b := a_l0) (bs := [.int x_l1, .int x_l2, .int x_l3, .long x_l4]) (rs := [.int (nI 0), .ref a_l6]) (by decide +kernel) rfl c_8_33 (Or.inl rfl) rfl rfl rfl (by decide +kernel) (by simp only [List.length_cons, List.length_nil]; decide) (Nat.le_of_ble_eq_true rfl) h0 (by decide +kernel) (by decide +kernel) (by simp only [List.length_cons, List.length_nil]; decide) hc
theorem Law_write_0_thr1 (a_l0 : Nat) (x_l1 : Int32) (x_l2 : Int32) (x_l3 : Int32) (x_l4 : Int64) (l5 : Value) (a_l6 : Nat) (l7 : Value) (w : Wd) (I : MI) (L : ML) (P : MP) (w1 : Wd) (I1 : MI) (L1 : ML) (P1 : MP) (h0 : w.1 a_l0 = some (6, 0)) (hc : call 85 [.ref a_l0, .int x_l1, .int x_l2, .int x_l3, .long x_l4] w I L P = some (.inr 1, w1, I1, L1, P1)) : go 211 0 [.ref a_l0, .int x_l1, .int x_l2, .int x_l3, .long x_l4, l5, .ref a_l6, l7] [] w I L P = go 211 27 [.ref a_l0, .int x_l1, .int x_l2, .int x_l3, .long x_l4, l5, .ref a_l6, unk] [] w1 I1 L1 P1 := by
  refine (go_aload (m := 211) (pc := 0) (k := 6) (by decide +kernel) rfl).trans ?_
  refine (go_ic (m := 211) (pc := 2) (n := 0) (by decide +kernel) ic_0).trans ?_
  refine (go_aload_n (m := 211) (pc := 3) (k := 0) (by decide +kernel) rfl).trans ?_
  refine (go_iload_n (m := 211) (pc := 4) (k := 1) (by decide +kernel) rfl).trans ?_
  refine (go_iload_n (m := 211) (pc := 5) (k := 2) (by decide +kernel) rfl).trans ?_
  refine (go_iload_n (m := 211) (pc := 6) (k := 3) (by decide +kernel) rfl).trans ?_
  refine (go_lload (m := 211) (pc := 7) (k := 4) (by decide +kernel) rfl).trans ?_
  exact go_virT (m := 211) (pc := 9) (e := 1) (pc' := 27) (k := 7) (o := 8) (x := 33) (y := 85) (kd := 0) (b := a_l0) (bs := [.int x_l1, .int x_l2, .int x_l3, .long x_l4]) (rs := [.int (nI 0), .ref a_l6]) (by decide +kernel) rfl c_8_33 (Or.inl rfl) rfl rfl rfl (by decide +kernel) (by simp only [List.length_cons, List.length_nil]; decide) (Nat.le_of_ble_eq_true rfl) h0 (by decide +kernel) (by decide +kernel) (by simp only [List.length_cons, List.length_nil]; decide) hc
theorem Law_write_0_thr2 (a_l0 : Nat) (x_l1 : Int32) (x_l2 : Int32) (x_l3 : Int32) (x_l4 : Int64) (l5 : Value) (a_l6 : Nat) (l7 : Value) (w : Wd) (I : MI) (L : ML) (P : MP) (w1 : Wd) (I1 : MI) (L1 : ML) (P1 : MP) (h0 : w.1 a_l0 = some (6, 0)) (hc : call 85 [.ref a_l0, .int x_l1, .int x_l2, .int x_l3, .long x_l4] w I L P = some (.inr 2, w1, I1, L1, P1)) : go 211 0 [.ref a_l0, .int x_l1, .int x_l2, .int x_l3, .long x_l4, l5, .ref a_l6, l7] [] w I L P = go 211 19 [.ref a_l0, .int x_l1, .int x_l2, .int x_l3, .long x_l4, l5, .ref a_l6, unk] [] w1 I1 L1 P1 := by
  refine (go_aload (m := 211) (pc := 0) (k := 6) (by decide +kernel) rfl).trans ?_
  refine (go_ic (m := 211) (pc := 2) (n := 0) (by decide +kernel) ic_0).trans ?_
  refine (go_aload_n (m := 211) (pc := 3) (k := 0) (by decide +kernel) rfl).trans ?_
  refine (go_iload_n (m := 211) (pc := 4) (k := 1) (by decide +kernel) rfl).trans ?_
  refine (go_iload_n (m := 211) (pc := 5) (k := 2) (by decide +kernel) rfl).trans ?_
  refine (go_iload_n (m := 211) (pc := 6) (k := 3) (by decide +kernel) rfl).trans ?_
  refine (go_lload (m := 211) (pc := 7) (k := 4) (by decide +kernel) rfl).trans ?_
  exact go_virT (m := 211) (pc := 9) (e := 2) (pc' := 19) (k := 7) (o := 8) (x := 33) (y := 85) (kd := 0) (b := a_l0) (bs := [.int x_l1, .int x_l2, .int x_l3, .long x_l4]) (rs := [.int (nI 0), .ref a_l6]) (by decide +kernel) rfl c_8_33 (Or.inl rfl) rfl rfl rfl (by decide +kernel) (by simp only [List.length_cons, List.length_nil]; decide) (Nat.le_of_ble_eq_true rfl) h0 (by decide +kernel) (by decide +kernel) (by simp only [List.length_cons, List.length_nil]; decide) hc
theorem Law_write_12 (l0 : Value) (l1 : Value) (l2 : Value) (l3 : Value) (l4 : Value) (l5 : Value) (l6 : Value) (l7 : Value) (a_s0 : Nat) (y1 : Int32) (y2 : Int32) (w : Wd) (I : MI) (L : ML) (P : MP) (h0 : inA w a_s0 9 y1) : go 211 12 [l0, l1, l2, l3, l4, l5, l6, l7] [.int y2, .int y1, .ref a_s0] w I L P = go 211 29 [l0, l1, l2, l3, l4, l5, l6, l7] [] w I (updL L a_s0 (Int32.toNatClampNeg y1) (Int32.toInt64 y2)) P := by
  refine (go_i2l (m := 211) (pc := 12) (by decide +kernel)).trans ?_
  refine (go_last (m := 211) (pc := 13) (by decide +kernel) h0).trans ?_
  refine (go_goto (m := 211) (pc := 14) (off := 15) (t := 29) (by decide +kernel) (by decide)).trans ?_
  rfl
theorem Law_write_19 (l0 : Value) (l1 : Value) (l2 : Value) (l3 : Value) (l4 : Value) (l5 : Value) (l6 : Value) (l7 : Value) (w : Wd) (I : MI) (L : ML) (P : MP)  : go 211 19 [l0, l1, l2, l3, l4, l5, l6, l7] [] w I L P = some (.inl (some (.int (nI 1))), w, I, L, P) := by
  refine (go_ic (m := 211) (pc := 19) (n := 1) (by decide +kernel) ic_1).trans ?_
  exact go_retI (m := 211) (pc := 20) (by decide +kernel) rfl
theorem Law_write_23 (l0 : Value) (l1 : Value) (l2 : Value) (l3 : Value) (l4 : Value) (l5 : Value) (l6 : Value) (l7 : Value) (w : Wd) (I : MI) (L : ML) (P : MP)  : go 211 23 [l0, l1, l2, l3, l4, l5, l6, l7] [] w I L P = some (.inl (some (.int (nI 2))), w, I, L, P) := by
  refine (go_ic (m := 211) (pc := 23) (n := 2) (by decide +kernel) ic_2).trans ?_
  exact go_retI (m := 211) (pc := 24) (by decide +kernel) rfl
theorem Law_write_27 (l0 : Value) (l1 : Value) (l2 : Value) (l3 : Value) (l4 : Value) (l5 : Value) (l6 : Value) (l7 : Value) (w : Wd) (I : MI) (L : ML) (P : MP)  : go 211 27 [l0, l1, l2, l3, l4, l5, l6, l7] [] w I L P = some (.inl (some (.int (nI 3))), w, I, L, P) := by
  refine (go_ic (m := 211) (pc := 27) (n := 3) (by decide +kernel) ic_3).trans ?_
  exact go_retI (m := 211) (pc := 28) (by decide +kernel) rfl
theorem Law_write_29 (l0 : Value) (l1 : Value) (l2 : Value) (l3 : Value) (l4 : Value) (l5 : Value) (l6 : Value) (l7 : Value) (w : Wd) (I : MI) (L : ML) (P : MP)  : go 211 29 [l0, l1, l2, l3, l4, l5, l6, l7] [] w I L P = some (.inl (some (.int (nI 0))), w, I, L, P) := by
  refine (go_ic (m := 211) (pc := 29) (n := 0) (by decide +kernel) ic_0).trans ?_
  exact go_retI (m := 211) (pc := 30) (by decide +kernel) rfl
theorem Law_write_E (p0 : Nat) (p1 : Int32) (p2 : Int32) (p3 : Int32) (p4 : Int64) (p5 : Nat) (w : Wd) (I : MI) (L : ML) (P : MP) : call 211 [.ref p0, .int p1, .int p2, .int p3, .long p4, .ref p5] w I L P = go 211 0 [.ref p0, .int p1, .int p2, .int p3, .long p4, unk, .ref p5, unk] [] w I L P := rfl
theorem Law_write_E1 (p0 : Nat) (p1 : Int32) (p2 : Int32) (p3 : Int32) (p4 : Int64) (w : Wd) (I : MI) (L : ML) (P : MP) : call 211 [.ref p0, .int p1, .int p2, .int p3, .long p4, .null] w I L P = go 211 0 [.ref p0, .int p1, .int p2, .int p3, .long p4, unk, .null, unk] [] w I L P := rfl
theorem Law_write_E2 (p1 : Int32) (p2 : Int32) (p3 : Int32) (p4 : Int64) (p5 : Nat) (w : Wd) (I : MI) (L : ML) (P : MP) : call 211 [.null, .int p1, .int p2, .int p3, .long p4, .ref p5] w I L P = go 211 0 [.null, .int p1, .int p2, .int p3, .long p4, unk, .ref p5, unk] [] w I L P := rfl
theorem Law_write_E3 (p1 : Int32) (p2 : Int32) (p3 : Int32) (p4 : Int64) (w : Wd) (I : MI) (L : ML) (P : MP) : call 211 [.null, .int p1, .int p2, .int p3, .long p4, .null] w I L P = go 211 0 [.null, .int p1, .int p2, .int p3, .long p4, unk, .null, unk] [] w I L P := rfl
theorem Law_read_0_ret (a_l0 : Nat) (x_l1 : Int32) (x_l2 : Int32) (x_l3 : Int32) (a_l4 : Nat) (l5 : Value) (w : Wd) (I : MI) (L : ML) (P : MP) (v : Option Value) (w1 : Wd) (I1 : MI) (L1 : ML) (P1 : MP) (h0 : w.1 a_l0 = some (6, 0)) (hc : call 86 [.ref a_l0, .int x_l1, .int x_l2, .int x_l3] w I L P = some (.inl v, w1, I1, L1, P1)) : go 212 0 [.ref a_l0, .int x_l1, .int x_l2, .int x_l3, .ref a_l4, l5] [] w I L P = go 212 10 [.ref a_l0, .int x_l1, .int x_l2, .int x_l3, .ref a_l4, l5] (v.toList ++ [.int (nI 0), .ref a_l4]) w1 I1 L1 P1 := by
  refine (go_aload (m := 212) (pc := 0) (k := 4) (by decide +kernel) rfl).trans ?_
  refine (go_ic (m := 212) (pc := 2) (n := 0) (by decide +kernel) ic_0).trans ?_
  refine (go_aload_n (m := 212) (pc := 3) (k := 0) (by decide +kernel) rfl).trans ?_
  refine (go_iload_n (m := 212) (pc := 4) (k := 1) (by decide +kernel) rfl).trans ?_
  refine (go_iload_n (m := 212) (pc := 5) (k := 2) (by decide +kernel) rfl).trans ?_
  refine (go_iload_n (m := 212) (pc := 6) (k := 3) (by decide +kernel) rfl).trans ?_
  exact go_virH (m := 212) (pc := 7) (o := 8) (x := 37) (y := 86) (kd := 0) (b := a_l0) (bs := [.int x_l1, .int x_l2, .int x_l3]) (rs := [.int (nI 0), .ref a_l4]) (by decide +kernel) rfl c_8_37 (Or.inl rfl) rfl rfl rfl (by decide +kernel) (by simp only [List.length_cons, List.length_nil]; decide) (Nat.le_of_ble_eq_true rfl) h0 hc
theorem Law_read_0_thr0 (a_l0 : Nat) (x_l1 : Int32) (x_l2 : Int32) (x_l3 : Int32) (a_l4 : Nat) (l5 : Value) (w : Wd) (I : MI) (L : ML) (P : MP) (w1 : Wd) (I1 : MI) (L1 : ML) (P1 : MP) (h0 : w.1 a_l0 = some (6, 0)) (hc : call 86 [.ref a_l0, .int x_l1, .int x_l2, .int x_l3] w I L P = some (.inr 0, w1, I1, L1, P1)) : go 212 0 [.ref a_l0, .int x_l1, .int x_l2, .int x_l3, .ref a_l4, l5] [] w I L P = go 212 21 [.ref a_l0, .int x_l1, .int x_l2, .int x_l3, .ref a_l4, unk] [] w1 I1 L1 P1 := by
  refine (go_aload (m := 212) (pc := 0) (k := 4) (by decide +kernel) rfl).trans ?_
  refine (go_ic (m := 212) (pc := 2) (n := 0) (by decide +kernel) ic_0).trans ?_
  refine (go_aload_n (m := 212) (pc := 3) (k := 0) (by decide +kernel) rfl).trans ?_
  refine (go_iload_n (m := 212) (pc := 4) (k := 1) (by decide +kernel) rfl).trans ?_
  refine (go_iload_n (m := 212) (pc := 5) (k := 2) (by decide +kernel) rfl).trans ?_
  refine (go_iload_n (m := 212) (pc := 6) (k := 3) (by decide +kernel) rfl).trans ?_
  exact go_virT (m := 212) (pc := 7) (e := 0) (pc' := 21) (k := 5) (o := 8) (x := 37) (y := 86) (kd := 0) (b := a_l0) (bs := [.int x_l1, .int x_l2, .int x_l3]) (rs := [.int (nI 0), .ref a_l4]) (by decide +kernel) rfl c_8_37 (Or.inl rfl) rfl rfl rfl (by decide +kernel) (by simp only [List.length_cons, List.length_nil]; decide) (Nat.le_of_ble_eq_true rfl) h0 (by decide +kernel) (by decide +kernel) (by simp only [List.length_cons, List.length_nil]; decide) hc
theorem Law_read_0_thr1 (a_l0 : Nat) (x_l1 : Int32) (x_l2 : Int32) (x_l3 : Int32) (a_l4 : Nat) (l5 : Value) (w : Wd) (I : MI) (L : ML) (P : MP) (w1 : Wd) (I1 : MI) (L1 : ML) (P1 : MP) (h0 : w.1 a_l0 = some (6, 0)) (hc : call 86 [.ref a_l0, .int x_l1, .int x_l2, .int x_l3] w I L P = some (.inr 1, w1, I1, L1, P1)) : go 212 0 [.ref a_l0, .int x_l1, .int x_l2, .int x_l3, .ref a_l4, l5] [] w I L P = go 212 25 [.ref a_l0, .int x_l1, .int x_l2, .int x_l3, .ref a_l4, unk] [] w1 I1 L1 P1 := by
  refine (go_aload (m := 212) (pc := 0) (k := 4) (by decide +kernel) rfl).trans ?_
  refine (go_ic (m := 212) (pc := 2) (n := 0) (by decide +kernel) ic_0).trans ?_
  refine (go_aload_n (m := 212) (pc := 3) (k := 0) (by decide +kernel) rfl).trans ?_
  refine (go_iload_n (m := 212) (pc := 4) (k := 1) (by decide +kernel) rfl).trans ?_
  refine (go_iload_n (m := 212) (pc := 5) (k := 2) (by decide +kernel) rfl).trans ?_
  refine (go_iload_n (m := 212) (pc := 6) (k := 3) (by decide +kernel) rfl).trans ?_
  exact go_virT (m := 212) (pc := 7) (e := 1) (pc' := 25) (k := 5) (o := 8) (x := 37) (y := 86) (kd := 0) (b := a_l0) (bs := [.int x_l1, .int x_l2, .int x_l3]) (rs := [.int (nI 0), .ref a_l4]) (by decide +kernel) rfl c_8_37 (Or.inl rfl) rfl rfl rfl (by decide +kernel) (by simp only [List.length_cons, List.length_nil]; decide) (Nat.le_of_ble_eq_true rfl) h0 (by decide +kernel) (by decide +kernel) (by simp only [List.length_cons, List.length_nil]; decide) hc
theorem Law_read_0_thr2 (a_l0 : Nat) (x_l1 : Int32) (x_l2 : Int32) (x_l3 : Int32) (a_l4 : Nat) (l5 : Value) (w : Wd) (I : MI) (L : ML) (P : MP) (w1 : Wd) (I1 : MI) (L1 : ML) (P1 : MP) (h0 : w.1 a_l0 = some (6, 0)) (hc : call 86 [.ref a_l0, .int x_l1, .int x_l2, .int x_l3] w I L P = some (.inr 2, w1, I1, L1, P1)) : go 212 0 [.ref a_l0, .int x_l1, .int x_l2, .int x_l3, .ref a_l4, l5] [] w I L P = go 212 17 [.ref a_l0, .int x_l1, .int x_l2, .int x_l3, .ref a_l4, unk] [] w1 I1 L1 P1 := by
  refine (go_aload (m := 212) (pc := 0) (k := 4) (by decide +kernel) rfl).trans ?_
  refine (go_ic (m := 212) (pc := 2) (n := 0) (by decide +kernel) ic_0).trans ?_
  refine (go_aload_n (m := 212) (pc := 3) (k := 0) (by decide +kernel) rfl).trans ?_
  refine (go_iload_n (m := 212) (pc := 4) (k := 1) (by decide +kernel) rfl).trans ?_
  refine (go_iload_n (m := 212) (pc := 5) (k := 2) (by decide +kernel) rfl).trans ?_
  refine (go_iload_n (m := 212) (pc := 6) (k := 3) (by decide +kernel) rfl).trans ?_
  exact go_virT (m := 212) (pc := 7) (e := 2) (pc' := 17) (k := 5) (o := 8) (x := 37) (y := 86) (kd := 0) (b := a_l0) (bs := [.int x_l1, .int x_l2, .int x_l3]) (rs := [.int (nI 0), .ref a_l4]) (by decide +kernel) rfl c_8_37 (Or.inl rfl) rfl rfl rfl (by decide +kernel) (by simp only [List.length_cons, List.length_nil]; decide) (Nat.le_of_ble_eq_true rfl) h0 (by decide +kernel) (by decide +kernel) (by simp only [List.length_cons, List.length_nil]; decide) hc
theorem Law_read_10 (l0 : Value) (l1 : Value) (l2 : Value) (l3 : Value) (l4 : Value) (l5 : Value) (a_s0 : Nat) (y1 : Int32) (y2 : Int32) (w : Wd) (I : MI) (L : ML) (P : MP) (h0 : inA w a_s0 9 y1) : go 212 10 [l0, l1, l2, l3, l4, l5] [.int y2, .int y1, .ref a_s0] w I L P = go 212 27 [l0, l1, l2, l3, l4, l5] [] w I (updL L a_s0 (Int32.toNatClampNeg y1) (Int32.toInt64 y2)) P := by
  refine (go_i2l (m := 212) (pc := 10) (by decide +kernel)).trans ?_
  refine (go_last (m := 212) (pc := 11) (by decide +kernel) h0).trans ?_
  refine (go_goto (m := 212) (pc := 12) (off := 15) (t := 27) (by decide +kernel) (by decide)).trans ?_
  rfl
theorem Law_read_17 (l0 : Value) (l1 : Value) (l2 : Value) (l3 : Value) (l4 : Value) (l5 : Value) (w : Wd) (I : MI) (L : ML) (P : MP)  : go 212 17 [l0, l1, l2, l3, l4, l5] [] w I L P = some (.inl (some (.int (nI 1))), w, I, L, P) := by
  refine (go_ic (m := 212) (pc := 17) (n := 1) (by decide +kernel) ic_1).trans ?_
  exact go_retI (m := 212) (pc := 18) (by decide +kernel) rfl
theorem Law_read_21 (l0 : Value) (l1 : Value) (l2 : Value) (l3 : Value) (l4 : Value) (l5 : Value) (w : Wd) (I : MI) (L : ML) (P : MP)  : go 212 21 [l0, l1, l2, l3, l4, l5] [] w I L P = some (.inl (some (.int (nI 2))), w, I, L, P) := by
  refine (go_ic (m := 212) (pc := 21) (n := 2) (by decide +kernel) ic_2).trans ?_
  exact go_retI (m := 212) (pc := 22) (by decide +kernel) rfl
theorem Law_read_25 (l0 : Value) (l1 : Value) (l2 : Value) (l3 : Value) (l4 : Value) (l5 : Value) (w : Wd) (I : MI) (L : ML) (P : MP)  : go 212 25 [l0, l1, l2, l3, l4, l5] [] w I L P = some (.inl (some (.int (nI 3))), w, I, L, P) := by
  refine (go_ic (m := 212) (pc := 25) (n := 3) (by decide +kernel) ic_3).trans ?_
  exact go_retI (m := 212) (pc := 26) (by decide +kernel) rfl
theorem Law_read_27 (l0 : Value) (l1 : Value) (l2 : Value) (l3 : Value) (l4 : Value) (l5 : Value) (w : Wd) (I : MI) (L : ML) (P : MP)  : go 212 27 [l0, l1, l2, l3, l4, l5] [] w I L P = some (.inl (some (.int (nI 0))), w, I, L, P) := by
  refine (go_ic (m := 212) (pc := 27) (n := 0) (by decide +kernel) ic_0).trans ?_
  exact go_retI (m := 212) (pc := 28) (by decide +kernel) rfl
theorem Law_read_E (p0 : Nat) (p1 : Int32) (p2 : Int32) (p3 : Int32) (p4 : Nat) (w : Wd) (I : MI) (L : ML) (P : MP) : call 212 [.ref p0, .int p1, .int p2, .int p3, .ref p4] w I L P = go 212 0 [.ref p0, .int p1, .int p2, .int p3, .ref p4, unk] [] w I L P := rfl
theorem Law_read_E1 (p0 : Nat) (p1 : Int32) (p2 : Int32) (p3 : Int32) (w : Wd) (I : MI) (L : ML) (P : MP) : call 212 [.ref p0, .int p1, .int p2, .int p3, .null] w I L P = go 212 0 [.ref p0, .int p1, .int p2, .int p3, .null, unk] [] w I L P := rfl
theorem Law_read_E2 (p1 : Int32) (p2 : Int32) (p3 : Int32) (p4 : Nat) (w : Wd) (I : MI) (L : ML) (P : MP) : call 212 [.null, .int p1, .int p2, .int p3, .ref p4] w I L P = go 212 0 [.null, .int p1, .int p2, .int p3, .ref p4, unk] [] w I L P := rfl
theorem Law_read_E3 (p1 : Int32) (p2 : Int32) (p3 : Int32) (w : Wd) (I : MI) (L : ML) (P : MP) : call 212 [.null, .int p1, .int p2, .int p3, .null] w I L P = go 212 0 [.null, .int p1, .int p2, .int p3, .null, unk] [] w I L P := rfl
theorem Law_cancel_0_ret (a_l0 : Nat) (x_l1 : Int32) (a_l2 : Nat) (l3 : Value) (w : Wd) (I : MI) (L : ML) (P : MP) (v : Option Value) (w1 : Wd) (I1 : MI) (L1 : ML) (P1 : MP) (h0 : w.1 a_l0 = some (6, 0)) (hc : call 87 [.ref a_l0, .int x_l1] w I L P = some (.inl v, w1, I1, L1, P1)) : go 213 0 [.ref a_l0, .int x_l1, .ref a_l2, l3] [] w I L P = go 213 7 [.ref a_l0, .int x_l1, .ref a_l2, l3] (v.toList ++ [.int (nI 0), .ref a_l2]) w1 I1 L1 P1 := by
  refine (go_aload_n (m := 213) (pc := 0) (k := 2) (by decide +kernel) rfl).trans ?_
  refine (go_ic (m := 213) (pc := 1) (n := 0) (by decide +kernel) ic_0).trans ?_
  refine (go_aload_n (m := 213) (pc := 2) (k := 0) (by decide +kernel) rfl).trans ?_
  refine (go_iload_n (m := 213) (pc := 3) (k := 1) (by decide +kernel) rfl).trans ?_
  exact go_virH (m := 213) (pc := 4) (o := 8) (x := 41) (y := 87) (kd := 0) (b := a_l0) (bs := [.int x_l1]) (rs := [.int (nI 0), .ref a_l2]) (by decide +kernel) rfl c_8_41 (Or.inl rfl) rfl rfl rfl (by decide +kernel) (by simp only [List.length_cons, List.length_nil]; decide) (Nat.le_of_ble_eq_true rfl) h0 hc
theorem Law_cancel_0_thr1 (a_l0 : Nat) (x_l1 : Int32) (a_l2 : Nat) (l3 : Value) (w : Wd) (I : MI) (L : ML) (P : MP) (w1 : Wd) (I1 : MI) (L1 : ML) (P1 : MP) (h0 : w.1 a_l0 = some (6, 0)) (hc : call 87 [.ref a_l0, .int x_l1] w I L P = some (.inr 1, w1, I1, L1, P1)) : go 213 0 [.ref a_l0, .int x_l1, .ref a_l2, l3] [] w I L P = go 213 16 [.ref a_l0, .int x_l1, .ref a_l2, unk] [] w1 I1 L1 P1 := by
  refine (go_aload_n (m := 213) (pc := 0) (k := 2) (by decide +kernel) rfl).trans ?_
  refine (go_ic (m := 213) (pc := 1) (n := 0) (by decide +kernel) ic_0).trans ?_
  refine (go_aload_n (m := 213) (pc := 2) (k := 0) (by decide +kernel) rfl).trans ?_
  refine (go_iload_n (m := 213) (pc := 3) (k := 1) (by decide +kernel) rfl).trans ?_
  exact go_virT (m := 213) (pc := 4) (e := 1) (pc' := 16) (k := 3) (o := 8) (x := 41) (y := 87) (kd := 0) (b := a_l0) (bs := [.int x_l1]) (rs := [.int (nI 0), .ref a_l2]) (by decide +kernel) rfl c_8_41 (Or.inl rfl) rfl rfl rfl (by decide +kernel) (by simp only [List.length_cons, List.length_nil]; decide) (Nat.le_of_ble_eq_true rfl) h0 (by decide +kernel) (by decide +kernel) (by simp only [List.length_cons, List.length_nil]; decide) hc
theorem Law_cancel_0_thr2 (a_l0 : Nat) (x_l1 : Int32) (a_l2 : Nat) (l3 : Value) (w : Wd) (I : MI) (L : ML) (P : MP) (w1 : Wd) (I1 : MI) (L1 : ML) (P1 : MP) (h0 : w.1 a_l0 = some (6, 0)) (hc : call 87 [.ref a_l0, .int x_l1] w I L P = some (.inr 2, w1, I1, L1, P1)) : go 213 0 [.ref a_l0, .int x_l1, .ref a_l2, l3] [] w I L P = go 213 13 [.ref a_l0, .int x_l1, .ref a_l2, unk] [] w1 I1 L1 P1 := by
  refine (go_aload_n (m := 213) (pc := 0) (k := 2) (by decide +kernel) rfl).trans ?_
  refine (go_ic (m := 213) (pc := 1) (n := 0) (by decide +kernel) ic_0).trans ?_
  refine (go_aload_n (m := 213) (pc := 2) (k := 0) (by decide +kernel) rfl).trans ?_
  refine (go_iload_n (m := 213) (pc := 3) (k := 1) (by decide +kernel) rfl).trans ?_
  exact go_virT (m := 213) (pc := 4) (e := 2) (pc' := 13) (k := 3) (o := 8) (x := 41) (y := 87) (kd := 0) (b := a_l0) (bs := [.int x_l1]) (rs := [.int (nI 0), .ref a_l2]) (by decide +kernel) rfl c_8_41 (Or.inl rfl) rfl rfl rfl (by decide +kernel) (by simp only [List.length_cons, List.length_nil]; decide) (Nat.le_of_ble_eq_true rfl) h0 (by decide +kernel) (by decide +kernel) (by simp only [List.length_cons, List.length_nil]; decide) hc
theorem Law_cancel_7 (l0 : Value) (l1 : Value) (l2 : Value) (l3 : Value) (a_s0 : Nat) (y1 : Int32) (y2 : Int32) (w : Wd) (I : MI) (L : ML) (P : MP) (h0 : inA w a_s0 9 y1) : go 213 7 [l0, l1, l2, l3] [.int y2, .int y1, .ref a_s0] w I L P = go 213 18 [l0, l1, l2, l3] [] w I (updL L a_s0 (Int32.toNatClampNeg y1) (Int32.toInt64 y2)) P := by
  refine (go_i2l (m := 213) (pc := 7) (by decide +kernel)).trans ?_
  refine (go_last (m := 213) (pc := 8) (by decide +kernel) h0).trans ?_
  refine (go_goto (m := 213) (pc := 9) (off := 9) (t := 18) (by decide +kernel) (by decide)).trans ?_
  rfl
theorem Law_cancel_13 (l0 : Value) (l1 : Value) (l2 : Value) (l3 : Value) (w : Wd) (I : MI) (L : ML) (P : MP)  : go 213 13 [l0, l1, l2, l3] [] w I L P = some (.inl (some (.int (nI 1))), w, I, L, P) := by
  refine (go_ic (m := 213) (pc := 13) (n := 1) (by decide +kernel) ic_1).trans ?_
  exact go_retI (m := 213) (pc := 14) (by decide +kernel) rfl
theorem Law_cancel_16 (l0 : Value) (l1 : Value) (l2 : Value) (l3 : Value) (w : Wd) (I : MI) (L : ML) (P : MP)  : go 213 16 [l0, l1, l2, l3] [] w I L P = some (.inl (some (.int (nI 2))), w, I, L, P) := by
  refine (go_ic (m := 213) (pc := 16) (n := 2) (by decide +kernel) ic_2).trans ?_
  exact go_retI (m := 213) (pc := 17) (by decide +kernel) rfl
theorem Law_cancel_18 (l0 : Value) (l1 : Value) (l2 : Value) (l3 : Value) (w : Wd) (I : MI) (L : ML) (P : MP)  : go 213 18 [l0, l1, l2, l3] [] w I L P = some (.inl (some (.int (nI 0))), w, I, L, P) := by
  refine (go_ic (m := 213) (pc := 18) (n := 0) (by decide +kernel) ic_0).trans ?_
  exact go_retI (m := 213) (pc := 19) (by decide +kernel) rfl
theorem Law_cancel_E (p0 : Nat) (p1 : Int32) (p2 : Nat) (w : Wd) (I : MI) (L : ML) (P : MP) : call 213 [.ref p0, .int p1, .ref p2] w I L P = go 213 0 [.ref p0, .int p1, .ref p2, unk] [] w I L P := rfl
theorem Law_cancel_E1 (p0 : Nat) (p1 : Int32) (w : Wd) (I : MI) (L : ML) (P : MP) : call 213 [.ref p0, .int p1, .null] w I L P = go 213 0 [.ref p0, .int p1, .null, unk] [] w I L P := rfl
theorem Law_cancel_E2 (p1 : Int32) (p2 : Nat) (w : Wd) (I : MI) (L : ML) (P : MP) : call 213 [.null, .int p1, .ref p2] w I L P = go 213 0 [.null, .int p1, .ref p2, unk] [] w I L P := rfl
theorem Law_cancel_E3 (p1 : Int32) (w : Wd) (I : MI) (L : ML) (P : MP) : call 213 [.null, .int p1, .null] w I L P = go 213 0 [.null, .int p1, .null, unk] [] w I L P := rfl
theorem Law_pass_0_ret (a_l0 : Nat) (x_l1 : Int32) (a_l2 : Nat) (l3 : Value) (w : Wd) (I : MI) (L : ML) (P : MP) (v : Option Value) (w1 : Wd) (I1 : MI) (L1 : ML) (P1 : MP) (h0 : w.1 a_l0 = some (6, 0)) (hc : call 88 [.ref a_l0, .int x_l1] w I L P = some (.inl v, w1, I1, L1, P1)) : go 214 0 [.ref a_l0, .int x_l1, .ref a_l2, l3] [] w I L P = go 214 7 [.ref a_l0, .int x_l1, .ref a_l2, l3] (v.toList ++ [.int (nI 0), .ref a_l2]) w1 I1 L1 P1 := by
  refine (go_aload_n (m := 214) (pc := 0) (k := 2) (by decide +kernel) rfl).trans ?_
  refine (go_ic (m := 214) (pc := 1) (n := 0) (by decide +kernel) ic_0).trans ?_
  refine (go_aload_n (m := 214) (pc := 2) (k := 0) (by decide +kernel) rfl).trans ?_
  refine (go_iload_n (m := 214) (pc := 3) (k := 1) (by decide +kernel) rfl).trans ?_
  exact go_virH (m := 214) (pc := 4) (o := 8) (x := 44) (y := 88) (kd := 0) (b := a_l0) (bs := [.int x_l1]) (rs := [.int (nI 0), .ref a_l2]) (by decide +kernel) rfl c_8_44 (Or.inl rfl) rfl rfl rfl (by decide +kernel) (by simp only [List.length_cons, List.length_nil]; decide) (Nat.le_of_ble_eq_true rfl) h0 hc
theorem Law_pass_0_thr0 (a_l0 : Nat) (x_l1 : Int32) (a_l2 : Nat) (l3 : Value) (w : Wd) (I : MI) (L : ML) (P : MP) (w1 : Wd) (I1 : MI) (L1 : ML) (P1 : MP) (h0 : w.1 a_l0 = some (6, 0)) (hc : call 88 [.ref a_l0, .int x_l1] w I L P = some (.inr 0, w1, I1, L1, P1)) : go 214 0 [.ref a_l0, .int x_l1, .ref a_l2, l3] [] w I L P = go 214 13 [.ref a_l0, .int x_l1, .ref a_l2, unk] [] w1 I1 L1 P1 := by
  refine (go_aload_n (m := 214) (pc := 0) (k := 2) (by decide +kernel) rfl).trans ?_
  refine (go_ic (m := 214) (pc := 1) (n := 0) (by decide +kernel) ic_0).trans ?_
  refine (go_aload_n (m := 214) (pc := 2) (k := 0) (by decide +kernel) rfl).trans ?_
  refine (go_iload_n (m := 214) (pc := 3) (k := 1) (by decide +kernel) rfl).trans ?_
  exact go_virT (m := 214) (pc := 4) (e := 0) (pc' := 13) (k := 3) (o := 8) (x := 44) (y := 88) (kd := 0) (b := a_l0) (bs := [.int x_l1]) (rs := [.int (nI 0), .ref a_l2]) (by decide +kernel) rfl c_8_44 (Or.inl rfl) rfl rfl rfl (by decide +kernel) (by simp only [List.length_cons, List.length_nil]; decide) (Nat.le_of_ble_eq_true rfl) h0 (by decide +kernel) (by decide +kernel) (by simp only [List.length_cons, List.length_nil]; decide) hc
theorem Law_pass_7 (l0 : Value) (l1 : Value) (l2 : Value) (l3 : Value) (a_s0 : Nat) (y1 : Int32) (y2 : Int32) (w : Wd) (I : MI) (L : ML) (P : MP) (h0 : inA w a_s0 9 y1) : go 214 7 [l0, l1, l2, l3] [.int y2, .int y1, .ref a_s0] w I L P = go 214 15 [l0, l1, l2, l3] [] w I (updL L a_s0 (Int32.toNatClampNeg y1) (Int32.toInt64 y2)) P := by
  refine (go_i2l (m := 214) (pc := 7) (by decide +kernel)).trans ?_
  refine (go_last (m := 214) (pc := 8) (by decide +kernel) h0).trans ?_
  refine (go_goto (m := 214) (pc := 9) (off := 6) (t := 15) (by decide +kernel) (by decide)).trans ?_
  rfl
theorem Law_pass_13 (l0 : Value) (l1 : Value) (l2 : Value) (l3 : Value) (w : Wd) (I : MI) (L : ML) (P : MP)  : go 214 13 [l0, l1, l2, l3] [] w I L P = some (.inl (some (.int (nI 1))), w, I, L, P) := by
  refine (go_ic (m := 214) (pc := 13) (n := 1) (by decide +kernel) ic_1).trans ?_
  exact go_retI (m := 214) (pc := 14) (by decide +kernel) rfl
theorem Law_pass_15 (l0 : Value) (l1 : Value) (l2 : Value) (l3 : Value) (w : Wd) (I : MI) (L : ML) (P : MP)  : go 214 15 [l0, l1, l2, l3] [] w I L P = some (.inl (some (.int (nI 0))), w, I, L, P) := by
  refine (go_ic (m := 214) (pc := 15) (n := 0) (by decide +kernel) ic_0).trans ?_
  exact go_retI (m := 214) (pc := 16) (by decide +kernel) rfl
theorem Law_pass_E (p0 : Nat) (p1 : Int32) (p2 : Nat) (w : Wd) (I : MI) (L : ML) (P : MP) : call 214 [.ref p0, .int p1, .ref p2] w I L P = go 214 0 [.ref p0, .int p1, .ref p2, unk] [] w I L P := rfl
theorem Law_pass_E1 (p0 : Nat) (p1 : Int32) (w : Wd) (I : MI) (L : ML) (P : MP) : call 214 [.ref p0, .int p1, .null] w I L P = go 214 0 [.ref p0, .int p1, .null, unk] [] w I L P := rfl
theorem Law_pass_E2 (p1 : Int32) (p2 : Nat) (w : Wd) (I : MI) (L : ML) (P : MP) : call 214 [.null, .int p1, .ref p2] w I L P = go 214 0 [.null, .int p1, .ref p2, unk] [] w I L P := rfl
theorem Law_pass_E3 (p1 : Int32) (w : Wd) (I : MI) (L : ML) (P : MP) : call 214 [.null, .int p1, .null] w I L P = go 214 0 [.null, .int p1, .null, unk] [] w I L P := rfl
theorem Law_caller_0_ret (a_l0 : Nat) (x_l1 : Int32) (x_l2 : Int32) (a_l3 : Nat) (l4 : Value) (w : Wd) (I : MI) (L : ML) (P : MP) (v : Option Value) (w1 : Wd) (I1 : MI) (L1 : ML) (P1 : MP) (h0 : w.1 a_l0 = some (6, 0)) (hc : call 90 [.ref a_l0, .int x_l1, .int x_l2] w I L P = some (.inl v, w1, I1, L1, P1)) : go 215 0 [.ref a_l0, .int x_l1, .int x_l2, .ref a_l3, l4] [] w I L P = go 215 8 [.ref a_l0, .int x_l1, .int x_l2, .ref a_l3, l4] (v.toList ++ [.int (nI 0), .ref a_l3]) w1 I1 L1 P1 := by
  refine (go_aload_n (m := 215) (pc := 0) (k := 3) (by decide +kernel) rfl).trans ?_
  refine (go_ic (m := 215) (pc := 1) (n := 0) (by decide +kernel) ic_0).trans ?_
  refine (go_aload_n (m := 215) (pc := 2) (k := 0) (by decide +kernel) rfl).trans ?_
  refine (go_iload_n (m := 215) (pc := 3) (k := 1) (by decide +kernel) rfl).trans ?_
  refine (go_iload_n (m := 215) (pc := 4) (k := 2) (by decide +kernel) rfl).trans ?_
  exact go_virH (m := 215) (pc := 5) (o := 8) (x := 47) (y := 90) (kd := 0) (b := a_l0) (bs := [.int x_l1, .int x_l2]) (rs := [.int (nI 0), .ref a_l3]) (by decide +kernel) rfl c_8_47 (Or.inl rfl) rfl rfl rfl (by decide +kernel) (by simp only [List.length_cons, List.length_nil]; decide) (Nat.le_of_ble_eq_true rfl) h0 hc
theorem Law_caller_0_thr0 (a_l0 : Nat) (x_l1 : Int32) (x_l2 : Int32) (a_l3 : Nat) (l4 : Value) (w : Wd) (I : MI) (L : ML) (P : MP) (w1 : Wd) (I1 : MI) (L1 : ML) (P1 : MP) (h0 : w.1 a_l0 = some (6, 0)) (hc : call 90 [.ref a_l0, .int x_l1, .int x_l2] w I L P = some (.inr 0, w1, I1, L1, P1)) : go 215 0 [.ref a_l0, .int x_l1, .int x_l2, .ref a_l3, l4] [] w I L P = go 215 19 [.ref a_l0, .int x_l1, .int x_l2, .ref a_l3, unk] [] w1 I1 L1 P1 := by
  refine (go_aload_n (m := 215) (pc := 0) (k := 3) (by decide +kernel) rfl).trans ?_
  refine (go_ic (m := 215) (pc := 1) (n := 0) (by decide +kernel) ic_0).trans ?_
  refine (go_aload_n (m := 215) (pc := 2) (k := 0) (by decide +kernel) rfl).trans ?_
  refine (go_iload_n (m := 215) (pc := 3) (k := 1) (by decide +kernel) rfl).trans ?_
  refine (go_iload_n (m := 215) (pc := 4) (k := 2) (by decide +kernel) rfl).trans ?_
  exact go_virT (m := 215) (pc := 5) (e := 0) (pc' := 19) (k := 4) (o := 8) (x := 47) (y := 90) (kd := 0) (b := a_l0) (bs := [.int x_l1, .int x_l2]) (rs := [.int (nI 0), .ref a_l3]) (by decide +kernel) rfl c_8_47 (Or.inl rfl) rfl rfl rfl (by decide +kernel) (by simp only [List.length_cons, List.length_nil]; decide) (Nat.le_of_ble_eq_true rfl) h0 (by decide +kernel) (by decide +kernel) (by simp only [List.length_cons, List.length_nil]; decide) hc
theorem Law_caller_0_thr2 (a_l0 : Nat) (x_l1 : Int32) (x_l2 : Int32) (a_l3 : Nat) (l4 : Value) (w : Wd) (I : MI) (L : ML) (P : MP) (w1 : Wd) (I1 : MI) (L1 : ML) (P1 : MP) (h0 : w.1 a_l0 = some (6, 0)) (hc : call 90 [.ref a_l0, .int x_l1, .int x_l2] w I L P = some (.inr 2, w1, I1, L1, P1)) : go 215 0 [.ref a_l0, .int x_l1, .int x_l2, .ref a_l3, l4] [] w I L P = go 215 15 [.ref a_l0, .int x_l1, .int x_l2, .ref a_l3, unk] [] w1 I1 L1 P1 := by
  refine (go_aload_n (m := 215) (pc := 0) (k := 3) (by decide +kernel) rfl).trans ?_
  refine (go_ic (m := 215) (pc := 1) (n := 0) (by decide +kernel) ic_0).trans ?_
  refine (go_aload_n (m := 215) (pc := 2) (k := 0) (by decide +kernel) rfl).trans ?_
  refine (go_iload_n (m := 215) (pc := 3) (k := 1) (by decide +kernel) rfl).trans ?_
  refine (go_iload_n (m := 215) (pc := 4) (k := 2) (by decide +kernel) rfl).trans ?_
  exact go_virT (m := 215) (pc := 5) (e := 2) (pc' := 15) (k := 4) (o := 8) (x := 47) (y := 90) (kd := 0) (b := a_l0) (bs := [.int x_l1, .int x_l2]) (rs := [.int (nI 0), .ref a_l3]) (by decide +kernel) rfl c_8_47 (Or.inl rfl) rfl rfl rfl (by decide +kernel) (by simp only [List.length_cons, List.length_nil]; decide) (Nat.le_of_ble_eq_true rfl) h0 (by decide +kernel) (by decide +kernel) (by simp only [List.length_cons, List.length_nil]; decide) hc
theorem Law_caller_8 (l0 : Value) (l1 : Value) (l2 : Value) (l3 : Value) (l4 : Value) (a_s0 : Nat) (y1 : Int32) (y2 : Int32) (w : Wd) (I : MI) (L : ML) (P : MP) (h0 : inA w a_s0 9 y1) : go 215 8 [l0, l1, l2, l3, l4] [.int y2, .int y1, .ref a_s0] w I L P = go 215 21 [l0, l1, l2, l3, l4] [] w I (updL L a_s0 (Int32.toNatClampNeg y1) (Int32.toInt64 y2)) P := by
  refine (go_i2l (m := 215) (pc := 8) (by decide +kernel)).trans ?_
  refine (go_last (m := 215) (pc := 9) (by decide +kernel) h0).trans ?_
  refine (go_goto (m := 215) (pc := 10) (off := 11) (t := 21) (by decide +kernel) (by decide)).trans ?_
  rfl
theorem Law_caller_15 (l0 : Value) (l1 : Value) (l2 : Value) (l3 : Value) (l4 : Value) (w : Wd) (I : MI) (L : ML) (P : MP)  : go 215 15 [l0, l1, l2, l3, l4] [] w I L P = some (.inl (some (.int (nI 1))), w, I, L, P) := by
  refine (go_ic (m := 215) (pc := 15) (n := 1) (by decide +kernel) ic_1).trans ?_
  exact go_retI (m := 215) (pc := 16) (by decide +kernel) rfl
theorem Law_caller_19 (l0 : Value) (l1 : Value) (l2 : Value) (l3 : Value) (l4 : Value) (w : Wd) (I : MI) (L : ML) (P : MP)  : go 215 19 [l0, l1, l2, l3, l4] [] w I L P = some (.inl (some (.int (nI 2))), w, I, L, P) := by
  refine (go_ic (m := 215) (pc := 19) (n := 2) (by decide +kernel) ic_2).trans ?_
  exact go_retI (m := 215) (pc := 20) (by decide +kernel) rfl
theorem Law_caller_21 (l0 : Value) (l1 : Value) (l2 : Value) (l3 : Value) (l4 : Value) (w : Wd) (I : MI) (L : ML) (P : MP)  : go 215 21 [l0, l1, l2, l3, l4] [] w I L P = some (.inl (some (.int (nI 0))), w, I, L, P) := by
  refine (go_ic (m := 215) (pc := 21) (n := 0) (by decide +kernel) ic_0).trans ?_
  exact go_retI (m := 215) (pc := 22) (by decide +kernel) rfl
theorem Law_caller_E (p0 : Nat) (p1 : Int32) (p2 : Int32) (p3 : Nat) (w : Wd) (I : MI) (L : ML) (P : MP) : call 215 [.ref p0, .int p1, .int p2, .ref p3] w I L P = go 215 0 [.ref p0, .int p1, .int p2, .ref p3, unk] [] w I L P := rfl
theorem Law_caller_E1 (p0 : Nat) (p1 : Int32) (p2 : Int32) (w : Wd) (I : MI) (L : ML) (P : MP) : call 215 [.ref p0, .int p1, .int p2, .null] w I L P = go 215 0 [.ref p0, .int p1, .int p2, .null, unk] [] w I L P := rfl
theorem Law_caller_E2 (p1 : Int32) (p2 : Int32) (p3 : Nat) (w : Wd) (I : MI) (L : ML) (P : MP) : call 215 [.null, .int p1, .int p2, .ref p3] w I L P = go 215 0 [.null, .int p1, .int p2, .ref p3, unk] [] w I L P := rfl
theorem Law_caller_E3 (p1 : Int32) (p2 : Int32) (w : Wd) (I : MI) (L : ML) (P : MP) : call 215 [.null, .int p1, .int p2, .null] w I L P = go 215 0 [.null, .int p1, .int p2, .null, unk] [] w I L P := rfl
theorem Law_message_0_ret (a_l0 : Nat) (x_l1 : Int32) (x_l2 : Int32) (x_l3 : Int32) (a_l4 : Nat) (l5 : Value) (w : Wd) (I : MI) (L : ML) (P : MP) (v : Option Value) (w1 : Wd) (I1 : MI) (L1 : ML) (P1 : MP) (h0 : w.1 a_l0 = some (6, 0)) (hc : call 91 [.ref a_l0, .int x_l1, .int x_l2, .int x_l3] w I L P = some (.inl v, w1, I1, L1, P1)) : go 216 0 [.ref a_l0, .int x_l1, .int x_l2, .int x_l3, .ref a_l4, l5] [] w I L P = go 216 10 [.ref a_l0, .int x_l1, .int x_l2, .int x_l3, .ref a_l4, l5] (v.toList ++ [.int (nI 0), .ref a_l4]) w1 I1 L1 P1 := by
  refine (go_aload (m := 216) (pc := 0) (k := 4) (by decide +kernel) rfl).trans ?_
  refine (go_ic (m := 216) (pc := 2) (n := 0) (by decide +kernel) ic_0).trans ?_
  refine (go_aload_n (m := 216) (pc := 3) (k := 0) (by decide +kernel) rfl).trans ?_
  refine (go_iload_n (m := 216) (pc := 4) (k := 1) (by decide +kernel) rfl).trans ?_
  refine (go_iload_n (m := 216) (pc := 5) (k := 2) (by decide +kernel) rfl).trans ?_
  refine (go_iload_n (m := 216) (pc := 6) (k := 3) (by decide +kernel) rfl).trans ?_
  exact go_virH (m := 216) (pc := 7) (o := 8) (x := 50) (y := 91) (kd := 0) (b := a_l0) (bs := [.int x_l1, .int x_l2, .int x_l3]) (rs := [.int (nI 0), .ref a_l4]) (by decide +kernel) rfl c_8_50 (Or.inl rfl) rfl rfl rfl (by decide +kernel) (by simp only [List.length_cons, List.length_nil]; decide) (Nat.le_of_ble_eq_true rfl) h0 hc
theorem Law_message_0_thr0 (a_l0 : Nat) (x_l1 : Int32) (x_l2 : Int32) (x_l3 : Int32) (a_l4 : Nat) (l5 : Value) (w : Wd) (I : MI) (L : ML) (P : MP) (w1 : Wd) (I1 : MI) (L1 : ML) (P1 : MP) (h0 : w.1 a_l0 = some (6, 0)) (hc : call 91 [.ref a_l0, .int x_l1, .int x_l2, .int x_l3] w I L P = some (.inr 0, w1, I1, L1, P1)) : go 216 0 [.ref a_l0, .int x_l1, .int x_l2, .int x_l3, .ref a_l4, l5] [] w I L P = go 216 21 [.ref a_l0, .int x_l1, .int x_l2, .int x_l3, .ref a_l4, unk] [] w1 I1 L1 P1 := by
  refine (go_aload (m := 216) (pc := 0) (k := 4) (by decide +kernel) rfl).trans ?_
  refine (go_ic (m := 216) (pc := 2) (n := 0) (by decide +kernel) ic_0).trans ?_
  refine (go_aload_n (m := 216) (pc := 3) (k := 0) (by decide +kernel) rfl).trans ?_
  refine (go_iload_n (m := 216) (pc := 4) (k := 1) (by decide +kernel) rfl).trans ?_
  refine (go_iload_n (m := 216) (pc := 5) (k := 2) (by decide +kernel) rfl).trans ?_
  refine (go_iload_n (m := 216) (pc := 6) (k := 3) (by decide +kernel) rfl).trans ?_
  exact go_virT (m := 216) (pc := 7) (e := 0) (pc' := 21) (k := 5) (o := 8) (x := 50) (y := 91) (kd := 0) (b := a_l0) (bs := [.int x_l1, .int x_l2, .int x_l3]) (rs := [.int (nI 0), .ref a_l4]) (by decide +kernel) rfl c_8_50 (Or.inl rfl) rfl rfl rfl (by decide +kernel) (by simp only [List.length_cons, List.length_nil]; decide) (Nat.le_of_ble_eq_true rfl) h0 (by decide +kernel) (by decide +kernel) (by simp only [List.length_cons, List.length_nil]; decide) hc
theorem Law_message_0_thr2 (a_l0 : Nat) (x_l1 : Int32) (x_l2 : Int32) (x_l3 : Int32) (a_l4 : Nat) (l5 : Value) (w : Wd) (I : MI) (L : ML) (P : MP) (w1 : Wd) (I1 : MI) (L1 : ML) (P1 : MP) (h0 : w.1 a_l0 = some (6, 0)) (hc : call 91 [.ref a_l0, .int x_l1, .int x_l2, .int x_l3] w I L P = some (.inr 2, w1, I1, L1, P1)) : go 216 0 [.ref a_l0, .int x_l1, .int x_l2, .int x_l3, .ref a_l4, l5] [] w I L P = go 216 17 [.ref a_l0, .int x_l1, .int x_l2, .int x_l3, .ref a_l4, unk] [] w1 I1 L1 P1 := by
  refine (go_aload (m := 216) (pc := 0) (k := 4) (by decide +kernel) rfl).trans ?_
  refine (go_ic (m := 216) (pc := 2) (n := 0) (by decide +kernel) ic_0).trans ?_
  refine (go_aload_n (m := 216) (pc := 3) (k := 0) (by decide +kernel) rfl).trans ?_
  refine (go_iload_n (m := 216) (pc := 4) (k := 1) (by decide +kernel) rfl).trans ?_
  refine (go_iload_n (m := 216) (pc := 5) (k := 2) (by decide +kernel) rfl).trans ?_
  refine (go_iload_n (m := 216) (pc := 6) (k := 3) (by decide +kernel) rfl).trans ?_
  exact go_virT (m := 216) (pc := 7) (e := 2) (pc' := 17) (k := 5) (o := 8) (x := 50) (y := 91) (kd := 0) (b := a_l0) (bs := [.int x_l1, .int x_l2, .int x_l3]) (rs := [.int (nI 0), .ref a_l4]) (by decide +kernel) rfl c_8_50 (Or.inl rfl) rfl rfl rfl (by decide +kernel) (by simp only [List.length_cons, List.length_nil]; decide) (Nat.le_of_ble_eq_true rfl) h0 (by decide +kernel) (by decide +kernel) (by simp only [List.length_cons, List.length_nil]; decide) hc
theorem Law_message_10 (l0 : Value) (l1 : Value) (l2 : Value) (l3 : Value) (l4 : Value) (l5 : Value) (a_s0 : Nat) (y1 : Int32) (y2 : Int32) (w : Wd) (I : MI) (L : ML) (P : MP) (h0 : inA w a_s0 9 y1) : go 216 10 [l0, l1, l2, l3, l4, l5] [.int y2, .int y1, .ref a_s0] w I L P = go 216 23 [l0, l1, l2, l3, l4, l5] [] w I (updL L a_s0 (Int32.toNatClampNeg y1) (Int32.toInt64 y2)) P := by
  refine (go_i2l (m := 216) (pc := 10) (by decide +kernel)).trans ?_
  refine (go_last (m := 216) (pc := 11) (by decide +kernel) h0).trans ?_
  refine (go_goto (m := 216) (pc := 12) (off := 11) (t := 23) (by decide +kernel) (by decide)).trans ?_
  rfl
theorem Law_message_17 (l0 : Value) (l1 : Value) (l2 : Value) (l3 : Value) (l4 : Value) (l5 : Value) (w : Wd) (I : MI) (L : ML) (P : MP)  : go 216 17 [l0, l1, l2, l3, l4, l5] [] w I L P = some (.inl (some (.int (nI 1))), w, I, L, P) := by
  refine (go_ic (m := 216) (pc := 17) (n := 1) (by decide +kernel) ic_1).trans ?_
  exact go_retI (m := 216) (pc := 18) (by decide +kernel) rfl
theorem Law_message_21 (l0 : Value) (l1 : Value) (l2 : Value) (l3 : Value) (l4 : Value) (l5 : Value) (w : Wd) (I : MI) (L : ML) (P : MP)  : go 216 21 [l0, l1, l2, l3, l4, l5] [] w I L P = some (.inl (some (.int (nI 2))), w, I, L, P) := by
  refine (go_ic (m := 216) (pc := 21) (n := 2) (by decide +kernel) ic_2).trans ?_
  exact go_retI (m := 216) (pc := 22) (by decide +kernel) rfl
theorem Law_message_23 (l0 : Value) (l1 : Value) (l2 : Value) (l3 : Value) (l4 : Value) (l5 : Value) (w : Wd) (I : MI) (L : ML) (P : MP)  : go 216 23 [l0, l1, l2, l3, l4, l5] [] w I L P = some (.inl (some (.int (nI 0))), w, I, L, P) := by
  refine (go_ic (m := 216) (pc := 23) (n := 0) (by decide +kernel) ic_0).trans ?_
  exact go_retI (m := 216) (pc := 24) (by decide +kernel) rfl
theorem Law_message_E (p0 : Nat) (p1 : Int32) (p2 : Int32) (p3 : Int32) (p4 : Nat) (w : Wd) (I : MI) (L : ML) (P : MP) : call 216 [.ref p0, .int p1, .int p2, .int p3, .ref p4] w I L P = go 216 0 [.ref p0, .int p1, .int p2, .int p3, .ref p4, unk] [] w I L P := rfl
theorem Law_message_E1 (p0 : Nat) (p1 : Int32) (p2 : Int32) (p3 : Int32) (w : Wd) (I : MI) (L : ML) (P : MP) : call 216 [.ref p0, .int p1, .int p2, .int p3, .null] w I L P = go 216 0 [.ref p0, .int p1, .int p2, .int p3, .null, unk] [] w I L P := rfl
theorem Law_message_E2 (p1 : Int32) (p2 : Int32) (p3 : Int32) (p4 : Nat) (w : Wd) (I : MI) (L : ML) (P : MP) : call 216 [.null, .int p1, .int p2, .int p3, .ref p4] w I L P = go 216 0 [.null, .int p1, .int p2, .int p3, .ref p4, unk] [] w I L P := rfl
theorem Law_message_E3 (p1 : Int32) (p2 : Int32) (p3 : Int32) (w : Wd) (I : MI) (L : ML) (P : MP) : call 216 [.null, .int p1, .int p2, .int p3, .null] w I L P = go 216 0 [.null, .int p1, .int p2, .int p3, .null, unk] [] w I L P := rfl
theorem Law_listener_0_ret (a_l0 : Nat) (x_l1 : Int32) (x_l2 : Int32) (a_l3 : Nat) (l4 : Value) (w : Wd) (I : MI) (L : ML) (P : MP) (v : Option Value) (w1 : Wd) (I1 : MI) (L1 : ML) (P1 : MP) (h0 : w.1 a_l0 = some (6, 0)) (hc : call 92 [.ref a_l0, .int x_l1, .int x_l2] w I L P = some (.inl v, w1, I1, L1, P1)) : go 217 0 [.ref a_l0, .int x_l1, .int x_l2, .ref a_l3, l4] [] w I L P = go 217 8 [.ref a_l0, .int x_l1, .int x_l2, .ref a_l3, l4] (v.toList ++ [.int (nI 0), .ref a_l3]) w1 I1 L1 P1 := by
  refine (go_aload_n (m := 217) (pc := 0) (k := 3) (by decide +kernel) rfl).trans ?_
  refine (go_ic (m := 217) (pc := 1) (n := 0) (by decide +kernel) ic_0).trans ?_
  refine (go_aload_n (m := 217) (pc := 2) (k := 0) (by decide +kernel) rfl).trans ?_
  refine (go_iload_n (m := 217) (pc := 3) (k := 1) (by decide +kernel) rfl).trans ?_
  refine (go_iload_n (m := 217) (pc := 4) (k := 2) (by decide +kernel) rfl).trans ?_
  exact go_virH (m := 217) (pc := 5) (o := 8) (x := 53) (y := 92) (kd := 0) (b := a_l0) (bs := [.int x_l1, .int x_l2]) (rs := [.int (nI 0), .ref a_l3]) (by decide +kernel) rfl c_8_53 (Or.inl rfl) rfl rfl rfl (by decide +kernel) (by simp only [List.length_cons, List.length_nil]; decide) (Nat.le_of_ble_eq_true rfl) h0 hc
theorem Law_listener_0_thr0 (a_l0 : Nat) (x_l1 : Int32) (x_l2 : Int32) (a_l3 : Nat) (l4 : Value) (w : Wd) (I : MI) (L : ML) (P : MP) (w1 : Wd) (I1 : MI) (L1 : ML) (P1 : MP) (h0 : w.1 a_l0 = some (6, 0)) (hc : call 92 [.ref a_l0, .int x_l1, .int x_l2] w I L P = some (.inr 0, w1, I1, L1, P1)) : go 217 0 [.ref a_l0, .int x_l1, .int x_l2, .ref a_l3, l4] [] w I L P = go 217 19 [.ref a_l0, .int x_l1, .int x_l2, .ref a_l3, unk] [] w1 I1 L1 P1 := by
  refine (go_aload_n (m := 217) (pc := 0) (k := 3) (by decide +kernel) rfl).trans ?_
  refine (go_ic (m := 217) (pc := 1) (n := 0) (by decide +kernel) ic_0).trans ?_
  refine (go_aload_n (m := 217) (pc := 2) (k := 0) (by decide +kernel) rfl).trans ?_
  refine (go_iload_n (m := 217) (pc := 3) (k := 1) (by decide +kernel) rfl).trans ?_
  refine (go_iload_n (m := 217) (pc := 4) (k := 2) (by decide +kernel) rfl).trans ?_
  exact go_virT (m := 217) (pc := 5) (e := 0) (pc' := 19) (k := 4) (o := 8) (x := 53) (y := 92) (kd := 0) (b := a_l0) (bs := [.int x_l1, .int x_l2]) (rs := [.int (nI 0), .ref a_l3]) (by decide +kernel) rfl c_8_53 (Or.inl rfl) rfl rfl rfl (by decide +kernel) (by simp only [List.length_cons, List.length_nil]; decide) (Nat.le_of_ble_eq_true rfl) h0 (by decide +kernel) (by decide +kernel) (by simp only [List.length_cons, List.length_nil]; decide) hc
theorem Law_listener_0_thr2 (a_l0 : Nat) (x_l1 : Int32) (x_l2 : Int32) (a_l3 : Nat) (l4 : Value) (w : Wd) (I : MI) (L : ML) (P : MP) (w1 : Wd) (I1 : MI) (L1 : ML) (P1 : MP) (h0 : w.1 a_l0 = some (6, 0)) (hc : call 92 [.ref a_l0, .int x_l1, .int x_l2] w I L P = some (.inr 2, w1, I1, L1, P1)) : go 217 0 [.ref a_l0, .int x_l1, .int x_l2, .ref a_l3, l4] [] w I L P = go 217 15 [.ref a_l0, .int x_l1, .int x_l2, .ref a_l3, unk] [] w1 I1 L1 P1 := by
  refine (go_aload_n (m := 217) (pc := 0) (k := 3) (by decide +kernel) rfl).trans ?_
  refine (go_ic (m := 217) (pc := 1) (n := 0) (by decide +kernel) ic_0).trans ?_
  refine (go_aload_n (m := 217) (pc := 2) (k := 0) (by decide +kernel) rfl).trans ?_
  refine (go_iload_n (m := 217) (pc := 3) (k := 1) (by decide +kernel) rfl).trans ?_
  refine (go_iload_n (m := 217) (pc := 4) (k := 2) (by decide +kernel) rfl).trans ?_
  exact go_virT (m := 217) (pc := 5) (e := 2) (pc' := 15) (k := 4) (o := 8) (x := 53) (y := 92) (kd := 0) (b := a_l0) (bs := [.int x_l1, .int x_l2]) (rs := [.int (nI 0), .ref a_l3]) (by decide +kernel) rfl c_8_53 (Or.inl rfl) rfl rfl rfl (by decide +kernel) (by simp only [List.length_cons, List.length_nil]; decide) (Nat.le_of_ble_eq_true rfl) h0 (by decide +kernel) (by decide +kernel) (by simp only [List.length_cons, List.length_nil]; decide) hc
theorem Law_listener_8 (l0 : Value) (l1 : Value) (l2 : Value) (l3 : Value) (l4 : Value) (a_s0 : Nat) (y1 : Int32) (y2 : Int32) (w : Wd) (I : MI) (L : ML) (P : MP) (h0 : inA w a_s0 9 y1) : go 217 8 [l0, l1, l2, l3, l4] [.int y2, .int y1, .ref a_s0] w I L P = go 217 21 [l0, l1, l2, l3, l4] [] w I (updL L a_s0 (Int32.toNatClampNeg y1) (Int32.toInt64 y2)) P := by
  refine (go_i2l (m := 217) (pc := 8) (by decide +kernel)).trans ?_
  refine (go_last (m := 217) (pc := 9) (by decide +kernel) h0).trans ?_
  refine (go_goto (m := 217) (pc := 10) (off := 11) (t := 21) (by decide +kernel) (by decide)).trans ?_
  rfl
theorem Law_listener_15 (l0 : Value) (l1 : Value) (l2 : Value) (l3 : Value) (l4 : Value) (w : Wd) (I : MI) (L : ML) (P : MP)  : go 217 15 [l0, l1, l2, l3, l4] [] w I L P = some (.inl (some (.int (nI 1))), w, I, L, P) := by
  refine (go_ic (m := 217) (pc := 15) (n := 1) (by decide +kernel) ic_1).trans ?_
  exact go_retI (m := 217) (pc := 16) (by decide +kernel) rfl
theorem Law_listener_19 (l0 : Value) (l1 : Value) (l2 : Value) (l3 : Value) (l4 : Value) (w : Wd) (I : MI) (L : ML) (P : MP)  : go 217 19 [l0, l1, l2, l3, l4] [] w I L P = some (.inl (some (.int (nI 2))), w, I, L, P) := by
  refine (go_ic (m := 217) (pc := 19) (n := 2) (by decide +kernel) ic_2).trans ?_
  exact go_retI (m := 217) (pc := 20) (by decide +kernel) rfl
theorem Law_listener_21 (l0 : Value) (l1 : Value) (l2 : Value) (l3 : Value) (l4 : Value) (w : Wd) (I : MI) (L : ML) (P : MP)  : go 217 21 [l0, l1, l2, l3, l4] [] w I L P = some (.inl (some (.int (nI 0))), w, I, L, P) := by
  refine (go_ic (m := 217) (pc := 21) (n := 0) (by decide +kernel) ic_0).trans ?_
  exact go_retI (m := 217) (pc := 22) (by decide +kernel) rfl
theorem Law_listener_E (p0 : Nat) (p1 : Int32) (p2 : Int32) (p3 : Nat) (w : Wd) (I : MI) (L : ML) (P : MP) : call 217 [.ref p0, .int p1, .int p2, .ref p3] w I L P = go 217 0 [.ref p0, .int p1, .int p2, .ref p3, unk] [] w I L P := rfl
theorem Law_listener_E1 (p0 : Nat) (p1 : Int32) (p2 : Int32) (w : Wd) (I : MI) (L : ML) (P : MP) : call 217 [.ref p0, .int p1, .int p2, .null] w I L P = go 217 0 [.ref p0, .int p1, .int p2, .null, unk] [] w I L P := rfl
theorem Law_listener_E2 (p1 : Int32) (p2 : Int32) (p3 : Nat) (w : Wd) (I : MI) (L : ML) (P : MP) : call 217 [.null, .int p1, .int p2, .ref p3] w I L P = go 217 0 [.null, .int p1, .int p2, .ref p3, unk] [] w I L P := rfl
theorem Law_listener_E3 (p1 : Int32) (p2 : Int32) (w : Wd) (I : MI) (L : ML) (P : MP) : call 217 [.null, .int p1, .int p2, .null] w I L P = go 217 0 [.null, .int p1, .int p2, .null, unk] [] w I L P := rfl
theorem Law_memory_0_ret (a_l0 : Nat) (x_l1 : Int32) (x_l2 : Int32) (a_l3 : Nat) (l4 : Value) (w : Wd) (I : MI) (L : ML) (P : MP) (v : Option Value) (w1 : Wd) (I1 : MI) (L1 : ML) (P1 : MP) (h0 : w.1 a_l0 = some (6, 0)) (hc : call 93 [.ref a_l0, .int x_l1, .int x_l2] w I L P = some (.inl v, w1, I1, L1, P1)) : go 218 0 [.ref a_l0, .int x_l1, .int x_l2, .ref a_l3, l4] [] w I L P = go 218 8 [.ref a_l0, .int x_l1, .int x_l2, .ref a_l3, l4] (v.toList ++ [.int (nI 0), .ref a_l3]) w1 I1 L1 P1 := by
  refine (go_aload_n (m := 218) (pc := 0) (k := 3) (by decide +kernel) rfl).trans ?_
  refine (go_ic (m := 218) (pc := 1) (n := 0) (by decide +kernel) ic_0).trans ?_
  refine (go_aload_n (m := 218) (pc := 2) (k := 0) (by decide +kernel) rfl).trans ?_
  refine (go_iload_n (m := 218) (pc := 3) (k := 1) (by decide +kernel) rfl).trans ?_
  refine (go_iload_n (m := 218) (pc := 4) (k := 2) (by decide +kernel) rfl).trans ?_
  exact go_virH (m := 218) (pc := 5) (o := 8) (x := 56) (y := 93) (kd := 0) (b := a_l0) (bs := [.int x_l1, .int x_l2]) (rs := [.int (nI 0), .ref a_l3]) (by decide +kernel) rfl c_8_56 (Or.inl rfl) rfl rfl rfl (by decide +kernel) (by simp only [List.length_cons, List.length_nil]; decide) (Nat.le_of_ble_eq_true rfl) h0 hc
theorem Law_memory_0_thr2 (a_l0 : Nat) (x_l1 : Int32) (x_l2 : Int32) (a_l3 : Nat) (l4 : Value) (w : Wd) (I : MI) (L : ML) (P : MP) (w1 : Wd) (I1 : MI) (L1 : ML) (P1 : MP) (h0 : w.1 a_l0 = some (6, 0)) (hc : call 93 [.ref a_l0, .int x_l1, .int x_l2] w I L P = some (.inr 2, w1, I1, L1, P1)) : go 218 0 [.ref a_l0, .int x_l1, .int x_l2, .ref a_l3, l4] [] w I L P = go 218 15 [.ref a_l0, .int x_l1, .int x_l2, .ref a_l3, unk] [] w1 I1 L1 P1 := by
  refine (go_aload_n (m := 218) (pc := 0) (k := 3) (by decide +kernel) rfl).trans ?_
  refine (go_ic (m := 218) (pc := 1) (n := 0) (by decide +kernel) ic_0).trans ?_
  refine (go_aload_n (m := 218) (pc := 2) (k := 0) (by decide +kernel) rfl).trans ?_
  refine (go_iload_n (m := 218) (pc := 3) (k := 1) (by decide +kernel) rfl).trans ?_
  refine (go_iload_n (m := 218) (pc := 4) (k := 2) (by decide +kernel) rfl).trans ?_
  exact go_virT (m := 218) (pc := 5) (e := 2) (pc' := 15) (k := 4) (o := 8) (x := 56) (y := 93) (kd := 0) (b := a_l0) (bs := [.int x_l1, .int x_l2]) (rs := [.int (nI 0), .ref a_l3]) (by decide +kernel) rfl c_8_56 (Or.inl rfl) rfl rfl rfl (by decide +kernel) (by simp only [List.length_cons, List.length_nil]; decide) (Nat.le_of_ble_eq_true rfl) h0 (by decide +kernel) (by decide +kernel) (by simp only [List.length_cons, List.length_nil]; decide) hc
theorem Law_memory_8 (l0 : Value) (l1 : Value) (l2 : Value) (l3 : Value) (l4 : Value) (a_s0 : Nat) (y1 : Int32) (y2 : Int32) (w : Wd) (I : MI) (L : ML) (P : MP) (h0 : inA w a_s0 9 y1) : go 218 8 [l0, l1, l2, l3, l4] [.int y2, .int y1, .ref a_s0] w I L P = go 218 17 [l0, l1, l2, l3, l4] [] w I (updL L a_s0 (Int32.toNatClampNeg y1) (Int32.toInt64 y2)) P := by
  refine (go_i2l (m := 218) (pc := 8) (by decide +kernel)).trans ?_
  refine (go_last (m := 218) (pc := 9) (by decide +kernel) h0).trans ?_
  refine (go_goto (m := 218) (pc := 10) (off := 7) (t := 17) (by decide +kernel) (by decide)).trans ?_
  rfl
theorem Law_memory_15 (l0 : Value) (l1 : Value) (l2 : Value) (l3 : Value) (l4 : Value) (w : Wd) (I : MI) (L : ML) (P : MP)  : go 218 15 [l0, l1, l2, l3, l4] [] w I L P = some (.inl (some (.int (nI 1))), w, I, L, P) := by
  refine (go_ic (m := 218) (pc := 15) (n := 1) (by decide +kernel) ic_1).trans ?_
  exact go_retI (m := 218) (pc := 16) (by decide +kernel) rfl
theorem Law_memory_17 (l0 : Value) (l1 : Value) (l2 : Value) (l3 : Value) (l4 : Value) (w : Wd) (I : MI) (L : ML) (P : MP)  : go 218 17 [l0, l1, l2, l3, l4] [] w I L P = some (.inl (some (.int (nI 0))), w, I, L, P) := by
  refine (go_ic (m := 218) (pc := 17) (n := 0) (by decide +kernel) ic_0).trans ?_
  exact go_retI (m := 218) (pc := 18) (by decide +kernel) rfl
theorem Law_memory_E (p0 : Nat) (p1 : Int32) (p2 : Int32) (p3 : Nat) (w : Wd) (I : MI) (L : ML) (P : MP) : call 218 [.ref p0, .int p1, .int p2, .ref p3] w I L P = go 218 0 [.ref p0, .int p1, .int p2, .ref p3, unk] [] w I L P := rfl
theorem Law_memory_E1 (p0 : Nat) (p1 : Int32) (p2 : Int32) (w : Wd) (I : MI) (L : ML) (P : MP) : call 218 [.ref p0, .int p1, .int p2, .null] w I L P = go 218 0 [.ref p0, .int p1, .int p2, .null, unk] [] w I L P := rfl
theorem Law_memory_E2 (p1 : Int32) (p2 : Int32) (p3 : Nat) (w : Wd) (I : MI) (L : ML) (P : MP) : call 218 [.null, .int p1, .int p2, .ref p3] w I L P = go 218 0 [.null, .int p1, .int p2, .ref p3, unk] [] w I L P := rfl
theorem Law_memory_E3 (p1 : Int32) (p2 : Int32) (w : Wd) (I : MI) (L : ML) (P : MP) : call 218 [.null, .int p1, .int p2, .null] w I L P = go 218 0 [.null, .int p1, .int p2, .null, unk] [] w I L P := rfl
theorem Law_value_0_ret (a_l0 : Nat) (x_l1 : Int32) (a_l2 : Nat) (l3 : Value) (w : Wd) (I : MI) (L : ML) (P : MP) (v : Option Value) (w1 : Wd) (I1 : MI) (L1 : ML) (P1 : MP) (h0 : w.1 a_l0 = some (6, 0)) (hc : call 94 [.ref a_l0, .int x_l1] w I L P = some (.inl v, w1, I1, L1, P1)) : go 219 0 [.ref a_l0, .int x_l1, .ref a_l2, l3] [] w I L P = go 219 7 [.ref a_l0, .int x_l1, .ref a_l2, l3] (v.toList ++ [.int (nI 0), .ref a_l2]) w1 I1 L1 P1 := by
  refine (go_aload_n (m := 219) (pc := 0) (k := 2) (by decide +kernel) rfl).trans ?_
  refine (go_ic (m := 219) (pc := 1) (n := 0) (by decide +kernel) ic_0).trans ?_
  refine (go_aload_n (m := 219) (pc := 2) (k := 0) (by decide +kernel) rfl).trans ?_
  refine (go_iload_n (m := 219) (pc := 3) (k := 1) (by decide +kernel) rfl).trans ?_
  exact go_virH (m := 219) (pc := 4) (o := 8) (x := 59) (y := 94) (kd := 0) (b := a_l0) (bs := [.int x_l1]) (rs := [.int (nI 0), .ref a_l2]) (by decide +kernel) rfl c_8_59 (Or.inl rfl) rfl rfl rfl (by decide +kernel) (by simp only [List.length_cons, List.length_nil]; decide) (Nat.le_of_ble_eq_true rfl) h0 hc
theorem Law_value_0_thr0 (a_l0 : Nat) (x_l1 : Int32) (a_l2 : Nat) (l3 : Value) (w : Wd) (I : MI) (L : ML) (P : MP) (w1 : Wd) (I1 : MI) (L1 : ML) (P1 : MP) (h0 : w.1 a_l0 = some (6, 0)) (hc : call 94 [.ref a_l0, .int x_l1] w I L P = some (.inr 0, w1, I1, L1, P1)) : go 219 0 [.ref a_l0, .int x_l1, .ref a_l2, l3] [] w I L P = go 219 13 [.ref a_l0, .int x_l1, .ref a_l2, unk] [] w1 I1 L1 P1 := by
  refine (go_aload_n (m := 219) (pc := 0) (k := 2) (by decide +kernel) rfl).trans ?_
  refine (go_ic (m := 219) (pc := 1) (n := 0) (by decide +kernel) ic_0).trans ?_
  refine (go_aload_n (m := 219) (pc := 2) (k := 0) (by decide +kernel) rfl).trans ?_
  refine (go_iload_n (m := 219) (pc := 3) (k := 1) (by decide +kernel) rfl).trans ?_
  exact go_virT (m := 219) (pc := 4) (e := 0) (pc' := 13) (k := 3) (o := 8) (x := 59) (y := 94) (kd := 0) (b := a_l0) (bs := [.int x_l1]) (rs := [.int (nI 0), .ref a_l2]) (by decide +kernel) rfl c_8_59 (Or.inl rfl) rfl rfl rfl (by decide +kernel) (by simp only [List.length_cons, List.length_nil]; decide) (Nat.le_of_ble_eq_true rfl) h0 (by decide +kernel) (by decide +kernel) (by simp only [List.length_cons, List.length_nil]; decide) hc
theorem Law_value_7 (l0 : Value) (l1 : Value) (l2 : Value) (l3 : Value) (a_s0 : Nat) (y1 : Int32) (y2 : Int32) (w : Wd) (I : MI) (L : ML) (P : MP) (h0 : inA w a_s0 9 y1) : go 219 7 [l0, l1, l2, l3] [.int y2, .int y1, .ref a_s0] w I L P = go 219 15 [l0, l1, l2, l3] [] w I (updL L a_s0 (Int32.toNatClampNeg y1) (Int32.toInt64 y2)) P := by
  refine (go_i2l (m := 219) (pc := 7) (by decide +kernel)).trans ?_
  refine (go_last (m := 219) (pc := 8) (by decide +kernel) h0).trans ?_
  refine (go_goto (m := 219) (pc := 9) (off := 6) (t := 15) (by decide +kernel) (by decide)).trans ?_
  rfl
theorem Law_value_13 (l0 : Value) (l1 : Value) (l2 : Value) (l3 : Value) (w : Wd) (I : MI) (L : ML) (P : MP)  : go 219 13 [l0, l1, l2, l3] [] w I L P = some (.inl (some (.int (nI 1))), w, I, L, P) := by
  refine (go_ic (m := 219) (pc := 13) (n := 1) (by decide +kernel) ic_1).trans ?_
  exact go_retI (m := 219) (pc := 14) (by decide +kernel) rfl
theorem Law_value_15 (l0 : Value) (l1 : Value) (l2 : Value) (l3 : Value) (w : Wd) (I : MI) (L : ML) (P : MP)  : go 219 15 [l0, l1, l2, l3] [] w I L P = some (.inl (some (.int (nI 0))), w, I, L, P) := by
  refine (go_ic (m := 219) (pc := 15) (n := 0) (by decide +kernel) ic_0).trans ?_
  exact go_retI (m := 219) (pc := 16) (by decide +kernel) rfl
theorem Law_value_E (p0 : Nat) (p1 : Int32) (p2 : Nat) (w : Wd) (I : MI) (L : ML) (P : MP) : call 219 [.ref p0, .int p1, .ref p2] w I L P = go 219 0 [.ref p0, .int p1, .ref p2, unk] [] w I L P := rfl
theorem Law_value_E1 (p0 : Nat) (p1 : Int32) (w : Wd) (I : MI) (L : ML) (P : MP) : call 219 [.ref p0, .int p1, .null] w I L P = go 219 0 [.ref p0, .int p1, .null, unk] [] w I L P := rfl
theorem Law_value_E2 (p1 : Int32) (p2 : Nat) (w : Wd) (I : MI) (L : ML) (P : MP) : call 219 [.null, .int p1, .ref p2] w I L P = go 219 0 [.null, .int p1, .ref p2, unk] [] w I L P := rfl
theorem Law_value_E3 (p1 : Int32) (w : Wd) (I : MI) (L : ML) (P : MP) : call 219 [.null, .int p1, .null] w I L P = go 219 0 [.null, .int p1, .null, unk] [] w I L P := rfl
theorem Law_log_0_ret (a_l0 : Nat) (x_l1 : Int32) (x_l2 : Int32) (a_l3 : Nat) (l4 : Value) (w : Wd) (I : MI) (L : ML) (P : MP) (v : Option Value) (w1 : Wd) (I1 : MI) (L1 : ML) (P1 : MP) (h0 : w.1 a_l0 = some (6, 0)) (hc : call 95 [.ref a_l0, .int x_l1, .int x_l2] w I L P = some (.inl v, w1, I1, L1, P1)) : go 220 0 [.ref a_l0, .int x_l1, .int x_l2, .ref a_l3, l4] [] w I L P = go 220 8 [.ref a_l0, .int x_l1, .int x_l2, .ref a_l3, l4] (v.toList ++ [.int (nI 0), .ref a_l3]) w1 I1 L1 P1 := by
  refine (go_aload_n (m := 220) (pc := 0) (k := 3) (by decide +kernel) rfl).trans ?_
  refine (go_ic (m := 220) (pc := 1) (n := 0) (by decide +kernel) ic_0).trans ?_
  refine (go_aload_n (m := 220) (pc := 2) (k := 0) (by decide +kernel) rfl).trans ?_
  refine (go_iload_n (m := 220) (pc := 3) (k := 1) (by decide +kernel) rfl).trans ?_
  refine (go_iload_n (m := 220) (pc := 4) (k := 2) (by decide +kernel) rfl).trans ?_
  exact go_virH (m := 220) (pc := 5) (o := 8) (x := 62) (y := 95) (kd := 0) (b := a_l0) (bs := [.int x_l1, .int x_l2]) (rs := [.int (nI 0), .ref a_l3]) (by decide +kernel) rfl c_8_62 (Or.inl rfl) rfl rfl rfl (by decide +kernel) (by simp only [List.length_cons, List.length_nil]; decide) (Nat.le_of_ble_eq_true rfl) h0 hc
theorem Law_log_0_thr0 (a_l0 : Nat) (x_l1 : Int32) (x_l2 : Int32) (a_l3 : Nat) (l4 : Value) (w : Wd) (I : MI) (L : ML) (P : MP) (w1 : Wd) (I1 : MI) (L1 : ML) (P1 : MP) (h0 : w.1 a_l0 = some (6, 0)) (hc : call 95 [.ref a_l0, .int x_l1, .int x_l2] w I L P = some (.inr 0, w1, I1, L1, P1)) : go 220 0 [.ref a_l0, .int x_l1, .int x_l2, .ref a_l3, l4] [] w I L P = go 220 19 [.ref a_l0, .int x_l1, .int x_l2, .ref a_l3, unk] [] w1 I1 L1 P1 := by
  refine (go_aload_n (m := 220) (pc := 0) (k := 3) (by decide +kernel) rfl).trans ?_
  refine (go_ic (m := 220) (pc := 1) (n := 0) (by decide +kernel) ic_0).trans ?_
  refine (go_aload_n (m := 220) (pc := 2) (k := 0) (by decide +kernel) rfl).trans ?_
  refine (go_iload_n (m := 220) (pc := 3) (k := 1) (by decide +kernel) rfl).trans ?_
  refine (go_iload_n (m := 220) (pc := 4) (k := 2) (by decide +kernel) rfl).trans ?_
  exact go_virT (m := 220) (pc := 5) (e := 0) (pc' := 19) (k := 4) (o := 8) (x := 62) (y := 95) (kd := 0) (b := a_l0) (bs := [.int x_l1, .int x_l2]) (rs := [.int (nI 0), .ref a_l3]) (by decide +kernel) rfl c_8_62 (Or.inl rfl) rfl rfl rfl (by decide +kernel) (by simp only [List.length_cons, List.length_nil]; decide) (Nat.le_of_ble_eq_true rfl) h0 (by decide +kernel) (by decide +kernel) (by simp only [List.length_cons, List.length_nil]; decide) hc
theorem Law_log_0_thr2 (a_l0 : Nat) (x_l1 : Int32) (x_l2 : Int32) (a_l3 : Nat) (l4 : Value) (w : Wd) (I : MI) (L : ML) (P : MP) (w1 : Wd) (I1 : MI) (L1 : ML) (P1 : MP) (h0 : w.1 a_l0 = some (6, 0)) (hc : call 95 [.ref a_l0, .int x_l1, .int x_l2] w I L P = some (.inr 2, w1, I1, L1, P1)) : go 220 0 [.ref a_l0, .int x_l1, .int x_l2, .ref a_l3, l4] [] w I L P = go 220 15 [.ref a_l0, .int x_l1, .int x_l2, .ref a_l3, unk] [] w1 I1 L1 P1 := by
  refine (go_aload_n (m := 220) (pc := 0) (k := 3) (by decide +kernel) rfl).trans ?_
  refine (go_ic (m := 220) (pc := 1) (n := 0) (by decide +kernel) ic_0).trans ?_
  refine (go_aload_n (m := 220) (pc := 2) (k := 0) (by decide +kernel) rfl).trans ?_
  refine (go_iload_n (m := 220) (pc := 3) (k := 1) (by decide +kernel) rfl).trans ?_
  refine (go_iload_n (m := 220) (pc := 4) (k := 2) (by decide +kernel) rfl).trans ?_
  exact go_virT (m := 220) (pc := 5) (e := 2) (pc' := 15) (k := 4) (o := 8) (x := 62) (y := 95) (kd := 0) (b := a_l0) (bs := [.int x_l1, .int x_l2]) (rs := [.int (nI 0), .ref a_l3]) (by decide +kernel) rfl c_8_62 (Or.inl rfl) rfl rfl rfl (by decide +kernel) (by simp only [List.length_cons, List.length_nil]; decide) (Nat.le_of_ble_eq_true rfl) h0 (by decide +kernel) (by decide +kernel) (by simp only [List.length_cons, List.length_nil]; decide) hc
theorem Law_log_8 (l0 : Value) (l1 : Value) (l2 : Value) (l3 : Value) (l4 : Value) (a_s0 : Nat) (y1 : Int32) (y2 : Int32) (w : Wd) (I : MI) (L : ML) (P : MP) (h0 : inA w a_s0 9 y1) : go 220 8 [l0, l1, l2, l3, l4] [.int y2, .int y1, .ref a_s0] w I L P = go 220 21 [l0, l1, l2, l3, l4] [] w I (updL L a_s0 (Int32.toNatClampNeg y1) (Int32.toInt64 y2)) P := by
  refine (go_i2l (m := 220) (pc := 8) (by decide +kernel)).trans ?_
  refine (go_last (m := 220) (pc := 9) (by decide +kernel) h0).trans ?_
  refine (go_goto (m := 220) (pc := 10) (off := 11) (t := 21) (by decide +kernel) (by decide)).trans ?_
  rfl
theorem Law_log_15 (l0 : Value) (l1 : Value) (l2 : Value) (l3 : Value) (l4 : Value) (w : Wd) (I : MI) (L : ML) (P : MP)  : go 220 15 [l0, l1, l2, l3, l4] [] w I L P = some (.inl (some (.int (nI 1))), w, I, L, P) := by
  refine (go_ic (m := 220) (pc := 15) (n := 1) (by decide +kernel) ic_1).trans ?_
  exact go_retI (m := 220) (pc := 16) (by decide +kernel) rfl
theorem Law_log_19 (l0 : Value) (l1 : Value) (l2 : Value) (l3 : Value) (l4 : Value) (w : Wd) (I : MI) (L : ML) (P : MP)  : go 220 19 [l0, l1, l2, l3, l4] [] w I L P = some (.inl (some (.int (nI 2))), w, I, L, P) := by
  refine (go_ic (m := 220) (pc := 19) (n := 2) (by decide +kernel) ic_2).trans ?_
  exact go_retI (m := 220) (pc := 20) (by decide +kernel) rfl
theorem Law_log_21 (l0 : Value) (l1 : Value) (l2 : Value) (l3 : Value) (l4 : Value) (w : Wd) (I : MI) (L : ML) (P : MP)  : go 220 21 [l0, l1, l2, l3, l4] [] w I L P = some (.inl (some (.int (nI 0))), w, I, L, P) := by
  refine (go_ic (m := 220) (pc := 21) (n := 0) (by decide +kernel) ic_0).trans ?_
  exact go_retI (m := 220) (pc := 22) (by decide +kernel) rfl
theorem Law_log_E (p0 : Nat) (p1 : Int32) (p2 : Int32) (p3 : Nat) (w : Wd) (I : MI) (L : ML) (P : MP) : call 220 [.ref p0, .int p1, .int p2, .ref p3] w I L P = go 220 0 [.ref p0, .int p1, .int p2, .ref p3, unk] [] w I L P := rfl
theorem Law_log_E1 (p0 : Nat) (p1 : Int32) (p2 : Int32) (w : Wd) (I : MI) (L : ML) (P : MP) : call 220 [.ref p0, .int p1, .int p2, .null] w I L P = go 220 0 [.ref p0, .int p1, .int p2, .null, unk] [] w I L P := rfl
theorem Law_log_E2 (p1 : Int32) (p2 : Int32) (p3 : Nat) (w : Wd) (I : MI) (L : ML) (P : MP) : call 220 [.null, .int p1, .int p2, .ref p3] w I L P = go 220 0 [.null, .int p1, .int p2, .ref p3, unk] [] w I L P := rfl
theorem Law_log_E3 (p1 : Int32) (p2 : Int32) (w : Wd) (I : MI) (L : ML) (P : MP) : call 220 [.null, .int p1, .int p2, .null] w I L P = go 220 0 [.null, .int p1, .int p2, .null, unk] [] w I L P := rfl
theorem Law_alone_0_ret (a_l0 : Nat) (x_l1 : Int32) (a_l2 : Nat) (l3 : Value) (w : Wd) (I : MI) (L : ML) (P : MP) (v : Option Value) (w1 : Wd) (I1 : MI) (L1 : ML) (P1 : MP) (h0 : w.1 a_l0 = some (6, 0)) (hc : call 97 [.ref a_l0, .int x_l1] w I L P = some (.inl v, w1, I1, L1, P1)) : go 221 0 [.ref a_l0, .int x_l1, .ref a_l2, l3] [] w I L P = go 221 7 [.ref a_l0, .int x_l1, .ref a_l2, l3] (v.toList ++ [.int (nI 0), .ref a_l2]) w1 I1 L1 P1 := by
  refine (go_aload_n (m := 221) (pc := 0) (k := 2) (by decide +kernel) rfl).trans ?_
  refine (go_ic (m := 221) (pc := 1) (n := 0) (by decide +kernel) ic_0).trans ?_
  refine (go_aload_n (m := 221) (pc := 2) (k := 0) (by decide +kernel) rfl).trans ?_
  refine (go_iload_n (m := 221) (pc := 3) (k := 1) (by decide +kernel) rfl).trans ?_
  exact go_virH (m := 221) (pc := 4) (o := 8) (x := 65) (y := 97) (kd := 0) (b := a_l0) (bs := [.int x_l1]) (rs := [.int (nI 0), .ref a_l2]) (by decide +kernel) rfl c_8_65 (Or.inl rfl) rfl rfl rfl (by decide +kernel) (by simp only [List.length_cons, List.length_nil]; decide) (Nat.le_of_ble_eq_true rfl) h0 hc
theorem Law_alone_0_thr2 (a_l0 : Nat) (x_l1 : Int32) (a_l2 : Nat) (l3 : Value) (w : Wd) (I : MI) (L : ML) (P : MP) (w1 : Wd) (I1 : MI) (L1 : ML) (P1 : MP) (h0 : w.1 a_l0 = some (6, 0)) (hc : call 97 [.ref a_l0, .int x_l1] w I L P = some (.inr 2, w1, I1, L1, P1)) : go 221 0 [.ref a_l0, .int x_l1, .ref a_l2, l3] [] w I L P = go 221 13 [.ref a_l0, .int x_l1, .ref a_l2, unk] [] w1 I1 L1 P1 := by
  refine (go_aload_n (m := 221) (pc := 0) (k := 2) (by decide +kernel) rfl).trans ?_
  refine (go_ic (m := 221) (pc := 1) (n := 0) (by decide +kernel) ic_0).trans ?_
  refine (go_aload_n (m := 221) (pc := 2) (k := 0) (by decide +kernel) rfl).trans ?_
  refine (go_iload_n (m := 221) (pc := 3) (k := 1) (by decide +kernel) rfl).trans ?_
  exact go_virT (m := 221) (pc := 4) (e := 2) (pc' := 13) (k := 3) (o := 8) (x := 65) (y := 97) (kd := 0) (b := a_l0) (bs := [.int x_l1]) (rs := [.int (nI 0), .ref a_l2]) (by decide +kernel) rfl c_8_65 (Or.inl rfl) rfl rfl rfl (by decide +kernel) (by simp only [List.length_cons, List.length_nil]; decide) (Nat.le_of_ble_eq_true rfl) h0 (by decide +kernel) (by decide +kernel) (by simp only [List.length_cons, List.length_nil]; decide) hc
theorem Law_alone_7 (l0 : Value) (l1 : Value) (l2 : Value) (l3 : Value) (a_s0 : Nat) (y1 : Int32) (y2 : Int32) (w : Wd) (I : MI) (L : ML) (P : MP) (h0 : inA w a_s0 9 y1) : go 221 7 [l0, l1, l2, l3] [.int y2, .int y1, .ref a_s0] w I L P = go 221 15 [l0, l1, l2, l3] [] w I (updL L a_s0 (Int32.toNatClampNeg y1) (Int32.toInt64 y2)) P := by
  refine (go_i2l (m := 221) (pc := 7) (by decide +kernel)).trans ?_
  refine (go_last (m := 221) (pc := 8) (by decide +kernel) h0).trans ?_
  refine (go_goto (m := 221) (pc := 9) (off := 6) (t := 15) (by decide +kernel) (by decide)).trans ?_
  rfl
theorem Law_alone_13 (l0 : Value) (l1 : Value) (l2 : Value) (l3 : Value) (w : Wd) (I : MI) (L : ML) (P : MP)  : go 221 13 [l0, l1, l2, l3] [] w I L P = some (.inl (some (.int (nI 1))), w, I, L, P) := by
  refine (go_ic (m := 221) (pc := 13) (n := 1) (by decide +kernel) ic_1).trans ?_
  exact go_retI (m := 221) (pc := 14) (by decide +kernel) rfl
theorem Law_alone_15 (l0 : Value) (l1 : Value) (l2 : Value) (l3 : Value) (w : Wd) (I : MI) (L : ML) (P : MP)  : go 221 15 [l0, l1, l2, l3] [] w I L P = some (.inl (some (.int (nI 0))), w, I, L, P) := by
  refine (go_ic (m := 221) (pc := 15) (n := 0) (by decide +kernel) ic_0).trans ?_
  exact go_retI (m := 221) (pc := 16) (by decide +kernel) rfl
theorem Law_alone_E (p0 : Nat) (p1 : Int32) (p2 : Nat) (w : Wd) (I : MI) (L : ML) (P : MP) : call 221 [.ref p0, .int p1, .ref p2] w I L P = go 221 0 [.ref p0, .int p1, .ref p2, unk] [] w I L P := rfl
theorem Law_alone_E1 (p0 : Nat) (p1 : Int32) (w : Wd) (I : MI) (L : ML) (P : MP) : call 221 [.ref p0, .int p1, .null] w I L P = go 221 0 [.ref p0, .int p1, .null, unk] [] w I L P := rfl
theorem Law_alone_E2 (p1 : Int32) (p2 : Nat) (w : Wd) (I : MI) (L : ML) (P : MP) : call 221 [.null, .int p1, .ref p2] w I L P = go 221 0 [.null, .int p1, .ref p2, unk] [] w I L P := rfl
theorem Law_alone_E3 (p1 : Int32) (w : Wd) (I : MI) (L : ML) (P : MP) : call 221 [.null, .int p1, .null] w I L P = go 221 0 [.null, .int p1, .null, unk] [] w I L P := rfl
theorem Law_delivers_0_ret (a_l0 : Nat) (x_l1 : Int32) (a_l2 : Nat) (l3 : Value) (w : Wd) (I : MI) (L : ML) (P : MP) (v : Option Value) (w1 : Wd) (I1 : MI) (L1 : ML) (P1 : MP) (h0 : w.1 a_l0 = some (6, 0)) (hc : call 99 [.ref a_l0, .int x_l1] w I L P = some (.inl v, w1, I1, L1, P1)) : go 222 0 [.ref a_l0, .int x_l1, .ref a_l2, l3] [] w I L P = go 222 7 [.ref a_l0, .int x_l1, .ref a_l2, l3] (v.toList ++ [.int (nI 0), .ref a_l2]) w1 I1 L1 P1 := by
  refine (go_aload_n (m := 222) (pc := 0) (k := 2) (by decide +kernel) rfl).trans ?_
  refine (go_ic (m := 222) (pc := 1) (n := 0) (by decide +kernel) ic_0).trans ?_
  refine (go_aload_n (m := 222) (pc := 2) (k := 0) (by decide +kernel) rfl).trans ?_
  refine (go_iload_n (m := 222) (pc := 3) (k := 1) (by decide +kernel) rfl).trans ?_
  exact go_virH (m := 222) (pc := 4) (o := 8) (x := 68) (y := 99) (kd := 0) (b := a_l0) (bs := [.int x_l1]) (rs := [.int (nI 0), .ref a_l2]) (by decide +kernel) rfl c_8_68 (Or.inl rfl) rfl rfl rfl (by decide +kernel) (by simp only [List.length_cons, List.length_nil]; decide) (Nat.le_of_ble_eq_true rfl) h0 hc
theorem Law_delivers_0_thr2 (a_l0 : Nat) (x_l1 : Int32) (a_l2 : Nat) (l3 : Value) (w : Wd) (I : MI) (L : ML) (P : MP) (w1 : Wd) (I1 : MI) (L1 : ML) (P1 : MP) (h0 : w.1 a_l0 = some (6, 0)) (hc : call 99 [.ref a_l0, .int x_l1] w I L P = some (.inr 2, w1, I1, L1, P1)) : go 222 0 [.ref a_l0, .int x_l1, .ref a_l2, l3] [] w I L P = go 222 13 [.ref a_l0, .int x_l1, .ref a_l2, unk] [] w1 I1 L1 P1 := by
  refine (go_aload_n (m := 222) (pc := 0) (k := 2) (by decide +kernel) rfl).trans ?_
  refine (go_ic (m := 222) (pc := 1) (n := 0) (by decide +kernel) ic_0).trans ?_
  refine (go_aload_n (m := 222) (pc := 2) (k := 0) (by decide +kernel) rfl).trans ?_
  refine (go_iload_n (m := 222) (pc := 3) (k := 1) (by decide +kernel) rfl).trans ?_
  exact go_virT (m := 222) (pc := 4) (e := 2) (pc' := 13) (k := 3) (o := 8) (x := 68) (y := 99) (kd := 0) (b := a_l0) (bs := [.int x_l1]) (rs := [.int (nI 0), .ref a_l2]) (by decide +kernel) rfl c_8_68 (Or.inl rfl) rfl rfl rfl (by decide +kernel) (by simp only [List.length_cons, List.length_nil]; decide) (Nat.le_of_ble_eq_true rfl) h0 (by decide +kernel) (by decide +kernel) (by simp only [List.length_cons, List.length_nil]; decide) hc
theorem Law_delivers_7 (l0 : Value) (l1 : Value) (l2 : Value) (l3 : Value) (a_s0 : Nat) (y1 : Int32) (y2 : Int32) (w : Wd) (I : MI) (L : ML) (P : MP) (h0 : inA w a_s0 9 y1) : go 222 7 [l0, l1, l2, l3] [.int y2, .int y1, .ref a_s0] w I L P = go 222 15 [l0, l1, l2, l3] [] w I (updL L a_s0 (Int32.toNatClampNeg y1) (Int32.toInt64 y2)) P := by
  refine (go_i2l (m := 222) (pc := 7) (by decide +kernel)).trans ?_
  refine (go_last (m := 222) (pc := 8) (by decide +kernel) h0).trans ?_
  refine (go_goto (m := 222) (pc := 9) (off := 6) (t := 15) (by decide +kernel) (by decide)).trans ?_
  rfl
theorem Law_delivers_13 (l0 : Value) (l1 : Value) (l2 : Value) (l3 : Value) (w : Wd) (I : MI) (L : ML) (P : MP)  : go 222 13 [l0, l1, l2, l3] [] w I L P = some (.inl (some (.int (nI 1))), w, I, L, P) := by
  refine (go_ic (m := 222) (pc := 13) (n := 1) (by decide +kernel) ic_1).trans ?_
  exact go_retI (m := 222) (pc := 14) (by decide +kernel) rfl
theorem Law_delivers_15 (l0 : Value) (l1 : Value) (l2 : Value) (l3 : Value) (w : Wd) (I : MI) (L : ML) (P : MP)  : go 222 15 [l0, l1, l2, l3] [] w I L P = some (.inl (some (.int (nI 0))), w, I, L, P) := by
  refine (go_ic (m := 222) (pc := 15) (n := 0) (by decide +kernel) ic_0).trans ?_
  exact go_retI (m := 222) (pc := 16) (by decide +kernel) rfl
theorem Law_delivers_E (p0 : Nat) (p1 : Int32) (p2 : Nat) (w : Wd) (I : MI) (L : ML) (P : MP) : call 222 [.ref p0, .int p1, .ref p2] w I L P = go 222 0 [.ref p0, .int p1, .ref p2, unk] [] w I L P := rfl
theorem Law_delivers_E1 (p0 : Nat) (p1 : Int32) (w : Wd) (I : MI) (L : ML) (P : MP) : call 222 [.ref p0, .int p1, .null] w I L P = go 222 0 [.ref p0, .int p1, .null, unk] [] w I L P := rfl
theorem Law_delivers_E2 (p1 : Int32) (p2 : Nat) (w : Wd) (I : MI) (L : ML) (P : MP) : call 222 [.null, .int p1, .ref p2] w I L P = go 222 0 [.null, .int p1, .ref p2, unk] [] w I L P := rfl
theorem Law_delivers_E3 (p1 : Int32) (w : Wd) (I : MI) (L : ML) (P : MP) : call 222 [.null, .int p1, .null] w I L P = go 222 0 [.null, .int p1, .null, unk] [] w I L P := rfl
theorem Law_append_0_ret (a_l0 : Nat) (x_l1 : Int32) (a_l2 : Nat) (l3 : Value) (w : Wd) (I : MI) (L : ML) (P : MP) (v : Option Value) (w1 : Wd) (I1 : MI) (L1 : ML) (P1 : MP) (h0 : w.1 a_l0 = some (6, 0)) (hc : call 101 [.ref a_l0, .int x_l1] w I L P = some (.inl v, w1, I1, L1, P1)) : go 223 0 [.ref a_l0, .int x_l1, .ref a_l2, l3] [] w I L P = go 223 7 [.ref a_l0, .int x_l1, .ref a_l2, l3] (v.toList ++ [.int (nI 0), .ref a_l2]) w1 I1 L1 P1 := by
  refine (go_aload_n (m := 223) (pc := 0) (k := 2) (by decide +kernel) rfl).trans ?_
  refine (go_ic (m := 223) (pc := 1) (n := 0) (by decide +kernel) ic_0).trans ?_
  refine (go_aload_n (m := 223) (pc := 2) (k := 0) (by decide +kernel) rfl).trans ?_
  refine (go_iload_n (m := 223) (pc := 3) (k := 1) (by decide +kernel) rfl).trans ?_
  exact go_virH (m := 223) (pc := 4) (o := 8) (x := 71) (y := 101) (kd := 0) (b := a_l0) (bs := [.int x_l1]) (rs := [.int (nI 0), .ref a_l2]) (by decide +kernel) rfl c_8_71 (Or.inl rfl) rfl rfl rfl (by decide +kernel) (by simp only [List.length_cons, List.length_nil]; decide) (Nat.le_of_ble_eq_true rfl) h0 hc
theorem Law_append_0_thr0 (a_l0 : Nat) (x_l1 : Int32) (a_l2 : Nat) (l3 : Value) (w : Wd) (I : MI) (L : ML) (P : MP) (w1 : Wd) (I1 : MI) (L1 : ML) (P1 : MP) (h0 : w.1 a_l0 = some (6, 0)) (hc : call 101 [.ref a_l0, .int x_l1] w I L P = some (.inr 0, w1, I1, L1, P1)) : go 223 0 [.ref a_l0, .int x_l1, .ref a_l2, l3] [] w I L P = go 223 13 [.ref a_l0, .int x_l1, .ref a_l2, unk] [] w1 I1 L1 P1 := by
  refine (go_aload_n (m := 223) (pc := 0) (k := 2) (by decide +kernel) rfl).trans ?_
  refine (go_ic (m := 223) (pc := 1) (n := 0) (by decide +kernel) ic_0).trans ?_
  refine (go_aload_n (m := 223) (pc := 2) (k := 0) (by decide +kernel) rfl).trans ?_
  refine (go_iload_n (m := 223) (pc := 3) (k := 1) (by decide +kernel) rfl).trans ?_
  exact go_virT (m := 223) (pc := 4) (e := 0) (pc' := 13) (k := 3) (o := 8) (x := 71) (y := 101) (kd := 0) (b := a_l0) (bs := [.int x_l1]) (rs := [.int (nI 0), .ref a_l2]) (by decide +kernel) rfl c_8_71 (Or.inl rfl) rfl rfl rfl (by decide +kernel) (by simp only [List.length_cons, List.length_nil]; decide) (Nat.le_of_ble_eq_true rfl) h0 (by decide +kernel) (by decide +kernel) (by simp only [List.length_cons, List.length_nil]; decide) hc
theorem Law_append_0_thr1 (a_l0 : Nat) (x_l1 : Int32) (a_l2 : Nat) (l3 : Value) (w : Wd) (I : MI) (L : ML) (P : MP) (w1 : Wd) (I1 : MI) (L1 : ML) (P1 : MP) (h0 : w.1 a_l0 = some (6, 0)) (hc : call 101 [.ref a_l0, .int x_l1] w I L P = some (.inr 1, w1, I1, L1, P1)) : go 223 0 [.ref a_l0, .int x_l1, .ref a_l2, l3] [] w I L P = go 223 16 [.ref a_l0, .int x_l1, .ref a_l2, unk] [] w1 I1 L1 P1 := by
  refine (go_aload_n (m := 223) (pc := 0) (k := 2) (by decide +kernel) rfl).trans ?_
  refine (go_ic (m := 223) (pc := 1) (n := 0) (by decide +kernel) ic_0).trans ?_
  refine (go_aload_n (m := 223) (pc := 2) (k := 0) (by decide +kernel) rfl).trans ?_
  refine (go_iload_n (m := 223) (pc := 3) (k := 1) (by decide +kernel) rfl).trans ?_
  exact go_virT (m := 223) (pc := 4) (e := 1) (pc' := 16) (k := 3) (o := 8) (x := 71) (y := 101) (kd := 0) (b := a_l0) (bs := [.int x_l1]) (rs := [.int (nI 0), .ref a_l2]) (by decide +kernel) rfl c_8_71 (Or.inl rfl) rfl rfl rfl (by decide +kernel) (by simp only [List.length_cons, List.length_nil]; decide) (Nat.le_of_ble_eq_true rfl) h0 (by decide +kernel) (by decide +kernel) (by simp only [List.length_cons, List.length_nil]; decide) hc
theorem Law_append_7 (l0 : Value) (l1 : Value) (l2 : Value) (l3 : Value) (a_s0 : Nat) (y1 : Int32) (y2 : Int32) (w : Wd) (I : MI) (L : ML) (P : MP) (h0 : inA w a_s0 9 y1) : go 223 7 [l0, l1, l2, l3] [.int y2, .int y1, .ref a_s0] w I L P = go 223 18 [l0, l1, l2, l3] [] w I (updL L a_s0 (Int32.toNatClampNeg y1) (Int32.toInt64 y2)) P := by
  refine (go_i2l (m := 223) (pc := 7) (by decide +kernel)).trans ?_
  refine (go_last (m := 223) (pc := 8) (by decide +kernel) h0).trans ?_
  refine (go_goto (m := 223) (pc := 9) (off := 9) (t := 18) (by decide +kernel) (by decide)).trans ?_
  rfl
theorem Law_append_13 (l0 : Value) (l1 : Value) (l2 : Value) (l3 : Value) (w : Wd) (I : MI) (L : ML) (P : MP)  : go 223 13 [l0, l1, l2, l3] [] w I L P = some (.inl (some (.int (nI 1))), w, I, L, P) := by
  refine (go_ic (m := 223) (pc := 13) (n := 1) (by decide +kernel) ic_1).trans ?_
  exact go_retI (m := 223) (pc := 14) (by decide +kernel) rfl
theorem Law_append_16 (l0 : Value) (l1 : Value) (l2 : Value) (l3 : Value) (w : Wd) (I : MI) (L : ML) (P : MP)  : go 223 16 [l0, l1, l2, l3] [] w I L P = some (.inl (some (.int (nI 2))), w, I, L, P) := by
  refine (go_ic (m := 223) (pc := 16) (n := 2) (by decide +kernel) ic_2).trans ?_
  exact go_retI (m := 223) (pc := 17) (by decide +kernel) rfl
theorem Law_append_18 (l0 : Value) (l1 : Value) (l2 : Value) (l3 : Value) (w : Wd) (I : MI) (L : ML) (P : MP)  : go 223 18 [l0, l1, l2, l3] [] w I L P = some (.inl (some (.int (nI 0))), w, I, L, P) := by
  refine (go_ic (m := 223) (pc := 18) (n := 0) (by decide +kernel) ic_0).trans ?_
  exact go_retI (m := 223) (pc := 19) (by decide +kernel) rfl
theorem Law_append_E (p0 : Nat) (p1 : Int32) (p2 : Nat) (w : Wd) (I : MI) (L : ML) (P : MP) : call 223 [.ref p0, .int p1, .ref p2] w I L P = go 223 0 [.ref p0, .int p1, .ref p2, unk] [] w I L P := rfl
theorem Law_append_E1 (p0 : Nat) (p1 : Int32) (w : Wd) (I : MI) (L : ML) (P : MP) : call 223 [.ref p0, .int p1, .null] w I L P = go 223 0 [.ref p0, .int p1, .null, unk] [] w I L P := rfl
theorem Law_append_E2 (p1 : Int32) (p2 : Nat) (w : Wd) (I : MI) (L : ML) (P : MP) : call 223 [.null, .int p1, .ref p2] w I L P = go 223 0 [.null, .int p1, .ref p2, unk] [] w I L P := rfl
theorem Law_append_E3 (p1 : Int32) (w : Wd) (I : MI) (L : ML) (P : MP) : call 223 [.null, .int p1, .null] w I L P = go 223 0 [.null, .int p1, .null, unk] [] w I L P := rfl
theorem Law_undo_0_ret (a_l0 : Nat) (a_l1 : Nat) (l2 : Value) (w : Wd) (I : MI) (L : ML) (P : MP) (v : Option Value) (w1 : Wd) (I1 : MI) (L1 : ML) (P1 : MP) (h0 : w.1 a_l0 = some (6, 0)) (hc : call 104 [.ref a_l0] w I L P = some (.inl v, w1, I1, L1, P1)) : go 224 0 [.ref a_l0, .ref a_l1, l2] [] w I L P = go 224 6 [.ref a_l0, .ref a_l1, l2] (v.toList ++ [.int (nI 0), .ref a_l1]) w1 I1 L1 P1 := by
  refine (go_aload_n (m := 224) (pc := 0) (k := 1) (by decide +kernel) rfl).trans ?_
  refine (go_ic (m := 224) (pc := 1) (n := 0) (by decide +kernel) ic_0).trans ?_
  refine (go_aload_n (m := 224) (pc := 2) (k := 0) (by decide +kernel) rfl).trans ?_
  exact go_virH (m := 224) (pc := 3) (o := 8) (x := 74) (y := 104) (kd := 0) (b := a_l0) (bs := []) (rs := [.int (nI 0), .ref a_l1]) (by decide +kernel) rfl c_8_74 (Or.inl rfl) rfl rfl rfl (by decide +kernel) (by simp only [List.length_cons, List.length_nil]; decide) (Nat.le_of_ble_eq_true rfl) h0 hc
theorem Law_undo_0_thr1 (a_l0 : Nat) (a_l1 : Nat) (l2 : Value) (w : Wd) (I : MI) (L : ML) (P : MP) (w1 : Wd) (I1 : MI) (L1 : ML) (P1 : MP) (h0 : w.1 a_l0 = some (6, 0)) (hc : call 104 [.ref a_l0] w I L P = some (.inr 1, w1, I1, L1, P1)) : go 224 0 [.ref a_l0, .ref a_l1, l2] [] w I L P = go 224 12 [.ref a_l0, .ref a_l1, unk] [] w1 I1 L1 P1 := by
  refine (go_aload_n (m := 224) (pc := 0) (k := 1) (by decide +kernel) rfl).trans ?_
  refine (go_ic (m := 224) (pc := 1) (n := 0) (by decide +kernel) ic_0).trans ?_
  refine (go_aload_n (m := 224) (pc := 2) (k := 0) (by decide +kernel) rfl).trans ?_
  exact go_virT (m := 224) (pc := 3) (e := 1) (pc' := 12) (k := 2) (o := 8) (x := 74) (y := 104) (kd := 0) (b := a_l0) (bs := []) (rs := [.int (nI 0), .ref a_l1]) (by decide +kernel) rfl c_8_74 (Or.inl rfl) rfl rfl rfl (by decide +kernel) (by simp only [List.length_cons, List.length_nil]; decide) (Nat.le_of_ble_eq_true rfl) h0 (by decide +kernel) (by decide +kernel) (by simp only [List.length_cons, List.length_nil]; decide) hc
theorem Law_undo_6 (l0 : Value) (l1 : Value) (l2 : Value) (a_s0 : Nat) (y1 : Int32) (y2 : Int32) (w : Wd) (I : MI) (L : ML) (P : MP) (h0 : inA w a_s0 9 y1) : go 224 6 [l0, l1, l2] [.int y2, .int y1, .ref a_s0] w I L P = go 224 14 [l0, l1, l2] [] w I (updL L a_s0 (Int32.toNatClampNeg y1) (Int32.toInt64 y2)) P := by
  refine (go_i2l (m := 224) (pc := 6) (by decide +kernel)).trans ?_
  refine (go_last (m := 224) (pc := 7) (by decide +kernel) h0).trans ?_
  refine (go_goto (m := 224) (pc := 8) (off := 6) (t := 14) (by decide +kernel) (by decide)).trans ?_
  rfl
theorem Law_undo_12 (l0 : Value) (l1 : Value) (l2 : Value) (w : Wd) (I : MI) (L : ML) (P : MP)  : go 224 12 [l0, l1, l2] [] w I L P = some (.inl (some (.int (nI 1))), w, I, L, P) := by
  refine (go_ic (m := 224) (pc := 12) (n := 1) (by decide +kernel) ic_1).trans ?_
  exact go_retI (m := 224) (pc := 13) (by decide +kernel) rfl
theorem Law_undo_14 (l0 : Value) (l1 : Value) (l2 : Value) (w : Wd) (I : MI) (L : ML) (P : MP)  : go 224 14 [l0, l1, l2] [] w I L P = some (.inl (some (.int (nI 0))), w, I, L, P) := by
  refine (go_ic (m := 224) (pc := 14) (n := 0) (by decide +kernel) ic_0).trans ?_
  exact go_retI (m := 224) (pc := 15) (by decide +kernel) rfl
theorem Law_undo_E (p0 : Nat) (p1 : Nat) (w : Wd) (I : MI) (L : ML) (P : MP) : call 224 [.ref p0, .ref p1] w I L P = go 224 0 [.ref p0, .ref p1, unk] [] w I L P := rfl
theorem Law_undo_E1 (p0 : Nat) (w : Wd) (I : MI) (L : ML) (P : MP) : call 224 [.ref p0, .null] w I L P = go 224 0 [.ref p0, .null, unk] [] w I L P := rfl
theorem Law_undo_E2 (p1 : Nat) (w : Wd) (I : MI) (L : ML) (P : MP) : call 224 [.null, .ref p1] w I L P = go 224 0 [.null, .ref p1, unk] [] w I L P := rfl
theorem Law_undo_E3  (w : Wd) (I : MI) (L : ML) (P : MP) : call 224 [.null, .null] w I L P = go 224 0 [.null, .null, unk] [] w I L P := rfl
theorem Law_law_0 (l0 : Value) (l1 : Value) (l2 : Value) (l3 : Value) (l4 : Value) (l5 : Value) (l6 : Value) (l7 : Value) (l8 : Value) (T : Nat → Option (Nat × Nat)) (q0 kc ks : Nat) (I : MI) (L : ML) (P : MP)  : go 225 0 [l0, l1, l2, l3, l4, l5, l6, l7, l8] [] (T, some q0, kc, ks) I L P = kC (call 79 [.ref q0] ((tagU T q0 6 0), some (q0 + 1), (kc + 1), (ks + 6)) (rowI I q0) (rowL L q0) (rowP P q0)) (fun v w1 I1 L1 P1 => go 225 7 [l0, l1, l2, l3, l4, l5, l6, l7, l8] (v.toList ++ [.ref q0]) w1 I1 L1 P1) := by
  refine (go_new (m := 225) (pc := 0) (o := 8) (x := 8) (ci := 6) (nf := 6) (by decide +kernel) rfl (by decide +kernel) (by decide) rfl).trans ?_
  refine (go_dup (m := 225) (pc := 3) (by decide +kernel) rfl).trans ?_
  exact go_spc (m := 225) (pc := 4) (o := 8) (x := 78) (y := 79) (kd := 5) (b := q0) (bs := []) (rs := [.ref q0]) (by decide +kernel) rfl rfl c_8_78 (Or.inl rfl) rfl rfl rfl (by decide +kernel) (by simp only [List.length_cons, List.length_nil]; decide) (Nat.le_of_ble_eq_true rfl)
theorem Law_law_7_0 (l0 : Value) (l1 : Value) (l2 : Value) (l3 : Value) (l4 : Value) (l5 : Value) (l6 : Value) (l7 : Value) (l8 : Value) (T : Nat → Option (Nat × Nat)) (q0 kc ks : Nat) (I : MI) (L : ML) (P : MP)  : go 225 7 [l0, l1, l2, l3, l4, l5, l6, l7, l8] [.null] (T, some q0, kc, ks) I L P = kC (call 120 [.ref q0] ((tagU T q0 7 0), some (q0 + 1), (kc + 1), (ks + 16)) (rowI I q0) (rowL L q0) (rowP P q0)) (fun v w1 I1 L1 P1 => go 225 15 [(fix1 l0), .null, l2, l3, l4, l5, l6, l7, l8] (v.toList ++ [.ref q0]) w1 I1 L1 P1) := by
  refine (go_astore_nN (m := 225) (pc := 7) (k := 1) (ls' := [(fix1 l0), .null, l2, l3, l4, l5, l6, l7, l8]) (by decide +kernel) (by simp only [List.length_cons, List.length_nil]; decide) rfl).trans ?_
  refine (go_new (m := 225) (pc := 8) (o := 8) (x := 79) (ci := 7) (nf := 16) (by decide +kernel) rfl (by decide +kernel) (by decide) rfl).trans ?_
  refine (go_dup (m := 225) (pc := 11) (by decide +kernel) rfl).trans ?_
  exact go_spc (m := 225) (pc := 12) (o := 8) (x := 81) (y := 120) (kd := 5) (b := q0) (bs := []) (rs := [.ref q0]) (by decide +kernel) rfl rfl c_8_81 (Or.inl rfl) rfl rfl rfl (by decide +kernel) (by simp only [List.length_cons, List.length_nil]; decide) (Nat.le_of_ble_eq_true rfl)
theorem Law_law_7_1 (l0 : Value) (l1 : Value) (l2 : Value) (l3 : Value) (l4 : Value) (l5 : Value) (l6 : Value) (l7 : Value) (l8 : Value) (a_s0 : Nat) (T : Nat → Option (Nat × Nat)) (q0 kc ks : Nat) (I : MI) (L : ML) (P : MP)  : go 225 7 [l0, l1, l2, l3, l4, l5, l6, l7, l8] [.ref a_s0] (T, some q0, kc, ks) I L P = kC (call 120 [.ref q0] ((tagU T q0 7 0), some (q0 + 1), (kc + 1), (ks + 16)) (rowI I q0) (rowL L q0) (rowP P q0)) (fun v w1 I1 L1 P1 => go 225 15 [(fix1 l0), .ref a_s0, l2, l3, l4, l5, l6, l7, l8] (v.toList ++ [.ref q0]) w1 I1 L1 P1) := by
  refine (go_astore_n (m := 225) (pc := 7) (k := 1) (ls' := [(fix1 l0), .ref a_s0, l2, l3, l4, l5, l6, l7, l8]) (by decide +kernel) (by simp only [List.length_cons, List.length_nil]; decide) rfl).trans ?_
  refine (go_new (m := 225) (pc := 8) (o := 8) (x := 79) (ci := 7) (nf := 16) (by decide +kernel) rfl (by decide +kernel) (by decide) rfl).trans ?_
  refine (go_dup (m := 225) (pc := 11) (by decide +kernel) rfl).trans ?_
  exact go_spc (m := 225) (pc := 12) (o := 8) (x := 81) (y := 120) (kd := 5) (b := q0) (bs := []) (rs := [.ref q0]) (by decide +kernel) rfl rfl c_8_81 (Or.inl rfl) rfl rfl rfl (by decide +kernel) (by simp only [List.length_cons, List.length_nil]; decide) (Nat.le_of_ble_eq_true rfl)
theorem Law_law_15_0 (l0 : Value) (l1 : Value) (l2 : Value) (l3 : Value) (l4 : Value) (l5 : Value) (l6 : Value) (l7 : Value) (l8 : Value) (T : Nat → Option (Nat × Nat)) (q0 kc ks : Nat) (I : MI) (L : ML) (P : MP) (h0 : ¬ (nI 1) < 0 ∧ Int32.toNatClampNeg (nI 1) ≤ 65536) : go 225 15 [l0, l1, l2, l3, l4, l5, l6, l7, l8] [.null] (T, some q0, kc, ks) I L P = go 225 23 [l0, (fix1 l1), .null, .ref q0, .int (nI 0), l5, l6, l7, l8] [] ((tagU T q0 9 (Int32.toNatClampNeg (nI 1))), some (q0 + 1), (kc + 1), (ks + Int32.toNatClampNeg (nI 1))) I (rowL L q0) P := by
  refine (go_astore_nN (m := 225) (pc := 15) (k := 2) (ls' := [l0, (fix1 l1), .null, l3, l4, l5, l6, l7, l8]) (by decide +kernel) (by simp only [List.length_cons, List.length_nil]; decide) rfl).trans ?_
  refine (go_ic (m := 225) (pc := 16) (n := 1) (by decide +kernel) ic_1).trans ?_
  refine (go_newJ (m := 225) (pc := 17) (by decide +kernel) h0).trans ?_
  refine (go_astore_n (m := 225) (pc := 19) (k := 3) (ls' := [l0, (fix1 l1), .null, .ref q0, l4, l5, l6, l7, l8]) (by decide +kernel) (by simp only [List.length_cons, List.length_nil]; decide) rfl).trans ?_
  refine (go_ic (m := 225) (pc := 20) (n := 0) (by decide +kernel) ic_0).trans ?_
  refine (go_istore (m := 225) (pc := 21) (k := 4) (ls' := [l0, (fix1 l1), .null, .ref q0, .int (nI 0), l5, l6, l7, l8]) (by decide +kernel) (by simp only [List.length_cons, List.length_nil]; decide) rfl).trans ?_
  rfl
theorem Law_law_15_1 (l0 : Value) (l1 : Value) (l2 : Value) (l3 : Value) (l4 : Value) (l5 : Value) (l6 : Value) (l7 : Value) (l8 : Value) (a_s0 : Nat) (T : Nat → Option (Nat × Nat)) (q0 kc ks : Nat) (I : MI) (L : ML) (P : MP) (h0 : ¬ (nI 1) < 0 ∧ Int32.toNatClampNeg (nI 1) ≤ 65536) : go 225 15 [l0, l1, l2, l3, l4, l5, l6, l7, l8] [.ref a_s0] (T, some q0, kc, ks) I L P = go 225 23 [l0, (fix1 l1), .ref a_s0, .ref q0, .int (nI 0), l5, l6, l7, l8] [] ((tagU T q0 9 (Int32.toNatClampNeg (nI 1))), some (q0 + 1), (kc + 1), (ks + Int32.toNatClampNeg (nI 1))) I (rowL L q0) P := by
  refine (go_astore_n (m := 225) (pc := 15) (k := 2) (ls' := [l0, (fix1 l1), .ref a_s0, l3, l4, l5, l6, l7, l8]) (by decide +kernel) (by simp only [List.length_cons, List.length_nil]; decide) rfl).trans ?_
  refine (go_ic (m := 225) (pc := 16) (n := 1) (by decide +kernel) ic_1).trans ?_
  refine (go_newJ (m := 225) (pc := 17) (by decide +kernel) h0).trans ?_
  refine (go_astore_n (m := 225) (pc := 19) (k := 3) (ls' := [l0, (fix1 l1), .ref a_s0, .ref q0, l4, l5, l6, l7, l8]) (by decide +kernel) (by simp only [List.length_cons, List.length_nil]; decide) rfl).trans ?_
  refine (go_ic (m := 225) (pc := 20) (n := 0) (by decide +kernel) ic_0).trans ?_
  refine (go_istore (m := 225) (pc := 21) (k := 4) (ls' := [l0, (fix1 l1), .ref a_s0, .ref q0, .int (nI 0), l5, l6, l7, l8]) (by decide +kernel) (by simp only [List.length_cons, List.length_nil]; decide) rfl).trans ?_
  rfl
theorem Law_law_23 (a_l0 : Nat) (l1 : Value) (l2 : Value) (l3 : Value) (x_l4 : Int32) (l5 : Value) (l6 : Value) (l7 : Value) (l8 : Value) (w : Wd) (I : MI) (L : ML) (P : MP) (h0 : isAr w a_l0 14) : go 225 23 [.ref a_l0, l1, l2, l3, .int x_l4, l5, l6, l7, l8] [] w I L P = if ((alen w a_l0) - (nI 6)) < x_l4 then go 225 1542 [.ref a_l0, l1, l2, l3, .int x_l4, l5, l6, l7, l8] [] w I L P else go 225 33 [.ref a_l0, l1, l2, l3, .int x_l4, l5, l6, l7, l8] [] w I L P := by
  refine (go_iload (m := 225) (pc := 23) (k := 4) (by decide +kernel) rfl).trans ?_
  refine (go_aload_n (m := 225) (pc := 25) (k := 0) (by decide +kernel) rfl).trans ?_
  refine (go_alen14 (m := 225) (pc := 26) (by decide +kernel) h0).trans ?_
  refine (go_bi (m := 225) (pc := 27) (n := 6) (by decide +kernel) bi_6).trans ?_
  refine (go_isub (m := 225) (pc := 29) (by decide +kernel)).trans ?_
  exact go_icmpgt (m := 225) (pc := 30) (off := 1512) (t := 1542) (by decide +kernel) (by decide)
theorem Law_law_33 (a_l0 : Nat) (l1 : Value) (l2 : Value) (l3 : Value) (x_l4 : Int32) (l5 : Value) (l6 : Value) (l7 : Value) (l8 : Value) (w : Wd) (I : MI) (L : ML) (P : MP) (h0 : inA w a_l0 14 x_l4) : go 225 33 [.ref a_l0, l1, l2, l3, .int x_l4, l5, l6, l7, l8] [] w I L P = go 225 40 [.ref a_l0, l1, l2, l3, .int x_l4, l5, l6, l7, l8] [.int ((I a_l0 (Int32.toNatClampNeg x_l4)) &&& (nI 31))] w I L P := by
  refine (go_aload_n (m := 225) (pc := 33) (k := 0) (by decide +kernel) rfl).trans ?_
  refine (go_iload (m := 225) (pc := 34) (k := 4) (by decide +kernel) rfl).trans ?_
  refine (go_iald14 (m := 225) (pc := 36) (by decide +kernel) h0).trans ?_
  refine (go_bi (m := 225) (pc := 37) (n := 31) (by decide +kernel) bi_31).trans ?_
  refine (go_iand (m := 225) (pc := 39) (by decide +kernel)).trans ?_
  rfl
theorem Law_law_40_k0 (l0 : Value) (l1 : Value) (l2 : Value) (l3 : Value) (l4 : Value) (l5 : Value) (l6 : Value) (l7 : Value) (l8 : Value) (w : Wd) (I : MI) (L : ML) (P : MP) : go 225 40 [l0, l1, l2, l3, l4, l5, l6, l7, l8] [.int (nI 0)] w I L P = go 225 160 [l0, l1, l2, l3, l4, l5, l6, l7, l8] [] w I L P := go_tsI (m := 225) (pc := 40) (z := 0) (off := 120) (t := 160) (dflt := 1496) (lo := 0) (hi := 25) (offs := #[120, 176, 244, 328, 384, 440, 564, 644, 700, 756, 769, 837, 917, 985, 1053, 1109, 1177, 1190, 1246, 1259, 1315, 1356, 1412, 1425, 1438, 1482]) (len := 120) (by decide +kernel) (by decide) (by decide) (by decide) (by decide) (by decide)
theorem Law_law_40_k1 (l0 : Value) (l1 : Value) (l2 : Value) (l3 : Value) (l4 : Value) (l5 : Value) (l6 : Value) (l7 : Value) (l8 : Value) (w : Wd) (I : MI) (L : ML) (P : MP) : go 225 40 [l0, l1, l2, l3, l4, l5, l6, l7, l8] [.int (nI 1)] w I L P = go 225 216 [l0, l1, l2, l3, l4, l5, l6, l7, l8] [] w I L P := go_tsI (m := 225) (pc := 40) (z := 1) (off := 176) (t := 216) (dflt := 1496) (lo := 0) (hi := 25) (offs := #[120, 176, 244, 328, 384, 440, 564, 644, 700, 756, 769, 837, 917, 985, 1053, 1109, 1177, 1190, 1246, 1259, 1315, 1356, 1412, 1425, 1438, 1482]) (len := 120) (by decide +kernel) (by decide) (by decide) (by decide) (by decide) (by decide)
theorem Law_law_40_k2 (l0 : Value) (l1 : Value) (l2 : Value) (l3 : Value) (l4 : Value) (l5 : Value) (l6 : Value) (l7 : Value) (l8 : Value) (w : Wd) (I : MI) (L : ML) (P : MP) : go 225 40 [l0, l1, l2, l3, l4, l5, l6, l7, l8] [.int (nI 2)] w I L P = go 225 284 [l0, l1, l2, l3, l4, l5, l6, l7, l8] [] w I L P := go_tsI (m := 225) (pc := 40) (z := 2) (off := 244) (t := 284) (dflt := 1496) (lo := 0) (hi := 25) (offs := #[120, 176, 244, 328, 384, 440, 564, 644, 700, 756, 769, 837, 917, 985, 1053, 1109, 1177, 1190, 1246, 1259, 1315, 1356, 1412, 1425, 1438, 1482]) (len := 120) (by decide +kernel) (by decide) (by decide) (by decide) (by decide) (by decide)
theorem Law_law_40_k3 (l0 : Value) (l1 : Value) (l2 : Value) (l3 : Value) (l4 : Value) (l5 : Value) (l6 : Value) (l7 : Value) (l8 : Value) (w : Wd) (I : MI) (L : ML) (P : MP) : go 225 40 [l0, l1, l2, l3, l4, l5, l6, l7, l8] [.int (nI 3)] w I L P = go 225 368 [l0, l1, l2, l3, l4, l5, l6, l7, l8] [] w I L P := go_tsI (m := 225) (pc := 40) (z := 3) (off := 328) (t := 368) (dflt := 1496) (lo := 0) (hi := 25) (offs := #[120, 176, 244, 328, 384, 440, 564, 644, 700, 756, 769, 837, 917, 985, 1053, 1109, 1177, 1190, 1246, 1259, 1315, 1356, 1412, 1425, 1438, 1482]) (len := 120) (by decide +kernel) (by decide) (by decide) (by decide) (by decide) (by decide)
theorem Law_law_40_k4 (l0 : Value) (l1 : Value) (l2 : Value) (l3 : Value) (l4 : Value) (l5 : Value) (l6 : Value) (l7 : Value) (l8 : Value) (w : Wd) (I : MI) (L : ML) (P : MP) : go 225 40 [l0, l1, l2, l3, l4, l5, l6, l7, l8] [.int (nI 4)] w I L P = go 225 424 [l0, l1, l2, l3, l4, l5, l6, l7, l8] [] w I L P := go_tsI (m := 225) (pc := 40) (z := 4) (off := 384) (t := 424) (dflt := 1496) (lo := 0) (hi := 25) (offs := #[120, 176, 244, 328, 384, 440, 564, 644, 700, 756, 769, 837, 917, 985, 1053, 1109, 1177, 1190, 1246, 1259, 1315, 1356, 1412, 1425, 1438, 1482]) (len := 120) (by decide +kernel) (by decide) (by decide) (by decide) (by decide) (by decide)
theorem Law_law_40_k5 (l0 : Value) (l1 : Value) (l2 : Value) (l3 : Value) (l4 : Value) (l5 : Value) (l6 : Value) (l7 : Value) (l8 : Value) (w : Wd) (I : MI) (L : ML) (P : MP) : go 225 40 [l0, l1, l2, l3, l4, l5, l6, l7, l8] [.int (nI 5)] w I L P = go 225 480 [l0, l1, l2, l3, l4, l5, l6, l7, l8] [] w I L P := go_tsI (m := 225) (pc := 40) (z := 5) (off := 440) (t := 480) (dflt := 1496) (lo := 0) (hi := 25) (offs := #[120, 176, 244, 328, 384, 440, 564, 644, 700, 756, 769, 837, 917, 985, 1053, 1109, 1177, 1190, 1246, 1259, 1315, 1356, 1412, 1425, 1438, 1482]) (len := 120) (by decide +kernel) (by decide) (by decide) (by decide) (by decide) (by decide)
theorem Law_law_40_k6 (l0 : Value) (l1 : Value) (l2 : Value) (l3 : Value) (l4 : Value) (l5 : Value) (l6 : Value) (l7 : Value) (l8 : Value) (w : Wd) (I : MI) (L : ML) (P : MP) : go 225 40 [l0, l1, l2, l3, l4, l5, l6, l7, l8] [.int (nI 6)] w I L P = go 225 604 [l0, l1, l2, l3, l4, l5, l6, l7, l8] [] w I L P := go_tsI (m := 225) (pc := 40) (z := 6) (off := 564) (t := 604) (dflt := 1496) (lo := 0) (hi := 25) (offs := #[120, 176, 244, 328, 384, 440, 564, 644, 700, 756, 769, 837, 917, 985, 1053, 1109, 1177, 1190, 1246, 1259, 1315, 1356, 1412, 1425, 1438, 1482]) (len := 120) (by decide +kernel) (by decide) (by decide) (by decide) (by decide) (by decide)
theorem Law_law_40_k7 (l0 : Value) (l1 : Value) (l2 : Value) (l3 : Value) (l4 : Value) (l5 : Value) (l6 : Value) (l7 : Value) (l8 : Value) (w : Wd) (I : MI) (L : ML) (P : MP) : go 225 40 [l0, l1, l2, l3, l4, l5, l6, l7, l8] [.int (nI 7)] w I L P = go 225 684 [l0, l1, l2, l3, l4, l5, l6, l7, l8] [] w I L P := go_tsI (m := 225) (pc := 40) (z := 7) (off := 644) (t := 684) (dflt := 1496) (lo := 0) (hi := 25) (offs := #[120, 176, 244, 328, 384, 440, 564, 644, 700, 756, 769, 837, 917, 985, 1053, 1109, 1177, 1190, 1246, 1259, 1315, 1356, 1412, 1425, 1438, 1482]) (len := 120) (by decide +kernel) (by decide) (by decide) (by decide) (by decide) (by decide)
theorem Law_law_40_k8 (l0 : Value) (l1 : Value) (l2 : Value) (l3 : Value) (l4 : Value) (l5 : Value) (l6 : Value) (l7 : Value) (l8 : Value) (w : Wd) (I : MI) (L : ML) (P : MP) : go 225 40 [l0, l1, l2, l3, l4, l5, l6, l7, l8] [.int (nI 8)] w I L P = go 225 740 [l0, l1, l2, l3, l4, l5, l6, l7, l8] [] w I L P := go_tsI (m := 225) (pc := 40) (z := 8) (off := 700) (t := 740) (dflt := 1496) (lo := 0) (hi := 25) (offs := #[120, 176, 244, 328, 384, 440, 564, 644, 700, 756, 769, 837, 917, 985, 1053, 1109, 1177, 1190, 1246, 1259, 1315, 1356, 1412, 1425, 1438, 1482]) (len := 120) (by decide +kernel) (by decide) (by decide) (by decide) (by decide) (by decide)
theorem Law_law_40_k9 (l0 : Value) (l1 : Value) (l2 : Value) (l3 : Value) (l4 : Value) (l5 : Value) (l6 : Value) (l7 : Value) (l8 : Value) (w : Wd) (I : MI) (L : ML) (P : MP) : go 225 40 [l0, l1, l2, l3, l4, l5, l6, l7, l8] [.int (nI 9)] w I L P = go 225 796 [l0, l1, l2, l3, l4, l5, l6, l7, l8] [] w I L P := go_tsI (m := 225) (pc := 40) (z := 9) (off := 756) (t := 796) (dflt := 1496) (lo := 0) (hi := 25) (offs := #[120, 176, 244, 328, 384, 440, 564, 644, 700, 756, 769, 837, 917, 985, 1053, 1109, 1177, 1190, 1246, 1259, 1315, 1356, 1412, 1425, 1438, 1482]) (len := 120) (by decide +kernel) (by decide) (by decide) (by decide) (by decide) (by decide)
theorem Law_law_40_k10 (l0 : Value) (l1 : Value) (l2 : Value) (l3 : Value) (l4 : Value) (l5 : Value) (l6 : Value) (l7 : Value) (l8 : Value) (w : Wd) (I : MI) (L : ML) (P : MP) : go 225 40 [l0, l1, l2, l3, l4, l5, l6, l7, l8] [.int (nI 10)] w I L P = go 225 809 [l0, l1, l2, l3, l4, l5, l6, l7, l8] [] w I L P := go_tsI (m := 225) (pc := 40) (z := 10) (off := 769) (t := 809) (dflt := 1496) (lo := 0) (hi := 25) (offs := #[120, 176, 244, 328, 384, 440, 564, 644, 700, 756, 769, 837, 917, 985, 1053, 1109, 1177, 1190, 1246, 1259, 1315, 1356, 1412, 1425, 1438, 1482]) (len := 120) (by decide +kernel) (by decide) (by decide) (by decide) (by decide) (by decide)
theorem Law_law_40_k11 (l0 : Value) (l1 : Value) (l2 : Value) (l3 : Value) (l4 : Value) (l5 : Value) (l6 : Value) (l7 : Value) (l8 : Value) (w : Wd) (I : MI) (L : ML) (P : MP) : go 225 40 [l0, l1, l2, l3, l4, l5, l6, l7, l8] [.int (nI 11)] w I L P = go 225 877 [l0, l1, l2, l3, l4, l5, l6, l7, l8] [] w I L P := go_tsI (m := 225) (pc := 40) (z := 11) (off := 837) (t := 877) (dflt := 1496) (lo := 0) (hi := 25) (offs := #[120, 176, 244, 328, 384, 440, 564, 644, 700, 756, 769, 837, 917, 985, 1053, 1109, 1177, 1190, 1246, 1259, 1315, 1356, 1412, 1425, 1438, 1482]) (len := 120) (by decide +kernel) (by decide) (by decide) (by decide) (by decide) (by decide)
theorem Law_law_40_k12 (l0 : Value) (l1 : Value) (l2 : Value) (l3 : Value) (l4 : Value) (l5 : Value) (l6 : Value) (l7 : Value) (l8 : Value) (w : Wd) (I : MI) (L : ML) (P : MP) : go 225 40 [l0, l1, l2, l3, l4, l5, l6, l7, l8] [.int (nI 12)] w I L P = go 225 957 [l0, l1, l2, l3, l4, l5, l6, l7, l8] [] w I L P := go_tsI (m := 225) (pc := 40) (z := 12) (off := 917) (t := 957) (dflt := 1496) (lo := 0) (hi := 25) (offs := #[120, 176, 244, 328, 384, 440, 564, 644, 700, 756, 769, 837, 917, 985, 1053, 1109, 1177, 1190, 1246, 1259, 1315, 1356, 1412, 1425, 1438, 1482]) (len := 120) (by decide +kernel) (by decide) (by decide) (by decide) (by decide) (by decide)
theorem Law_law_40_k13 (l0 : Value) (l1 : Value) (l2 : Value) (l3 : Value) (l4 : Value) (l5 : Value) (l6 : Value) (l7 : Value) (l8 : Value) (w : Wd) (I : MI) (L : ML) (P : MP) : go 225 40 [l0, l1, l2, l3, l4, l5, l6, l7, l8] [.int (nI 13)] w I L P = go 225 1025 [l0, l1, l2, l3, l4, l5, l6, l7, l8] [] w I L P := go_tsI (m := 225) (pc := 40) (z := 13) (off := 985) (t := 1025) (dflt := 1496) (lo := 0) (hi := 25) (offs := #[120, 176, 244, 328, 384, 440, 564, 644, 700, 756, 769, 837, 917, 985, 1053, 1109, 1177, 1190, 1246, 1259, 1315, 1356, 1412, 1425, 1438, 1482]) (len := 120) (by decide +kernel) (by decide) (by decide) (by decide) (by decide) (by decide)
theorem Law_law_40_k14 (l0 : Value) (l1 : Value) (l2 : Value) (l3 : Value) (l4 : Value) (l5 : Value) (l6 : Value) (l7 : Value) (l8 : Value) (w : Wd) (I : MI) (L : ML) (P : MP) : go 225 40 [l0, l1, l2, l3, l4, l5, l6, l7, l8] [.int (nI 14)] w I L P = go 225 1093 [l0, l1, l2, l3, l4, l5, l6, l7, l8] [] w I L P := go_tsI (m := 225) (pc := 40) (z := 14) (off := 1053) (t := 1093) (dflt := 1496) (lo := 0) (hi := 25) (offs := #[120, 176, 244, 328, 384, 440, 564, 644, 700, 756, 769, 837, 917, 985, 1053, 1109, 1177, 1190, 1246, 1259, 1315, 1356, 1412, 1425, 1438, 1482]) (len := 120) (by decide +kernel) (by decide) (by decide) (by decide) (by decide) (by decide)
theorem Law_law_40_k15 (l0 : Value) (l1 : Value) (l2 : Value) (l3 : Value) (l4 : Value) (l5 : Value) (l6 : Value) (l7 : Value) (l8 : Value) (w : Wd) (I : MI) (L : ML) (P : MP) : go 225 40 [l0, l1, l2, l3, l4, l5, l6, l7, l8] [.int (nI 15)] w I L P = go 225 1149 [l0, l1, l2, l3, l4, l5, l6, l7, l8] [] w I L P := go_tsI (m := 225) (pc := 40) (z := 15) (off := 1109) (t := 1149) (dflt := 1496) (lo := 0) (hi := 25) (offs := #[120, 176, 244, 328, 384, 440, 564, 644, 700, 756, 769, 837, 917, 985, 1053, 1109, 1177, 1190, 1246, 1259, 1315, 1356, 1412, 1425, 1438, 1482]) (len := 120) (by decide +kernel) (by decide) (by decide) (by decide) (by decide) (by decide)
theorem Law_law_40_k16 (l0 : Value) (l1 : Value) (l2 : Value) (l3 : Value) (l4 : Value) (l5 : Value) (l6 : Value) (l7 : Value) (l8 : Value) (w : Wd) (I : MI) (L : ML) (P : MP) : go 225 40 [l0, l1, l2, l3, l4, l5, l6, l7, l8] [.int (nI 16)] w I L P = go 225 1217 [l0, l1, l2, l3, l4, l5, l6, l7, l8] [] w I L P := go_tsI (m := 225) (pc := 40) (z := 16) (off := 1177) (t := 1217) (dflt := 1496) (lo := 0) (hi := 25) (offs := #[120, 176, 244, 328, 384, 440, 564, 644, 700, 756, 769, 837, 917, 985, 1053, 1109, 1177, 1190, 1246, 1259, 1315, 1356, 1412, 1425, 1438, 1482]) (len := 120) (by decide +kernel) (by decide) (by decide) (by decide) (by decide) (by decide)
theorem Law_law_40_k17 (l0 : Value) (l1 : Value) (l2 : Value) (l3 : Value) (l4 : Value) (l5 : Value) (l6 : Value) (l7 : Value) (l8 : Value) (w : Wd) (I : MI) (L : ML) (P : MP) : go 225 40 [l0, l1, l2, l3, l4, l5, l6, l7, l8] [.int (nI 17)] w I L P = go 225 1230 [l0, l1, l2, l3, l4, l5, l6, l7, l8] [] w I L P := go_tsI (m := 225) (pc := 40) (z := 17) (off := 1190) (t := 1230) (dflt := 1496) (lo := 0) (hi := 25) (offs := #[120, 176, 244, 328, 384, 440, 564, 644, 700, 756, 769, 837, 917, 985, 1053, 1109, 1177, 1190, 1246, 1259, 1315, 1356, 1412, 1425, 1438, 1482]) (len := 120) (by decide +kernel) (by decide) (by decide) (by decide) (by decide) (by decide)
theorem Law_law_40_k18 (l0 : Value) (l1 : Value) (l2 : Value) (l3 : Value) (l4 : Value) (l5 : Value) (l6 : Value) (l7 : Value) (l8 : Value) (w : Wd) (I : MI) (L : ML) (P : MP) : go 225 40 [l0, l1, l2, l3, l4, l5, l6, l7, l8] [.int (nI 18)] w I L P = go 225 1286 [l0, l1, l2, l3, l4, l5, l6, l7, l8] [] w I L P := go_tsI (m := 225) (pc := 40) (z := 18) (off := 1246) (t := 1286) (dflt := 1496) (lo := 0) (hi := 25) (offs := #[120, 176, 244, 328, 384, 440, 564, 644, 700, 756, 769, 837, 917, 985, 1053, 1109, 1177, 1190, 1246, 1259, 1315, 1356, 1412, 1425, 1438, 1482]) (len := 120) (by decide +kernel) (by decide) (by decide) (by decide) (by decide) (by decide)
theorem Law_law_40_k19 (l0 : Value) (l1 : Value) (l2 : Value) (l3 : Value) (l4 : Value) (l5 : Value) (l6 : Value) (l7 : Value) (l8 : Value) (w : Wd) (I : MI) (L : ML) (P : MP) : go 225 40 [l0, l1, l2, l3, l4, l5, l6, l7, l8] [.int (nI 19)] w I L P = go 225 1299 [l0, l1, l2, l3, l4, l5, l6, l7, l8] [] w I L P := go_tsI (m := 225) (pc := 40) (z := 19) (off := 1259) (t := 1299) (dflt := 1496) (lo := 0) (hi := 25) (offs := #[120, 176, 244, 328, 384, 440, 564, 644, 700, 756, 769, 837, 917, 985, 1053, 1109, 1177, 1190, 1246, 1259, 1315, 1356, 1412, 1425, 1438, 1482]) (len := 120) (by decide +kernel) (by decide) (by decide) (by decide) (by decide) (by decide)
theorem Law_law_40_k20 (l0 : Value) (l1 : Value) (l2 : Value) (l3 : Value) (l4 : Value) (l5 : Value) (l6 : Value) (l7 : Value) (l8 : Value) (w : Wd) (I : MI) (L : ML) (P : MP) : go 225 40 [l0, l1, l2, l3, l4, l5, l6, l7, l8] [.int (nI 20)] w I L P = go 225 1355 [l0, l1, l2, l3, l4, l5, l6, l7, l8] [] w I L P := go_tsI (m := 225) (pc := 40) (z := 20) (off := 1315) (t := 1355) (dflt := 1496) (lo := 0) (hi := 25) (offs := #[120, 176, 244, 328, 384, 440, 564, 644, 700, 756, 769, 837, 917, 985, 1053, 1109, 1177, 1190, 1246, 1259, 1315, 1356, 1412, 1425, 1438, 1482]) (len := 120) (by decide +kernel) (by decide) (by decide) (by decide) (by decide) (by decide)
theorem Law_law_40_k21 (l0 : Value) (l1 : Value) (l2 : Value) (l3 : Value) (l4 : Value) (l5 : Value) (l6 : Value) (l7 : Value) (l8 : Value) (w : Wd) (I : MI) (L : ML) (P : MP) : go 225 40 [l0, l1, l2, l3, l4, l5, l6, l7, l8] [.int (nI 21)] w I L P = go 225 1396 [l0, l1, l2, l3, l4, l5, l6, l7, l8] [] w I L P := go_tsI (m := 225) (pc := 40) (z := 21) (off := 1356) (t := 1396) (dflt := 1496) (lo := 0) (hi := 25) (offs := #[120, 176, 244, 328, 384, 440, 564, 644, 700, 756, 769, 837, 917, 985, 1053, 1109, 1177, 1190, 1246, 1259, 1315, 1356, 1412, 1425, 1438, 1482]) (len := 120) (by decide +kernel) (by decide) (by decide) (by decide) (by decide) (by decide)
theorem Law_law_40_k22 (l0 : Value) (l1 : Value) (l2 : Value) (l3 : Value) (l4 : Value) (l5 : Value) (l6 : Value) (l7 : Value) (l8 : Value) (w : Wd) (I : MI) (L : ML) (P : MP) : go 225 40 [l0, l1, l2, l3, l4, l5, l6, l7, l8] [.int (nI 22)] w I L P = go 225 1452 [l0, l1, l2, l3, l4, l5, l6, l7, l8] [] w I L P := go_tsI (m := 225) (pc := 40) (z := 22) (off := 1412) (t := 1452) (dflt := 1496) (lo := 0) (hi := 25) (offs := #[120, 176, 244, 328, 384, 440, 564, 644, 700, 756, 769, 837, 917, 985, 1053, 1109, 1177, 1190, 1246, 1259, 1315, 1356, 1412, 1425, 1438, 1482]) (len := 120) (by decide +kernel) (by decide) (by decide) (by decide) (by decide) (by decide)
theorem Law_law_40_k23 (l0 : Value) (l1 : Value) (l2 : Value) (l3 : Value) (l4 : Value) (l5 : Value) (l6 : Value) (l7 : Value) (l8 : Value) (w : Wd) (I : MI) (L : ML) (P : MP) : go 225 40 [l0, l1, l2, l3, l4, l5, l6, l7, l8] [.int (nI 23)] w I L P = go 225 1465 [l0, l1, l2, l3, l4, l5, l6, l7, l8] [] w I L P := go_tsI (m := 225) (pc := 40) (z := 23) (off := 1425) (t := 1465) (dflt := 1496) (lo := 0) (hi := 25) (offs := #[120, 176, 244, 328, 384, 440, 564, 644, 700, 756, 769, 837, 917, 985, 1053, 1109, 1177, 1190, 1246, 1259, 1315, 1356, 1412, 1425, 1438, 1482]) (len := 120) (by decide +kernel) (by decide) (by decide) (by decide) (by decide) (by decide)
theorem Law_law_40_k24 (l0 : Value) (l1 : Value) (l2 : Value) (l3 : Value) (l4 : Value) (l5 : Value) (l6 : Value) (l7 : Value) (l8 : Value) (w : Wd) (I : MI) (L : ML) (P : MP) : go 225 40 [l0, l1, l2, l3, l4, l5, l6, l7, l8] [.int (nI 24)] w I L P = go 225 1478 [l0, l1, l2, l3, l4, l5, l6, l7, l8] [] w I L P := go_tsI (m := 225) (pc := 40) (z := 24) (off := 1438) (t := 1478) (dflt := 1496) (lo := 0) (hi := 25) (offs := #[120, 176, 244, 328, 384, 440, 564, 644, 700, 756, 769, 837, 917, 985, 1053, 1109, 1177, 1190, 1246, 1259, 1315, 1356, 1412, 1425, 1438, 1482]) (len := 120) (by decide +kernel) (by decide) (by decide) (by decide) (by decide) (by decide)
theorem Law_law_40_k25 (l0 : Value) (l1 : Value) (l2 : Value) (l3 : Value) (l4 : Value) (l5 : Value) (l6 : Value) (l7 : Value) (l8 : Value) (w : Wd) (I : MI) (L : ML) (P : MP) : go 225 40 [l0, l1, l2, l3, l4, l5, l6, l7, l8] [.int (nI 25)] w I L P = go 225 1522 [l0, l1, l2, l3, l4, l5, l6, l7, l8] [] w I L P := go_tsI (m := 225) (pc := 40) (z := 25) (off := 1482) (t := 1522) (dflt := 1496) (lo := 0) (hi := 25) (offs := #[120, 176, 244, 328, 384, 440, 564, 644, 700, 756, 769, 837, 917, 985, 1053, 1109, 1177, 1190, 1246, 1259, 1315, 1356, 1412, 1425, 1438, 1482]) (len := 120) (by decide +kernel) (by decide) (by decide) (by decide) (by decide) (by decide)
theorem Law_law_40_kd (l0 : Value) (l1 : Value) (l2 : Value) (l3 : Value) (l4 : Value) (l5 : Value) (l6 : Value) (l7 : Value) (l8 : Value) (w : Wd) (I : MI) (L : ML) (P : MP) (y : Int32) (h0 : y.toInt < 0 ∨ 25 < y.toInt) : go 225 40 [l0, l1, l2, l3, l4, l5, l6, l7, l8] [.int y] w I L P = go 225 1536 [l0, l1, l2, l3, l4, l5, l6, l7, l8] [] w I L P := go_tsO (m := 225) (pc := 40) (t := 1536) (dflt := 1496) (lo := 0) (hi := 25) (offs := #[120, 176, 244, 328, 384, 440, 564, 644, 700, 756, 769, 837, 917, 985, 1053, 1109, 1177, 1190, 1246, 1259, 1315, 1356, 1412, 1425, 1438, 1482]) (len := 120) (by decide +kernel) h0 (by decide)
theorem Law_law_160_0 (a_l0 : Nat) (l2 : Value) (x_l4 : Int32) (l5 : Value) (l6 : Value) (l7 : Value) (l8 : Value) (w : Wd) (I : MI) (L : ML) (P : MP) (h0 : inA w a_l0 14 (x_l4 + (nI 1))) : go 225 160 [.ref a_l0, .null, l2, .null, .int x_l4, l5, l6, l7, l8] [] w I L P = kC (call 206 [.null, .int (I a_l0 (Int32.toNatClampNeg (x_l4 + (nI 1)))), .null] w I L P) (fun v w1 I1 L1 P1 => go 225 171 [.ref a_l0, .null, l2, .null, .int x_l4, l5, l6, l7, l8] (v.toList ++ []) w1 I1 L1 P1) := by
  refine (go_aload_nN (m := 225) (pc := 160) (k := 1) (by decide +kernel) rfl).trans ?_
  refine (go_aload_n (m := 225) (pc := 161) (k := 0) (by decide +kernel) rfl).trans ?_
  refine (go_iload (m := 225) (pc := 162) (k := 4) (by decide +kernel) rfl).trans ?_
  refine (go_ic (m := 225) (pc := 164) (n := 1) (by decide +kernel) ic_1).trans ?_
  refine (go_iadd (m := 225) (pc := 165) (by decide +kernel)).trans ?_
  refine (go_iald14 (m := 225) (pc := 166) (by decide +kernel) h0).trans ?_
  refine (go_aload_nN (m := 225) (pc := 167) (k := 3) (by decide +kernel) rfl).trans ?_
  exact go_sta (m := 225) (pc := 168) (o := 8) (x := 82) (y := 206) (kd := 4) (as := [.null, .int (I a_l0 (Int32.toNatClampNeg (x_l4 + (nI 1)))), .null]) (rs := []) (by decide +kernel) rfl rfl c_8_82 (Or.inr (Or.inr rfl)) rfl rfl rfl (by decide +kernel) (by simp only [List.length_cons, List.length_nil]; decide) (Nat.le_of_ble_eq_true rfl)
theorem Law_law_160_1 (a_l0 : Nat) (l2 : Value) (a_l3 : Nat) (x_l4 : Int32) (l5 : Value) (l6 : Value) (l7 : Value) (l8 : Value) (w : Wd) (I : MI) (L : ML) (P : MP) (h0 : inA w a_l0 14 (x_l4 + (nI 1))) : go 225 160 [.ref a_l0, .null, l2, .ref a_l3, .int x_l4, l5, l6, l7, l8] [] w I L P = kC (call 206 [.null, .int (I a_l0 (Int32.toNatClampNeg (x_l4 + (nI 1)))), .ref a_l3] w I L P) (fun v w1 I1 L1 P1 => go 225 171 [.ref a_l0, .null, l2, .ref a_l3, .int x_l4, l5, l6, l7, l8] (v.toList ++ []) w1 I1 L1 P1) := by
  refine (go_aload_nN (m := 225) (pc := 160) (k := 1) (by decide +kernel) rfl).trans ?_
  refine (go_aload_n (m := 225) (pc := 161) (k := 0) (by decide +kernel) rfl).trans ?_
  refine (go_iload (m := 225) (pc := 162) (k := 4) (by decide +kernel) rfl).trans ?_
  refine (go_ic (m := 225) (pc := 164) (n := 1) (by decide +kernel) ic_1).trans ?_
  refine (go_iadd (m := 225) (pc := 165) (by decide +kernel)).trans ?_
  refine (go_iald14 (m := 225) (pc := 166) (by decide +kernel) h0).trans ?_
  refine (go_aload_n (m := 225) (pc := 167) (k := 3) (by decide +kernel) rfl).trans ?_
  exact go_sta (m := 225) (pc := 168) (o := 8) (x := 82) (y := 206) (kd := 4) (as := [.null, .int (I a_l0 (Int32.toNatClampNeg (x_l4 + (nI 1)))), .ref a_l3]) (rs := []) (by decide +kernel) rfl rfl c_8_82 (Or.inr (Or.inr rfl)) rfl rfl rfl (by decide +kernel) (by simp only [List.length_cons, List.length_nil]; decide) (Nat.le_of_ble_eq_true rfl)
theorem Law_law_160_2 (a_l0 : Nat) (a_l1 : Nat) (l2 : Value) (x_l4 : Int32) (l5 : Value) (l6 : Value) (l7 : Value) (l8 : Value) (w : Wd) (I : MI) (L : ML) (P : MP) (h0 : inA w a_l0 14 (x_l4 + (nI 1))) : go 225 160 [.ref a_l0, .ref a_l1, l2, .null, .int x_l4, l5, l6, l7, l8] [] w I L P = kC (call 206 [.ref a_l1, .int (I a_l0 (Int32.toNatClampNeg (x_l4 + (nI 1)))), .null] w I L P) (fun v w1 I1 L1 P1 => go 225 171 [.ref a_l0, .ref a_l1, l2, .null, .int x_l4, l5, l6, l7, l8] (v.toList ++ []) w1 I1 L1 P1) := by
  refine (go_aload_n (m := 225) (pc := 160) (k := 1) (by decide +kernel) rfl).trans ?_
  refine (go_aload_n (m := 225) (pc := 161) (k := 0) (by decide +kernel) rfl).trans ?_
  refine (go_iload (m := 225) (pc := 162) (k := 4) (by decide +kernel) rfl).trans ?_
  refine (go_ic (m := 225) (pc := 164) (n := 1) (by decide +kernel) ic_1).trans ?_
  refine (go_iadd (m := 225) (pc := 165) (by decide +kernel)).trans ?_
  refine (go_iald14 (m := 225) (pc := 166) (by decide +kernel) h0).trans ?_
  refine (go_aload_nN (m := 225) (pc := 167) (k := 3) (by decide +kernel) rfl).trans ?_
  exact go_sta (m := 225) (pc := 168) (o := 8) (x := 82) (y := 206) (kd := 4) (as := [.ref a_l1, .int (I a_l0 (Int32.toNatClampNeg (x_l4 + (nI 1)))), .null]) (rs := []) (by decide +kernel) rfl rfl c_8_82 (Or.inr (Or.inr rfl)) rfl rfl rfl (by decide +kernel) (by simp only [List.length_cons, List.length_nil]; decide) (Nat.le_of_ble_eq_true rfl)
theorem Law_law_160_3 (a_l0 : Nat) (a_l1 : Nat) (l2 : Value) (a_l3 : Nat) (x_l4 : Int32) (l5 : Value) (l6 : Value) (l7 : Value) (l8 : Value) (w : Wd) (I : MI) (L : ML) (P : MP) (h0 : inA w a_l0 14 (x_l4 + (nI 1))) : go 225 160 [.ref a_l0, .ref a_l1, l2, .ref a_l3, .int x_l4, l5, l6, l7, l8] [] w I L P = kC (call 206 [.ref a_l1, .int (I a_l0 (Int32.toNatClampNeg (x_l4 + (nI 1)))), .ref a_l3] w I L P) (fun v w1 I1 L1 P1 => go 225 171 [.ref a_l0, .ref a_l1, l2, .ref a_l3, .int x_l4, l5, l6, l7, l8] (v.toList ++ []) w1 I1 L1 P1) := by
  refine (go_aload_n (m := 225) (pc := 160) (k := 1) (by decide +kernel) rfl).trans ?_
  refine (go_aload_n (m := 225) (pc := 161) (k := 0) (by decide +kernel) rfl).trans ?_
  refine (go_iload (m := 225) (pc := 162) (k := 4) (by decide +kernel) rfl).trans ?_
  refine (go_ic (m := 225) (pc := 164) (n := 1) (by decide +kernel) ic_1).trans ?_
  refine (go_iadd (m := 225) (pc := 165) (by decide +kernel)).trans ?_
  refine (go_iald14 (m := 225) (pc := 166) (by decide +kernel) h0).trans ?_
  refine (go_aload_n (m := 225) (pc := 167) (k := 3) (by decide +kernel) rfl).trans ?_
  exact go_sta (m := 225) (pc := 168) (o := 8) (x := 82) (y := 206) (kd := 4) (as := [.ref a_l1, .int (I a_l0 (Int32.toNatClampNeg (x_l4 + (nI 1)))), .ref a_l3]) (rs := []) (by decide +kernel) rfl rfl c_8_82 (Or.inr (Or.inr rfl)) rfl rfl rfl (by decide +kernel) (by simp only [List.length_cons, List.length_nil]; decide) (Nat.le_of_ble_eq_true rfl)
theorem Law_law_171 (a_l0 : Nat) (l1 : Value) (a_l2 : Nat) (l3 : Value) (x_l4 : Int32) (l5 : Value) (l6 : Value) (l7 : Value) (l8 : Value) (y0 : Int32) (w : Wd) (I : MI) (L : ML) (P : MP) (h0 : inA w a_l0 14 (x_l4 + (nI 1))) (h1 : w.1 a_l2 = some (7, 0)) : go 225 171 [.ref a_l0, l1, .ref a_l2, l3, .int x_l4, l5, l6, l7, l8] [.int y0] w I L P = kC (call 163 [.ref a_l2, .int (I a_l0 (Int32.toNatClampNeg (x_l4 + (nI 1))))] w I L P) (fun v w1 I1 L1 P1 => go 225 183 [.ref a_l0, l1, .ref a_l2, l3, .int x_l4, .int y0, l6, l7, l8] (v.toList ++ []) w1 I1 L1 P1) := by
  refine (go_istore (m := 225) (pc := 171) (k := 5) (ls' := [.ref a_l0, l1, .ref a_l2, l3, .int x_l4, .int y0, l6, l7, l8]) (by decide +kernel) (by simp only [List.length_cons, List.length_nil]; decide) rfl).trans ?_
  refine (go_aload_n (m := 225) (pc := 173) (k := 2) (by decide +kernel) rfl).trans ?_
  refine (go_aload_n (m := 225) (pc := 174) (k := 0) (by decide +kernel) rfl).trans ?_
  refine (go_iload (m := 225) (pc := 175) (k := 4) (by decide +kernel) rfl).trans ?_
  refine (go_ic (m := 225) (pc := 177) (n := 1) (by decide +kernel) ic_1).trans ?_
  refine (go_iadd (m := 225) (pc := 178) (by decide +kernel)).trans ?_
  refine (go_iald14 (m := 225) (pc := 179) (by decide +kernel) h0).trans ?_
  exact go_vir (m := 225) (pc := 180) (o := 8) (x := 87) (y := 163) (kd := 0) (b := a_l2) (bs := [.int (I a_l0 (Int32.toNatClampNeg (x_l4 + (nI 1))))]) (rs := []) (by decide +kernel) rfl rfl c_8_87 (Or.inl rfl) rfl rfl rfl (by decide +kernel) (by simp only [List.length_cons, List.length_nil]; decide) (Nat.le_of_ble_eq_true rfl) h1
theorem Law_law_183 (l0 : Value) (l1 : Value) (a_l2 : Nat) (l3 : Value) (l4 : Value) (l5 : Value) (l6 : Value) (l7 : Value) (l8 : Value) (y0 : Int32) (w : Wd) (I : MI) (L : ML) (P : MP) (h0 : w.1 a_l2 = some (7, 0)) : go 225 183 [l0, l1, .ref a_l2, l3, l4, l5, l6, l7, l8] [.int y0] w I L P = kC (call 121 [.ref a_l2] w I L P) (fun v w1 I1 L1 P1 => go 225 189 [l0, l1, .ref a_l2, l3, l4, (fix1 l5), .int y0, l7, l8] (v.toList ++ []) w1 I1 L1 P1) := by
  refine (go_istore (m := 225) (pc := 183) (k := 6) (ls' := [l0, l1, .ref a_l2, l3, l4, (fix1 l5), .int y0, l7, l8]) (by decide +kernel) (by simp only [List.length_cons, List.length_nil]; decide) rfl).trans ?_
  refine (go_aload_n (m := 225) (pc := 185) (k := 2) (by decide +kernel) rfl).trans ?_
  exact go_vir (m := 225) (pc := 186) (o := 8) (x := 88) (y := 121) (kd := 0) (b := a_l2) (bs := []) (rs := []) (by decide +kernel) rfl rfl c_8_88 (Or.inl rfl) rfl rfl rfl (by decide +kernel) (by simp only [List.length_cons, List.length_nil]; decide) (Nat.le_of_ble_eq_true rfl) h0
theorem Law_law_189 (l0 : Value) (l1 : Value) (l2 : Value) (l3 : Value) (l4 : Value) (x_l5 : Int32) (l6 : Value) (l7 : Value) (l8 : Value) (y0 : Int32) (w : Wd) (I : MI) (L : ML) (P : MP)  : go 225 189 [l0, l1, l2, l3, l4, .int x_l5, l6, l7, l8] [.int y0] w I L P = if y0 = x_l5 then go 225 196 [l0, l1, l2, l3, l4, .int x_l5, l6, l7, l8] [] w I L P else go 225 194 [l0, l1, l2, l3, l4, .int x_l5, l6, l7, l8] [] w I L P := by
  refine (go_iload (m := 225) (pc := 189) (k := 5) (by decide +kernel) rfl).trans ?_
  exact go_icmpeq (m := 225) (pc := 191) (off := 5) (t := 196) (by decide +kernel) (by decide)
theorem Law_law_194 (l0 : Value) (l1 : Value) (l2 : Value) (l3 : Value) (l4 : Value) (l5 : Value) (l6 : Value) (l7 : Value) (l8 : Value) (w : Wd) (I : MI) (L : ML) (P : MP) (h0 : (nI 0) &&& 1 = (nI 0)) : go 225 194 [l0, l1, l2, l3, l4, l5, l6, l7, l8] [] w I L P = some (.inl (some (.int (nI 0))), w, I, L, P) := by
  refine (go_ic (m := 225) (pc := 194) (n := 0) (by decide +kernel) ic_0).trans ?_
  exact go_retZ (m := 225) (pc := 195) (by decide +kernel) rfl h0
theorem Law_law_196 (l0 : Value) (l1 : Value) (l2 : Value) (l3 : Value) (l4 : Value) (x_l5 : Int32) (l6 : Value) (l7 : Value) (l8 : Value) (w : Wd) (I : MI) (L : ML) (P : MP)  : go 225 196 [l0, l1, l2, l3, l4, .int x_l5, l6, l7, l8] [] w I L P = if x_l5 ≠ 0 then go 225 213 [l0, l1, l2, l3, l4, .int x_l5, l6, l7, l8] [] w I L P else go 225 201 [l0, l1, l2, l3, l4, .int x_l5, l6, l7, l8] [] w I L P := by
  refine (go_iload (m := 225) (pc := 196) (k := 5) (by decide +kernel) rfl).trans ?_
  exact go_ifne (m := 225) (pc := 198) (off := 15) (t := 213) (by decide +kernel) (by decide)
theorem Law_law_201 (l0 : Value) (l1 : Value) (l2 : Value) (a_l3 : Nat) (l4 : Value) (l5 : Value) (x_l6 : Int32) (l7 : Value) (l8 : Value) (w : Wd) (I : MI) (L : ML) (P : MP) (h0 : inA w a_l3 9 (nI 0)) : go 225 201 [l0, l1, l2, .ref a_l3, l4, l5, .int x_l6, l7, l8] [] w I L P = if (lg_cmp (L a_l3 (Int32.toNatClampNeg (nI 0))) (Int32.toInt64 x_l6)) = 0 then go 225 213 [l0, l1, l2, .ref a_l3, l4, l5, .int x_l6, l7, l8] [] w I L P else go 225 211 [l0, l1, l2, .ref a_l3, l4, l5, .int x_l6, l7, l8] [] w I L P := by
  refine (go_aload_n (m := 225) (pc := 201) (k := 3) (by decide +kernel) rfl).trans ?_
  refine (go_ic (m := 225) (pc := 202) (n := 0) (by decide +kernel) ic_0).trans ?_
  refine (go_lald (m := 225) (pc := 203) (by decide +kernel) h0).trans ?_
  refine (go_iload (m := 225) (pc := 204) (k := 6) (by decide +kernel) rfl).trans ?_
  refine (go_i2l (m := 225) (pc := 206) (by decide +kernel)).trans ?_
  refine (go_lcmp (m := 225) (pc := 207) (by decide +kernel)).trans ?_
  exact go_ifeq (m := 225) (pc := 208) (off := 5) (t := 213) (by decide +kernel) (by decide)
theorem Law_law_211 (l0 : Value) (l1 : Value) (l2 : Value) (l3 : Value) (l4 : Value) (l5 : Value) (l6 : Value) (l7 : Value) (l8 : Value) (w : Wd) (I : MI) (L : ML) (P : MP) (h0 : (nI 0) &&& 1 = (nI 0)) : go 225 211 [l0, l1, l2, l3, l4, l5, l6, l7, l8] [] w I L P = some (.inl (some (.int (nI 0))), w, I, L, P) := by
  refine (go_ic (m := 225) (pc := 211) (n := 0) (by decide +kernel) ic_0).trans ?_
  exact go_retZ (m := 225) (pc := 212) (by decide +kernel) rfl h0
theorem Law_law_213 (l0 : Value) (l1 : Value) (l2 : Value) (l3 : Value) (l4 : Value) (l5 : Value) (l6 : Value) (l7 : Value) (l8 : Value) (w : Wd) (I : MI) (L : ML) (P : MP)  : go 225 213 [l0, l1, l2, l3, l4, l5, l6, l7, l8] [] w I L P = go 225 1536 [l0, l1, l2, l3, l4, l5, l6, l7, l8] [] w I L P := by
  refine (go_goto (m := 225) (pc := 213) (off := 1323) (t := 1536) (by decide +kernel) (by decide)).trans ?_
  rfl
theorem Law_law_216_0 (a_l0 : Nat) (l2 : Value) (x_l4 : Int32) (l5 : Value) (l6 : Value) (l7 : Value) (l8 : Value) (w : Wd) (I : MI) (L : ML) (P : MP) (h0 : inA w a_l0 14 (x_l4 + (nI 1))) (h1 : inA w a_l0 14 (x_l4 + (nI 2))) : go 225 216 [.ref a_l0, .null, l2, .null, .int x_l4, l5, l6, l7, l8] [] w I L P = kC (call 207 [.null, .int (I a_l0 (Int32.toNatClampNeg (x_l4 + (nI 1)))), .int (I a_l0 (Int32.toNatClampNeg (x_l4 + (nI 2)))), .null] w I L P) (fun v w1 I1 L1 P1 => go 225 233 [.ref a_l0, .null, l2, .null, .int x_l4, l5, l6, l7, l8] (v.toList ++ []) w1 I1 L1 P1) := by
  refine (go_aload_nN (m := 225) (pc := 216) (k := 1) (by decide +kernel) rfl).trans ?_
  refine (go_aload_n (m := 225) (pc := 217) (k := 0) (by decide +kernel) rfl).trans ?_
  refine (go_iload (m := 225) (pc := 218) (k := 4) (by decide +kernel) rfl).trans ?_
  refine (go_ic (m := 225) (pc := 220) (n := 1) (by decide +kernel) ic_1).trans ?_
  refine (go_iadd (m := 225) (pc := 221) (by decide +kernel)).trans ?_
  refine (go_iald14 (m := 225) (pc := 222) (by decide +kernel) h0).trans ?_
  refine (go_aload_n (m := 225) (pc := 223) (k := 0) (by decide +kernel) rfl).trans ?_
  refine (go_iload (m := 225) (pc := 224) (k := 4) (by decide +kernel) rfl).trans ?_
  refine (go_ic (m := 225) (pc := 226) (n := 2) (by decide +kernel) ic_2).trans ?_
  refine (go_iadd (m := 225) (pc := 227) (by decide +kernel)).trans ?_
  refine (go_iald14 (m := 225) (pc := 228) (by decide +kernel) h1).trans ?_
  refine (go_aload_nN (m := 225) (pc := 229) (k := 3) (by decide +kernel) rfl).trans ?_
  exact go_sta (m := 225) (pc := 230) (o := 8) (x := 91) (y := 207) (kd := 4) (as := [.null, .int (I a_l0 (Int32.toNatClampNeg (x_l4 + (nI 1)))), .int (I a_l0 (Int32.toNatClampNeg (x_l4 + (nI 2)))), .null]) (rs := []) (by decide +kernel) rfl rfl c_8_91 (Or.inr (Or.inr rfl)) rfl rfl rfl (by decide +kernel) (by simp only [List.length_cons, List.length_nil]; decide) (Nat.le_of_ble_eq_true rfl)
theorem Law_law_216_1 (a_l0 : Nat) (l2 : Value) (a_l3 : Nat) (x_l4 : Int32) (l5 : Value) (l6 : Value) (l7 : Value) (l8 : Value) (w : Wd) (I : MI) (L : ML) (P : MP) (h0 : inA w a_l0 14 (x_l4 + (nI 1))) (h1 : inA w a_l0 14 (x_l4 + (nI 2))) : go 225 216 [.ref a_l0, .null, l2, .ref a_l3, .int x_l4, l5, l6, l7, l8] [] w I L P = kC (call 207 [.null, .int (I a_l0 (Int32.toNatClampNeg (x_l4 + (nI 1)))), .int (I a_l0 (Int32.toNatClampNeg (x_l4 + (nI 2)))), .ref a_l3] w I L P) (fun v w1 I1 L1 P1 => go 225 233 [.ref a_l0, .null, l2, .ref a_l3, .int x_l4, l5, l6, l7, l8] (v.toList ++ []) w1 I1 L1 P1) := by
  refine (go_aload_nN (m := 225) (pc := 216) (k := 1) (by decide +kernel) rfl).trans ?_
  refine (go_aload_n (m := 225) (pc := 217) (k := 0) (by decide +kernel) rfl).trans ?_
  refine (go_iload (m := 225) (pc := 218) (k := 4) (by decide +kernel) rfl).trans ?_
  refine (go_ic (m := 225) (pc := 220) (n := 1) (by decide +kernel) ic_1).trans ?_
  refine (go_iadd (m := 225) (pc := 221) (by decide +kernel)).trans ?_
  refine (go_iald14 (m := 225) (pc := 222) (by decide +kernel) h0).trans ?_
  refine (go_aload_n (m := 225) (pc := 223) (k := 0) (by decide +kernel) rfl).trans ?_
  refine (go_iload (m := 225) (pc := 224) (k := 4) (by decide +kernel) rfl).trans ?_
  refine (go_ic (m := 225) (pc := 226) (n := 2) (by decide +kernel) ic_2).trans ?_
  refine (go_iadd (m := 225) (pc := 227) (by decide +kernel)).trans ?_
  refine (go_iald14 (m := 225) (pc := 228) (by decide +kernel) h1).trans ?_
  refine (go_aload_n (m := 225) (pc := 229) (k := 3) (by decide +kernel) rfl).trans ?_
  exact go_sta (m := 225) (pc := 230) (o := 8) (x := 91) (y := 207) (kd := 4) (as := [.null, .int (I a_l0 (Int32.toNatClampNeg (x_l4 + (nI 1)))), .int (I a_l0 (Int32.toNatClampNeg (x_l4 + (nI 2)))), .ref a_l3]) (rs := []) (by decide +kernel) rfl rfl c_8_91 (Or.inr (Or.inr rfl)) rfl rfl rfl (by decide +kernel) (by simp only [List.length_cons, List.length_nil]; decide) (Nat.le_of_ble_eq_true rfl)
theorem Law_law_216_2 (a_l0 : Nat) (a_l1 : Nat) (l2 : Value) (x_l4 : Int32) (l5 : Value) (l6 : Value) (l7 : Value) (l8 : Value) (w : Wd) (I : MI) (L : ML) (P : MP) (h0 : inA w a_l0 14 (x_l4 + (nI 1))) (h1 : inA w a_l0 14 (x_l4 + (nI 2))) : go 225 216 [.ref a_l0, .ref a_l1, l2, .null, .int x_l4, l5, l6, l7, l8] [] w I L P = kC (call 207 [.ref a_l1, .int (I a_l0 (Int32.toNatClampNeg (x_l4 + (nI 1)))), .int (I a_l0 (Int32.toNatClampNeg (x_l4 + (nI 2)))), .null] w I L P) (fun v w1 I1 L1 P1 => go 225 233 [.ref a_l0, .ref a_l1, l2, .null, .int x_l4, l5, l6, l7, l8] (v.toList ++ []) w1 I1 L1 P1) := by
  refine (go_aload_n (m := 225) (pc := 216) (k := 1) (by decide +kernel) rfl).trans ?_
  refine (go_aload_n (m := 225) (pc := 217) (k := 0) (by decide +kernel) rfl).trans ?_
  refine (go_iload (m := 225) (pc := 218) (k := 4) (by decide +kernel) rfl).trans ?_
  refine (go_ic (m := 225) (pc := 220) (n := 1) (by decide +kernel) ic_1).trans ?_
  refine (go_iadd (m := 225) (pc := 221) (by decide +kernel)).trans ?_
  refine (go_iald14 (m := 225) (pc := 222) (by decide +kernel) h0).trans ?_
  refine (go_aload_n (m := 225) (pc := 223) (k := 0) (by decide +kernel) rfl).trans ?_
  refine (go_iload (m := 225) (pc := 224) (k := 4) (by decide +kernel) rfl).trans ?_
  refine (go_ic (m := 225) (pc := 226) (n := 2) (by decide +kernel) ic_2).trans ?_
  refine (go_iadd (m := 225) (pc := 227) (by decide +kernel)).trans ?_
  refine (go_iald14 (m := 225) (pc := 228) (by decide +kernel) h1).trans ?_
  refine (go_aload_nN (m := 225) (pc := 229) (k := 3) (by decide +kernel) rfl).trans ?_
  exact go_sta (m := 225) (pc := 230) (o := 8) (x := 91) (y := 207) (kd := 4) (as := [.ref a_l1, .int (I a_l0 (Int32.toNatClampNeg (x_l4 + (nI 1)))), .int (I a_l0 (Int32.toNatClampNeg (x_l4 + (nI 2)))), .null]) (rs := []) (by decide +kernel) rfl rfl c_8_91 (Or.inr (Or.inr rfl)) rfl rfl rfl (by decide +kernel) (by simp only [List.length_cons, List.length_nil]; decide) (Nat.le_of_ble_eq_true rfl)
theorem Law_law_216_3 (a_l0 : Nat) (a_l1 : Nat) (l2 : Value) (a_l3 : Nat) (x_l4 : Int32) (l5 : Value) (l6 : Value) (l7 : Value) (l8 : Value) (w : Wd) (I : MI) (L : ML) (P : MP) (h0 : inA w a_l0 14 (x_l4 + (nI 1))) (h1 : inA w a_l0 14 (x_l4 + (nI 2))) : go 225 216 [.ref a_l0, .ref a_l1, l2, .ref a_l3, .int x_l4, l5, l6, l7, l8] [] w I L P = kC (call 207 [.ref a_l1, .int (I a_l0 (Int32.toNatClampNeg (x_l4 + (nI 1)))), .int (I a_l0 (Int32.toNatClampNeg (x_l4 + (nI 2)))), .ref a_l3] w I L P) (fun v w1 I1 L1 P1 => go 225 233 [.ref a_l0, .ref a_l1, l2, .ref a_l3, .int x_l4, l5, l6, l7, l8] (v.toList ++ []) w1 I1 L1 P1) := by
  refine (go_aload_n (m := 225) (pc := 216) (k := 1) (by decide +kernel) rfl).trans ?_
  refine (go_aload_n (m := 225) (pc := 217) (k := 0) (by decide +kernel) rfl).trans ?_
  refine (go_iload (m := 225) (pc := 218) (k := 4) (by decide +kernel) rfl).trans ?_
  refine (go_ic (m := 225) (pc := 220) (n := 1) (by decide +kernel) ic_1).trans ?_
  refine (go_iadd (m := 225) (pc := 221) (by decide +kernel)).trans ?_
  refine (go_iald14 (m := 225) (pc := 222) (by decide +kernel) h0).trans ?_
  refine (go_aload_n (m := 225) (pc := 223) (k := 0) (by decide +kernel) rfl).trans ?_
  refine (go_iload (m := 225) (pc := 224) (k := 4) (by decide +kernel) rfl).trans ?_
  refine (go_ic (m := 225) (pc := 226) (n := 2) (by decide +kernel) ic_2).trans ?_
  refine (go_iadd (m := 225) (pc := 227) (by decide +kernel)).trans ?_
  refine (go_iald14 (m := 225) (pc := 228) (by decide +kernel) h1).trans ?_
  refine (go_aload_n (m := 225) (pc := 229) (k := 3) (by decide +kernel) rfl).trans ?_
  exact go_sta (m := 225) (pc := 230) (o := 8) (x := 91) (y := 207) (kd := 4) (as := [.ref a_l1, .int (I a_l0 (Int32.toNatClampNeg (x_l4 + (nI 1)))), .int (I a_l0 (Int32.toNatClampNeg (x_l4 + (nI 2)))), .ref a_l3]) (rs := []) (by decide +kernel) rfl rfl c_8_91 (Or.inr (Or.inr rfl)) rfl rfl rfl (by decide +kernel) (by simp only [List.length_cons, List.length_nil]; decide) (Nat.le_of_ble_eq_true rfl)
theorem Law_law_233 (a_l0 : Nat) (l1 : Value) (a_l2 : Nat) (l3 : Value) (x_l4 : Int32) (l5 : Value) (l6 : Value) (l7 : Value) (l8 : Value) (y0 : Int32) (w : Wd) (I : MI) (L : ML) (P : MP) (h0 : inA w a_l0 14 (x_l4 + (nI 1))) (h1 : inA w a_l0 14 (x_l4 + (nI 2))) (h2 : w.1 a_l2 = some (7, 0)) : go 225 233 [.ref a_l0, l1, .ref a_l2, l3, .int x_l4, l5, l6, l7, l8] [.int y0] w I L P = kC (call 164 [.ref a_l2, .int (I a_l0 (Int32.toNatClampNeg (x_l4 + (nI 1)))), .int (I a_l0 (Int32.toNatClampNeg (x_l4 + (nI 2))))] w I L P) (fun v w1 I1 L1 P1 => go 225 251 [.ref a_l0, l1, .ref a_l2, l3, .int x_l4, .int y0, l6, l7, l8] (v.toList ++ []) w1 I1 L1 P1) := by
  refine (go_istore (m := 225) (pc := 233) (k := 5) (ls' := [.ref a_l0, l1, .ref a_l2, l3, .int x_l4, .int y0, l6, l7, l8]) (by decide +kernel) (by simp only [List.length_cons, List.length_nil]; decide) rfl).trans ?_
  refine (go_aload_n (m := 225) (pc := 235) (k := 2) (by decide +kernel) rfl).trans ?_
  refine (go_aload_n (m := 225) (pc := 236) (k := 0) (by decide +kernel) rfl).trans ?_
  refine (go_iload (m := 225) (pc := 237) (k := 4) (by decide +kernel) rfl).trans ?_
  refine (go_ic (m := 225) (pc := 239) (n := 1) (by decide +kernel) ic_1).trans ?_
  refine (go_iadd (m := 225) (pc := 240) (by decide +kernel)).trans ?_
  refine (go_iald14 (m := 225) (pc := 241) (by decide +kernel) h0).trans ?_
  refine (go_aload_n (m := 225) (pc := 242) (k := 0) (by decide +kernel) rfl).trans ?_
  refine (go_iload (m := 225) (pc := 243) (k := 4) (by decide +kernel) rfl).trans ?_
  refine (go_ic (m := 225) (pc := 245) (n := 2) (by decide +kernel) ic_2).trans ?_
  refine (go_iadd (m := 225) (pc := 246) (by decide +kernel)).trans ?_
  refine (go_iald14 (m := 225) (pc := 247) (by decide +kernel) h1).trans ?_
  exact go_vir (m := 225) (pc := 248) (o := 8) (x := 94) (y := 164) (kd := 0) (b := a_l2) (bs := [.int (I a_l0 (Int32.toNatClampNeg (x_l4 + (nI 1)))), .int (I a_l0 (Int32.toNatClampNeg (x_l4 + (nI 2))))]) (rs := []) (by decide +kernel) rfl rfl c_8_94 (Or.inl rfl) rfl rfl rfl (by decide +kernel) (by simp only [List.length_cons, List.length_nil]; decide) (Nat.le_of_ble_eq_true rfl) h2
theorem Law_law_251 (l0 : Value) (l1 : Value) (a_l2 : Nat) (l3 : Value) (l4 : Value) (l5 : Value) (l6 : Value) (l7 : Value) (l8 : Value) (y0 : Int32) (w : Wd) (I : MI) (L : ML) (P : MP) (h0 : w.1 a_l2 = some (7, 0)) : go 225 251 [l0, l1, .ref a_l2, l3, l4, l5, l6, l7, l8] [.int y0] w I L P = kC (call 121 [.ref a_l2] w I L P) (fun v w1 I1 L1 P1 => go 225 257 [l0, l1, .ref a_l2, l3, l4, (fix1 l5), .int y0, l7, l8] (v.toList ++ []) w1 I1 L1 P1) := by
  refine (go_istore (m := 225) (pc := 251) (k := 6) (ls' := [l0, l1, .ref a_l2, l3, l4, (fix1 l5), .int y0, l7, l8]) (by decide +kernel) (by simp only [List.length_cons, List.length_nil]; decide) rfl).trans ?_
  refine (go_aload_n (m := 225) (pc := 253) (k := 2) (by decide +kernel) rfl).trans ?_
  exact go_vir (m := 225) (pc := 254) (o := 8) (x := 88) (y := 121) (kd := 0) (b := a_l2) (bs := []) (rs := []) (by decide +kernel) rfl rfl c_8_88 (Or.inl rfl) rfl rfl rfl (by decide +kernel) (by simp only [List.length_cons, List.length_nil]; decide) (Nat.le_of_ble_eq_true rfl) h0
theorem Law_law_257 (l0 : Value) (l1 : Value) (l2 : Value) (l3 : Value) (l4 : Value) (x_l5 : Int32) (l6 : Value) (l7 : Value) (l8 : Value) (y0 : Int32) (w : Wd) (I : MI) (L : ML) (P : MP)  : go 225 257 [l0, l1, l2, l3, l4, .int x_l5, l6, l7, l8] [.int y0] w I L P = if y0 = x_l5 then go 225 264 [l0, l1, l2, l3, l4, .int x_l5, l6, l7, l8] [] w I L P else go 225 262 [l0, l1, l2, l3, l4, .int x_l5, l6, l7, l8] [] w I L P := by
  refine (go_iload (m := 225) (pc := 257) (k := 5) (by decide +kernel) rfl).trans ?_
  exact go_icmpeq (m := 225) (pc := 259) (off := 5) (t := 264) (by decide +kernel) (by decide)
theorem Law_law_262 (l0 : Value) (l1 : Value) (l2 : Value) (l3 : Value) (l4 : Value) (l5 : Value) (l6 : Value) (l7 : Value) (l8 : Value) (w : Wd) (I : MI) (L : ML) (P : MP) (h0 : (nI 0) &&& 1 = (nI 0)) : go 225 262 [l0, l1, l2, l3, l4, l5, l6, l7, l8] [] w I L P = some (.inl (some (.int (nI 0))), w, I, L, P) := by
  refine (go_ic (m := 225) (pc := 262) (n := 0) (by decide +kernel) ic_0).trans ?_
  exact go_retZ (m := 225) (pc := 263) (by decide +kernel) rfl h0
theorem Law_law_264 (l0 : Value) (l1 : Value) (l2 : Value) (l3 : Value) (l4 : Value) (x_l5 : Int32) (l6 : Value) (l7 : Value) (l8 : Value) (w : Wd) (I : MI) (L : ML) (P : MP)  : go 225 264 [l0, l1, l2, l3, l4, .int x_l5, l6, l7, l8] [] w I L P = if x_l5 ≠ 0 then go 225 281 [l0, l1, l2, l3, l4, .int x_l5, l6, l7, l8] [] w I L P else go 225 269 [l0, l1, l2, l3, l4, .int x_l5, l6, l7, l8] [] w I L P := by
  refine (go_iload (m := 225) (pc := 264) (k := 5) (by decide +kernel) rfl).trans ?_
  exact go_ifne (m := 225) (pc := 266) (off := 15) (t := 281) (by decide +kernel) (by decide)
theorem Law_law_269 (l0 : Value) (l1 : Value) (l2 : Value) (a_l3 : Nat) (l4 : Value) (l5 : Value) (x_l6 : Int32) (l7 : Value) (l8 : Value) (w : Wd) (I : MI) (L : ML) (P : MP) (h0 : inA w a_l3 9 (nI 0)) : go 225 269 [l0, l1, l2, .ref a_l3, l4, l5, .int x_l6, l7, l8] [] w I L P = if (lg_cmp (L a_l3 (Int32.toNatClampNeg (nI 0))) (Int32.toInt64 x_l6)) = 0 then go 225 281 [l0, l1, l2, .ref a_l3, l4, l5, .int x_l6, l7, l8] [] w I L P else go 225 279 [l0, l1, l2, .ref a_l3, l4, l5, .int x_l6, l7, l8] [] w I L P := by
  refine (go_aload_n (m := 225) (pc := 269) (k := 3) (by decide +kernel) rfl).trans ?_
  refine (go_ic (m := 225) (pc := 270) (n := 0) (by decide +kernel) ic_0).trans ?_
  refine (go_lald (m := 225) (pc := 271) (by decide +kernel) h0).trans ?_
  refine (go_iload (m := 225) (pc := 272) (k := 6) (by decide +kernel) rfl).trans ?_
  refine (go_i2l (m := 225) (pc := 274) (by decide +kernel)).trans ?_
  refine (go_lcmp (m := 225) (pc := 275) (by decide +kernel)).trans ?_
  exact go_ifeq (m := 225) (pc := 276) (off := 5) (t := 281) (by decide +kernel) (by decide)
theorem Law_law_279 (l0 : Value) (l1 : Value) (l2 : Value) (l3 : Value) (l4 : Value) (l5 : Value) (l6 : Value) (l7 : Value) (l8 : Value) (w : Wd) (I : MI) (L : ML) (P : MP) (h0 : (nI 0) &&& 1 = (nI 0)) : go 225 279 [l0, l1, l2, l3, l4, l5, l6, l7, l8] [] w I L P = some (.inl (some (.int (nI 0))), w, I, L, P) := by
  refine (go_ic (m := 225) (pc := 279) (n := 0) (by decide +kernel) ic_0).trans ?_
  exact go_retZ (m := 225) (pc := 280) (by decide +kernel) rfl h0
theorem Law_law_281 (l0 : Value) (l1 : Value) (l2 : Value) (l3 : Value) (l4 : Value) (l5 : Value) (l6 : Value) (l7 : Value) (l8 : Value) (w : Wd) (I : MI) (L : ML) (P : MP)  : go 225 281 [l0, l1, l2, l3, l4, l5, l6, l7, l8] [] w I L P = go 225 1536 [l0, l1, l2, l3, l4, l5, l6, l7, l8] [] w I L P := by
  refine (go_goto (m := 225) (pc := 281) (off := 1255) (t := 1536) (by decide +kernel) (by decide)).trans ?_
  rfl
theorem Law_law_284_0 (a_l0 : Nat) (l2 : Value) (l3 : Value) (x_l4 : Int32) (l5 : Value) (l6 : Value) (l7 : Value) (l8 : Value) (w : Wd) (I : MI) (L : ML) (P : MP) (h0 : inA w a_l0 14 (x_l4 + (nI 1))) (h1 : inA w a_l0 14 (x_l4 + (nI 2))) : go 225 284 [.ref a_l0, .null, l2, l3, .int x_l4, l5, l6, l7, l8] [] w I L P = if (I a_l0 (Int32.toNatClampNeg (x_l4 + (nI 2)))) = 0 then go 225 304 [.ref a_l0, .null, l2, l3, .int x_l4, l5, l6, l7, l8] [.int (I a_l0 (Int32.toNatClampNeg (x_l4 + (nI 1)))), .null] w I L P else go 225 300 [.ref a_l0, .null, l2, l3, .int x_l4, l5, l6, l7, l8] [.int (I a_l0 (Int32.toNatClampNeg (x_l4 + (nI 1)))), .null] w I L P := by
  refine (go_aload_nN (m := 225) (pc := 284) (k := 1) (by decide +kernel) rfl).trans ?_
  refine (go_aload_n (m := 225) (pc := 285) (k := 0) (by decide +kernel) rfl).trans ?_
  refine (go_iload (m := 225) (pc := 286) (k := 4) (by decide +kernel) rfl).trans ?_
  refine (go_ic (m := 225) (pc := 288) (n := 1) (by decide +kernel) ic_1).trans ?_
  refine (go_iadd (m := 225) (pc := 289) (by decide +kernel)).trans ?_
  refine (go_iald14 (m := 225) (pc := 290) (by decide +kernel) h0).trans ?_
  refine (go_aload_n (m := 225) (pc := 291) (k := 0) (by decide +kernel) rfl).trans ?_
  refine (go_iload (m := 225) (pc := 292) (k := 4) (by decide +kernel) rfl).trans ?_
  refine (go_ic (m := 225) (pc := 294) (n := 2) (by decide +kernel) ic_2).trans ?_
  refine (go_iadd (m := 225) (pc := 295) (by decide +kernel)).trans ?_
  refine (go_iald14 (m := 225) (pc := 296) (by decide +kernel) h1).trans ?_
  exact go_ifeq (m := 225) (pc := 297) (off := 7) (t := 304) (by decide +kernel) (by decide)
theorem Law_law_284_1 (a_l0 : Nat) (a_l1 : Nat) (l2 : Value) (l3 : Value) (x_l4 : Int32) (l5 : Value) (l6 : Value) (l7 : Value) (l8 : Value) (w : Wd) (I : MI) (L : ML) (P : MP) (h0 : inA w a_l0 14 (x_l4 + (nI 1))) (h1 : inA w a_l0 14 (x_l4 + (nI 2))) : go 225 284 [.ref a_l0, .ref a_l1, l2, l3, .int x_l4, l5, l6, l7, l8] [] w I L P = if (I a_l0 (Int32.toNatClampNeg (x_l4 + (nI 2)))) = 0 then go 225 304 [.ref a_l0, .ref a_l1, l2, l3, .int x_l4, l5, l6, l7, l8] [.int (I a_l0 (Int32.toNatClampNeg (x_l4 + (nI 1)))), .ref a_l1] w I L P else go 225 300 [.ref a_l0, .ref a_l1, l2, l3, .int x_l4, l5, l6, l7, l8] [.int (I a_l0 (Int32.toNatClampNeg (x_l4 + (nI 1)))), .ref a_l1] w I L P := by
  refine (go_aload_n (m := 225) (pc := 284) (k := 1) (by decide +kernel) rfl).trans ?_
  refine (go_aload_n (m := 225) (pc := 285) (k := 0) (by decide +kernel) rfl).trans ?_
  refine (go_iload (m := 225) (pc := 286) (k := 4) (by decide +kernel) rfl).trans ?_
  refine (go_ic (m := 225) (pc := 288) (n := 1) (by decide +kernel) ic_1).trans ?_
  refine (go_iadd (m := 225) (pc := 289) (by decide +kernel)).trans ?_
  refine (go_iald14 (m := 225) (pc := 290) (by decide +kernel) h0).trans ?_
  refine (go_aload_n (m := 225) (pc := 291) (k := 0) (by decide +kernel) rfl).trans ?_
  refine (go_iload (m := 225) (pc := 292) (k := 4) (by decide +kernel) rfl).trans ?_
  refine (go_ic (m := 225) (pc := 294) (n := 2) (by decide +kernel) ic_2).trans ?_
  refine (go_iadd (m := 225) (pc := 295) (by decide +kernel)).trans ?_
  refine (go_iald14 (m := 225) (pc := 296) (by decide +kernel) h1).trans ?_
  exact go_ifeq (m := 225) (pc := 297) (off := 7) (t := 304) (by decide +kernel) (by decide)
theorem Law_law_300 (l0 : Value) (l1 : Value) (l2 : Value) (l3 : Value) (l4 : Value) (l5 : Value) (l6 : Value) (l7 : Value) (l8 : Value) (v0 : Value) (y1 : Int32) (w : Wd) (I : MI) (L : ML) (P : MP)  : go 225 300 [l0, l1, l2, l3, l4, l5, l6, l7, l8] [.int y1, v0] w I L P = go 225 305 [l0, l1, l2, l3, l4, l5, l6, l7, l8] [.int (nI 1), .int y1, v0] w I L P := by
  refine (go_ic (m := 225) (pc := 300) (n := 1) (by decide +kernel) ic_1).trans ?_
  refine (go_goto (m := 225) (pc := 301) (off := 4) (t := 305) (by decide +kernel) (by decide)).trans ?_
  rfl
theorem Law_law_304 (l0 : Value) (l1 : Value) (l2 : Value) (l3 : Value) (l4 : Value) (l5 : Value) (l6 : Value) (l7 : Value) (l8 : Value) (v0 : Value) (y1 : Int32) (w : Wd) (I : MI) (L : ML) (P : MP)  : go 225 304 [l0, l1, l2, l3, l4, l5, l6, l7, l8] [.int y1, v0] w I L P = go 225 305 [l0, l1, l2, l3, l4, l5, l6, l7, l8] [.int (nI 0), .int y1, v0] w I L P := by
  refine (go_ic (m := 225) (pc := 304) (n := 0) (by decide +kernel) ic_0).trans ?_
  rfl
theorem Law_law_305_0 (l0 : Value) (l1 : Value) (l2 : Value) (l4 : Value) (l5 : Value) (l6 : Value) (l7 : Value) (l8 : Value) (y1 : Int32) (y2 : Int32) (w : Wd) (I : MI) (L : ML) (P : MP)  : go 225 305 [l0, l1, l2, .null, l4, l5, l6, l7, l8] [.int y2, .int y1, .null] w I L P = kC (call 208 [.null, .int y1, .int y2, .null] w I L P) (fun v w1 I1 L1 P1 => go 225 309 [l0, l1, l2, .null, l4, l5, l6, l7, l8] (v.toList ++ []) w1 I1 L1 P1) := by
  refine (go_aload_nN (m := 225) (pc := 305) (k := 3) (by decide +kernel) rfl).trans ?_
  exact go_sta (m := 225) (pc := 306) (o := 8) (x := 95) (y := 208) (kd := 4) (as := [.null, .int y1, .int y2, .null]) (rs := []) (by decide +kernel) rfl rfl c_8_95 (Or.inr (Or.inr rfl)) rfl rfl rfl (by decide +kernel) (by simp only [List.length_cons, List.length_nil]; decide) (Nat.le_of_ble_eq_true rfl)
theorem Law_law_305_1 (l0 : Value) (l1 : Value) (l2 : Value) (l4 : Value) (l5 : Value) (l6 : Value) (l7 : Value) (l8 : Value) (a_s0 : Nat) (y1 : Int32) (y2 : Int32) (w : Wd) (I : MI) (L : ML) (P : MP)  : go 225 305 [l0, l1, l2, .null, l4, l5, l6, l7, l8] [.int y2, .int y1, .ref a_s0] w I L P = kC (call 208 [.ref a_s0, .int y1, .int y2, .null] w I L P) (fun v w1 I1 L1 P1 => go 225 309 [l0, l1, l2, .null, l4, l5, l6, l7, l8] (v.toList ++ []) w1 I1 L1 P1) := by
  refine (go_aload_nN (m := 225) (pc := 305) (k := 3) (by decide +kernel) rfl).trans ?_
  exact go_sta (m := 225) (pc := 306) (o := 8) (x := 95) (y := 208) (kd := 4) (as := [.ref a_s0, .int y1, .int y2, .null]) (rs := []) (by decide +kernel) rfl rfl c_8_95 (Or.inr (Or.inr rfl)) rfl rfl rfl (by decide +kernel) (by simp only [List.length_cons, List.length_nil]; decide) (Nat.le_of_ble_eq_true rfl)
theorem Law_law_305_2 (l0 : Value) (l1 : Value) (l2 : Value) (a_l3 : Nat) (l4 : Value) (l5 : Value) (l6 : Value) (l7 : Value) (l8 : Value) (y1 : Int32) (y2 : Int32) (w : Wd) (I : MI) (L : ML) (P : MP)  : go 225 305 [l0, l1, l2, .ref a_l3, l4, l5, l6, l7, l8] [.int y2, .int y1, .null] w I L P = kC (call 208 [.null, .int y1, .int y2, .ref a_l3] w I L P) (fun v w1 I1 L1 P1 => go 225 309 [l0, l1, l2, .ref a_l3, l4, l5, l6, l7, l8] (v.toList ++ []) w1 I1 L1 P1) := by
  refine (go_aload_n (m := 225) (pc := 305) (k := 3) (by decide +kernel) rfl).trans ?_
  exact go_sta (m := 225) (pc := 306) (o := 8) (x := 95) (y := 208) (kd := 4) (as := [.null, .int y1, .int y2, .ref a_l3]) (rs := []) (by decide +kernel) rfl rfl c_8_95 (Or.inr (Or.inr rfl)) rfl rfl rfl (by decide +kernel) (by simp only [List.length_cons, List.length_nil]; decide) (Nat.le_of_ble_eq_true rfl)
theorem Law_law_305_3 (l0 : Value) (l1 : Value) (l2 : Value) (a_l3 : Nat) (l4 : Value) (l5 : Value) (l6 : Value) (l7 : Value) (l8 : Value) (a_s0 : Nat) (y1 : Int32) (y2 : Int32) (w : Wd) (I : MI) (L : ML) (P : MP)  : go 225 305 [l0, l1, l2, .ref a_l3, l4, l5, l6, l7, l8] [.int y2, .int y1, .ref a_s0] w I L P = kC (call 208 [.ref a_s0, .int y1, .int y2, .ref a_l3] w I L P) (fun v w1 I1 L1 P1 => go 225 309 [l0, l1, l2, .ref a_l3, l4, l5, l6, l7, l8] (v.toList ++ []) w1 I1 L1 P1) := by
  refine (go_aload_n (m := 225) (pc := 305) (k := 3) (by decide +kernel) rfl).trans ?_
  exact go_sta (m := 225) (pc := 306) (o := 8) (x := 95) (y := 208) (kd := 4) (as := [.ref a_s0, .int y1, .int y2, .ref a_l3]) (rs := []) (by decide +kernel) rfl rfl c_8_95 (Or.inr (Or.inr rfl)) rfl rfl rfl (by decide +kernel) (by simp only [List.length_cons, List.length_nil]; decide) (Nat.le_of_ble_eq_true rfl)
theorem Law_law_309_0 (a_l0 : Nat) (l1 : Value) (l3 : Value) (x_l4 : Int32) (l5 : Value) (l6 : Value) (l7 : Value) (l8 : Value) (y0 : Int32) (w : Wd) (I : MI) (L : ML) (P : MP) (h0 : inA w a_l0 14 (x_l4 + (nI 1))) (h1 : inA w a_l0 14 (x_l4 + (nI 2))) : go 225 309 [.ref a_l0, l1, .null, l3, .int x_l4, l5, l6, l7, l8] [.int y0] w I L P = if (I a_l0 (Int32.toNatClampNeg (x_l4 + (nI 2)))) = 0 then go 225 331 [.ref a_l0, l1, .null, l3, .int x_l4, .int y0, l6, l7, l8] [.int (I a_l0 (Int32.toNatClampNeg (x_l4 + (nI 1)))), .null] w I L P else go 225 327 [.ref a_l0, l1, .null, l3, .int x_l4, .int y0, l6, l7, l8] [.int (I a_l0 (Int32.toNatClampNeg (x_l4 + (nI 1)))), .null] w I L P := by
  refine (go_istore (m := 225) (pc := 309) (k := 5) (ls' := [.ref a_l0, l1, .null, l3, .int x_l4, .int y0, l6, l7, l8]) (by decide +kernel) (by simp only [List.length_cons, List.length_nil]; decide) rfl).trans ?_
  refine (go_aload_nN (m := 225) (pc := 311) (k := 2) (by decide +kernel) rfl).trans ?_
  refine (go_aload_n (m := 225) (pc := 312) (k := 0) (by decide +kernel) rfl).trans ?_
  refine (go_iload (m := 225) (pc := 313) (k := 4) (by decide +kernel) rfl).trans ?_
  refine (go_ic (m := 225) (pc := 315) (n := 1) (by decide +kernel) ic_1).trans ?_
  refine (go_iadd (m := 225) (pc := 316) (by decide +kernel)).trans ?_
  refine (go_iald14 (m := 225) (pc := 317) (by decide +kernel) h0).trans ?_
  refine (go_aload_n (m := 225) (pc := 318) (k := 0) (by decide +kernel) rfl).trans ?_
  refine (go_iload (m := 225) (pc := 319) (k := 4) (by decide +kernel) rfl).trans ?_
  refine (go_ic (m := 225) (pc := 321) (n := 2) (by decide +kernel) ic_2).trans ?_
  refine (go_iadd (m := 225) (pc := 322) (by decide +kernel)).trans ?_
  refine (go_iald14 (m := 225) (pc := 323) (by decide +kernel) h1).trans ?_
  exact go_ifeq (m := 225) (pc := 324) (off := 7) (t := 331) (by decide +kernel) (by decide)
theorem Law_law_309_1 (a_l0 : Nat) (l1 : Value) (a_l2 : Nat) (l3 : Value) (x_l4 : Int32) (l5 : Value) (l6 : Value) (l7 : Value) (l8 : Value) (y0 : Int32) (w : Wd) (I : MI) (L : ML) (P : MP) (h0 : inA w a_l0 14 (x_l4 + (nI 1))) (h1 : inA w a_l0 14 (x_l4 + (nI 2))) : go 225 309 [.ref a_l0, l1, .ref a_l2, l3, .int x_l4, l5, l6, l7, l8] [.int y0] w I L P = if (I a_l0 (Int32.toNatClampNeg (x_l4 + (nI 2)))) = 0 then go 225 331 [.ref a_l0, l1, .ref a_l2, l3, .int x_l4, .int y0, l6, l7, l8] [.int (I a_l0 (Int32.toNatClampNeg (x_l4 + (nI 1)))), .ref a_l2] w I L P else go 225 327 [.ref a_l0, l1, .ref a_l2, l3, .int x_l4, .int y0, l6, l7, l8] [.int (I a_l0 (Int32.toNatClampNeg (x_l4 + (nI 1)))), .ref a_l2] w I L P := by
  refine (go_istore (m := 225) (pc := 309) (k := 5) (ls' := [.ref a_l0, l1, .ref a_l2, l3, .int x_l4, .int y0, l6, l7, l8]) (by decide +kernel) (by simp only [List.length_cons, List.length_nil]; decide) rfl).trans ?_
  refine (go_aload_n (m := 225) (pc := 311) (k := 2) (by decide +kernel) rfl).trans ?_
  refine (go_aload_n (m := 225) (pc := 312) (k := 0) (by decide +kernel) rfl).trans ?_
  refine (go_iload (m := 225) (pc := 313) (k := 4) (by decide +kernel) rfl).trans ?_
  refine (go_ic (m := 225) (pc := 315) (n := 1) (by decide +kernel) ic_1).trans ?_
  refine (go_iadd (m := 225) (pc := 316) (by decide +kernel)).trans ?_
  refine (go_iald14 (m := 225) (pc := 317) (by decide +kernel) h0).trans ?_
  refine (go_aload_n (m := 225) (pc := 318) (k := 0) (by decide +kernel) rfl).trans ?_
  refine (go_iload (m := 225) (pc := 319) (k := 4) (by decide +kernel) rfl).trans ?_
  refine (go_ic (m := 225) (pc := 321) (n := 2) (by decide +kernel) ic_2).trans ?_
  refine (go_iadd (m := 225) (pc := 322) (by decide +kernel)).trans ?_
  refine (go_iald14 (m := 225) (pc := 323) (by decide +kernel) h1).trans ?_
  exact go_ifeq (m := 225) (pc := 324) (off := 7) (t := 331) (by decide +kernel) (by decide)
theorem Law_law_327 (l0 : Value) (l1 : Value) (l2 : Value) (l3 : Value) (l4 : Value) (l5 : Value) (l6 : Value) (l7 : Value) (l8 : Value) (v0 : Value) (y1 : Int32) (w : Wd) (I : MI) (L : ML) (P : MP)  : go 225 327 [l0, l1, l2, l3, l4, l5, l6, l7, l8] [.int y1, v0] w I L P = go 225 332 [l0, l1, l2, l3, l4, l5, l6, l7, l8] [.int (nI 1), .int y1, v0] w I L P := by
  refine (go_ic (m := 225) (pc := 327) (n := 1) (by decide +kernel) ic_1).trans ?_
  refine (go_goto (m := 225) (pc := 328) (off := 4) (t := 332) (by decide +kernel) (by decide)).trans ?_
  rfl
theorem Law_law_331 (l0 : Value) (l1 : Value) (l2 : Value) (l3 : Value) (l4 : Value) (l5 : Value) (l6 : Value) (l7 : Value) (l8 : Value) (v0 : Value) (y1 : Int32) (w : Wd) (I : MI) (L : ML) (P : MP)  : go 225 331 [l0, l1, l2, l3, l4, l5, l6, l7, l8] [.int y1, v0] w I L P = go 225 332 [l0, l1, l2, l3, l4, l5, l6, l7, l8] [.int (nI 0), .int y1, v0] w I L P := by
  refine (go_ic (m := 225) (pc := 331) (n := 0) (by decide +kernel) ic_0).trans ?_
  rfl
theorem Law_law_332 (l0 : Value) (l1 : Value) (l2 : Value) (l3 : Value) (l4 : Value) (l5 : Value) (l6 : Value) (l7 : Value) (l8 : Value) (a_s0 : Nat) (y1 : Int32) (y2 : Int32) (w : Wd) (I : MI) (L : ML) (P : MP) (h0 : w.1 a_s0 = some (7, 0)) : go 225 332 [l0, l1, l2, l3, l4, l5, l6, l7, l8] [.int y2, .int y1, .ref a_s0] w I L P = kC (call 166 [.ref a_s0, .int y1, .int y2] w I L P) (fun v w1 I1 L1 P1 => go 225 335 [l0, l1, l2, l3, l4, l5, l6, l7, l8] (v.toList ++ []) w1 I1 L1 P1) := by
  exact go_vir (m := 225) (pc := 332) (o := 8) (x := 98) (y := 166) (kd := 0) (b := a_s0) (bs := [.int y1, .int y2]) (rs := []) (by decide +kernel) rfl rfl c_8_98 (Or.inl rfl) rfl rfl rfl (by decide +kernel) (by simp only [List.length_cons, List.length_nil]; decide) (Nat.le_of_ble_eq_true rfl) h0
theorem Law_law_335 (l0 : Value) (l1 : Value) (a_l2 : Nat) (l3 : Value) (l4 : Value) (l5 : Value) (l6 : Value) (l7 : Value) (l8 : Value) (y0 : Int32) (w : Wd) (I : MI) (L : ML) (P : MP) (h0 : w.1 a_l2 = some (7, 0)) : go 225 335 [l0, l1, .ref a_l2, l3, l4, l5, l6, l7, l8] [.int y0] w I L P = kC (call 121 [.ref a_l2] w I L P) (fun v w1 I1 L1 P1 => go 225 341 [l0, l1, .ref a_l2, l3, l4, (fix1 l5), .int y0, l7, l8] (v.toList ++ []) w1 I1 L1 P1) := by
  refine (go_istore (m := 225) (pc := 335) (k := 6) (ls' := [l0, l1, .ref a_l2, l3, l4, (fix1 l5), .int y0, l7, l8]) (by decide +kernel) (by simp only [List.length_cons, List.length_nil]; decide) rfl).trans ?_
  refine (go_aload_n (m := 225) (pc := 337) (k := 2) (by decide +kernel) rfl).trans ?_
  exact go_vir (m := 225) (pc := 338) (o := 8) (x := 88) (y := 121) (kd := 0) (b := a_l2) (bs := []) (rs := []) (by decide +kernel) rfl rfl c_8_88 (Or.inl rfl) rfl rfl rfl (by decide +kernel) (by simp only [List.length_cons, List.length_nil]; decide) (Nat.le_of_ble_eq_true rfl) h0
theorem Law_law_341 (l0 : Value) (l1 : Value) (l2 : Value) (l3 : Value) (l4 : Value) (x_l5 : Int32) (l6 : Value) (l7 : Value) (l8 : Value) (y0 : Int32) (w : Wd) (I : MI) (L : ML) (P : MP)  : go 225 341 [l0, l1, l2, l3, l4, .int x_l5, l6, l7, l8] [.int y0] w I L P = if y0 = x_l5 then go 225 348 [l0, l1, l2, l3, l4, .int x_l5, l6, l7, l8] [] w I L P else go 225 346 [l0, l1, l2, l3, l4, .int x_l5, l6, l7, l8] [] w I L P := by
  refine (go_iload (m := 225) (pc := 341) (k := 5) (by decide +kernel) rfl).trans ?_
  exact go_icmpeq (m := 225) (pc := 343) (off := 5) (t := 348) (by decide +kernel) (by decide)
theorem Law_law_346 (l0 : Value) (l1 : Value) (l2 : Value) (l3 : Value) (l4 : Value) (l5 : Value) (l6 : Value) (l7 : Value) (l8 : Value) (w : Wd) (I : MI) (L : ML) (P : MP) (h0 : (nI 0) &&& 1 = (nI 0)) : go 225 346 [l0, l1, l2, l3, l4, l5, l6, l7, l8] [] w I L P = some (.inl (some (.int (nI 0))), w, I, L, P) := by
  refine (go_ic (m := 225) (pc := 346) (n := 0) (by decide +kernel) ic_0).trans ?_
  exact go_retZ (m := 225) (pc := 347) (by decide +kernel) rfl h0
theorem Law_law_348 (l0 : Value) (l1 : Value) (l2 : Value) (l3 : Value) (l4 : Value) (x_l5 : Int32) (l6 : Value) (l7 : Value) (l8 : Value) (w : Wd) (I : MI) (L : ML) (P : MP)  : go 225 348 [l0, l1, l2, l3, l4, .int x_l5, l6, l7, l8] [] w I L P = if x_l5 ≠ 0 then go 225 365 [l0, l1, l2, l3, l4, .int x_l5, l6, l7, l8] [] w I L P else go 225 353 [l0, l1, l2, l3, l4, .int x_l5, l6, l7, l8] [] w I L P := by
  refine (go_iload (m := 225) (pc := 348) (k := 5) (by decide +kernel) rfl).trans ?_
  exact go_ifne (m := 225) (pc := 350) (off := 15) (t := 365) (by decide +kernel) (by decide)
theorem Law_law_353 (l0 : Value) (l1 : Value) (l2 : Value) (a_l3 : Nat) (l4 : Value) (l5 : Value) (x_l6 : Int32) (l7 : Value) (l8 : Value) (w : Wd) (I : MI) (L : ML) (P : MP) (h0 : inA w a_l3 9 (nI 0)) : go 225 353 [l0, l1, l2, .ref a_l3, l4, l5, .int x_l6, l7, l8] [] w I L P = if (lg_cmp (L a_l3 (Int32.toNatClampNeg (nI 0))) (Int32.toInt64 x_l6)) = 0 then go 225 365 [l0, l1, l2, .ref a_l3, l4, l5, .int x_l6, l7, l8] [] w I L P else go 225 363 [l0, l1, l2, .ref a_l3, l4, l5, .int x_l6, l7, l8] [] w I L P := by
  refine (go_aload_n (m := 225) (pc := 353) (k := 3) (by decide +kernel) rfl).trans ?_
  refine (go_ic (m := 225) (pc := 354) (n := 0) (by decide +kernel) ic_0).trans ?_
  refine (go_lald (m := 225) (pc := 355) (by decide +kernel) h0).trans ?_
  refine (go_iload (m := 225) (pc := 356) (k := 6) (by decide +kernel) rfl).trans ?_
  refine (go_i2l (m := 225) (pc := 358) (by decide +kernel)).trans ?_
  refine (go_lcmp (m := 225) (pc := 359) (by decide +kernel)).trans ?_
  exact go_ifeq (m := 225) (pc := 360) (off := 5) (t := 365) (by decide +kernel) (by decide)
theorem Law_law_363 (l0 : Value) (l1 : Value) (l2 : Value) (l3 : Value) (l4 : Value) (l5 : Value) (l6 : Value) (l7 : Value) (l8 : Value) (w : Wd) (I : MI) (L : ML) (P : MP) (h0 : (nI 0) &&& 1 = (nI 0)) : go 225 363 [l0, l1, l2, l3, l4, l5, l6, l7, l8] [] w I L P = some (.inl (some (.int (nI 0))), w, I, L, P) := by
  refine (go_ic (m := 225) (pc := 363) (n := 0) (by decide +kernel) ic_0).trans ?_
  exact go_retZ (m := 225) (pc := 364) (by decide +kernel) rfl h0
theorem Law_law_365 (l0 : Value) (l1 : Value) (l2 : Value) (l3 : Value) (l4 : Value) (l5 : Value) (l6 : Value) (l7 : Value) (l8 : Value) (w : Wd) (I : MI) (L : ML) (P : MP)  : go 225 365 [l0, l1, l2, l3, l4, l5, l6, l7, l8] [] w I L P = go 225 1536 [l0, l1, l2, l3, l4, l5, l6, l7, l8] [] w I L P := by
  refine (go_goto (m := 225) (pc := 365) (off := 1171) (t := 1536) (by decide +kernel) (by decide)).trans ?_
  rfl
theorem Law_law_368_0 (a_l0 : Nat) (l2 : Value) (x_l4 : Int32) (l5 : Value) (l6 : Value) (l7 : Value) (l8 : Value) (w : Wd) (I : MI) (L : ML) (P : MP) (h0 : inA w a_l0 14 (x_l4 + (nI 1))) : go 225 368 [.ref a_l0, .null, l2, .null, .int x_l4, l5, l6, l7, l8] [] w I L P = kC (call 209 [.null, .int (I a_l0 (Int32.toNatClampNeg (x_l4 + (nI 1)))), .null] w I L P) (fun v w1 I1 L1 P1 => go 225 379 [.ref a_l0, .null, l2, .null, .int x_l4, l5, l6, l7, l8] (v.toList ++ []) w1 I1 L1 P1) := by
  refine (go_aload_nN (m := 225) (pc := 368) (k := 1) (by decide +kernel) rfl).trans ?_
  refine (go_aload_n (m := 225) (pc := 369) (k := 0) (by decide +kernel) rfl).trans ?_
  refine (go_iload (m := 225) (pc := 370) (k := 4) (by decide +kernel) rfl).trans ?_
  refine (go_ic (m := 225) (pc := 372) (n := 1) (by decide +kernel) ic_1).trans ?_
  refine (go_iadd (m := 225) (pc := 373) (by decide +kernel)).trans ?_
  refine (go_iald14 (m := 225) (pc := 374) (by decide +kernel) h0).trans ?_
  refine (go_aload_nN (m := 225) (pc := 375) (k := 3) (by decide +kernel) rfl).trans ?_
  exact go_sta (m := 225) (pc := 376) (o := 8) (x := 99) (y := 209) (kd := 4) (as := [.null, .int (I a_l0 (Int32.toNatClampNeg (x_l4 + (nI 1)))), .null]) (rs := []) (by decide +kernel) rfl rfl c_8_99 (Or.inr (Or.inr rfl)) rfl rfl rfl (by decide +kernel) (by simp only [List.length_cons, List.length_nil]; decide) (Nat.le_of_ble_eq_true rfl)
theorem Law_law_368_1 (a_l0 : Nat) (l2 : Value) (a_l3 : Nat) (x_l4 : Int32) (l5 : Value) (l6 : Value) (l7 : Value) (l8 : Value) (w : Wd) (I : MI) (L : ML) (P : MP) (h0 : inA w a_l0 14 (x_l4 + (nI 1))) : go 225 368 [.ref a_l0, .null, l2, .ref a_l3, .int x_l4, l5, l6, l7, l8] [] w I L P = kC (call 209 [.null, .int (I a_l0 (Int32.toNatClampNeg (x_l4 + (nI 1)))), .ref a_l3] w I L P) (fun v w1 I1 L1 P1 => go 225 379 [.ref a_l0, .null, l2, .ref a_l3, .int x_l4, l5, l6, l7, l8] (v.toList ++ []) w1 I1 L1 P1) := by
  refine (go_aload_nN (m := 225) (pc := 368) (k := 1) (by decide +kernel) rfl).trans ?_
  refine (go_aload_n (m := 225) (pc := 369) (k := 0) (by decide +kernel) rfl).trans ?_
  refine (go_iload (m := 225) (pc := 370) (k := 4) (by decide +kernel) rfl).trans ?_
  refine (go_ic (m := 225) (pc := 372) (n := 1) (by decide +kernel) ic_1).trans ?_
  refine (go_iadd (m := 225) (pc := 373) (by decide +kernel)).trans ?_
  refine (go_iald14 (m := 225) (pc := 374) (by decide +kernel) h0).trans ?_
  refine (go_aload_n (m := 225) (pc := 375) (k := 3) (by decide +kernel) rfl).trans ?_
  exact go_sta (m := 225) (pc := 376) (o := 8) (x := 99) (y := 209) (kd := 4) (as := [.null, .int (I a_l0 (Int32.toNatClampNeg (x_l4 + (nI 1)))), .ref a_l3]) (rs := []) (by decide +kernel) rfl rfl c_8_99 (Or.inr (Or.inr rfl)) rfl rfl rfl (by decide +kernel) (by simp only [List.length_cons, List.length_nil]; decide) (Nat.le_of_ble_eq_true rfl)
theorem Law_law_368_2 (a_l0 : Nat) (a_l1 : Nat) (l2 : Value) (x_l4 : Int32) (l5 : Value) (l6 : Value) (l7 : Value) (l8 : Value) (w : Wd) (I : MI) (L : ML) (P : MP) (h0 : inA w a_l0 14 (x_l4 + (nI 1))) : go 225 368 [.ref a_l0, .ref a_l1, l2, .null, .int x_l4, l5, l6, l7, l8] [] w I L P = kC (call 209 [.ref a_l1, .int (I a_l0 (Int32.toNatClampNeg (x_l4 + (nI 1)))), .null] w I L P) (fun v w1 I1 L1 P1 => go 225 379 [.ref a_l0, .ref a_l1, l2, .null, .int x_l4, l5, l6, l7, l8] (v.toList ++ []) w1 I1 L1 P1) := by
  refine (go_aload_n (m := 225) (pc := 368) (k := 1) (by decide +kernel) rfl).trans ?_
  refine (go_aload_n (m := 225) (pc := 369) (k := 0) (by decide +kernel) rfl).trans ?_
  refine (go_iload (m := 225) (pc := 370) (k := 4) (by decide +kernel) rfl).trans ?_
  refine (go_ic (m := 225) (pc := 372) (n := 1) (by decide +kernel) ic_1).trans ?_
  refine (go_iadd (m := 225) (pc := 373) (by decide +kernel)).trans ?_
  refine (go_iald14 (m := 225) (pc := 374) (by decide +kernel) h0).trans ?_
  refine (go_aload_nN (m := 225) (pc := 375) (k := 3) (by decide +kernel) rfl).trans ?_
  exact go_sta (m := 225) (pc := 376) (o := 8) (x := 99) (y := 209) (kd := 4) (as := [.ref a_l1, .int (I a_l0 (Int32.toNatClampNeg (x_l4 + (nI 1)))), .null]) (rs := []) (by decide +kernel) rfl rfl c_8_99 (Or.inr (Or.inr rfl)) rfl rfl rfl (by decide +kernel) (by simp only [List.length_cons, List.length_nil]; decide) (Nat.le_of_ble_eq_true rfl)
theorem Law_law_368_3 (a_l0 : Nat) (a_l1 : Nat) (l2 : Value) (a_l3 : Nat) (x_l4 : Int32) (l5 : Value) (l6 : Value) (l7 : Value) (l8 : Value) (w : Wd) (I : MI) (L : ML) (P : MP) (h0 : inA w a_l0 14 (x_l4 + (nI 1))) : go 225 368 [.ref a_l0, .ref a_l1, l2, .ref a_l3, .int x_l4, l5, l6, l7, l8] [] w I L P = kC (call 209 [.ref a_l1, .int (I a_l0 (Int32.toNatClampNeg (x_l4 + (nI 1)))), .ref a_l3] w I L P) (fun v w1 I1 L1 P1 => go 225 379 [.ref a_l0, .ref a_l1, l2, .ref a_l3, .int x_l4, l5, l6, l7, l8] (v.toList ++ []) w1 I1 L1 P1) := by
  refine (go_aload_n (m := 225) (pc := 368) (k := 1) (by decide +kernel) rfl).trans ?_
  refine (go_aload_n (m := 225) (pc := 369) (k := 0) (by decide +kernel) rfl).trans ?_
  refine (go_iload (m := 225) (pc := 370) (k := 4) (by decide +kernel) rfl).trans ?_
  refine (go_ic (m := 225) (pc := 372) (n := 1) (by decide +kernel) ic_1).trans ?_
  refine (go_iadd (m := 225) (pc := 373) (by decide +kernel)).trans ?_
  refine (go_iald14 (m := 225) (pc := 374) (by decide +kernel) h0).trans ?_
  refine (go_aload_n (m := 225) (pc := 375) (k := 3) (by decide +kernel) rfl).trans ?_
  exact go_sta (m := 225) (pc := 376) (o := 8) (x := 99) (y := 209) (kd := 4) (as := [.ref a_l1, .int (I a_l0 (Int32.toNatClampNeg (x_l4 + (nI 1)))), .ref a_l3]) (rs := []) (by decide +kernel) rfl rfl c_8_99 (Or.inr (Or.inr rfl)) rfl rfl rfl (by decide +kernel) (by simp only [List.length_cons, List.length_nil]; decide) (Nat.le_of_ble_eq_true rfl)
theorem Law_law_379 (a_l0 : Nat) (l1 : Value) (a_l2 : Nat) (l3 : Value) (x_l4 : Int32) (l5 : Value) (l6 : Value) (l7 : Value) (l8 : Value) (y0 : Int32) (w : Wd) (I : MI) (L : ML) (P : MP) (h0 : inA w a_l0 14 (x_l4 + (nI 1))) (h1 : w.1 a_l2 = some (7, 0)) : go 225 379 [.ref a_l0, l1, .ref a_l2, l3, .int x_l4, l5, l6, l7, l8] [.int y0] w I L P = kC (call 167 [.ref a_l2, .int (I a_l0 (Int32.toNatClampNeg (x_l4 + (nI 1))))] w I L P) (fun v w1 I1 L1 P1 => go 225 391 [.ref a_l0, l1, .ref a_l2, l3, .int x_l4, .int y0, l6, l7, l8] (v.toList ++ []) w1 I1 L1 P1) := by
  refine (go_istore (m := 225) (pc := 379) (k := 5) (ls' := [.ref a_l0, l1, .ref a_l2, l3, .int x_l4, .int y0, l6, l7, l8]) (by decide +kernel) (by simp only [List.length_cons, List.length_nil]; decide) rfl).trans ?_
  refine (go_aload_n (m := 225) (pc := 381) (k := 2) (by decide +kernel) rfl).trans ?_
  refine (go_aload_n (m := 225) (pc := 382) (k := 0) (by decide +kernel) rfl).trans ?_
  refine (go_iload (m := 225) (pc := 383) (k := 4) (by decide +kernel) rfl).trans ?_
  refine (go_ic (m := 225) (pc := 385) (n := 1) (by decide +kernel) ic_1).trans ?_
  refine (go_iadd (m := 225) (pc := 386) (by decide +kernel)).trans ?_
  refine (go_iald14 (m := 225) (pc := 387) (by decide +kernel) h0).trans ?_
  exact go_vir (m := 225) (pc := 388) (o := 8) (x := 101) (y := 167) (kd := 0) (b := a_l2) (bs := [.int (I a_l0 (Int32.toNatClampNeg (x_l4 + (nI 1))))]) (rs := []) (by decide +kernel) rfl rfl c_8_101 (Or.inl rfl) rfl rfl rfl (by decide +kernel) (by simp only [List.length_cons, List.length_nil]; decide) (Nat.le_of_ble_eq_true rfl) h1
theorem Law_law_391 (l0 : Value) (l1 : Value) (a_l2 : Nat) (l3 : Value) (l4 : Value) (l5 : Value) (l6 : Value) (l7 : Value) (l8 : Value) (y0 : Int32) (w : Wd) (I : MI) (L : ML) (P : MP) (h0 : w.1 a_l2 = some (7, 0)) : go 225 391 [l0, l1, .ref a_l2, l3, l4, l5, l6, l7, l8] [.int y0] w I L P = kC (call 121 [.ref a_l2] w I L P) (fun v w1 I1 L1 P1 => go 225 397 [l0, l1, .ref a_l2, l3, l4, (fix1 l5), .int y0, l7, l8] (v.toList ++ []) w1 I1 L1 P1) := by
  refine (go_istore (m := 225) (pc := 391) (k := 6) (ls' := [l0, l1, .ref a_l2, l3, l4, (fix1 l5), .int y0, l7, l8]) (by decide +kernel) (by simp only [List.length_cons, List.length_nil]; decide) rfl).trans ?_
  refine (go_aload_n (m := 225) (pc := 393) (k := 2) (by decide +kernel) rfl).trans ?_
  exact go_vir (m := 225) (pc := 394) (o := 8) (x := 88) (y := 121) (kd := 0) (b := a_l2) (bs := []) (rs := []) (by decide +kernel) rfl rfl c_8_88 (Or.inl rfl) rfl rfl rfl (by decide +kernel) (by simp only [List.length_cons, List.length_nil]; decide) (Nat.le_of_ble_eq_true rfl) h0
theorem Law_law_397 (l0 : Value) (l1 : Value) (l2 : Value) (l3 : Value) (l4 : Value) (x_l5 : Int32) (l6 : Value) (l7 : Value) (l8 : Value) (y0 : Int32) (w : Wd) (I : MI) (L : ML) (P : MP)  : go 225 397 [l0, l1, l2, l3, l4, .int x_l5, l6, l7, l8] [.int y0] w I L P = if y0 = x_l5 then go 225 404 [l0, l1, l2, l3, l4, .int x_l5, l6, l7, l8] [] w I L P else go 225 402 [l0, l1, l2, l3, l4, .int x_l5, l6, l7, l8] [] w I L P := by
  refine (go_iload (m := 225) (pc := 397) (k := 5) (by decide +kernel) rfl).trans ?_
  exact go_icmpeq (m := 225) (pc := 399) (off := 5) (t := 404) (by decide +kernel) (by decide)
theorem Law_law_402 (l0 : Value) (l1 : Value) (l2 : Value) (l3 : Value) (l4 : Value) (l5 : Value) (l6 : Value) (l7 : Value) (l8 : Value) (w : Wd) (I : MI) (L : ML) (P : MP) (h0 : (nI 0) &&& 1 = (nI 0)) : go 225 402 [l0, l1, l2, l3, l4, l5, l6, l7, l8] [] w I L P = some (.inl (some (.int (nI 0))), w, I, L, P) := by
  refine (go_ic (m := 225) (pc := 402) (n := 0) (by decide +kernel) ic_0).trans ?_
  exact go_retZ (m := 225) (pc := 403) (by decide +kernel) rfl h0
theorem Law_law_404 (l0 : Value) (l1 : Value) (l2 : Value) (l3 : Value) (l4 : Value) (x_l5 : Int32) (l6 : Value) (l7 : Value) (l8 : Value) (w : Wd) (I : MI) (L : ML) (P : MP)  : go 225 404 [l0, l1, l2, l3, l4, .int x_l5, l6, l7, l8] [] w I L P = if x_l5 ≠ 0 then go 225 421 [l0, l1, l2, l3, l4, .int x_l5, l6, l7, l8] [] w I L P else go 225 409 [l0, l1, l2, l3, l4, .int x_l5, l6, l7, l8] [] w I L P := by
  refine (go_iload (m := 225) (pc := 404) (k := 5) (by decide +kernel) rfl).trans ?_
  exact go_ifne (m := 225) (pc := 406) (off := 15) (t := 421) (by decide +kernel) (by decide)
theorem Law_law_409 (l0 : Value) (l1 : Value) (l2 : Value) (a_l3 : Nat) (l4 : Value) (l5 : Value) (x_l6 : Int32) (l7 : Value) (l8 : Value) (w : Wd) (I : MI) (L : ML) (P : MP) (h0 : inA w a_l3 9 (nI 0)) : go 225 409 [l0, l1, l2, .ref a_l3, l4, l5, .int x_l6, l7, l8] [] w I L P = if (lg_cmp (L a_l3 (Int32.toNatClampNeg (nI 0))) (Int32.toInt64 x_l6)) = 0 then go 225 421 [l0, l1, l2, .ref a_l3, l4, l5, .int x_l6, l7, l8] [] w I L P else go 225 419 [l0, l1, l2, .ref a_l3, l4, l5, .int x_l6, l7, l8] [] w I L P := by
  refine (go_aload_n (m := 225) (pc := 409) (k := 3) (by decide +kernel) rfl).trans ?_
  refine (go_ic (m := 225) (pc := 410) (n := 0) (by decide +kernel) ic_0).trans ?_
  refine (go_lald (m := 225) (pc := 411) (by decide +kernel) h0).trans ?_
  refine (go_iload (m := 225) (pc := 412) (k := 6) (by decide +kernel) rfl).trans ?_
  refine (go_i2l (m := 225) (pc := 414) (by decide +kernel)).trans ?_
  refine (go_lcmp (m := 225) (pc := 415) (by decide +kernel)).trans ?_
  exact go_ifeq (m := 225) (pc := 416) (off := 5) (t := 421) (by decide +kernel) (by decide)
theorem Law_law_419 (l0 : Value) (l1 : Value) (l2 : Value) (l3 : Value) (l4 : Value) (l5 : Value) (l6 : Value) (l7 : Value) (l8 : Value) (w : Wd) (I : MI) (L : ML) (P : MP) (h0 : (nI 0) &&& 1 = (nI 0)) : go 225 419 [l0, l1, l2, l3, l4, l5, l6, l7, l8] [] w I L P = some (.inl (some (.int (nI 0))), w, I, L, P) := by
  refine (go_ic (m := 225) (pc := 419) (n := 0) (by decide +kernel) ic_0).trans ?_
  exact go_retZ (m := 225) (pc := 420) (by decide +kernel) rfl h0
theorem Law_law_421 (l0 : Value) (l1 : Value) (l2 : Value) (l3 : Value) (l4 : Value) (l5 : Value) (l6 : Value) (l7 : Value) (l8 : Value) (w : Wd) (I : MI) (L : ML) (P : MP)  : go 225 421 [l0, l1, l2, l3, l4, l5, l6, l7, l8] [] w I L P = go 225 1536 [l0, l1, l2, l3, l4, l5, l6, l7, l8] [] w I L P := by
  refine (go_goto (m := 225) (pc := 421) (off := 1115) (t := 1536) (by decide +kernel) (by decide)).trans ?_
  rfl
theorem Law_law_424_0 (a_l0 : Nat) (l2 : Value) (x_l4 : Int32) (l5 : Value) (l6 : Value) (l7 : Value) (l8 : Value) (w : Wd) (I : MI) (L : ML) (P : MP) (h0 : inA w a_l0 14 (x_l4 + (nI 1))) : go 225 424 [.ref a_l0, .null, l2, .null, .int x_l4, l5, l6, l7, l8] [] w I L P = kC (call 210 [.null, .int (I a_l0 (Int32.toNatClampNeg (x_l4 + (nI 1)))), .null] w I L P) (fun v w1 I1 L1 P1 => go 225 435 [.ref a_l0, .null, l2, .null, .int x_l4, l5, l6, l7, l8] (v.toList ++ []) w1 I1 L1 P1) := by
  refine (go_aload_nN (m := 225) (pc := 424) (k := 1) (by decide +kernel) rfl).trans ?_
  refine (go_aload_n (m := 225) (pc := 425) (k := 0) (by decide +kernel) rfl).trans ?_
  refine (go_iload (m := 225) (pc := 426) (k := 4) (by decide +kernel) rfl).trans ?_
  refine (go_ic (m := 225) (pc := 428) (n := 1) (by decide +kernel) ic_1).trans ?_
  refine (go_iadd (m := 225) (pc := 429) (by decide +kernel)).trans ?_
  refine (go_iald14 (m := 225) (pc := 430) (by decide +kernel) h0).trans ?_
  refine (go_aload_nN (m := 225) (pc := 431) (k := 3) (by decide +kernel) rfl).trans ?_
  exact go_sta (m := 225) (pc := 432) (o := 8) (x := 102) (y := 210) (kd := 4) (as := [.null, .int (I a_l0 (Int32.toNatClampNeg (x_l4 + (nI 1)))), .null]) (rs := []) (by decide +kernel) rfl rfl c_8_102 (Or.inr (Or.inr rfl)) rfl rfl rfl (by decide +kernel) (by simp only [List.length_cons, List.length_nil]; decide) (Nat.le_of_ble_eq_true rfl)
theorem Law_law_424_1 (a_l0 : Nat) (l2 : Value) (a_l3 : Nat) (x_l4 : Int32) (l5 : Value) (l6 : Value) (l7 : Value) (l8 : Value) (w : Wd) (I : MI) (L : ML) (P : MP) (h0 : inA w a_l0 14 (x_l4 + (nI 1))) : go 225 424 [.ref a_l0, .null, l2, .ref a_l3, .int x_l4, l5, l6, l7, l8] [] w I L P = kC (call 210 [.null, .int (I a_l0 (Int32.toNatClampNeg (x_l4 + (nI 1)))), .ref a_l3] w I L P) (fun v w1 I1 L1 P1 => go 225 435 [.ref a_l0, .null, l2, .ref a_l3, .int x_l4, l5, l6, l7, l8] (v.toList ++ []) w1 I1 L1 P1) := by
  refine (go_aload_nN (m := 225) (pc := 424) (k := 1) (by decide +kernel) rfl).trans ?_
  refine (go_aload_n (m := 225) (pc := 425) (k := 0) (by decide +kernel) rfl).trans ?_
  refine (go_iload (m := 225) (pc := 426) (k := 4) (by decide +kernel) rfl).trans ?_
  refine (go_ic (m := 225) (pc := 428) (n := 1) (by decide +kernel) ic_1).trans ?_
  refine (go_iadd (m := 225) (pc := 429) (by decide +kernel)).trans ?_
  refine (go_iald14 (m := 225) (pc := 430) (by decide +kernel) h0).trans ?_
  refine (go_aload_n (m := 225) (pc := 431) (k := 3) (by decide +kernel) rfl).trans ?_
  exact go_sta (m := 225) (pc := 432) (o := 8) (x := 102) (y := 210) (kd := 4) (as := [.null, .int (I a_l0 (Int32.toNatClampNeg (x_l4 + (nI 1)))), .ref a_l3]) (rs := []) (by decide +kernel) rfl rfl c_8_102 (Or.inr (Or.inr rfl)) rfl rfl rfl (by decide +kernel) (by simp only [List.length_cons, List.length_nil]; decide) (Nat.le_of_ble_eq_true rfl)
theorem Law_law_424_2 (a_l0 : Nat) (a_l1 : Nat) (l2 : Value) (x_l4 : Int32) (l5 : Value) (l6 : Value) (l7 : Value) (l8 : Value) (w : Wd) (I : MI) (L : ML) (P : MP) (h0 : inA w a_l0 14 (x_l4 + (nI 1))) : go 225 424 [.ref a_l0, .ref a_l1, l2, .null, .int x_l4, l5, l6, l7, l8] [] w I L P = kC (call 210 [.ref a_l1, .int (I a_l0 (Int32.toNatClampNeg (x_l4 + (nI 1)))), .null] w I L P) (fun v w1 I1 L1 P1 => go 225 435 [.ref a_l0, .ref a_l1, l2, .null, .int x_l4, l5, l6, l7, l8] (v.toList ++ []) w1 I1 L1 P1) := by
  refine (go_aload_n (m := 225) (pc := 424) (k := 1) (by decide +kernel) rfl).trans ?_
  refine (go_aload_n (m := 225) (pc := 425) (k := 0) (by decide +kernel) rfl).trans ?_
  refine (go_iload (m := 225) (pc := 426) (k := 4) (by decide +kernel) rfl).trans ?_
  refine (go_ic (m := 225) (pc := 428) (n := 1) (by decide +kernel) ic_1).trans ?_
  refine (go_iadd (m := 225) (pc := 429) (by decide +kernel)).trans ?_
  refine (go_iald14 (m := 225) (pc := 430) (by decide +kernel) h0).trans ?_
  refine (go_aload_nN (m := 225) (pc := 431) (k := 3) (by decide +kernel) rfl).trans ?_
  exact go_sta (m := 225) (pc := 432) (o := 8) (x := 102) (y := 210) (kd := 4) (as := [.ref a_l1, .int (I a_l0 (Int32.toNatClampNeg (x_l4 + (nI 1)))), .null]) (rs := []) (by decide +kernel) rfl rfl c_8_102 (Or.inr (Or.inr rfl)) rfl rfl rfl (by decide +kernel) (by simp only [List.length_cons, List.length_nil]; decide) (Nat.le_of_ble_eq_true rfl)
theorem Law_law_424_3 (a_l0 : Nat) (a_l1 : Nat) (l2 : Value) (a_l3 : Nat) (x_l4 : Int32) (l5 : Value) (l6 : Value) (l7 : Value) (l8 : Value) (w : Wd) (I : MI) (L : ML) (P : MP) (h0 : inA w a_l0 14 (x_l4 + (nI 1))) : go 225 424 [.ref a_l0, .ref a_l1, l2, .ref a_l3, .int x_l4, l5, l6, l7, l8] [] w I L P = kC (call 210 [.ref a_l1, .int (I a_l0 (Int32.toNatClampNeg (x_l4 + (nI 1)))), .ref a_l3] w I L P) (fun v w1 I1 L1 P1 => go 225 435 [.ref a_l0, .ref a_l1, l2, .ref a_l3, .int x_l4, l5, l6, l7, l8] (v.toList ++ []) w1 I1 L1 P1) := by
  refine (go_aload_n (m := 225) (pc := 424) (k := 1) (by decide +kernel) rfl).trans ?_
  refine (go_aload_n (m := 225) (pc := 425) (k := 0) (by decide +kernel) rfl).trans ?_
  refine (go_iload (m := 225) (pc := 426) (k := 4) (by decide +kernel) rfl).trans ?_
  refine (go_ic (m := 225) (pc := 428) (n := 1) (by decide +kernel) ic_1).trans ?_
  refine (go_iadd (m := 225) (pc := 429) (by decide +kernel)).trans ?_
  refine (go_iald14 (m := 225) (pc := 430) (by decide +kernel) h0).trans ?_
  refine (go_aload_n (m := 225) (pc := 431) (k := 3) (by decide +kernel) rfl).trans ?_
  exact go_sta (m := 225) (pc := 432) (o := 8) (x := 102) (y := 210) (kd := 4) (as := [.ref a_l1, .int (I a_l0 (Int32.toNatClampNeg (x_l4 + (nI 1)))), .ref a_l3]) (rs := []) (by decide +kernel) rfl rfl c_8_102 (Or.inr (Or.inr rfl)) rfl rfl rfl (by decide +kernel) (by simp only [List.length_cons, List.length_nil]; decide) (Nat.le_of_ble_eq_true rfl)
theorem Law_law_435 (a_l0 : Nat) (l1 : Value) (a_l2 : Nat) (l3 : Value) (x_l4 : Int32) (l5 : Value) (l6 : Value) (l7 : Value) (l8 : Value) (y0 : Int32) (w : Wd) (I : MI) (L : ML) (P : MP) (h0 : inA w a_l0 14 (x_l4 + (nI 1))) (h1 : w.1 a_l2 = some (7, 0)) : go 225 435 [.ref a_l0, l1, .ref a_l2, l3, .int x_l4, l5, l6, l7, l8] [.int y0] w I L P = kC (call 168 [.ref a_l2, .int (I a_l0 (Int32.toNatClampNeg (x_l4 + (nI 1))))] w I L P) (fun v w1 I1 L1 P1 => go 225 447 [.ref a_l0, l1, .ref a_l2, l3, .int x_l4, .int y0, l6, l7, l8] (v.toList ++ []) w1 I1 L1 P1) := by
  refine (go_istore (m := 225) (pc := 435) (k := 5) (ls' := [.ref a_l0, l1, .ref a_l2, l3, .int x_l4, .int y0, l6, l7, l8]) (by decide +kernel) (by simp only [List.length_cons, List.length_nil]; decide) rfl).trans ?_
  refine (go_aload_n (m := 225) (pc := 437) (k := 2) (by decide +kernel) rfl).trans ?_
  refine (go_aload_n (m := 225) (pc := 438) (k := 0) (by decide +kernel) rfl).trans ?_
  refine (go_iload (m := 225) (pc := 439) (k := 4) (by decide +kernel) rfl).trans ?_
  refine (go_ic (m := 225) (pc := 441) (n := 1) (by decide +kernel) ic_1).trans ?_
  refine (go_iadd (m := 225) (pc := 442) (by decide +kernel)).trans ?_
  refine (go_iald14 (m := 225) (pc := 443) (by decide +kernel) h0).trans ?_
  exact go_vir (m := 225) (pc := 444) (o := 8) (x := 104) (y := 168) (kd := 0) (b := a_l2) (bs := [.int (I a_l0 (Int32.toNatClampNeg (x_l4 + (nI 1))))]) (rs := []) (by decide +kernel) rfl rfl c_8_104 (Or.inl rfl) rfl rfl rfl (by decide +kernel) (by simp only [List.length_cons, List.length_nil]; decide) (Nat.le_of_ble_eq_true rfl) h1
theorem Law_law_447 (l0 : Value) (l1 : Value) (a_l2 : Nat) (l3 : Value) (l4 : Value) (l5 : Value) (l6 : Value) (l7 : Value) (l8 : Value) (y0 : Int32) (w : Wd) (I : MI) (L : ML) (P : MP) (h0 : w.1 a_l2 = some (7, 0)) : go 225 447 [l0, l1, .ref a_l2, l3, l4, l5, l6, l7, l8] [.int y0] w I L P = kC (call 121 [.ref a_l2] w I L P) (fun v w1 I1 L1 P1 => go 225 453 [l0, l1, .ref a_l2, l3, l4, (fix1 l5), .int y0, l7, l8] (v.toList ++ []) w1 I1 L1 P1) := by
  refine (go_istore (m := 225) (pc := 447) (k := 6) (ls' := [l0, l1, .ref a_l2, l3, l4, (fix1 l5), .int y0, l7, l8]) (by decide +kernel) (by simp only [List.length_cons, List.length_nil]; decide) rfl).trans ?_
  refine (go_aload_n (m := 225) (pc := 449) (k := 2) (by decide +kernel) rfl).trans ?_
  exact go_vir (m := 225) (pc := 450) (o := 8) (x := 88) (y := 121) (kd := 0) (b := a_l2) (bs := []) (rs := []) (by decide +kernel) rfl rfl c_8_88 (Or.inl rfl) rfl rfl rfl (by decide +kernel) (by simp only [List.length_cons, List.length_nil]; decide) (Nat.le_of_ble_eq_true rfl) h0
theorem Law_law_453 (l0 : Value) (l1 : Value) (l2 : Value) (l3 : Value) (l4 : Value) (x_l5 : Int32) (l6 : Value) (l7 : Value) (l8 : Value) (y0 : Int32) (w : Wd) (I : MI) (L : ML) (P : MP)  : go 225 453 [l0, l1, l2, l3, l4, .int x_l5, l6, l7, l8] [.int y0] w I L P = if y0 = x_l5 then go 225 460 [l0, l1, l2, l3, l4, .int x_l5, l6, l7, l8] [] w I L P else go 225 458 [l0, l1, l2, l3, l4, .int x_l5, l6, l7, l8] [] w I L P := by
  refine (go_iload (m := 225) (pc := 453) (k := 5) (by decide +kernel) rfl).trans ?_
  exact go_icmpeq (m := 225) (pc := 455) (off := 5) (t := 460) (by decide +kernel) (by decide)
theorem Law_law_458 (l0 : Value) (l1 : Value) (l2 : Value) (l3 : Value) (l4 : Value) (l5 : Value) (l6 : Value) (l7 : Value) (l8 : Value) (w : Wd) (I : MI) (L : ML) (P : MP) (h0 : (nI 0) &&& 1 = (nI 0)) : go 225 458 [l0, l1, l2, l3, l4, l5, l6, l7, l8] [] w I L P = some (.inl (some (.int (nI 0))), w, I, L, P) := by
  refine (go_ic (m := 225) (pc := 458) (n := 0) (by decide +kernel) ic_0).trans ?_
  exact go_retZ (m := 225) (pc := 459) (by decide +kernel) rfl h0
theorem Law_law_460 (l0 : Value) (l1 : Value) (l2 : Value) (l3 : Value) (l4 : Value) (x_l5 : Int32) (l6 : Value) (l7 : Value) (l8 : Value) (w : Wd) (I : MI) (L : ML) (P : MP)  : go 225 460 [l0, l1, l2, l3, l4, .int x_l5, l6, l7, l8] [] w I L P = if x_l5 ≠ 0 then go 225 477 [l0, l1, l2, l3, l4, .int x_l5, l6, l7, l8] [] w I L P else go 225 465 [l0, l1, l2, l3, l4, .int x_l5, l6, l7, l8] [] w I L P := by
  refine (go_iload (m := 225) (pc := 460) (k := 5) (by decide +kernel) rfl).trans ?_
  exact go_ifne (m := 225) (pc := 462) (off := 15) (t := 477) (by decide +kernel) (by decide)
theorem Law_law_465 (l0 : Value) (l1 : Value) (l2 : Value) (a_l3 : Nat) (l4 : Value) (l5 : Value) (x_l6 : Int32) (l7 : Value) (l8 : Value) (w : Wd) (I : MI) (L : ML) (P : MP) (h0 : inA w a_l3 9 (nI 0)) : go 225 465 [l0, l1, l2, .ref a_l3, l4, l5, .int x_l6, l7, l8] [] w I L P = if (lg_cmp (L a_l3 (Int32.toNatClampNeg (nI 0))) (Int32.toInt64 x_l6)) = 0 then go 225 477 [l0, l1, l2, .ref a_l3, l4, l5, .int x_l6, l7, l8] [] w I L P else go 225 475 [l0, l1, l2, .ref a_l3, l4, l5, .int x_l6, l7, l8] [] w I L P := by
  refine (go_aload_n (m := 225) (pc := 465) (k := 3) (by decide +kernel) rfl).trans ?_
  refine (go_ic (m := 225) (pc := 466) (n := 0) (by decide +kernel) ic_0).trans ?_
  refine (go_lald (m := 225) (pc := 467) (by decide +kernel) h0).trans ?_
  refine (go_iload (m := 225) (pc := 468) (k := 6) (by decide +kernel) rfl).trans ?_
  refine (go_i2l (m := 225) (pc := 470) (by decide +kernel)).trans ?_
  refine (go_lcmp (m := 225) (pc := 471) (by decide +kernel)).trans ?_
  exact go_ifeq (m := 225) (pc := 472) (off := 5) (t := 477) (by decide +kernel) (by decide)
theorem Law_law_475 (l0 : Value) (l1 : Value) (l2 : Value) (l3 : Value) (l4 : Value) (l5 : Value) (l6 : Value) (l7 : Value) (l8 : Value) (w : Wd) (I : MI) (L : ML) (P : MP) (h0 : (nI 0) &&& 1 = (nI 0)) : go 225 475 [l0, l1, l2, l3, l4, l5, l6, l7, l8] [] w I L P = some (.inl (some (.int (nI 0))), w, I, L, P) := by
  refine (go_ic (m := 225) (pc := 475) (n := 0) (by decide +kernel) ic_0).trans ?_
  exact go_retZ (m := 225) (pc := 476) (by decide +kernel) rfl h0
theorem Law_law_477 (l0 : Value) (l1 : Value) (l2 : Value) (l3 : Value) (l4 : Value) (l5 : Value) (l6 : Value) (l7 : Value) (l8 : Value) (w : Wd) (I : MI) (L : ML) (P : MP)  : go 225 477 [l0, l1, l2, l3, l4, l5, l6, l7, l8] [] w I L P = go 225 1536 [l0, l1, l2, l3, l4, l5, l6, l7, l8] [] w I L P := by
  refine (go_goto (m := 225) (pc := 477) (off := 1059) (t := 1536) (by decide +kernel) (by decide)).trans ?_
  rfl
theorem Law_law_480_0 (a_l0 : Nat) (l2 : Value) (x_l4 : Int32) (l5 : Value) (l6 : Value) (l7 : Value) (l8 : Value) (w : Wd) (I : MI) (L : ML) (P : MP) (h0 : inA w a_l0 14 (x_l4 + (nI 1))) (h1 : inA w a_l0 14 (x_l4 + (nI 2))) (h2 : inA w a_l0 14 (x_l4 + (nI 3))) (h3 : inA w a_l0 14 (x_l4 + (nI 4))) (h4 : inA w a_l0 14 (x_l4 + (nI 5))) : go 225 480 [.ref a_l0, .null, l2, .null, .int x_l4, l5, l6, l7, l8] [] w I L P = kC (call 211 [.null, .int (I a_l0 (Int32.toNatClampNeg (x_l4 + (nI 1)))), .int (I a_l0 (Int32.toNatClampNeg (x_l4 + (nI 2)))), .int (I a_l0 (Int32.toNatClampNeg (x_l4 + (nI 3)))), .long (((Int32.toInt64 (I a_l0 (Int32.toNatClampNeg (x_l4 + (nI 4))))) <<< (Int32.toInt64 (nI 32) &&& 63)) ||| ((Int32.toInt64 (I a_l0 (Int32.toNatClampNeg (x_l4 + (nI 5))))) &&& 4294967295)), .null] w I L P) (fun v w1 I1 L1 P1 => go 225 525 [.ref a_l0, .null, l2, .null, .int x_l4, l5, l6, l7, l8] (v.toList ++ []) w1 I1 L1 P1) := by
  refine (go_aload_nN (m := 225) (pc := 480) (k := 1) (by decide +kernel) rfl).trans ?_
  refine (go_aload_n (m := 225) (pc := 481) (k := 0) (by decide +kernel) rfl).trans ?_
  refine (go_iload (m := 225) (pc := 482) (k := 4) (by decide +kernel) rfl).trans ?_
  refine (go_ic (m := 225) (pc := 484) (n := 1) (by decide +kernel) ic_1).trans ?_
  refine (go_iadd (m := 225) (pc := 485) (by decide +kernel)).trans ?_
  refine (go_iald14 (m := 225) (pc := 486) (by decide +kernel) h0).trans ?_
  refine (go_aload_n (m := 225) (pc := 487) (k := 0) (by decide +kernel) rfl).trans ?_
  refine (go_iload (m := 225) (pc := 488) (k := 4) (by decide +kernel) rfl).trans ?_
  refine (go_ic (m := 225) (pc := 490) (n := 2) (by decide +kernel) ic_2).trans ?_
  refine (go_iadd (m := 225) (pc := 491) (by decide +kernel)).trans ?_
  refine (go_iald14 (m := 225) (pc := 492) (by decide +kernel) h1).trans ?_
  refine (go_aload_n (m := 225) (pc := 493) (k := 0) (by decide +kernel) rfl).trans ?_
  refine (go_iload (m := 225) (pc := 494) (k := 4) (by decide +kernel) rfl).trans ?_
  refine (go_ic (m := 225) (pc := 496) (n := 3) (by decide +kernel) ic_3).trans ?_
  refine (go_iadd (m := 225) (pc := 497) (by decide +kernel)).trans ?_
  refine (go_iald14 (m := 225) (pc := 498) (by decide +kernel) h2).trans ?_
  refine (go_aload_n (m := 225) (pc := 499) (k := 0) (by decide +kernel) rfl).trans ?_
  refine (go_iload (m := 225) (pc := 500) (k := 4) (by decide +kernel) rfl).trans ?_
  refine (go_ic (m := 225) (pc := 502) (n := 4) (by decide +kernel) ic_4).trans ?_
  refine (go_iadd (m := 225) (pc := 503) (by decide +kernel)).trans ?_
  refine (go_iald14 (m := 225) (pc := 504) (by decide +kernel) h3).trans ?_
  refine (go_i2l (m := 225) (pc := 505) (by decide +kernel)).trans ?_
  refine (go_bi (m := 225) (pc := 506) (n := 32) (by decide +kernel) bi_32).trans ?_
  refine (go_lshl (m := 225) (pc := 508) (by decide +kernel)).trans ?_
  refine (go_aload_n (m := 225) (pc := 509) (k := 0) (by decide +kernel) rfl).trans ?_
  refine (go_iload (m := 225) (pc := 510) (k := 4) (by decide +kernel) rfl).trans ?_
  refine (go_ic (m := 225) (pc := 512) (n := 5) (by decide +kernel) ic_5).trans ?_
  refine (go_iadd (m := 225) (pc := 513) (by decide +kernel)).trans ?_
  refine (go_iald14 (m := 225) (pc := 514) (by decide +kernel) h4).trans ?_
  refine (go_i2l (m := 225) (pc := 515) (by decide +kernel)).trans ?_
  refine (go_ldc2 (m := 225) (pc := 516) (o := 8) (x := 105) (v := 4294967295) (by decide +kernel) rfl (by decide +kernel)).trans ?_
  refine (go_land (m := 225) (pc := 519) (by decide +kernel)).trans ?_
  refine (go_lor (m := 225) (pc := 520) (by decide +kernel)).trans ?_
  refine (go_aload_nN (m := 225) (pc := 521) (k := 3) (by decide +kernel) rfl).trans ?_
  exact go_sta (m := 225) (pc := 522) (o := 8) (x := 107) (y := 211) (kd := 4) (as := [.null, .int (I a_l0 (Int32.toNatClampNeg (x_l4 + (nI 1)))), .int (I a_l0 (Int32.toNatClampNeg (x_l4 + (nI 2)))), .int (I a_l0 (Int32.toNatClampNeg (x_l4 + (nI 3)))), .long (((Int32.toInt64 (I a_l0 (Int32.toNatClampNeg (x_l4 + (nI 4))))) <<< (Int32.toInt64 (nI 32) &&& 63)) ||| ((Int32.toInt64 (I a_l0 (Int32.toNatClampNeg (x_l4 + (nI 5))))) &&& 4294967295)), .null]) (rs := []) (by decide +kernel) rfl rfl c_8_107 (Or.inr (Or.inr rfl)) rfl rfl rfl (by decide +kernel) (by simp only [List.length_cons, List.length_nil]; decide) (Nat.le_of_ble_eq_true rfl)
theorem Law_law_480_1 (a_l0 : Nat) (l2 : Value) (a_l3 : Nat) (x_l4 : Int32) (l5 : Value) (l6 : Value) (l7 : Value) (l8 : Value) (w : Wd) (I : MI) (L : ML) (P : MP) (h0 : inA w a_l0 14 (x_l4 + (nI 1))) (h1 : inA w a_l0 14 (x_l4 + (nI 2))) (h2 : inA w a_l0 14 (x_l4 + (nI 3))) (h3 : inA w a_l0 14 (x_l4 + (nI 4))) (h4 : inA w a_l0 14 (x_l4 + (nI 5))) : go 225 480 [.ref a_l0, .null, l2, .ref a_l3, .int x_l4, l5, l6, l7, l8] [] w I L P = kC (call 211 [.null, .int (I a_l0 (Int32.toNatClampNeg (x_l4 + (nI 1)))), .int (I a_l0 (Int32.toNatClampNeg (x_l4 + (nI 2)))), .int (I a_l0 (Int32.toNatClampNeg (x_l4 + (nI 3)))), .long (((Int32.toInt64 (I a_l0 (Int32.toNatClampNeg (x_l4 + (nI 4))))) <<< (Int32.toInt64 (nI 32) &&& 63)) ||| ((Int32.toInt64 (I a_l0 (Int32.toNatClampNeg (x_l4 + (nI 5))))) &&& 4294967295)), .ref a_l3] w I L P) (fun v w1 I1 L1 P1 => go 225 525 [.ref a_l0, .null, l2, .ref a_l3, .int x_l4, l5, l6, l7, l8] (v.toList ++ []) w1 I1 L1 P1) := by
  refine (go_aload_nN (m := 225) (pc := 480) (k := 1) (by decide +kernel) rfl).trans ?_
  refine (go_aload_n (m := 225) (pc := 481) (k := 0) (by decide +kernel) rfl).trans ?_
  refine (go_iload (m := 225) (pc := 482) (k := 4) (by decide +kernel) rfl).trans ?_
  refine (go_ic (m := 225) (pc := 484) (n := 1) (by decide +kernel) ic_1).trans ?_
  refine (go_iadd (m := 225) (pc := 485) (by decide +kernel)).trans ?_
  refine (go_iald14 (m := 225) (pc := 486) (by decide +kernel) h0).trans ?_
  refine (go_aload_n (m := 225) (pc := 487) (k := 0) (by decide +kernel) rfl).trans ?_
  refine (go_iload (m := 225) (pc := 488) (k := 4) (by decide +kernel) rfl).trans ?_
  refine (go_ic (m := 225) (pc := 490) (n := 2) (by decide +kernel) ic_2).trans ?_
  refine (go_iadd (m := 225) (pc := 491) (by decide +kernel)).trans ?_
  refine (go_iald14 (m := 225) (pc := 492) (by decide +kernel) h1).trans ?_
  refine (go_aload_n (m := 225) (pc := 493) (k := 0) (by decide +kernel) rfl).trans ?_
  refine (go_iload (m := 225) (pc := 494) (k := 4) (by decide +kernel) rfl).trans ?_
  refine (go_ic (m := 225) (pc := 496) (n := 3) (by decide +kernel) ic_3).trans ?_
  refine (go_iadd (m := 225) (pc := 497) (by decide +kernel)).trans ?_
  refine (go_iald14 (m := 225) (pc := 498) (by decide +kernel) h2).trans ?_
  refine (go_aload_n (m := 225) (pc := 499) (k := 0) (by decide +kernel) rfl).trans ?_
  refine (go_iload (m := 225) (pc := 500) (k := 4) (by decide +kernel) rfl).trans ?_
  refine (go_ic (m := 225) (pc := 502) (n := 4) (by decide +kernel) ic_4).trans ?_
  refine (go_iadd (m := 225) (pc := 503) (by decide +kernel)).trans ?_
  refine (go_iald14 (m := 225) (pc := 504) (by decide +kernel) h3).trans ?_
  refine (go_i2l (m := 225) (pc := 505) (by decide +kernel)).trans ?_
  refine (go_bi (m := 225) (pc := 506) (n := 32) (by decide +kernel) bi_32).trans ?_
  refine (go_lshl (m := 225) (pc := 508) (by decide +kernel)).trans ?_
  refine (go_aload_n (m := 225) (pc := 509) (k := 0) (by decide +kernel) rfl).trans ?_
  refine (go_iload (m := 225) (pc := 510) (k := 4) (by decide +kernel) rfl).trans ?_
  refine (go_ic (m := 225) (pc := 512) (n := 5) (by decide +kernel) ic_5).trans ?_
  refine (go_iadd (m := 225) (pc := 513) (by decide +kernel)).trans ?_
  refine (go_iald14 (m := 225) (pc := 514) (by decide +kernel) h4).trans ?_
  refine (go_i2l (m := 225) (pc := 515) (by decide +kernel)).trans ?_
  refine (go_ldc2 (m := 225) (pc := 516) (o := 8) (x := 105) (v := 4294967295) (by decide +kernel) rfl (by decide +kernel)).trans ?_
  refine (go_land (m := 225) (pc := 519) (by decide +kernel)).trans ?_
  refine (go_lor (m := 225) (pc := 520) (by decide +kernel)).trans ?_
  refine (go_aload_n (m := 225) (pc := 521) (k := 3) (by decide +kernel) rfl).trans ?_
  exact go_sta (m := 225) (pc := 522) (o := 8) (x := 107) (y := 211) (kd := 4) (as := [.null, .int (I a_l0 (Int32.toNatClampNeg (x_l4 + (nI 1)))), .int (I a_l0 (Int32.toNatClampNeg (x_l4 + (nI 2)))), .int (I a_l0 (Int32.toNatClampNeg (x_l4 + (nI 3)))), .long (((Int32.toInt64 (I a_l0 (Int32.toNatClampNeg (x_l4 + (nI 4))))) <<< (Int32.toInt64 (nI 32) &&& 63)) ||| ((Int32.toInt64 (I a_l0 (Int32.toNatClampNeg (x_l4 + (nI 5))))) &&& 4294967295)), .ref a_l3]) (rs := []) (by decide +kernel) rfl rfl c_8_107 (Or.inr (Or.inr rfl)) rfl rfl rfl (by decide +kernel) (by simp only [List.length_cons, List.length_nil]; decide) (Nat.le_of_ble_eq_true rfl)
theorem Law_law_480_2 (a_l0 : Nat) (a_l1 : Nat) (l2 : Value) (x_l4 : Int32) (l5 : Value) (l6 : Value) (l7 : Value) (l8 : Value) (w : Wd) (I : MI) (L : ML) (P : MP) (h0 : inA w a_l0 14 (x_l4 + (nI 1))) (h1 : inA w a_l0 14 (x_l4 + (nI 2))) (h2 : inA w a_l0 14 (x_l4 + (nI 3))) (h3 : inA w a_l0 14 (x_l4 + (nI 4))) (h4 : inA w a_l0 14 (x_l4 + (nI 5))) : go 225 480 [.ref a_l0, .ref a_l1, l2, .null, .int x_l4, l5, l6, l7, l8] [] w I L P = kC (call 211 [.ref a_l1, .int (I a_l0 (Int32.toNatClampNeg (x_l4 + (nI 1)))), .int (I a_l0 (Int32.toNatClampNeg (x_l4 + (nI 2)))), .int (I a_l0 (Int32.toNatClampNeg (x_l4 + (nI 3)))), .long (((Int32.toInt64 (I a_l0 (Int32.toNatClampNeg (x_l4 + (nI 4))))) <<< (Int32.toInt64 (nI 32) &&& 63)) ||| ((Int32.toInt64 (I a_l0 (Int32.toNatClampNeg (x_l4 + (nI 5))))) &&& 4294967295)), .null] w I L P) (fun v w1 I1 L1 P1 => go 225 525 [.ref a_l0, .ref a_l1, l2, .null, .int x_l4, l5, l6, l7, l8] (v.toList ++ []) w1 I1 L1 P1) := by
  refine (go_aload_n (m := 225) (pc := 480) (k := 1) (by decide +kernel) rfl).trans ?_
  refine (go_aload_n (m := 225) (pc := 481) (k := 0) (by decide +kernel) rfl).trans ?_
  refine (go_iload (m := 225) (pc := 482) (k := 4) (by decide +kernel) rfl).trans ?_
  refine (go_ic (m := 225) (pc := 484) (n := 1) (by decide +kernel) ic_1).trans ?_
  refine (go_iadd (m := 225) (pc := 485) (by decide +kernel)).trans ?_
  refine (go_iald14 (m := 225) (pc := 486) (by decide +kernel) h0).trans ?_
  refine (go_aload_n (m := 225) (pc := 487) (k := 0) (by decide +kernel) rfl).trans ?_
  refine (go_iload (m := 225) (pc := 488) (k := 4) (by decide +kernel) rfl).trans ?_
  refine (go_ic (m := 225) (pc := 490) (n := 2) (by decide +kernel) ic_2).trans ?_
  refine (go_iadd (m := 225) (pc := 491) (by decide +kernel)).trans ?_
  refine (go_iald14 (m := 225) (pc := 492) (by decide +kernel) h1).trans ?_
  refine (go_aload_n (m := 225) (pc := 493) (k := 0) (by decide +kernel) rfl).trans ?_
  refine (go_iload (m := 225) (pc := 494) (k := 4) (by decide +kernel) rfl).trans ?_
  refine (go_ic (m := 225) (pc := 496) (n := 3) (by decide +kernel) ic_3).trans ?_
  refine (go_iadd (m := 225) (pc := 497) (by decide +kernel)).trans ?_
  refine (go_iald14 (m := 225) (pc := 498) (by decide +kernel) h2).trans ?_
  refine (go_aload_n (m := 225) (pc := 499) (k := 0) (by decide +kernel) rfl).trans ?_
  refine (go_iload (m := 225) (pc := 500) (k := 4) (by decide +kernel) rfl).trans ?_
  refine (go_ic (m := 225) (pc := 502) (n := 4) (by decide +kernel) ic_4).trans ?_
  refine (go_iadd (m := 225) (pc := 503) (by decide +kernel)).trans ?_
  refine (go_iald14 (m := 225) (pc := 504) (by decide +kernel) h3).trans ?_
  refine (go_i2l (m := 225) (pc := 505) (by decide +kernel)).trans ?_
  refine (go_bi (m := 225) (pc := 506) (n := 32) (by decide +kernel) bi_32).trans ?_
  refine (go_lshl (m := 225) (pc := 508) (by decide +kernel)).trans ?_
  refine (go_aload_n (m := 225) (pc := 509) (k := 0) (by decide +kernel) rfl).trans ?_
  refine (go_iload (m := 225) (pc := 510) (k := 4) (by decide +kernel) rfl).trans ?_
  refine (go_ic (m := 225) (pc := 512) (n := 5) (by decide +kernel) ic_5).trans ?_
  refine (go_iadd (m := 225) (pc := 513) (by decide +kernel)).trans ?_
  refine (go_iald14 (m := 225) (pc := 514) (by decide +kernel) h4).trans ?_
  refine (go_i2l (m := 225) (pc := 515) (by decide +kernel)).trans ?_
  refine (go_ldc2 (m := 225) (pc := 516) (o := 8) (x := 105) (v := 4294967295) (by decide +kernel) rfl (by decide +kernel)).trans ?_
  refine (go_land (m := 225) (pc := 519) (by decide +kernel)).trans ?_
  refine (go_lor (m := 225) (pc := 520) (by decide +kernel)).trans ?_
  refine (go_aload_nN (m := 225) (pc := 521) (k := 3) (by decide +kernel) rfl).trans ?_
  exact go_sta (m := 225) (pc := 522) (o := 8) (x := 107) (y := 211) (kd := 4) (as := [.ref a_l1, .int (I a_l0 (Int32.toNatClampNeg (x_l4 + (nI 1)))), .int (I a_l0 (Int32.toNatClampNeg (x_l4 + (nI 2)))), .int (I a_l0 (Int32.toNatClampNeg (x_l4 + (nI 3)))), .long (((Int32.toInt64 (I a_l0 (Int32.toNatClampNeg (x_l4 + (nI 4))))) <<< (Int32.toInt64 (nI 32) &&& 63)) ||| ((Int32.toInt64 (I a_l0 (Int32.toNatClampNeg (x_l4 + (nI 5))))) &&& 4294967295)), .null]) (rs := []) (by decide +kernel) rfl rfl c_8_107 (Or.inr (Or.inr rfl)) rfl rfl rfl (by decide +kernel) (by simp only [List.length_cons, List.length_nil]; decide) (Nat.le_of_ble_eq_true rfl)
theorem Law_law_480_3 (a_l0 : Nat) (a_l1 : Nat) (l2 : Value) (a_l3 : Nat) (x_l4 : Int32) (l5 : Value) (l6 : Value) (l7 : Value) (l8 : Value) (w : Wd) (I : MI) (L : ML) (P : MP) (h0 : inA w a_l0 14 (x_l4 + (nI 1))) (h1 : inA w a_l0 14 (x_l4 + (nI 2))) (h2 : inA w a_l0 14 (x_l4 + (nI 3))) (h3 : inA w a_l0 14 (x_l4 + (nI 4))) (h4 : inA w a_l0 14 (x_l4 + (nI 5))) : go 225 480 [.ref a_l0, .ref a_l1, l2, .ref a_l3, .int x_l4, l5, l6, l7, l8] [] w I L P = kC (call 211 [.ref a_l1, .int (I a_l0 (Int32.toNatClampNeg (x_l4 + (nI 1)))), .int (I a_l0 (Int32.toNatClampNeg (x_l4 + (nI 2)))), .int (I a_l0 (Int32.toNatClampNeg (x_l4 + (nI 3)))), .long (((Int32.toInt64 (I a_l0 (Int32.toNatClampNeg (x_l4 + (nI 4))))) <<< (Int32.toInt64 (nI 32) &&& 63)) ||| ((Int32.toInt64 (I a_l0 (Int32.toNatClampNeg (x_l4 + (nI 5))))) &&& 4294967295)), .ref a_l3] w I L P) (fun v w1 I1 L1 P1 => go 225 525 [.ref a_l0, .ref a_l1, l2, .ref a_l3, .int x_l4, l5, l6, l7, l8] (v.toList ++ []) w1 I1 L1 P1) := by
  refine (go_aload_n (m := 225) (pc := 480) (k := 1) (by decide +kernel) rfl).trans ?_
  refine (go_aload_n (m := 225) (pc := 481) (k := 0) (by decide +kernel) rfl).trans ?_
  refine (go_iload (m := 225) (pc := 482) (k := 4) (by decide +kernel) rfl).trans ?_
  refine (go_ic (m := 225) (pc := 484) (n := 1) (by decide +kernel) ic_1).trans ?_
  refine (go_iadd (m := 225) (pc := 485) (by decide +kernel)).trans ?_
  refine (go_iald14 (m := 225) (pc := 486) (by decide +kernel) h0).trans ?_
  refine (go_aload_n (m := 225) (pc := 487) (k := 0) (by decide +kernel) rfl).trans ?_
  refine (go_iload (m := 225) (pc := 488) (k := 4) (by decide +kernel) rfl).trans ?_
  refine (go_ic (m := 225) (pc := 490) (n := 2) (by decide +kernel) ic_2).trans ?_
  refine (go_iadd (m := 225) (pc := 491) (by decide +kernel)).trans ?_
  refine (go_iald14 (m := 225) (pc := 492) (by decide +kernel) h1).trans ?_
  refine (go_aload_n (m := 225) (pc := 493) (k := 0) (by decide +kernel) rfl).trans ?_
  refine (go_iload (m := 225) (pc := 494) (k := 4) (by decide +kernel) rfl).trans ?_
  refine (go_ic (m := 225) (pc := 496) (n := 3) (by decide +kernel) ic_3).trans ?_
  refine (go_iadd (m := 225) (pc := 497) (by decide +kernel)).trans ?_
  refine (go_iald14 (m := 225) (pc := 498) (by decide +kernel) h2).trans ?_
  refine (go_aload_n (m := 225) (pc := 499) (k := 0) (by decide +kernel) rfl).trans ?_
  refine (go_iload (m := 225) (pc := 500) (k := 4) (by decide +kernel) rfl).trans ?_
  refine (go_ic (m := 225) (pc := 502) (n := 4) (by decide +kernel) ic_4).trans ?_
  refine (go_iadd (m := 225) (pc := 503) (by decide +kernel)).trans ?_
  refine (go_iald14 (m := 225) (pc := 504) (by decide +kernel) h3).trans ?_
  refine (go_i2l (m := 225) (pc := 505) (by decide +kernel)).trans ?_
  refine (go_bi (m := 225) (pc := 506) (n := 32) (by decide +kernel) bi_32).trans ?_
  refine (go_lshl (m := 225) (pc := 508) (by decide +kernel)).trans ?_
  refine (go_aload_n (m := 225) (pc := 509) (k := 0) (by decide +kernel) rfl).trans ?_
  refine (go_iload (m := 225) (pc := 510) (k := 4) (by decide +kernel) rfl).trans ?_
  refine (go_ic (m := 225) (pc := 512) (n := 5) (by decide +kernel) ic_5).trans ?_
  refine (go_iadd (m := 225) (pc := 513) (by decide +kernel)).trans ?_
  refine (go_iald14 (m := 225) (pc := 514) (by decide +kernel) h4).trans ?_
  refine (go_i2l (m := 225) (pc := 515) (by decide +kernel)).trans ?_
  refine (go_ldc2 (m := 225) (pc := 516) (o := 8) (x := 105) (v := 4294967295) (by decide +kernel) rfl (by decide +kernel)).trans ?_
  refine (go_land (m := 225) (pc := 519) (by decide +kernel)).trans ?_
  refine (go_lor (m := 225) (pc := 520) (by decide +kernel)).trans ?_
  refine (go_aload_n (m := 225) (pc := 521) (k := 3) (by decide +kernel) rfl).trans ?_
  exact go_sta (m := 225) (pc := 522) (o := 8) (x := 107) (y := 211) (kd := 4) (as := [.ref a_l1, .int (I a_l0 (Int32.toNatClampNeg (x_l4 + (nI 1)))), .int (I a_l0 (Int32.toNatClampNeg (x_l4 + (nI 2)))), .int (I a_l0 (Int32.toNatClampNeg (x_l4 + (nI 3)))), .long (((Int32.toInt64 (I a_l0 (Int32.toNatClampNeg (x_l4 + (nI 4))))) <<< (Int32.toInt64 (nI 32) &&& 63)) ||| ((Int32.toInt64 (I a_l0 (Int32.toNatClampNeg (x_l4 + (nI 5))))) &&& 4294967295)), .ref a_l3]) (rs := []) (by decide +kernel) rfl rfl c_8_107 (Or.inr (Or.inr rfl)) rfl rfl rfl (by decide +kernel) (by simp only [List.length_cons, List.length_nil]; decide) (Nat.le_of_ble_eq_true rfl)
theorem Law_law_525 (a_l0 : Nat) (l1 : Value) (a_l2 : Nat) (l3 : Value) (x_l4 : Int32) (l5 : Value) (l6 : Value) (l7 : Value) (l8 : Value) (y0 : Int32) (w : Wd) (I : MI) (L : ML) (P : MP) (h0 : inA w a_l0 14 (x_l4 + (nI 1))) (h1 : inA w a_l0 14 (x_l4 + (nI 2))) (h2 : inA w a_l0 14 (x_l4 + (nI 3))) (h3 : inA w a_l0 14 (x_l4 + (nI 4))) (h4 : inA w a_l0 14 (x_l4 + (nI 5))) (h5 : w.1 a_l2 = some (7, 0)) : go 225 525 [.ref a_l0, l1, .ref a_l2, l3, .int x_l4, l5, l6, l7, l8] [.int y0] w I L P = kC (call 169 [.ref a_l2, .int (I a_l0 (Int32.toNatClampNeg (x_l4 + (nI 1)))), .int (I a_l0 (Int32.toNatClampNeg (x_l4 + (nI 2)))), .int (I a_l0 (Int32.toNatClampNeg (x_l4 + (nI 3)))), .long (((Int32.toInt64 (I a_l0 (Int32.toNatClampNeg (x_l4 + (nI 4))))) <<< (Int32.toInt64 (nI 32) &&& 63)) ||| ((Int32.toInt64 (I a_l0 (Int32.toNatClampNeg (x_l4 + (nI 5))))) &&& 4294967295))] w I L P) (fun v w1 I1 L1 P1 => go 225 571 [.ref a_l0, l1, .ref a_l2, l3, .int x_l4, .int y0, l6, l7, l8] (v.toList ++ []) w1 I1 L1 P1) := by
  refine (go_istore (m := 225) (pc := 525) (k := 5) (ls' := [.ref a_l0, l1, .ref a_l2, l3, .int x_l4, .int y0, l6, l7, l8]) (by decide +kernel) (by simp only [List.length_cons, List.length_nil]; decide) rfl).trans ?_
  refine (go_aload_n (m := 225) (pc := 527) (k := 2) (by decide +kernel) rfl).trans ?_
  refine (go_aload_n (m := 225) (pc := 528) (k := 0) (by decide +kernel) rfl).trans ?_
  refine (go_iload (m := 225) (pc := 529) (k := 4) (by decide +kernel) rfl).trans ?_
  refine (go_ic (m := 225) (pc := 531) (n := 1) (by decide +kernel) ic_1).trans ?_
  refine (go_iadd (m := 225) (pc := 532) (by decide +kernel)).trans ?_
  refine (go_iald14 (m := 225) (pc := 533) (by decide +kernel) h0).trans ?_
  refine (go_aload_n (m := 225) (pc := 534) (k := 0) (by decide +kernel) rfl).trans ?_
  refine (go_iload (m := 225) (pc := 535) (k := 4) (by decide +kernel) rfl).trans ?_
  refine (go_ic (m := 225) (pc := 537) (n := 2) (by decide +kernel) ic_2).trans ?_
  refine (go_iadd (m := 225) (pc := 538) (by decide +kernel)).trans ?_
  refine (go_iald14 (m := 225) (pc := 539) (by decide +kernel) h1).trans ?_
  refine (go_aload_n (m := 225) (pc := 540) (k := 0) (by decide +kernel) rfl).trans ?_
  refine (go_iload (m := 225) (pc := 541) (k := 4) (by decide +kernel) rfl).trans ?_
  refine (go_ic (m := 225) (pc := 543) (n := 3) (by decide +kernel) ic_3).trans ?_
  refine (go_iadd (m := 225) (pc := 544) (by decide +kernel)).trans ?_
  refine (go_iald14 (m := 225) (pc := 545) (by decide +kernel) h2).trans ?_
  refine (go_aload_n (m := 225) (pc := 546) (k := 0) (by decide +kernel) rfl).trans ?_
  refine (go_iload (m := 225) (pc := 547) (k := 4) (by decide +kernel) rfl).trans ?_
  refine (go_ic (m := 225) (pc := 549) (n := 4) (by decide +kernel) ic_4).trans ?_
  refine (go_iadd (m := 225) (pc := 550) (by decide +kernel)).trans ?_
  refine (go_iald14 (m := 225) (pc := 551) (by decide +kernel) h3).trans ?_
  refine (go_i2l (m := 225) (pc := 552) (by decide +kernel)).trans ?_
  refine (go_bi (m := 225) (pc := 553) (n := 32) (by decide +kernel) bi_32).trans ?_
  refine (go_lshl (m := 225) (pc := 555) (by decide +kernel)).trans ?_
  refine (go_aload_n (m := 225) (pc := 556) (k := 0) (by decide +kernel) rfl).trans ?_
  refine (go_iload (m := 225) (pc := 557) (k := 4) (by decide +kernel) rfl).trans ?_
  refine (go_ic (m := 225) (pc := 559) (n := 5) (by decide +kernel) ic_5).trans ?_
  refine (go_iadd (m := 225) (pc := 560) (by decide +kernel)).trans ?_
  refine (go_iald14 (m := 225) (pc := 561) (by decide +kernel) h4).trans ?_
  refine (go_i2l (m := 225) (pc := 562) (by decide +kernel)).trans ?_
  refine (go_ldc2 (m := 225) (pc := 563) (o := 8) (x := 105) (v := 4294967295) (by decide +kernel) rfl (by decide +kernel)).trans ?_
  refine (go_land (m := 225) (pc := 566) (by decide +kernel)).trans ?_
  refine (go_lor (m := 225) (pc := 567) (by decide +kernel)).trans ?_
  exact go_vir (m := 225) (pc := 568) (o := 8) (x := 110) (y := 169) (kd := 0) (b := a_l2) (bs := [.int (I a_l0 (Int32.toNatClampNeg (x_l4 + (nI 1)))), .int (I a_l0 (Int32.toNatClampNeg (x_l4 + (nI 2)))), .int (I a_l0 (Int32.toNatClampNeg (x_l4 + (nI 3)))), .long (((Int32.toInt64 (I a_l0 (Int32.toNatClampNeg (x_l4 + (nI 4))))) <<< (Int32.toInt64 (nI 32) &&& 63)) ||| ((Int32.toInt64 (I a_l0 (Int32.toNatClampNeg (x_l4 + (nI 5))))) &&& 4294967295))]) (rs := []) (by decide +kernel) rfl rfl c_8_110 (Or.inl rfl) rfl rfl rfl (by decide +kernel) (by simp only [List.length_cons, List.length_nil]; decide) (Nat.le_of_ble_eq_true rfl) h5
theorem Law_law_571 (l0 : Value) (l1 : Value) (a_l2 : Nat) (l3 : Value) (l4 : Value) (l5 : Value) (l6 : Value) (l7 : Value) (l8 : Value) (y0 : Int32) (w : Wd) (I : MI) (L : ML) (P : MP) (h0 : w.1 a_l2 = some (7, 0)) : go 225 571 [l0, l1, .ref a_l2, l3, l4, l5, l6, l7, l8] [.int y0] w I L P = kC (call 121 [.ref a_l2] w I L P) (fun v w1 I1 L1 P1 => go 225 577 [l0, l1, .ref a_l2, l3, l4, (fix1 l5), .int y0, l7, l8] (v.toList ++ []) w1 I1 L1 P1) := by
  refine (go_istore (m := 225) (pc := 571) (k := 6) (ls' := [l0, l1, .ref a_l2, l3, l4, (fix1 l5), .int y0, l7, l8]) (by decide +kernel) (by simp only [List.length_cons, List.length_nil]; decide) rfl).trans ?_
  refine (go_aload_n (m := 225) (pc := 573) (k := 2) (by decide +kernel) rfl).trans ?_
  exact go_vir (m := 225) (pc := 574) (o := 8) (x := 88) (y := 121) (kd := 0) (b := a_l2) (bs := []) (rs := []) (by decide +kernel) rfl rfl c_8_88 (Or.inl rfl) rfl rfl rfl (by decide +kernel) (by simp only [List.length_cons, List.length_nil]; decide) (Nat.le_of_ble_eq_true rfl) h0
theorem Law_law_577 (l0 : Value) (l1 : Value) (l2 : Value) (l3 : Value) (l4 : Value) (x_l5 : Int32) (l6 : Value) (l7 : Value) (l8 : Value) (y0 : Int32) (w : Wd) (I : MI) (L : ML) (P : MP)  : go 225 577 [l0, l1, l2, l3, l4, .int x_l5, l6, l7, l8] [.int y0] w I L P = if y0 = x_l5 then go 225 584 [l0, l1, l2, l3, l4, .int x_l5, l6, l7, l8] [] w I L P else go 225 582 [l0, l1, l2, l3, l4, .int x_l5, l6, l7, l8] [] w I L P := by
  refine (go_iload (m := 225) (pc := 577) (k := 5) (by decide +kernel) rfl).trans ?_
  exact go_icmpeq (m := 225) (pc := 579) (off := 5) (t := 584) (by decide +kernel) (by decide)
theorem Law_law_582 (l0 : Value) (l1 : Value) (l2 : Value) (l3 : Value) (l4 : Value) (l5 : Value) (l6 : Value) (l7 : Value) (l8 : Value) (w : Wd) (I : MI) (L : ML) (P : MP) (h0 : (nI 0) &&& 1 = (nI 0)) : go 225 582 [l0, l1, l2, l3, l4, l5, l6, l7, l8] [] w I L P = some (.inl (some (.int (nI 0))), w, I, L, P) := by
  refine (go_ic (m := 225) (pc := 582) (n := 0) (by decide +kernel) ic_0).trans ?_
  exact go_retZ (m := 225) (pc := 583) (by decide +kernel) rfl h0
theorem Law_law_584 (l0 : Value) (l1 : Value) (l2 : Value) (l3 : Value) (l4 : Value) (x_l5 : Int32) (l6 : Value) (l7 : Value) (l8 : Value) (w : Wd) (I : MI) (L : ML) (P : MP)  : go 225 584 [l0, l1, l2, l3, l4, .int x_l5, l6, l7, l8] [] w I L P = if x_l5 ≠ 0 then go 225 601 [l0, l1, l2, l3, l4, .int x_l5, l6, l7, l8] [] w I L P else go 225 589 [l0, l1, l2, l3, l4, .int x_l5, l6, l7, l8] [] w I L P := by
  refine (go_iload (m := 225) (pc := 584) (k := 5) (by decide +kernel) rfl).trans ?_
  exact go_ifne (m := 225) (pc := 586) (off := 15) (t := 601) (by decide +kernel) (by decide)
theorem Law_law_589 (l0 : Value) (l1 : Value) (l2 : Value) (a_l3 : Nat) (l4 : Value) (l5 : Value) (x_l6 : Int32) (l7 : Value) (l8 : Value) (w : Wd) (I : MI) (L : ML) (P : MP) (h0 : inA w a_l3 9 (nI 0)) : go 225 589 [l0, l1, l2, .ref a_l3, l4, l5, .int x_l6, l7, l8] [] w I L P = if (lg_cmp (L a_l3 (Int32.toNatClampNeg (nI 0))) (Int32.toInt64 x_l6)) = 0 then go 225 601 [l0, l1, l2, .ref a_l3, l4, l5, .int x_l6, l7, l8] [] w I L P else go 225 599 [l0, l1, l2, .ref a_l3, l4, l5, .int x_l6, l7, l8] [] w I L P := by
  refine (go_aload_n (m := 225) (pc := 589) (k := 3) (by decide +kernel) rfl).trans ?_
  refine (go_ic (m := 225) (pc := 590) (n := 0) (by decide +kernel) ic_0).trans ?_
  refine (go_lald (m := 225) (pc := 591) (by decide +kernel) h0).trans ?_
  refine (go_iload (m := 225) (pc := 592) (k := 6) (by decide +kernel) rfl).trans ?_
  refine (go_i2l (m := 225) (pc := 594) (by decide +kernel)).trans ?_
  refine (go_lcmp (m := 225) (pc := 595) (by decide +kernel)).trans ?_
  exact go_ifeq (m := 225) (pc := 596) (off := 5) (t := 601) (by decide +kernel) (by decide)
theorem Law_law_599 (l0 : Value) (l1 : Value) (l2 : Value) (l3 : Value) (l4 : Value) (l5 : Value) (l6 : Value) (l7 : Value) (l8 : Value) (w : Wd) (I : MI) (L : ML) (P : MP) (h0 : (nI 0) &&& 1 = (nI 0)) : go 225 599 [l0, l1, l2, l3, l4, l5, l6, l7, l8] [] w I L P = some (.inl (some (.int (nI 0))), w, I, L, P) := by
  refine (go_ic (m := 225) (pc := 599) (n := 0) (by decide +kernel) ic_0).trans ?_
  exact go_retZ (m := 225) (pc := 600) (by decide +kernel) rfl h0
theorem Law_law_601 (l0 : Value) (l1 : Value) (l2 : Value) (l3 : Value) (l4 : Value) (l5 : Value) (l6 : Value) (l7 : Value) (l8 : Value) (w : Wd) (I : MI) (L : ML) (P : MP)  : go 225 601 [l0, l1, l2, l3, l4, l5, l6, l7, l8] [] w I L P = go 225 1536 [l0, l1, l2, l3, l4, l5, l6, l7, l8] [] w I L P := by
  refine (go_goto (m := 225) (pc := 601) (off := 935) (t := 1536) (by decide +kernel) (by decide)).trans ?_
  rfl
theorem Law_law_604_0 (a_l0 : Nat) (l2 : Value) (x_l4 : Int32) (l5 : Value) (l6 : Value) (l7 : Value) (l8 : Value) (w : Wd) (I : MI) (L : ML) (P : MP) (h0 : inA w a_l0 14 (x_l4 + (nI 1))) (h1 : inA w a_l0 14 (x_l4 + (nI 2))) (h2 : inA w a_l0 14 (x_l4 + (nI 3))) : go 225 604 [.ref a_l0, .null, l2, .null, .int x_l4, l5, l6, l7, l8] [] w I L P = kC (call 212 [.null, .int (I a_l0 (Int32.toNatClampNeg (x_l4 + (nI 1)))), .int (I a_l0 (Int32.toNatClampNeg (x_l4 + (nI 2)))), .int (I a_l0 (Int32.toNatClampNeg (x_l4 + (nI 3)))), .null] w I L P) (fun v w1 I1 L1 P1 => go 225 627 [.ref a_l0, .null, l2, .null, .int x_l4, l5, l6, l7, l8] (v.toList ++ []) w1 I1 L1 P1) := by
  refine (go_aload_nN (m := 225) (pc := 604) (k := 1) (by decide +kernel) rfl).trans ?_
  refine (go_aload_n (m := 225) (pc := 605) (k := 0) (by decide +kernel) rfl).trans ?_
  refine (go_iload (m := 225) (pc := 606) (k := 4) (by decide +kernel) rfl).trans ?_
  refine (go_ic (m := 225) (pc := 608) (n := 1) (by decide +kernel) ic_1).trans ?_
  refine (go_iadd (m := 225) (pc := 609) (by decide +kernel)).trans ?_
  refine (go_iald14 (m := 225) (pc := 610) (by decide +kernel) h0).trans ?_
  refine (go_aload_n (m := 225) (pc := 611) (k := 0) (by decide +kernel) rfl).trans ?_
  refine (go_iload (m := 225) (pc := 612) (k := 4) (by decide +kernel) rfl).trans ?_
  refine (go_ic (m := 225) (pc := 614) (n := 2) (by decide +kernel) ic_2).trans ?_
  refine (go_iadd (m := 225) (pc := 615) (by decide +kernel)).trans ?_
  refine (go_iald14 (m := 225) (pc := 616) (by decide +kernel) h1).trans ?_
  refine (go_aload_n (m := 225) (pc := 617) (k := 0) (by decide +kernel) rfl).trans ?_
  refine (go_iload (m := 225) (pc := 618) (k := 4) (by decide +kernel) rfl).trans ?_
  refine (go_ic (m := 225) (pc := 620) (n := 3) (by decide +kernel) ic_3).trans ?_
  refine (go_iadd (m := 225) (pc := 621) (by decide +kernel)).trans ?_
  refine (go_iald14 (m := 225) (pc := 622) (by decide +kernel) h2).trans ?_
  refine (go_aload_nN (m := 225) (pc := 623) (k := 3) (by decide +kernel) rfl).trans ?_
  exact go_sta (m := 225) (pc := 624) (o := 8) (x := 111) (y := 212) (kd := 4) (as := [.null, .int (I a_l0 (Int32.toNatClampNeg (x_l4 + (nI 1)))), .int (I a_l0 (Int32.toNatClampNeg (x_l4 + (nI 2)))), .int (I a_l0 (Int32.toNatClampNeg (x_l4 + (nI 3)))), .null]) (rs := []) (by decide +kernel) rfl rfl c_8_111 (Or.inr (Or.inr rfl)) rfl rfl rfl (by decide +kernel) (by simp only [List.length_cons, List.length_nil]; decide) (Nat.le_of_ble_eq_true rfl)
theorem Law_law_604_1 (a_l0 : Nat) (l2 : Value) (a_l3 : Nat) (x_l4 : Int32) (l5 : Value) (l6 : Value) (l7 : Value) (l8 : Value) (w : Wd) (I : MI) (L : ML) (P : MP) (h0 : inA w a_l0 14 (x_l4 + (nI 1))) (h1 : inA w a_l0 14 (x_l4 + (nI 2))) (h2 : inA w a_l0 14 (x_l4 + (nI 3))) : go 225 604 [.ref a_l0, .null, l2, .ref a_l3, .int x_l4, l5, l6, l7, l8] [] w I L P = kC (call 212 [.null, .int (I a_l0 (Int32.toNatClampNeg (x_l4 + (nI 1)))), .int (I a_l0 (Int32.toNatClampNeg (x_l4 + (nI 2)))), .int (I a_l0 (Int32.toNatClampNeg (x_l4 + (nI 3)))), .ref a_l3] w I L P) (fun v w1 I1 L1 P1 => go 225 627 [.ref a_l0, .null, l2, .ref a_l3, .int x_l4, l5, l6, l7, l8] (v.toList ++ []) w1 I1 L1 P1) := by
  refine (go_aload_nN (m := 225) (pc := 604) (k := 1) (by decide +kernel) rfl).trans ?_
  refine (go_aload_n (m := 225) (pc := 605) (k := 0) (by decide +kernel) rfl).trans ?_
  refine (go_iload (m := 225) (pc := 606) (k := 4) (by decide +kernel) rfl).trans ?_
  refine (go_ic (m := 225) (pc := 608) (n := 1) (by decide +kernel) ic_1).trans ?_
  refine (go_iadd (m := 225) (pc := 609) (by decide +kernel)).trans ?_
  refine (go_iald14 (m := 225) (pc := 610) (by decide +kernel) h0).trans ?_
  refine (go_aload_n (m := 225) (pc := 611) (k := 0) (by decide +kernel) rfl).trans ?_
  refine (go_iload (m := 225) (pc := 612) (k := 4) (by decide +kernel) rfl).trans ?_
  refine (go_ic (m := 225) (pc := 614) (n := 2) (by decide +kernel) ic_2).trans ?_
  refine (go_iadd (m := 225) (pc := 615) (by decide +kernel)).trans ?_
  refine (go_iald14 (m := 225) (pc := 616) (by decide +kernel) h1).trans ?_
  refine (go_aload_n (m := 225) (pc := 617) (k := 0) (by decide +kernel) rfl).trans ?_
  refine (go_iload (m := 225) (pc := 618) (k := 4) (by decide +kernel) rfl).trans ?_
  refine (go_ic (m := 225) (pc := 620) (n := 3) (by decide +kernel) ic_3).trans ?_
  refine (go_iadd (m := 225) (pc := 621) (by decide +kernel)).trans ?_
  refine (go_iald14 (m := 225) (pc := 622) (by decide +kernel) h2).trans ?_
  refine (go_aload_n (m := 225) (pc := 623) (k := 3) (by decide +kernel) rfl).trans ?_
  exact go_sta (m := 225) (pc := 624) (o := 8) (x := 111) (y := 212) (kd := 4) (as := [.null, .int (I a_l0 (Int32.toNatClampNeg (x_l4 + (nI 1)))), .int (I a_l0 (Int32.toNatClampNeg (x_l4 + (nI 2)))), .int (I a_l0 (Int32.toNatClampNeg (x_l4 + (nI 3)))), .ref a_l3]) (rs := []) (by decide +kernel) rfl rfl c_8_111 (Or.inr (Or.inr rfl)) rfl rfl rfl (by decide +kernel) (by simp only [List.length_cons, List.length_nil]; decide) (Nat.le_of_ble_eq_true rfl)
theorem Law_law_604_2 (a_l0 : Nat) (a_l1 : Nat) (l2 : Value) (x_l4 : Int32) (l5 : Value) (l6 : Value) (l7 : Value) (l8 : Value) (w : Wd) (I : MI) (L : ML) (P : MP) (h0 : inA w a_l0 14 (x_l4 + (nI 1))) (h1 : inA w a_l0 14 (x_l4 + (nI 2))) (h2 : inA w a_l0 14 (x_l4 + (nI 3))) : go 225 604 [.ref a_l0, .ref a_l1, l2, .null, .int x_l4, l5, l6, l7, l8] [] w I L P = kC (call 212 [.ref a_l1, .int (I a_l0 (Int32.toNatClampNeg (x_l4 + (nI 1)))), .int (I a_l0 (Int32.toNatClampNeg (x_l4 + (nI 2)))), .int (I a_l0 (Int32.toNatClampNeg (x_l4 + (nI 3)))), .null] w I L P) (fun v w1 I1 L1 P1 => go 225 627 [.ref a_l0, .ref a_l1, l2, .null, .int x_l4, l5, l6, l7, l8] (v.toList ++ []) w1 I1 L1 P1) := by
  refine (go_aload_n (m := 225) (pc := 604) (k := 1) (by decide +kernel) rfl).trans ?_
  refine (go_aload_n (m := 225) (pc := 605) (k := 0) (by decide +kernel) rfl).trans ?_
  refine (go_iload (m := 225) (pc := 606) (k := 4) (by decide +kernel) rfl).trans ?_
  refine (go_ic (m := 225) (pc := 608) (n := 1) (by decide +kernel) ic_1).trans ?_
  refine (go_iadd (m := 225) (pc := 609) (by decide +kernel)).trans ?_
  refine (go_iald14 (m := 225) (pc := 610) (by decide +kernel) h0).trans ?_
  refine (go_aload_n (m := 225) (pc := 611) (k := 0) (by decide +kernel) rfl).trans ?_
  refine (go_iload (m := 225) (pc := 612) (k := 4) (by decide +kernel) rfl).trans ?_
  refine (go_ic (m := 225) (pc := 614) (n := 2) (by decide +kernel) ic_2).trans ?_
  refine (go_iadd (m := 225) (pc := 615) (by decide +kernel)).trans ?_
  refine (go_iald14 (m := 225) (pc := 616) (by decide +kernel) h1).trans ?_
  refine (go_aload_n (m := 225) (pc := 617) (k := 0) (by decide +kernel) rfl).trans ?_
  refine (go_iload (m := 225) (pc := 618) (k := 4) (by decide +kernel) rfl).trans ?_
  refine (go_ic (m := 225) (pc := 620) (n := 3) (by decide +kernel) ic_3).trans ?_
  refine (go_iadd (m := 225) (pc := 621) (by decide +kernel)).trans ?_
  refine (go_iald14 (m := 225) (pc := 622) (by decide +kernel) h2).trans ?_
  refine (go_aload_nN (m := 225) (pc := 623) (k := 3) (by decide +kernel) rfl).trans ?_
  exact go_sta (m := 225) (pc := 624) (o := 8) (x := 111) (y := 212) (kd := 4) (as := [.ref a_l1, .int (I a_l0 (Int32.toNatClampNeg (x_l4 + (nI 1)))), .int (I a_l0 (Int32.toNatClampNeg (x_l4 + (nI 2)))), .int (I a_l0 (Int32.toNatClampNeg (x_l4 + (nI 3)))), .null]) (rs := []) (by decide +kernel) rfl rfl c_8_111 (Or.inr (Or.inr rfl)) rfl rfl rfl (by decide +kernel) (by simp only [List.length_cons, List.length_nil]; decide) (Nat.le_of_ble_eq_true rfl)
theorem Law_law_604_3 (a_l0 : Nat) (a_l1 : Nat) (l2 : Value) (a_l3 : Nat) (x_l4 : Int32) (l5 : Value) (l6 : Value) (l7 : Value) (l8 : Value) (w : Wd) (I : MI) (L : ML) (P : MP) (h0 : inA w a_l0 14 (x_l4 + (nI 1))) (h1 : inA w a_l0 14 (x_l4 + (nI 2))) (h2 : inA w a_l0 14 (x_l4 + (nI 3))) : go 225 604 [.ref a_l0, .ref a_l1, l2, .ref a_l3, .int x_l4, l5, l6, l7, l8] [] w I L P = kC (call 212 [.ref a_l1, .int (I a_l0 (Int32.toNatClampNeg (x_l4 + (nI 1)))), .int (I a_l0 (Int32.toNatClampNeg (x_l4 + (nI 2)))), .int (I a_l0 (Int32.toNatClampNeg (x_l4 + (nI 3)))), .ref a_l3] w I L P) (fun v w1 I1 L1 P1 => go 225 627 [.ref a_l0, .ref a_l1, l2, .ref a_l3, .int x_l4, l5, l6, l7, l8] (v.toList ++ []) w1 I1 L1 P1) := by
  refine (go_aload_n (m := 225) (pc := 604) (k := 1) (by decide +kernel) rfl).trans ?_
  refine (go_aload_n (m := 225) (pc := 605) (k := 0) (by decide +kernel) rfl).trans ?_
  refine (go_iload (m := 225) (pc := 606) (k := 4) (by decide +kernel) rfl).trans ?_
  refine (go_ic (m := 225) (pc := 608) (n := 1) (by decide +kernel) ic_1).trans ?_
  refine (go_iadd (m := 225) (pc := 609) (by decide +kernel)).trans ?_
  refine (go_iald14 (m := 225) (pc := 610) (by decide +kernel) h0).trans ?_
  refine (go_aload_n (m := 225) (pc := 611) (k := 0) (by decide +kernel) rfl).trans ?_
  refine (go_iload (m := 225) (pc := 612) (k := 4) (by decide +kernel) rfl).trans ?_
  refine (go_ic (m := 225) (pc := 614) (n := 2) (by decide +kernel) ic_2).trans ?_
  refine (go_iadd (m := 225) (pc := 615) (by decide +kernel)).trans ?_
  refine (go_iald14 (m := 225) (pc := 616) (by decide +kernel) h1).trans ?_
  refine (go_aload_n (m := 225) (pc := 617) (k := 0) (by decide +kernel) rfl).trans ?_
  refine (go_iload (m := 225) (pc := 618) (k := 4) (by decide +kernel) rfl).trans ?_
  refine (go_ic (m := 225) (pc := 620) (n := 3) (by decide +kernel) ic_3).trans ?_
  refine (go_iadd (m := 225) (pc := 621) (by decide +kernel)).trans ?_
  refine (go_iald14 (m := 225) (pc := 622) (by decide +kernel) h2).trans ?_
  refine (go_aload_n (m := 225) (pc := 623) (k := 3) (by decide +kernel) rfl).trans ?_
  exact go_sta (m := 225) (pc := 624) (o := 8) (x := 111) (y := 212) (kd := 4) (as := [.ref a_l1, .int (I a_l0 (Int32.toNatClampNeg (x_l4 + (nI 1)))), .int (I a_l0 (Int32.toNatClampNeg (x_l4 + (nI 2)))), .int (I a_l0 (Int32.toNatClampNeg (x_l4 + (nI 3)))), .ref a_l3]) (rs := []) (by decide +kernel) rfl rfl c_8_111 (Or.inr (Or.inr rfl)) rfl rfl rfl (by decide +kernel) (by simp only [List.length_cons, List.length_nil]; decide) (Nat.le_of_ble_eq_true rfl)
theorem Law_law_627 (a_l0 : Nat) (l1 : Value) (a_l2 : Nat) (l3 : Value) (x_l4 : Int32) (l5 : Value) (l6 : Value) (l7 : Value) (l8 : Value) (y0 : Int32) (w : Wd) (I : MI) (L : ML) (P : MP) (h0 : inA w a_l0 14 (x_l4 + (nI 1))) (h1 : inA w a_l0 14 (x_l4 + (nI 2))) (h2 : inA w a_l0 14 (x_l4 + (nI 3))) (h3 : w.1 a_l2 = some (7, 0)) : go 225 627 [.ref a_l0, l1, .ref a_l2, l3, .int x_l4, l5, l6, l7, l8] [.int y0] w I L P = kC (call 170 [.ref a_l2, .int (I a_l0 (Int32.toNatClampNeg (x_l4 + (nI 1)))), .int (I a_l0 (Int32.toNatClampNeg (x_l4 + (nI 2)))), .int (I a_l0 (Int32.toNatClampNeg (x_l4 + (nI 3))))] w I L P) (fun v w1 I1 L1 P1 => go 225 651 [.ref a_l0, l1, .ref a_l2, l3, .int x_l4, .int y0, l6, l7, l8] (v.toList ++ []) w1 I1 L1 P1) := by
  refine (go_istore (m := 225) (pc := 627) (k := 5) (ls' := [.ref a_l0, l1, .ref a_l2, l3, .int x_l4, .int y0, l6, l7, l8]) (by decide +kernel) (by simp only [List.length_cons, List.length_nil]; decide) rfl).trans ?_
  refine (go_aload_n (m := 225) (pc := 629) (k := 2) (by decide +kernel) rfl).trans ?_
  refine (go_aload_n (m := 225) (pc := 630) (k := 0) (by decide +kernel) rfl).trans ?_
  refine (go_iload (m := 225) (pc := 631) (k := 4) (by decide +kernel) rfl).trans ?_
  refine (go_ic (m := 225) (pc := 633) (n := 1) (by decide +kernel) ic_1).trans ?_
  refine (go_iadd (m := 225) (pc := 634) (by decide +kernel)).trans ?_
  refine (go_iald14 (m := 225) (pc := 635) (by decide +kernel) h0).trans ?_
  refine (go_aload_n (m := 225) (pc := 636) (k := 0) (by decide +kernel) rfl).trans ?_
  refine (go_iload (m := 225) (pc := 637) (k := 4) (by decide +kernel) rfl).trans ?_
  refine (go_ic (m := 225) (pc := 639) (n := 2) (by decide +kernel) ic_2).trans ?_
  refine (go_iadd (m := 225) (pc := 640) (by decide +kernel)).trans ?_
  refine (go_iald14 (m := 225) (pc := 641) (by decide +kernel) h1).trans ?_
  refine (go_aload_n (m := 225) (pc := 642) (k := 0) (by decide +kernel) rfl).trans ?_
  refine (go_iload (m := 225) (pc := 643) (k := 4) (by decide +kernel) rfl).trans ?_
  refine (go_ic (m := 225) (pc := 645) (n := 3) (by decide +kernel) ic_3).trans ?_
  refine (go_iadd (m := 225) (pc := 646) (by decide +kernel)).trans ?_
  refine (go_iald14 (m := 225) (pc := 647) (by decide +kernel) h2).trans ?_
  exact go_vir (m := 225) (pc := 648) (o := 8) (x := 114) (y := 170) (kd := 0) (b := a_l2) (bs := [.int (I a_l0 (Int32.toNatClampNeg (x_l4 + (nI 1)))), .int (I a_l0 (Int32.toNatClampNeg (x_l4 + (nI 2)))), .int (I a_l0 (Int32.toNatClampNeg (x_l4 + (nI 3))))]) (rs := []) (by decide +kernel) rfl rfl c_8_114 (Or.inl rfl) rfl rfl rfl (by decide +kernel) (by simp only [List.length_cons, List.length_nil]; decide) (Nat.le_of_ble_eq_true rfl) h3
theorem Law_law_651 (l0 : Value) (l1 : Value) (a_l2 : Nat) (l3 : Value) (l4 : Value) (l5 : Value) (l6 : Value) (l7 : Value) (l8 : Value) (y0 : Int32) (w : Wd) (I : MI) (L : ML) (P : MP) (h0 : w.1 a_l2 = some (7, 0)) : go 225 651 [l0, l1, .ref a_l2, l3, l4, l5, l6, l7, l8] [.int y0] w I L P = kC (call 121 [.ref a_l2] w I L P) (fun v w1 I1 L1 P1 => go 225 657 [l0, l1, .ref a_l2, l3, l4, (fix1 l5), .int y0, l7, l8] (v.toList ++ []) w1 I1 L1 P1) := by
  refine (go_istore (m := 225) (pc := 651) (k := 6) (ls' := [l0, l1, .ref a_l2, l3, l4, (fix1 l5), .int y0, l7, l8]) (by decide +kernel) (by simp only [List.length_cons, List.length_nil]; decide) rfl).trans ?_
  refine (go_aload_n (m := 225) (pc := 653) (k := 2) (by decide +kernel) rfl).trans ?_
  exact go_vir (m := 225) (pc := 654) (o := 8) (x := 88) (y := 121) (kd := 0) (b := a_l2) (bs := []) (rs := []) (by decide +kernel) rfl rfl c_8_88 (Or.inl rfl) rfl rfl rfl (by decide +kernel) (by simp only [List.length_cons, List.length_nil]; decide) (Nat.le_of_ble_eq_true rfl) h0
theorem Law_law_657 (l0 : Value) (l1 : Value) (l2 : Value) (l3 : Value) (l4 : Value) (x_l5 : Int32) (l6 : Value) (l7 : Value) (l8 : Value) (y0 : Int32) (w : Wd) (I : MI) (L : ML) (P : MP)  : go 225 657 [l0, l1, l2, l3, l4, .int x_l5, l6, l7, l8] [.int y0] w I L P = if y0 = x_l5 then go 225 664 [l0, l1, l2, l3, l4, .int x_l5, l6, l7, l8] [] w I L P else go 225 662 [l0, l1, l2, l3, l4, .int x_l5, l6, l7, l8] [] w I L P := by
  refine (go_iload (m := 225) (pc := 657) (k := 5) (by decide +kernel) rfl).trans ?_
  exact go_icmpeq (m := 225) (pc := 659) (off := 5) (t := 664) (by decide +kernel) (by decide)
theorem Law_law_662 (l0 : Value) (l1 : Value) (l2 : Value) (l3 : Value) (l4 : Value) (l5 : Value) (l6 : Value) (l7 : Value) (l8 : Value) (w : Wd) (I : MI) (L : ML) (P : MP) (h0 : (nI 0) &&& 1 = (nI 0)) : go 225 662 [l0, l1, l2, l3, l4, l5, l6, l7, l8] [] w I L P = some (.inl (some (.int (nI 0))), w, I, L, P) := by
  refine (go_ic (m := 225) (pc := 662) (n := 0) (by decide +kernel) ic_0).trans ?_
  exact go_retZ (m := 225) (pc := 663) (by decide +kernel) rfl h0
theorem Law_law_664 (l0 : Value) (l1 : Value) (l2 : Value) (l3 : Value) (l4 : Value) (x_l5 : Int32) (l6 : Value) (l7 : Value) (l8 : Value) (w : Wd) (I : MI) (L : ML) (P : MP)  : go 225 664 [l0, l1, l2, l3, l4, .int x_l5, l6, l7, l8] [] w I L P = if x_l5 ≠ 0 then go 225 681 [l0, l1, l2, l3, l4, .int x_l5, l6, l7, l8] [] w I L P else go 225 669 [l0, l1, l2, l3, l4, .int x_l5, l6, l7, l8] [] w I L P := by
  refine (go_iload (m := 225) (pc := 664) (k := 5) (by decide +kernel) rfl).trans ?_
  exact go_ifne (m := 225) (pc := 666) (off := 15) (t := 681) (by decide +kernel) (by decide)
theorem Law_law_669 (l0 : Value) (l1 : Value) (l2 : Value) (a_l3 : Nat) (l4 : Value) (l5 : Value) (x_l6 : Int32) (l7 : Value) (l8 : Value) (w : Wd) (I : MI) (L : ML) (P : MP) (h0 : inA w a_l3 9 (nI 0)) : go 225 669 [l0, l1, l2, .ref a_l3, l4, l5, .int x_l6, l7, l8] [] w I L P = if (lg_cmp (L a_l3 (Int32.toNatClampNeg (nI 0))) (Int32.toInt64 x_l6)) = 0 then go 225 681 [l0, l1, l2, .ref a_l3, l4, l5, .int x_l6, l7, l8] [] w I L P else go 225 679 [l0, l1, l2, .ref a_l3, l4, l5, .int x_l6, l7, l8] [] w I L P := by
  refine (go_aload_n (m := 225) (pc := 669) (k := 3) (by decide +kernel) rfl).trans ?_
  refine (go_ic (m := 225) (pc := 670) (n := 0) (by decide +kernel) ic_0).trans ?_
  refine (go_lald (m := 225) (pc := 671) (by decide +kernel) h0).trans ?_
  refine (go_iload (m := 225) (pc := 672) (k := 6) (by decide +kernel) rfl).trans ?_
  refine (go_i2l (m := 225) (pc := 674) (by decide +kernel)).trans ?_
  refine (go_lcmp (m := 225) (pc := 675) (by decide +kernel)).trans ?_
  exact go_ifeq (m := 225) (pc := 676) (off := 5) (t := 681) (by decide +kernel) (by decide)
theorem Law_law_679 (l0 : Value) (l1 : Value) (l2 : Value) (l3 : Value) (l4 : Value) (l5 : Value) (l6 : Value) (l7 : Value) (l8 : Value) (w : Wd) (I : MI) (L : ML) (P : MP) (h0 : (nI 0) &&& 1 = (nI 0)) : go 225 679 [l0, l1, l2, l3, l4, l5, l6, l7, l8] [] w I L P = some (.inl (some (.int (nI 0))), w, I, L, P) := by
  refine (go_ic (m := 225) (pc := 679) (n := 0) (by decide +kernel) ic_0).trans ?_
  exact go_retZ (m := 225) (pc := 680) (by decide +kernel) rfl h0
theorem Law_law_681 (l0 : Value) (l1 : Value) (l2 : Value) (l3 : Value) (l4 : Value) (l5 : Value) (l6 : Value) (l7 : Value) (l8 : Value) (w : Wd) (I : MI) (L : ML) (P : MP)  : go 225 681 [l0, l1, l2, l3, l4, l5, l6, l7, l8] [] w I L P = go 225 1536 [l0, l1, l2, l3, l4, l5, l6, l7, l8] [] w I L P := by
  refine (go_goto (m := 225) (pc := 681) (off := 855) (t := 1536) (by decide +kernel) (by decide)).trans ?_
  rfl
theorem Law_law_684_0 (a_l0 : Nat) (l2 : Value) (x_l4 : Int32) (l5 : Value) (l6 : Value) (l7 : Value) (l8 : Value) (w : Wd) (I : MI) (L : ML) (P : MP) (h0 : inA w a_l0 14 (x_l4 + (nI 1))) : go 225 684 [.ref a_l0, .null, l2, .null, .int x_l4, l5, l6, l7, l8] [] w I L P = kC (call 213 [.null, .int (I a_l0 (Int32.toNatClampNeg (x_l4 + (nI 1)))), .null] w I L P) (fun v w1 I1 L1 P1 => go 225 695 [.ref a_l0, .null, l2, .null, .int x_l4, l5, l6, l7, l8] (v.toList ++ []) w1 I1 L1 P1) := by
  refine (go_aload_nN (m := 225) (pc := 684) (k := 1) (by decide +kernel) rfl).trans ?_
  refine (go_aload_n (m := 225) (pc := 685) (k := 0) (by decide +kernel) rfl).trans ?_
  refine (go_iload (m := 225) (pc := 686) (k := 4) (by decide +kernel) rfl).trans ?_
  refine (go_ic (m := 225) (pc := 688) (n := 1) (by decide +kernel) ic_1).trans ?_
  refine (go_iadd (m := 225) (pc := 689) (by decide +kernel)).trans ?_
  refine (go_iald14 (m := 225) (pc := 690) (by decide +kernel) h0).trans ?_
  refine (go_aload_nN (m := 225) (pc := 691) (k := 3) (by decide +kernel) rfl).trans ?_
  exact go_sta (m := 225) (pc := 692) (o := 8) (x := 115) (y := 213) (kd := 4) (as := [.null, .int (I a_l0 (Int32.toNatClampNeg (x_l4 + (nI 1)))), .null]) (rs := []) (by decide +kernel) rfl rfl c_8_115 (Or.inr (Or.inr rfl)) rfl rfl rfl (by decide +kernel) (by simp only [List.length_cons, List.length_nil]; decide) (Nat.le_of_ble_eq_true rfl)
theorem Law_law_684_1 (a_l0 : Nat) (l2 : Value) (a_l3 : Nat) (x_l4 : Int32) (l5 : Value) (l6 : Value) (l7 : Value) (l8 : Value) (w : Wd) (I : MI) (L : ML) (P : MP) (h0 : inA w a_l0 14 (x_l4 + (nI 1))) : go 225 684 [.ref a_l0, .null, l2, .ref a_l3, .int x_l4, l5, l6, l7, l8] [] w I L P = kC (call 213 [.null, .int (I a_l0 (Int32.toNatClampNeg (x_l4 + (nI 1)))), .ref a_l3] w I L P) (fun v w1 I1 L1 P1 => go 225 695 [.ref a_l0, .null, l2, .ref a_l3, .int x_l4, l5, l6, l7, l8] (v.toList ++ []) w1 I1 L1 P1) := by
  refine (go_aload_nN (m := 225) (pc := 684) (k := 1) (by decide +kernel) rfl).trans ?_
  refine (go_aload_n (m := 225) (pc := 685) (k := 0) (by decide +kernel) rfl).trans ?_
  refine (go_iload (m := 225) (pc := 686) (k := 4) (by decide +kernel) rfl).trans ?_
  refine (go_ic (m := 225) (pc := 688) (n := 1) (by decide +kernel) ic_1).trans ?_
  refine (go_iadd (m := 225) (pc := 689) (by decide +kernel)).trans ?_
  refine (go_iald14 (m := 225) (pc := 690) (by decide +kernel) h0).trans ?_
  refine (go_aload_n (m := 225) (pc := 691) (k := 3) (by decide +kernel) rfl).trans ?_
  exact go_sta (m := 225) (pc := 692) (o := 8) (x := 115) (y := 213) (kd := 4) (as := [.null, .int (I a_l0 (Int32.toNatClampNeg (x_l4 + (nI 1)))), .ref a_l3]) (rs := []) (by decide +kernel) rfl rfl c_8_115 (Or.inr (Or.inr rfl)) rfl rfl rfl (by decide +kernel) (by simp only [List.length_cons, List.length_nil]; decide) (Nat.le_of_ble_eq_true rfl)
theorem Law_law_684_2 (a_l0 : Nat) (a_l1 : Nat) (l2 : Value) (x_l4 : Int32) (l5 : Value) (l6 : Value) (l7 : Value) (l8 : Value) (w : Wd) (I : MI) (L : ML) (P : MP) (h0 : inA w a_l0 14 (x_l4 + (nI 1))) : go 225 684 [.ref a_l0, .ref a_l1, l2, .null, .int x_l4, l5, l6, l7, l8] [] w I L P = kC (call 213 [.ref a_l1, .int (I a_l0 (Int32.toNatClampNeg (x_l4 + (nI 1)))), .null] w I L P) (fun v w1 I1 L1 P1 => go 225 695 [.ref a_l0, .ref a_l1, l2, .null, .int x_l4, l5, l6, l7, l8] (v.toList ++ []) w1 I1 L1 P1) := by
  refine (go_aload_n (m := 225) (pc := 684) (k := 1) (by decide +kernel) rfl).trans ?_
  refine (go_aload_n (m := 225) (pc := 685) (k := 0) (by decide +kernel) rfl).trans ?_
  refine (go_iload (m := 225) (pc := 686) (k := 4) (by decide +kernel) rfl).trans ?_
  refine (go_ic (m := 225) (pc := 688) (n := 1) (by decide +kernel) ic_1).trans ?_
  refine (go_iadd (m := 225) (pc := 689) (by decide +kernel)).trans ?_
  refine (go_iald14 (m := 225) (pc := 690) (by decide +kernel) h0).trans ?_
  refine (go_aload_nN (m := 225) (pc := 691) (k := 3) (by decide +kernel) rfl).trans ?_
  exact go_sta (m := 225) (pc := 692) (o := 8) (x := 115) (y := 213) (kd := 4) (as := [.ref a_l1, .int (I a_l0 (Int32.toNatClampNeg (x_l4 + (nI 1)))), .null]) (rs := []) (by decide +kernel) rfl rfl c_8_115 (Or.inr (Or.inr rfl)) rfl rfl rfl (by decide +kernel) (by simp only [List.length_cons, List.length_nil]; decide) (Nat.le_of_ble_eq_true rfl)
theorem Law_law_684_3 (a_l0 : Nat) (a_l1 : Nat) (l2 : Value) (a_l3 : Nat) (x_l4 : Int32) (l5 : Value) (l6 : Value) (l7 : Value) (l8 : Value) (w : Wd) (I : MI) (L : ML) (P : MP) (h0 : inA w a_l0 14 (x_l4 + (nI 1))) : go 225 684 [.ref a_l0, .ref a_l1, l2, .ref a_l3, .int x_l4, l5, l6, l7, l8] [] w I L P = kC (call 213 [.ref a_l1, .int (I a_l0 (Int32.toNatClampNeg (x_l4 + (nI 1)))), .ref a_l3] w I L P) (fun v w1 I1 L1 P1 => go 225 695 [.ref a_l0, .ref a_l1, l2, .ref a_l3, .int x_l4, l5, l6, l7, l8] (v.toList ++ []) w1 I1 L1 P1) := by
  refine (go_aload_n (m := 225) (pc := 684) (k := 1) (by decide +kernel) rfl).trans ?_
  refine (go_aload_n (m := 225) (pc := 685) (k := 0) (by decide +kernel) rfl).trans ?_
  refine (go_iload (m := 225) (pc := 686) (k := 4) (by decide +kernel) rfl).trans ?_
  refine (go_ic (m := 225) (pc := 688) (n := 1) (by decide +kernel) ic_1).trans ?_
  refine (go_iadd (m := 225) (pc := 689) (by decide +kernel)).trans ?_
  refine (go_iald14 (m := 225) (pc := 690) (by decide +kernel) h0).trans ?_
  refine (go_aload_n (m := 225) (pc := 691) (k := 3) (by decide +kernel) rfl).trans ?_
  exact go_sta (m := 225) (pc := 692) (o := 8) (x := 115) (y := 213) (kd := 4) (as := [.ref a_l1, .int (I a_l0 (Int32.toNatClampNeg (x_l4 + (nI 1)))), .ref a_l3]) (rs := []) (by decide +kernel) rfl rfl c_8_115 (Or.inr (Or.inr rfl)) rfl rfl rfl (by decide +kernel) (by simp only [List.length_cons, List.length_nil]; decide) (Nat.le_of_ble_eq_true rfl)
theorem Law_law_695 (a_l0 : Nat) (l1 : Value) (a_l2 : Nat) (l3 : Value) (x_l4 : Int32) (l5 : Value) (l6 : Value) (l7 : Value) (l8 : Value) (y0 : Int32) (w : Wd) (I : MI) (L : ML) (P : MP) (h0 : inA w a_l0 14 (x_l4 + (nI 1))) (h1 : w.1 a_l2 = some (7, 0)) : go 225 695 [.ref a_l0, l1, .ref a_l2, l3, .int x_l4, l5, l6, l7, l8] [.int y0] w I L P = kC (call 171 [.ref a_l2, .int (I a_l0 (Int32.toNatClampNeg (x_l4 + (nI 1))))] w I L P) (fun v w1 I1 L1 P1 => go 225 707 [.ref a_l0, l1, .ref a_l2, l3, .int x_l4, .int y0, l6, l7, l8] (v.toList ++ []) w1 I1 L1 P1) := by
  refine (go_istore (m := 225) (pc := 695) (k := 5) (ls' := [.ref a_l0, l1, .ref a_l2, l3, .int x_l4, .int y0, l6, l7, l8]) (by decide +kernel) (by simp only [List.length_cons, List.length_nil]; decide) rfl).trans ?_
  refine (go_aload_n (m := 225) (pc := 697) (k := 2) (by decide +kernel) rfl).trans ?_
  refine (go_aload_n (m := 225) (pc := 698) (k := 0) (by decide +kernel) rfl).trans ?_
  refine (go_iload (m := 225) (pc := 699) (k := 4) (by decide +kernel) rfl).trans ?_
  refine (go_ic (m := 225) (pc := 701) (n := 1) (by decide +kernel) ic_1).trans ?_
  refine (go_iadd (m := 225) (pc := 702) (by decide +kernel)).trans ?_
  refine (go_iald14 (m := 225) (pc := 703) (by decide +kernel) h0).trans ?_
  exact go_vir (m := 225) (pc := 704) (o := 8) (x := 117) (y := 171) (kd := 0) (b := a_l2) (bs := [.int (I a_l0 (Int32.toNatClampNeg (x_l4 + (nI 1))))]) (rs := []) (by decide +kernel) rfl rfl c_8_117 (Or.inl rfl) rfl rfl rfl (by decide +kernel) (by simp only [List.length_cons, List.length_nil]; decide) (Nat.le_of_ble_eq_true rfl) h1
theorem Law_law_707 (l0 : Value) (l1 : Value) (a_l2 : Nat) (l3 : Value) (l4 : Value) (l5 : Value) (l6 : Value) (l7 : Value) (l8 : Value) (y0 : Int32) (w : Wd) (I : MI) (L : ML) (P : MP) (h0 : w.1 a_l2 = some (7, 0)) : go 225 707 [l0, l1, .ref a_l2, l3, l4, l5, l6, l7, l8] [.int y0] w I L P = kC (call 121 [.ref a_l2] w I L P) (fun v w1 I1 L1 P1 => go 225 713 [l0, l1, .ref a_l2, l3, l4, (fix1 l5), .int y0, l7, l8] (v.toList ++ []) w1 I1 L1 P1) := by
  refine (go_istore (m := 225) (pc := 707) (k := 6) (ls' := [l0, l1, .ref a_l2, l3, l4, (fix1 l5), .int y0, l7, l8]) (by decide +kernel) (by simp only [List.length_cons, List.length_nil]; decide) rfl).trans ?_
  refine (go_aload_n (m := 225) (pc := 709) (k := 2) (by decide +kernel) rfl).trans ?_
  exact go_vir (m := 225) (pc := 710) (o := 8) (x := 88) (y := 121) (kd := 0) (b := a_l2) (bs := []) (rs := []) (by decide +kernel) rfl rfl c_8_88 (Or.inl rfl) rfl rfl rfl (by decide +kernel) (by simp only [List.length_cons, List.length_nil]; decide) (Nat.le_of_ble_eq_true rfl) h0
theorem Law_law_713 (l0 : Value) (l1 : Value) (l2 : Value) (l3 : Value) (l4 : Value) (x_l5 : Int32) (l6 : Value) (l7 : Value) (l8 : Value) (y0 : Int32) (w : Wd) (I : MI) (L : ML) (P : MP)  : go 225 713 [l0, l1, l2, l3, l4, .int x_l5, l6, l7, l8] [.int y0] w I L P = if y0 = x_l5 then go 225 720 [l0, l1, l2, l3, l4, .int x_l5, l6, l7, l8] [] w I L P else go 225 718 [l0, l1, l2, l3, l4, .int x_l5, l6, l7, l8] [] w I L P := by
  refine (go_iload (m := 225) (pc := 713) (k := 5) (by decide +kernel) rfl).trans ?_
  exact go_icmpeq (m := 225) (pc := 715) (off := 5) (t := 720) (by decide +kernel) (by decide)
theorem Law_law_718 (l0 : Value) (l1 : Value) (l2 : Value) (l3 : Value) (l4 : Value) (l5 : Value) (l6 : Value) (l7 : Value) (l8 : Value) (w : Wd) (I : MI) (L : ML) (P : MP) (h0 : (nI 0) &&& 1 = (nI 0)) : go 225 718 [l0, l1, l2, l3, l4, l5, l6, l7, l8] [] w I L P = some (.inl (some (.int (nI 0))), w, I, L, P) := by
  refine (go_ic (m := 225) (pc := 718) (n := 0) (by decide +kernel) ic_0).trans ?_
  exact go_retZ (m := 225) (pc := 719) (by decide +kernel) rfl h0
theorem Law_law_720 (l0 : Value) (l1 : Value) (l2 : Value) (l3 : Value) (l4 : Value) (x_l5 : Int32) (l6 : Value) (l7 : Value) (l8 : Value) (w : Wd) (I : MI) (L : ML) (P : MP)  : go 225 720 [l0, l1, l2, l3, l4, .int x_l5, l6, l7, l8] [] w I L P = if x_l5 ≠ 0 then go 225 737 [l0, l1, l2, l3, l4, .int x_l5, l6, l7, l8] [] w I L P else go 225 725 [l0, l1, l2, l3, l4, .int x_l5, l6, l7, l8] [] w I L P := by
  refine (go_iload (m := 225) (pc := 720) (k := 5) (by decide +kernel) rfl).trans ?_
  exact go_ifne (m := 225) (pc := 722) (off := 15) (t := 737) (by decide +kernel) (by decide)
theorem Law_law_725 (l0 : Value) (l1 : Value) (l2 : Value) (a_l3 : Nat) (l4 : Value) (l5 : Value) (x_l6 : Int32) (l7 : Value) (l8 : Value) (w : Wd) (I : MI) (L : ML) (P : MP) (h0 : inA w a_l3 9 (nI 0)) : go 225 725 [l0, l1, l2, .ref a_l3, l4, l5, .int x_l6, l7, l8] [] w I L P = if (lg_cmp (L a_l3 (Int32.toNatClampNeg (nI 0))) (Int32.toInt64 x_l6)) = 0 then go 225 737 [l0, l1, l2, .ref a_l3, l4, l5, .int x_l6, l7, l8] [] w I L P else go 225 735 [l0, l1, l2, .ref a_l3, l4, l5, .int x_l6, l7, l8] [] w I L P := by
  refine (go_aload_n (m := 225) (pc := 725) (k := 3) (by decide +kernel) rfl).trans ?_
  refine (go_ic (m := 225) (pc := 726) (n := 0) (by decide +kernel) ic_0).trans ?_
  refine (go_lald (m := 225) (pc := 727) (by decide +kernel) h0).trans ?_
  refine (go_iload (m := 225) (pc := 728) (k := 6) (by decide +kernel) rfl).trans ?_
  refine (go_i2l (m := 225) (pc := 730) (by decide +kernel)).trans ?_
  refine (go_lcmp (m := 225) (pc := 731) (by decide +kernel)).trans ?_
  exact go_ifeq (m := 225) (pc := 732) (off := 5) (t := 737) (by decide +kernel) (by decide)
theorem Law_law_735 (l0 : Value) (l1 : Value) (l2 : Value) (l3 : Value) (l4 : Value) (l5 : Value) (l6 : Value) (l7 : Value) (l8 : Value) (w : Wd) (I : MI) (L : ML) (P : MP) (h0 : (nI 0) &&& 1 = (nI 0)) : go 225 735 [l0, l1, l2, l3, l4, l5, l6, l7, l8] [] w I L P = some (.inl (some (.int (nI 0))), w, I, L, P) := by
  refine (go_ic (m := 225) (pc := 735) (n := 0) (by decide +kernel) ic_0).trans ?_
  exact go_retZ (m := 225) (pc := 736) (by decide +kernel) rfl h0
theorem Law_law_737 (l0 : Value) (l1 : Value) (l2 : Value) (l3 : Value) (l4 : Value) (l5 : Value) (l6 : Value) (l7 : Value) (l8 : Value) (w : Wd) (I : MI) (L : ML) (P : MP)  : go 225 737 [l0, l1, l2, l3, l4, l5, l6, l7, l8] [] w I L P = go 225 1536 [l0, l1, l2, l3, l4, l5, l6, l7, l8] [] w I L P := by
  refine (go_goto (m := 225) (pc := 737) (off := 799) (t := 1536) (by decide +kernel) (by decide)).trans ?_
  rfl
theorem Law_law_740_0 (a_l0 : Nat) (l2 : Value) (x_l4 : Int32) (l5 : Value) (l6 : Value) (l7 : Value) (l8 : Value) (w : Wd) (I : MI) (L : ML) (P : MP) (h0 : inA w a_l0 14 (x_l4 + (nI 1))) : go 225 740 [.ref a_l0, .null, l2, .null, .int x_l4, l5, l6, l7, l8] [] w I L P = kC (call 214 [.null, .int (I a_l0 (Int32.toNatClampNeg (x_l4 + (nI 1)))), .null] w I L P) (fun v w1 I1 L1 P1 => go 225 751 [.ref a_l0, .null, l2, .null, .int x_l4, l5, l6, l7, l8] (v.toList ++ []) w1 I1 L1 P1) := by
  refine (go_aload_nN (m := 225) (pc := 740) (k := 1) (by decide +kernel) rfl).trans ?_
  refine (go_aload_n (m := 225) (pc := 741) (k := 0) (by decide +kernel) rfl).trans ?_
  refine (go_iload (m := 225) (pc := 742) (k := 4) (by decide +kernel) rfl).trans ?_
  refine (go_ic (m := 225) (pc := 744) (n := 1) (by decide +kernel) ic_1).trans ?_
  refine (go_iadd (m := 225) (pc := 745) (by decide +kernel)).trans ?_
  refine (go_iald14 (m := 225) (pc := 746) (by decide +kernel) h0).trans ?_
  refine (go_aload_nN (m := 225) (pc := 747) (k := 3) (by decide +kernel) rfl).trans ?_
  exact go_sta (m := 225) (pc := 748) (o := 8) (x := 118) (y := 214) (kd := 4) (as := [.null, .int (I a_l0 (Int32.toNatClampNeg (x_l4 + (nI 1)))), .null]) (rs := []) (by decide +kernel) rfl rfl c_8_118 (Or.inr (Or.inr rfl)) rfl rfl rfl (by decide +kernel) (by simp only [List.length_cons, List.length_nil]; decide) (Nat.le_of_ble_eq_true rfl)
theorem Law_law_740_1 (a_l0 : Nat) (l2 : Value) (a_l3 : Nat) (x_l4 : Int32) (l5 : Value) (l6 : Value) (l7 : Value) (l8 : Value) (w : Wd) (I : MI) (L : ML) (P : MP) (h0 : inA w a_l0 14 (x_l4 + (nI 1))) : go 225 740 [.ref a_l0, .null, l2, .ref a_l3, .int x_l4, l5, l6, l7, l8] [] w I L P = kC (call 214 [.null, .int (I a_l0 (Int32.toNatClampNeg (x_l4 + (nI 1)))), .ref a_l3] w I L P) (fun v w1 I1 L1 P1 => go 225 751 [.ref a_l0, .null, l2, .ref a_l3, .int x_l4, l5, l6, l7, l8] (v.toList ++ []) w1 I1 L1 P1) := by
  refine (go_aload_nN (m := 225) (pc := 740) (k := 1) (by decide +kernel) rfl).trans ?_
  refine (go_aload_n (m := 225) (pc := 741) (k := 0) (by decide +kernel) rfl).trans ?_
  refine (go_iload (m := 225) (pc := 742) (k := 4) (by decide +kernel) rfl).trans ?_
  refine (go_ic (m := 225) (pc := 744) (n := 1) (by decide +kernel) ic_1).trans ?_
  refine (go_iadd (m := 225) (pc := 745) (by decide +kernel)).trans ?_
  refine (go_iald14 (m := 225) (pc := 746) (by decide +kernel) h0).trans ?_
  refine (go_aload_n (m := 225) (pc := 747) (k := 3) (by decide +kernel) rfl).trans ?_
  exact go_sta (m := 225) (pc := 748) (o := 8) (x := 118) (y := 214) (kd := 4) (as := [.null, .int (I a_l0 (Int32.toNatClampNeg (x_l4 + (nI 1)))), .ref a_l3]) (rs := []) (by decide +kernel) rfl rfl c_8_118 (Or.inr (Or.inr rfl)) rfl rfl rfl (by decide +kernel) (by simp only [List.length_cons, List.length_nil]; decide) (Nat.le_of_ble_eq_true rfl)
theorem Law_law_740_2 (a_l0 : Nat) (a_l1 : Nat) (l2 : Value) (x_l4 : Int32) (l5 : Value) (l6 : Value) (l7 : Value) (l8 : Value) (w : Wd) (I : MI) (L : ML) (P : MP) (h0 : inA w a_l0 14 (x_l4 + (nI 1))) : go 225 740 [.ref a_l0, .ref a_l1, l2, .null, .int x_l4, l5, l6, l7, l8] [] w I L P = kC (call 214 [.ref a_l1, .int (I a_l0 (Int32.toNatClampNeg (x_l4 + (nI 1)))), .null] w I L P) (fun v w1 I1 L1 P1 => go 225 751 [.ref a_l0, .ref a_l1, l2, .null, .int x_l4, l5, l6, l7, l8] (v.toList ++ []) w1 I1 L1 P1) := by
  refine (go_aload_n (m := 225) (pc := 740) (k := 1) (by decide +kernel) rfl).trans ?_
  refine (go_aload_n (m := 225) (pc := 741) (k := 0) (by decide +kernel) rfl).trans ?_
  refine (go_iload (m := 225) (pc := 742) (k := 4) (by decide +kernel) rfl).trans ?_
  refine (go_ic (m := 225) (pc := 744) (n := 1) (by decide +kernel) ic_1).trans ?_
  refine (go_iadd (m := 225) (pc := 745) (by decide +kernel)).trans ?_
  refine (go_iald14 (m := 225) (pc := 746) (by decide +kernel) h0).trans ?_
  refine (go_aload_nN (m := 225) (pc := 747) (k := 3) (by decide +kernel) rfl).trans ?_
  exact go_sta (m := 225) (pc := 748) (o := 8) (x := 118) (y := 214) (kd := 4) (as := [.ref a_l1, .int (I a_l0 (Int32.toNatClampNeg (x_l4 + (nI 1)))), .null]) (rs := []) (by decide +kernel) rfl rfl c_8_118 (Or.inr (Or.inr rfl)) rfl rfl rfl (by decide +kernel) (by simp only [List.length_cons, List.length_nil]; decide) (Nat.le_of_ble_eq_true rfl)
theorem Law_law_740_3 (a_l0 : Nat) (a_l1 : Nat) (l2 : Value) (a_l3 : Nat) (x_l4 : Int32) (l5 : Value) (l6 : Value) (l7 : Value) (l8 : Value) (w : Wd) (I : MI) (L : ML) (P : MP) (h0 : inA w a_l0 14 (x_l4 + (nI 1))) : go 225 740 [.ref a_l0, .ref a_l1, l2, .ref a_l3, .int x_l4, l5, l6, l7, l8] [] w I L P = kC (call 214 [.ref a_l1, .int (I a_l0 (Int32.toNatClampNeg (x_l4 + (nI 1)))), .ref a_l3] w I L P) (fun v w1 I1 L1 P1 => go 225 751 [.ref a_l0, .ref a_l1, l2, .ref a_l3, .int x_l4, l5, l6, l7, l8] (v.toList ++ []) w1 I1 L1 P1) := by
  refine (go_aload_n (m := 225) (pc := 740) (k := 1) (by decide +kernel) rfl).trans ?_
  refine (go_aload_n (m := 225) (pc := 741) (k := 0) (by decide +kernel) rfl).trans ?_
  refine (go_iload (m := 225) (pc := 742) (k := 4) (by decide +kernel) rfl).trans ?_
  refine (go_ic (m := 225) (pc := 744) (n := 1) (by decide +kernel) ic_1).trans ?_
  refine (go_iadd (m := 225) (pc := 745) (by decide +kernel)).trans ?_
  refine (go_iald14 (m := 225) (pc := 746) (by decide +kernel) h0).trans ?_
  refine (go_aload_n (m := 225) (pc := 747) (k := 3) (by decide +kernel) rfl).trans ?_
  exact go_sta (m := 225) (pc := 748) (o := 8) (x := 118) (y := 214) (kd := 4) (as := [.ref a_l1, .int (I a_l0 (Int32.toNatClampNeg (x_l4 + (nI 1)))), .ref a_l3]) (rs := []) (by decide +kernel) rfl rfl c_8_118 (Or.inr (Or.inr rfl)) rfl rfl rfl (by decide +kernel) (by simp only [List.length_cons, List.length_nil]; decide) (Nat.le_of_ble_eq_true rfl)
theorem Law_law_751 (a_l0 : Nat) (l1 : Value) (a_l2 : Nat) (l3 : Value) (x_l4 : Int32) (l5 : Value) (l6 : Value) (l7 : Value) (l8 : Value) (y0 : Int32) (w : Wd) (I : MI) (L : ML) (P : MP) (h0 : inA w a_l0 14 (x_l4 + (nI 1))) (h1 : w.1 a_l2 = some (7, 0)) : go 225 751 [.ref a_l0, l1, .ref a_l2, l3, .int x_l4, l5, l6, l7, l8] [.int y0] w I L P = kC (call 172 [.ref a_l2, .int (I a_l0 (Int32.toNatClampNeg (x_l4 + (nI 1))))] w I L P) (fun v w1 I1 L1 P1 => go 225 763 [.ref a_l0, l1, .ref a_l2, l3, .int x_l4, .int y0, l6, l7, l8] (v.toList ++ []) w1 I1 L1 P1) := by
  refine (go_istore (m := 225) (pc := 751) (k := 5) (ls' := [.ref a_l0, l1, .ref a_l2, l3, .int x_l4, .int y0, l6, l7, l8]) (by decide +kernel) (by simp only [List.length_cons, List.length_nil]; decide) rfl).trans ?_
  refine (go_aload_n (m := 225) (pc := 753) (k := 2) (by decide +kernel) rfl).trans ?_
  refine (go_aload_n (m := 225) (pc := 754) (k := 0) (by decide +kernel) rfl).trans ?_
  refine (go_iload (m := 225) (pc := 755) (k := 4) (by decide +kernel) rfl).trans ?_
  refine (go_ic (m := 225) (pc := 757) (n := 1) (by decide +kernel) ic_1).trans ?_
  refine (go_iadd (m := 225) (pc := 758) (by decide +kernel)).trans ?_
  refine (go_iald14 (m := 225) (pc := 759) (by decide +kernel) h0).trans ?_
  exact go_vir (m := 225) (pc := 760) (o := 8) (x := 120) (y := 172) (kd := 0) (b := a_l2) (bs := [.int (I a_l0 (Int32.toNatClampNeg (x_l4 + (nI 1))))]) (rs := []) (by decide +kernel) rfl rfl c_8_120 (Or.inl rfl) rfl rfl rfl (by decide +kernel) (by simp only [List.length_cons, List.length_nil]; decide) (Nat.le_of_ble_eq_true rfl) h1
theorem Law_law_763 (l0 : Value) (l1 : Value) (a_l2 : Nat) (l3 : Value) (l4 : Value) (l5 : Value) (l6 : Value) (l7 : Value) (l8 : Value) (y0 : Int32) (w : Wd) (I : MI) (L : ML) (P : MP) (h0 : w.1 a_l2 = some (7, 0)) : go 225 763 [l0, l1, .ref a_l2, l3, l4, l5, l6, l7, l8] [.int y0] w I L P = kC (call 121 [.ref a_l2] w I L P) (fun v w1 I1 L1 P1 => go 225 769 [l0, l1, .ref a_l2, l3, l4, (fix1 l5), .int y0, l7, l8] (v.toList ++ []) w1 I1 L1 P1) := by
  refine (go_istore (m := 225) (pc := 763) (k := 6) (ls' := [l0, l1, .ref a_l2, l3, l4, (fix1 l5), .int y0, l7, l8]) (by decide +kernel) (by simp only [List.length_cons, List.length_nil]; decide) rfl).trans ?_
  refine (go_aload_n (m := 225) (pc := 765) (k := 2) (by decide +kernel) rfl).trans ?_
  exact go_vir (m := 225) (pc := 766) (o := 8) (x := 88) (y := 121) (kd := 0) (b := a_l2) (bs := []) (rs := []) (by decide +kernel) rfl rfl c_8_88 (Or.inl rfl) rfl rfl rfl (by decide +kernel) (by simp only [List.length_cons, List.length_nil]; decide) (Nat.le_of_ble_eq_true rfl) h0
theorem Law_law_769 (l0 : Value) (l1 : Value) (l2 : Value) (l3 : Value) (l4 : Value) (x_l5 : Int32) (l6 : Value) (l7 : Value) (l8 : Value) (y0 : Int32) (w : Wd) (I : MI) (L : ML) (P : MP)  : go 225 769 [l0, l1, l2, l3, l4, .int x_l5, l6, l7, l8] [.int y0] w I L P = if y0 = x_l5 then go 225 776 [l0, l1, l2, l3, l4, .int x_l5, l6, l7, l8] [] w I L P else go 225 774 [l0, l1, l2, l3, l4, .int x_l5, l6, l7, l8] [] w I L P := by
  refine (go_iload (m := 225) (pc := 769) (k := 5) (by decide +kernel) rfl).trans ?_
  exact go_icmpeq (m := 225) (pc := 771) (off := 5) (t := 776) (by decide +kernel) (by decide)
theorem Law_law_774 (l0 : Value) (l1 : Value) (l2 : Value) (l3 : Value) (l4 : Value) (l5 : Value) (l6 : Value) (l7 : Value) (l8 : Value) (w : Wd) (I : MI) (L : ML) (P : MP) (h0 : (nI 0) &&& 1 = (nI 0)) : go 225 774 [l0, l1, l2, l3, l4, l5, l6, l7, l8] [] w I L P = some (.inl (some (.int (nI 0))), w, I, L, P) := by
  refine (go_ic (m := 225) (pc := 774) (n := 0) (by decide +kernel) ic_0).trans ?_
  exact go_retZ (m := 225) (pc := 775) (by decide +kernel) rfl h0
theorem Law_law_776 (l0 : Value) (l1 : Value) (l2 : Value) (l3 : Value) (l4 : Value) (x_l5 : Int32) (l6 : Value) (l7 : Value) (l8 : Value) (w : Wd) (I : MI) (L : ML) (P : MP)  : go 225 776 [l0, l1, l2, l3, l4, .int x_l5, l6, l7, l8] [] w I L P = if x_l5 ≠ 0 then go 225 793 [l0, l1, l2, l3, l4, .int x_l5, l6, l7, l8] [] w I L P else go 225 781 [l0, l1, l2, l3, l4, .int x_l5, l6, l7, l8] [] w I L P := by
  refine (go_iload (m := 225) (pc := 776) (k := 5) (by decide +kernel) rfl).trans ?_
  exact go_ifne (m := 225) (pc := 778) (off := 15) (t := 793) (by decide +kernel) (by decide)
theorem Law_law_781 (l0 : Value) (l1 : Value) (l2 : Value) (a_l3 : Nat) (l4 : Value) (l5 : Value) (x_l6 : Int32) (l7 : Value) (l8 : Value) (w : Wd) (I : MI) (L : ML) (P : MP) (h0 : inA w a_l3 9 (nI 0)) : go 225 781 [l0, l1, l2, .ref a_l3, l4, l5, .int x_l6, l7, l8] [] w I L P = if (lg_cmp (L a_l3 (Int32.toNatClampNeg (nI 0))) (Int32.toInt64 x_l6)) = 0 then go 225 793 [l0, l1, l2, .ref a_l3, l4, l5, .int x_l6, l7, l8] [] w I L P else go 225 791 [l0, l1, l2, .ref a_l3, l4, l5, .int x_l6, l7, l8] [] w I L P := by
  refine (go_aload_n (m := 225) (pc := 781) (k := 3) (by decide +kernel) rfl).trans ?_
  refine (go_ic (m := 225) (pc := 782) (n := 0) (by decide +kernel) ic_0).trans ?_
  refine (go_lald (m := 225) (pc := 783) (by decide +kernel) h0).trans ?_
  refine (go_iload (m := 225) (pc := 784) (k := 6) (by decide +kernel) rfl).trans ?_
  refine (go_i2l (m := 225) (pc := 786) (by decide +kernel)).trans ?_
  refine (go_lcmp (m := 225) (pc := 787) (by decide +kernel)).trans ?_
  exact go_ifeq (m := 225) (pc := 788) (off := 5) (t := 793) (by decide +kernel) (by decide)
theorem Law_law_791 (l0 : Value) (l1 : Value) (l2 : Value) (l3 : Value) (l4 : Value) (l5 : Value) (l6 : Value) (l7 : Value) (l8 : Value) (w : Wd) (I : MI) (L : ML) (P : MP) (h0 : (nI 0) &&& 1 = (nI 0)) : go 225 791 [l0, l1, l2, l3, l4, l5, l6, l7, l8] [] w I L P = some (.inl (some (.int (nI 0))), w, I, L, P) := by
  refine (go_ic (m := 225) (pc := 791) (n := 0) (by decide +kernel) ic_0).trans ?_
  exact go_retZ (m := 225) (pc := 792) (by decide +kernel) rfl h0
theorem Law_law_793 (l0 : Value) (l1 : Value) (l2 : Value) (l3 : Value) (l4 : Value) (l5 : Value) (l6 : Value) (l7 : Value) (l8 : Value) (w : Wd) (I : MI) (L : ML) (P : MP)  : go 225 793 [l0, l1, l2, l3, l4, l5, l6, l7, l8] [] w I L P = go 225 1536 [l0, l1, l2, l3, l4, l5, l6, l7, l8] [] w I L P := by
  refine (go_goto (m := 225) (pc := 793) (off := 743) (t := 1536) (by decide +kernel) (by decide)).trans ?_
  rfl
theorem Law_law_796 (l0 : Value) (a_l1 : Nat) (l2 : Value) (l3 : Value) (l4 : Value) (l5 : Value) (l6 : Value) (l7 : Value) (l8 : Value) (w : Wd) (I : MI) (L : ML) (P : MP) (h0 : w.1 a_l1 = some (6, 0)) : go 225 796 [l0, .ref a_l1, l2, l3, l4, l5, l6, l7, l8] [] w I L P = kC (call 89 [.ref a_l1] w I L P) (fun v w1 I1 L1 P1 => go 225 800 [l0, .ref a_l1, l2, l3, l4, l5, l6, l7, l8] (v.toList ++ []) w1 I1 L1 P1) := by
  refine (go_aload_n (m := 225) (pc := 796) (k := 1) (by decide +kernel) rfl).trans ?_
  exact go_vir (m := 225) (pc := 797) (o := 8) (x := 121) (y := 89) (kd := 0) (b := a_l1) (bs := []) (rs := []) (by decide +kernel) rfl rfl c_8_121 (Or.inl rfl) rfl rfl rfl (by decide +kernel) (by simp only [List.length_cons, List.length_nil]; decide) (Nat.le_of_ble_eq_true rfl) h0
theorem Law_law_800 (l0 : Value) (l1 : Value) (a_l2 : Nat) (l3 : Value) (l4 : Value) (l5 : Value) (l6 : Value) (l7 : Value) (l8 : Value) (y0 : Int32) (w : Wd) (I : MI) (L : ML) (P : MP) (h0 : w.1 a_l2 = some (7, 0)) : go 225 800 [l0, l1, .ref a_l2, l3, l4, l5, l6, l7, l8] [.int y0] w I L P = kC (call 173 [.ref a_l2] w I L P) (fun v w1 I1 L1 P1 => go 225 804 [l0, l1, .ref a_l2, l3, l4, l5, l6, l7, l8] (v.toList ++ [.int y0]) w1 I1 L1 P1) := by
  refine (go_aload_n (m := 225) (pc := 800) (k := 2) (by decide +kernel) rfl).trans ?_
  exact go_vir (m := 225) (pc := 801) (o := 8) (x := 124) (y := 173) (kd := 0) (b := a_l2) (bs := []) (rs := [.int y0]) (by decide +kernel) rfl rfl c_8_124 (Or.inl rfl) rfl rfl rfl (by decide +kernel) (by simp only [List.length_cons, List.length_nil]; decide) (Nat.le_of_ble_eq_true rfl) h0
theorem Law_law_804 (l0 : Value) (l1 : Value) (l2 : Value) (l3 : Value) (l4 : Value) (l5 : Value) (l6 : Value) (l7 : Value) (l8 : Value) (y0 : Int32) (y1 : Int32) (w : Wd) (I : MI) (L : ML) (P : MP)  : go 225 804 [l0, l1, l2, l3, l4, l5, l6, l7, l8] [.int y1, .int y0] w I L P = if y0 = y1 then go 225 1536 [l0, l1, l2, l3, l4, l5, l6, l7, l8] [] w I L P else go 225 807 [l0, l1, l2, l3, l4, l5, l6, l7, l8] [] w I L P := by
  exact go_icmpeq (m := 225) (pc := 804) (off := 732) (t := 1536) (by decide +kernel) (by decide)
theorem Law_law_807 (l0 : Value) (l1 : Value) (l2 : Value) (l3 : Value) (l4 : Value) (l5 : Value) (l6 : Value) (l7 : Value) (l8 : Value) (w : Wd) (I : MI) (L : ML) (P : MP) (h0 : (nI 0) &&& 1 = (nI 0)) : go 225 807 [l0, l1, l2, l3, l4, l5, l6, l7, l8] [] w I L P = some (.inl (some (.int (nI 0))), w, I, L, P) := by
  refine (go_ic (m := 225) (pc := 807) (n := 0) (by decide +kernel) ic_0).trans ?_
  exact go_retZ (m := 225) (pc := 808) (by decide +kernel) rfl h0
theorem Law_law_809_0 (a_l0 : Nat) (l2 : Value) (x_l4 : Int32) (l5 : Value) (l6 : Value) (l7 : Value) (l8 : Value) (w : Wd) (I : MI) (L : ML) (P : MP) (h0 : inA w a_l0 14 (x_l4 + (nI 1))) (h1 : inA w a_l0 14 (x_l4 + (nI 2))) : go 225 809 [.ref a_l0, .null, l2, .null, .int x_l4, l5, l6, l7, l8] [] w I L P = kC (call 215 [.null, .int (I a_l0 (Int32.toNatClampNeg (x_l4 + (nI 1)))), .int (I a_l0 (Int32.toNatClampNeg (x_l4 + (nI 2)))), .null] w I L P) (fun v w1 I1 L1 P1 => go 225 826 [.ref a_l0, .null, l2, .null, .int x_l4, l5, l6, l7, l8] (v.toList ++ []) w1 I1 L1 P1) := by
  refine (go_aload_nN (m := 225) (pc := 809) (k := 1) (by decide +kernel) rfl).trans ?_
  refine (go_aload_n (m := 225) (pc := 810) (k := 0) (by decide +kernel) rfl).trans ?_
  refine (go_iload (m := 225) (pc := 811) (k := 4) (by decide +kernel) rfl).trans ?_
  refine (go_ic (m := 225) (pc := 813) (n := 1) (by decide +kernel) ic_1).trans ?_
  refine (go_iadd (m := 225) (pc := 814) (by decide +kernel)).trans ?_
  refine (go_iald14 (m := 225) (pc := 815) (by decide +kernel) h0).trans ?_
  refine (go_aload_n (m := 225) (pc := 816) (k := 0) (by decide +kernel) rfl).trans ?_
  refine (go_iload (m := 225) (pc := 817) (k := 4) (by decide +kernel) rfl).trans ?_
  refine (go_ic (m := 225) (pc := 819) (n := 2) (by decide +kernel) ic_2).trans ?_
  refine (go_iadd (m := 225) (pc := 820) (by decide +kernel)).trans ?_
  refine (go_iald14 (m := 225) (pc := 821) (by decide +kernel) h1).trans ?_
  refine (go_aload_nN (m := 225) (pc := 822) (k := 3) (by decide +kernel) rfl).trans ?_
  exact go_sta (m := 225) (pc := 823) (o := 8) (x := 125) (y := 215) (kd := 4) (as := [.null, .int (I a_l0 (Int32.toNatClampNeg (x_l4 + (nI 1)))), .int (I a_l0 (Int32.toNatClampNeg (x_l4 + (nI 2)))), .null]) (rs := []) (by decide +kernel) rfl rfl c_8_125 (Or.inr (Or.inr rfl)) rfl rfl rfl (by decide +kernel) (by simp only [List.length_cons, List.length_nil]; decide) (Nat.le_of_ble_eq_true rfl)
theorem Law_law_809_1 (a_l0 : Nat) (l2 : Value) (a_l3 : Nat) (x_l4 : Int32) (l5 : Value) (l6 : Value) (l7 : Value) (l8 : Value) (w : Wd) (I : MI) (L : ML) (P : MP) (h0 : inA w a_l0 14 (x_l4 + (nI 1))) (h1 : inA w a_l0 14 (x_l4 + (nI 2))) : go 225 809 [.ref a_l0, .null, l2, .ref a_l3, .int x_l4, l5, l6, l7, l8] [] w I L P = kC (call 215 [.null, .int (I a_l0 (Int32.toNatClampNeg (x_l4 + (nI 1)))), .int (I a_l0 (Int32.toNatClampNeg (x_l4 + (nI 2)))), .ref a_l3] w I L P) (fun v w1 I1 L1 P1 => go 225 826 [.ref a_l0, .null, l2, .ref a_l3, .int x_l4, l5, l6, l7, l8] (v.toList ++ []) w1 I1 L1 P1) := by
  refine (go_aload_nN (m := 225) (pc := 809) (k := 1) (by decide +kernel) rfl).trans ?_
  refine (go_aload_n (m := 225) (pc := 810) (k := 0) (by decide +kernel) rfl).trans ?_
  refine (go_iload (m := 225) (pc := 811) (k := 4) (by decide +kernel) rfl).trans ?_
  refine (go_ic (m := 225) (pc := 813) (n := 1) (by decide +kernel) ic_1).trans ?_
  refine (go_iadd (m := 225) (pc := 814) (by decide +kernel)).trans ?_
  refine (go_iald14 (m := 225) (pc := 815) (by decide +kernel) h0).trans ?_
  refine (go_aload_n (m := 225) (pc := 816) (k := 0) (by decide +kernel) rfl).trans ?_
  refine (go_iload (m := 225) (pc := 817) (k := 4) (by decide +kernel) rfl).trans ?_
  refine (go_ic (m := 225) (pc := 819) (n := 2) (by decide +kernel) ic_2).trans ?_
  refine (go_iadd (m := 225) (pc := 820) (by decide +kernel)).trans ?_
  refine (go_iald14 (m := 225) (pc := 821) (by decide +kernel) h1).trans ?_
  refine (go_aload_n (m := 225) (pc := 822) (k := 3) (by decide +kernel) rfl).trans ?_
  exact go_sta (m := 225) (pc := 823) (o := 8) (x := 125) (y := 215) (kd := 4) (as := [.null, .int (I a_l0 (Int32.toNatClampNeg (x_l4 + (nI 1)))), .int (I a_l0 (Int32.toNatClampNeg (x_l4 + (nI 2)))), .ref a_l3]) (rs := []) (by decide +kernel) rfl rfl c_8_125 (Or.inr (Or.inr rfl)) rfl rfl rfl (by decide +kernel) (by simp only [List.length_cons, List.length_nil]; decide) (Nat.le_of_ble_eq_true rfl)
theorem Law_law_809_2 (a_l0 : Nat) (a_l1 : Nat) (l2 : Value) (x_l4 : Int32) (l5 : Value) (l6 : Value) (l7 : Value) (l8 : Value) (w : Wd) (I : MI) (L : ML) (P : MP) (h0 : inA w a_l0 14 (x_l4 + (nI 1))) (h1 : inA w a_l0 14 (x_l4 + (nI 2))) : go 225 809 [.ref a_l0, .ref a_l1, l2, .null, .int x_l4, l5, l6, l7, l8] [] w I L P = kC (call 215 [.ref a_l1, .int (I a_l0 (Int32.toNatClampNeg (x_l4 + (nI 1)))), .int (I a_l0 (Int32.toNatClampNeg (x_l4 + (nI 2)))), .null] w I L P) (fun v w1 I1 L1 P1 => go 225 826 [.ref a_l0, .ref a_l1, l2, .null, .int x_l4, l5, l6, l7, l8] (v.toList ++ []) w1 I1 L1 P1) := by
  refine (go_aload_n (m := 225) (pc := 809) (k := 1) (by decide +kernel) rfl).trans ?_
  refine (go_aload_n (m := 225) (pc := 810) (k := 0) (by decide +kernel) rfl).trans ?_
  refine (go_iload (m := 225) (pc := 811) (k := 4) (by decide +kernel) rfl).trans ?_
  refine (go_ic (m := 225) (pc := 813) (n := 1) (by decide +kernel) ic_1).trans ?_
  refine (go_iadd (m := 225) (pc := 814) (by decide +kernel)).trans ?_
  refine (go_iald14 (m := 225) (pc := 815) (by decide +kernel) h0).trans ?_
  refine (go_aload_n (m := 225) (pc := 816) (k := 0) (by decide +kernel) rfl).trans ?_
  refine (go_iload (m := 225) (pc := 817) (k := 4) (by decide +kernel) rfl).trans ?_
  refine (go_ic (m := 225) (pc := 819) (n := 2) (by decide +kernel) ic_2).trans ?_
  refine (go_iadd (m := 225) (pc := 820) (by decide +kernel)).trans ?_
  refine (go_iald14 (m := 225) (pc := 821) (by decide +kernel) h1).trans ?_
  refine (go_aload_nN (m := 225) (pc := 822) (k := 3) (by decide +kernel) rfl).trans ?_
  exact go_sta (m := 225) (pc := 823) (o := 8) (x := 125) (y := 215) (kd := 4) (as := [.ref a_l1, .int (I a_l0 (Int32.toNatClampNeg (x_l4 + (nI 1)))), .int (I a_l0 (Int32.toNatClampNeg (x_l4 + (nI 2)))), .null]) (rs := []) (by decide +kernel) rfl rfl c_8_125 (Or.inr (Or.inr rfl)) rfl rfl rfl (by decide +kernel) (by simp only [List.length_cons, List.length_nil]; decide) (Nat.le_of_ble_eq_true rfl)
theorem Law_law_809_3 (a_l0 : Nat) (a_l1 : Nat) (l2 : Value) (a_l3 : Nat) (x_l4 : Int32) (l5 : Value) (l6 : Value) (l7 : Value) (l8 : Value) (w : Wd) (I : MI) (L : ML) (P : MP) (h0 : inA w a_l0 14 (x_l4 + (nI 1))) (h1 : inA w a_l0 14 (x_l4 + (nI 2))) : go 225 809 [.ref a_l0, .ref a_l1, l2, .ref a_l3, .int x_l4, l5, l6, l7, l8] [] w I L P = kC (call 215 [.ref a_l1, .int (I a_l0 (Int32.toNatClampNeg (x_l4 + (nI 1)))), .int (I a_l0 (Int32.toNatClampNeg (x_l4 + (nI 2)))), .ref a_l3] w I L P) (fun v w1 I1 L1 P1 => go 225 826 [.ref a_l0, .ref a_l1, l2, .ref a_l3, .int x_l4, l5, l6, l7, l8] (v.toList ++ []) w1 I1 L1 P1) := by
  refine (go_aload_n (m := 225) (pc := 809) (k := 1) (by decide +kernel) rfl).trans ?_
  refine (go_aload_n (m := 225) (pc := 810) (k := 0) (by decide +kernel) rfl).trans ?_
  refine (go_iload (m := 225) (pc := 811) (k := 4) (by decide +kernel) rfl).trans ?_
  refine (go_ic (m := 225) (pc := 813) (n := 1) (by decide +kernel) ic_1).trans ?_
  refine (go_iadd (m := 225) (pc := 814) (by decide +kernel)).trans ?_
  refine (go_iald14 (m := 225) (pc := 815) (by decide +kernel) h0).trans ?_
  refine (go_aload_n (m := 225) (pc := 816) (k := 0) (by decide +kernel) rfl).trans ?_
  refine (go_iload (m := 225) (pc := 817) (k := 4) (by decide +kernel) rfl).trans ?_
  refine (go_ic (m := 225) (pc := 819) (n := 2) (by decide +kernel) ic_2).trans ?_
  refine (go_iadd (m := 225) (pc := 820) (by decide +kernel)).trans ?_
  refine (go_iald14 (m := 225) (pc := 821) (by decide +kernel) h1).trans ?_
  refine (go_aload_n (m := 225) (pc := 822) (k := 3) (by decide +kernel) rfl).trans ?_
  exact go_sta (m := 225) (pc := 823) (o := 8) (x := 125) (y := 215) (kd := 4) (as := [.ref a_l1, .int (I a_l0 (Int32.toNatClampNeg (x_l4 + (nI 1)))), .int (I a_l0 (Int32.toNatClampNeg (x_l4 + (nI 2)))), .ref a_l3]) (rs := []) (by decide +kernel) rfl rfl c_8_125 (Or.inr (Or.inr rfl)) rfl rfl rfl (by decide +kernel) (by simp only [List.length_cons, List.length_nil]; decide) (Nat.le_of_ble_eq_true rfl)
theorem Law_law_826 (a_l0 : Nat) (l1 : Value) (a_l2 : Nat) (l3 : Value) (x_l4 : Int32) (l5 : Value) (l6 : Value) (l7 : Value) (l8 : Value) (y0 : Int32) (w : Wd) (I : MI) (L : ML) (P : MP) (h0 : inA w a_l0 14 (x_l4 + (nI 1))) (h1 : inA w a_l0 14 (x_l4 + (nI 2))) (h2 : w.1 a_l2 = some (7, 0)) : go 225 826 [.ref a_l0, l1, .ref a_l2, l3, .int x_l4, l5, l6, l7, l8] [.int y0] w I L P = kC (call 175 [.ref a_l2, .int (I a_l0 (Int32.toNatClampNeg (x_l4 + (nI 1)))), .int (I a_l0 (Int32.toNatClampNeg (x_l4 + (nI 2))))] w I L P) (fun v w1 I1 L1 P1 => go 225 844 [.ref a_l0, l1, .ref a_l2, l3, .int x_l4, .int y0, l6, l7, l8] (v.toList ++ []) w1 I1 L1 P1) := by
  refine (go_istore (m := 225) (pc := 826) (k := 5) (ls' := [.ref a_l0, l1, .ref a_l2, l3, .int x_l4, .int y0, l6, l7, l8]) (by decide +kernel) (by simp only [List.length_cons, List.length_nil]; decide) rfl).trans ?_
  refine (go_aload_n (m := 225) (pc := 828) (k := 2) (by decide +kernel) rfl).trans ?_
  refine (go_aload_n (m := 225) (pc := 829) (k := 0) (by decide +kernel) rfl).trans ?_
  refine (go_iload (m := 225) (pc := 830) (k := 4) (by decide +kernel) rfl).trans ?_
  refine (go_ic (m := 225) (pc := 832) (n := 1) (by decide +kernel) ic_1).trans ?_
  refine (go_iadd (m := 225) (pc := 833) (by decide +kernel)).trans ?_
  refine (go_iald14 (m := 225) (pc := 834) (by decide +kernel) h0).trans ?_
  refine (go_aload_n (m := 225) (pc := 835) (k := 0) (by decide +kernel) rfl).trans ?_
  refine (go_iload (m := 225) (pc := 836) (k := 4) (by decide +kernel) rfl).trans ?_
  refine (go_ic (m := 225) (pc := 838) (n := 2) (by decide +kernel) ic_2).trans ?_
  refine (go_iadd (m := 225) (pc := 839) (by decide +kernel)).trans ?_
  refine (go_iald14 (m := 225) (pc := 840) (by decide +kernel) h1).trans ?_
  exact go_vir (m := 225) (pc := 841) (o := 8) (x := 127) (y := 175) (kd := 0) (b := a_l2) (bs := [.int (I a_l0 (Int32.toNatClampNeg (x_l4 + (nI 1)))), .int (I a_l0 (Int32.toNatClampNeg (x_l4 + (nI 2))))]) (rs := []) (by decide +kernel) rfl rfl c_8_127 (Or.inl rfl) rfl rfl rfl (by decide +kernel) (by simp only [List.length_cons, List.length_nil]; decide) (Nat.le_of_ble_eq_true rfl) h2
theorem Law_law_844 (l0 : Value) (l1 : Value) (a_l2 : Nat) (l3 : Value) (l4 : Value) (l5 : Value) (l6 : Value) (l7 : Value) (l8 : Value) (y0 : Int32) (w : Wd) (I : MI) (L : ML) (P : MP) (h0 : w.1 a_l2 = some (7, 0)) : go 225 844 [l0, l1, .ref a_l2, l3, l4, l5, l6, l7, l8] [.int y0] w I L P = kC (call 121 [.ref a_l2] w I L P) (fun v w1 I1 L1 P1 => go 225 850 [l0, l1, .ref a_l2, l3, l4, (fix1 l5), .int y0, l7, l8] (v.toList ++ []) w1 I1 L1 P1) := by
  refine (go_istore (m := 225) (pc := 844) (k := 6) (ls' := [l0, l1, .ref a_l2, l3, l4, (fix1 l5), .int y0, l7, l8]) (by decide +kernel) (by simp only [List.length_cons, List.length_nil]; decide) rfl).trans ?_
  refine (go_aload_n (m := 225) (pc := 846) (k := 2) (by decide +kernel) rfl).trans ?_
  exact go_vir (m := 225) (pc := 847) (o := 8) (x := 88) (y := 121) (kd := 0) (b := a_l2) (bs := []) (rs := []) (by decide +kernel) rfl rfl c_8_88 (Or.inl rfl) rfl rfl rfl (by decide +kernel) (by simp only [List.length_cons, List.length_nil]; decide) (Nat.le_of_ble_eq_true rfl) h0
theorem Law_law_850 (l0 : Value) (l1 : Value) (l2 : Value) (l3 : Value) (l4 : Value) (x_l5 : Int32) (l6 : Value) (l7 : Value) (l8 : Value) (y0 : Int32) (w : Wd) (I : MI) (L : ML) (P : MP)  : go 225 850 [l0, l1, l2, l3, l4, .int x_l5, l6, l7, l8] [.int y0] w I L P = if y0 = x_l5 then go 225 857 [l0, l1, l2, l3, l4, .int x_l5, l6, l7, l8] [] w I L P else go 225 855 [l0, l1, l2, l3, l4, .int x_l5, l6, l7, l8] [] w I L P := by
  refine (go_iload (m := 225) (pc := 850) (k := 5) (by decide +kernel) rfl).trans ?_
  exact go_icmpeq (m := 225) (pc := 852) (off := 5) (t := 857) (by decide +kernel) (by decide)
theorem Law_law_855 (l0 : Value) (l1 : Value) (l2 : Value) (l3 : Value) (l4 : Value) (l5 : Value) (l6 : Value) (l7 : Value) (l8 : Value) (w : Wd) (I : MI) (L : ML) (P : MP) (h0 : (nI 0) &&& 1 = (nI 0)) : go 225 855 [l0, l1, l2, l3, l4, l5, l6, l7, l8] [] w I L P = some (.inl (some (.int (nI 0))), w, I, L, P) := by
  refine (go_ic (m := 225) (pc := 855) (n := 0) (by decide +kernel) ic_0).trans ?_
  exact go_retZ (m := 225) (pc := 856) (by decide +kernel) rfl h0
theorem Law_law_857 (l0 : Value) (l1 : Value) (l2 : Value) (l3 : Value) (l4 : Value) (x_l5 : Int32) (l6 : Value) (l7 : Value) (l8 : Value) (w : Wd) (I : MI) (L : ML) (P : MP)  : go 225 857 [l0, l1, l2, l3, l4, .int x_l5, l6, l7, l8] [] w I L P = if x_l5 ≠ 0 then go 225 874 [l0, l1, l2, l3, l4, .int x_l5, l6, l7, l8] [] w I L P else go 225 862 [l0, l1, l2, l3, l4, .int x_l5, l6, l7, l8] [] w I L P := by
  refine (go_iload (m := 225) (pc := 857) (k := 5) (by decide +kernel) rfl).trans ?_
  exact go_ifne (m := 225) (pc := 859) (off := 15) (t := 874) (by decide +kernel) (by decide)
theorem Law_law_862 (l0 : Value) (l1 : Value) (l2 : Value) (a_l3 : Nat) (l4 : Value) (l5 : Value) (x_l6 : Int32) (l7 : Value) (l8 : Value) (w : Wd) (I : MI) (L : ML) (P : MP) (h0 : inA w a_l3 9 (nI 0)) : go 225 862 [l0, l1, l2, .ref a_l3, l4, l5, .int x_l6, l7, l8] [] w I L P = if (lg_cmp (L a_l3 (Int32.toNatClampNeg (nI 0))) (Int32.toInt64 x_l6)) = 0 then go 225 874 [l0, l1, l2, .ref a_l3, l4, l5, .int x_l6, l7, l8] [] w I L P else go 225 872 [l0, l1, l2, .ref a_l3, l4, l5, .int x_l6, l7, l8] [] w I L P := by
  refine (go_aload_n (m := 225) (pc := 862) (k := 3) (by decide +kernel) rfl).trans ?_
  refine (go_ic (m := 225) (pc := 863) (n := 0) (by decide +kernel) ic_0).trans ?_
  refine (go_lald (m := 225) (pc := 864) (by decide +kernel) h0).trans ?_
  refine (go_iload (m := 225) (pc := 865) (k := 6) (by decide +kernel) rfl).trans ?_
  refine (go_i2l (m := 225) (pc := 867) (by decide +kernel)).trans ?_
  refine (go_lcmp (m := 225) (pc := 868) (by decide +kernel)).trans ?_
  exact go_ifeq (m := 225) (pc := 869) (off := 5) (t := 874) (by decide +kernel) (by decide)
theorem Law_law_872 (l0 : Value) (l1 : Value) (l2 : Value) (l3 : Value) (l4 : Value) (l5 : Value) (l6 : Value) (l7 : Value) (l8 : Value) (w : Wd) (I : MI) (L : ML) (P : MP) (h0 : (nI 0) &&& 1 = (nI 0)) : go 225 872 [l0, l1, l2, l3, l4, l5, l6, l7, l8] [] w I L P = some (.inl (some (.int (nI 0))), w, I, L, P) := by
  refine (go_ic (m := 225) (pc := 872) (n := 0) (by decide +kernel) ic_0).trans ?_
  exact go_retZ (m := 225) (pc := 873) (by decide +kernel) rfl h0
theorem Law_law_874 (l0 : Value) (l1 : Value) (l2 : Value) (l3 : Value) (l4 : Value) (l5 : Value) (l6 : Value) (l7 : Value) (l8 : Value) (w : Wd) (I : MI) (L : ML) (P : MP)  : go 225 874 [l0, l1, l2, l3, l4, l5, l6, l7, l8] [] w I L P = go 225 1536 [l0, l1, l2, l3, l4, l5, l6, l7, l8] [] w I L P := by
  refine (go_goto (m := 225) (pc := 874) (off := 662) (t := 1536) (by decide +kernel) (by decide)).trans ?_
  rfl
theorem Law_law_877_0 (a_l0 : Nat) (l2 : Value) (x_l4 : Int32) (l5 : Value) (l6 : Value) (l7 : Value) (l8 : Value) (w : Wd) (I : MI) (L : ML) (P : MP) (h0 : inA w a_l0 14 (x_l4 + (nI 1))) (h1 : inA w a_l0 14 (x_l4 + (nI 2))) (h2 : inA w a_l0 14 (x_l4 + (nI 3))) : go 225 877 [.ref a_l0, .null, l2, .null, .int x_l4, l5, l6, l7, l8] [] w I L P = kC (call 216 [.null, .int (I a_l0 (Int32.toNatClampNeg (x_l4 + (nI 1)))), .int (I a_l0 (Int32.toNatClampNeg (x_l4 + (nI 2)))), .int (I a_l0 (Int32.toNatClampNeg (x_l4 + (nI 3)))), .null] w I L P) (fun v w1 I1 L1 P1 => go 225 900 [.ref a_l0, .null, l2, .null, .int x_l4, l5, l6, l7, l8] (v.toList ++ []) w1 I1 L1 P1) := by
  refine (go_aload_nN (m := 225) (pc := 877) (k := 1) (by decide +kernel) rfl).trans ?_
  refine (go_aload_n (m := 225) (pc := 878) (k := 0) (by decide +kernel) rfl).trans ?_
  refine (go_iload (m := 225) (pc := 879) (k := 4) (by decide +kernel) rfl).trans ?_
  refine (go_ic (m := 225) (pc := 881) (n := 1) (by decide +kernel) ic_1).trans ?_
  refine (go_iadd (m := 225) (pc := 882) (by decide +kernel)).trans ?_
  refine (go_iald14 (m := 225) (pc := 883) (by decide +kernel) h0).trans ?_
  refine (go_aload_n (m := 225) (pc := 884) (k := 0) (by decide +kernel) rfl).trans ?_
  refine (go_iload (m := 225) (pc := 885) (k := 4) (by decide +kernel) rfl).trans ?_
  refine (go_ic (m := 225) (pc := 887) (n := 2) (by decide +kernel) ic_2).trans ?_
  refine (go_iadd (m := 225) (pc := 888) (by decide +kernel)).trans ?_
  refine (go_iald14 (m := 225) (pc := 889) (by decide +kernel) h1).trans ?_
  refine (go_aload_n (m := 225) (pc := 890) (k := 0) (by decide +kernel) rfl).trans ?_
  refine (go_iload (m := 225) (pc := 891) (k := 4) (by decide +kernel) rfl).trans ?_
  refine (go_ic (m := 225) (pc := 893) (n := 3) (by decide +kernel) ic_3).trans ?_
  refine (go_iadd (m := 225) (pc := 894) (by decide +kernel)).trans ?_
  refine (go_iald14 (m := 225) (pc := 895) (by decide +kernel) h2).trans ?_
  refine (go_aload_nN (m := 225) (pc := 896) (k := 3) (by decide +kernel) rfl).trans ?_
  exact go_sta (m := 225) (pc := 897) (o := 8) (x := 128) (y := 216) (kd := 4) (as := [.null, .int (I a_l0 (Int32.toNatClampNeg (x_l4 + (nI 1)))), .int (I a_l0 (Int32.toNatClampNeg (x_l4 + (nI 2)))), .int (I a_l0 (Int32.toNatClampNeg (x_l4 + (nI 3)))), .null]) (rs := []) (by decide +kernel) rfl rfl c_8_128 (Or.inr (Or.inr rfl)) rfl rfl rfl (by decide +kernel) (by simp only [List.length_cons, List.length_nil]; decide) (Nat.le_of_ble_eq_true rfl)
theorem Law_law_877_1 (a_l0 : Nat) (l2 : Value) (a_l3 : Nat) (x_l4 : Int32) (l5 : Value) (l6 : Value) (l7 : Value) (l8 : Value) (w : Wd) (I : MI) (L : ML) (P : MP) (h0 : inA w a_l0 14 (x_l4 + (nI 1))) (h1 : inA w a_l0 14 (x_l4 + (nI 2))) (h2 : inA w a_l0 14 (x_l4 + (nI 3))) : go 225 877 [.ref a_l0, .null, l2, .ref a_l3, .int x_l4, l5, l6, l7, l8] [] w I L P = kC (call 216 [.null, .int (I a_l0 (Int32.toNatClampNeg (x_l4 + (nI 1)))), .int (I a_l0 (Int32.toNatClampNeg (x_l4 + (nI 2)))), .int (I a_l0 (Int32.toNatClampNeg (x_l4 + (nI 3)))), .ref a_l3] w I L P) (fun v w1 I1 L1 P1 => go 225 900 [.ref a_l0, .null, l2, .ref a_l3, .int x_l4, l5, l6, l7, l8] (v.toList ++ []) w1 I1 L1 P1) := by
  refine (go_aload_nN (m := 225) (pc := 877) (k := 1) (by decide +kernel) rfl).trans ?_
  refine (go_aload_n (m := 225) (pc := 878) (k := 0) (by decide +kernel) rfl).trans ?_
  refine (go_iload (m := 225) (pc := 879) (k := 4) (by decide +kernel) rfl).trans ?_
  refine (go_ic (m := 225) (pc := 881) (n := 1) (by decide +kernel) ic_1).trans ?_
  refine (go_iadd (m := 225) (pc := 882) (by decide +kernel)).trans ?_
  refine (go_iald14 (m := 225) (pc := 883) (by decide +kernel) h0).trans ?_
  refine (go_aload_n (m := 225) (pc := 884) (k := 0) (by decide +kernel) rfl).trans ?_
  refine (go_iload (m := 225) (pc := 885) (k := 4) (by decide +kernel) rfl).trans ?_
  refine (go_ic (m := 225) (pc := 887) (n := 2) (by decide +kernel) ic_2).trans ?_
  refine (go_iadd (m := 225) (pc := 888) (by decide +kernel)).trans ?_
  refine (go_iald14 (m := 225) (pc := 889) (by decide +kernel) h1).trans ?_
  refine (go_aload_n (m := 225) (pc := 890) (k := 0) (by decide +kernel) rfl).trans ?_
  refine (go_iload (m := 225) (pc := 891) (k := 4) (by decide +kernel) rfl).trans ?_
  refine (go_ic (m := 225) (pc := 893) (n := 3) (by decide +kernel) ic_3).trans ?_
  refine (go_iadd (m := 225) (pc := 894) (by decide +kernel)).trans ?_
  refine (go_iald14 (m := 225) (pc := 895) (by decide +kernel) h2).trans ?_
  refine (go_aload_n (m := 225) (pc := 896) (k := 3) (by decide +kernel) rfl).trans ?_
  exact go_sta (m := 225) (pc := 897) (o := 8) (x := 128) (y := 216) (kd := 4) (as := [.null, .int (I a_l0 (Int32.toNatClampNeg (x_l4 + (nI 1)))), .int (I a_l0 (Int32.toNatClampNeg (x_l4 + (nI 2)))), .int (I a_l0 (Int32.toNatClampNeg (x_l4 + (nI 3)))), .ref a_l3]) (rs := []) (by decide +kernel) rfl rfl c_8_128 (Or.inr (Or.inr rfl)) rfl rfl rfl (by decide +kernel) (by simp only [List.length_cons, List.length_nil]; decide) (Nat.le_of_ble_eq_true rfl)
theorem Law_law_877_2 (a_l0 : Nat) (a_l1 : Nat) (l2 : Value) (x_l4 : Int32) (l5 : Value) (l6 : Value) (l7 : Value) (l8 : Value) (w : Wd) (I : MI) (L : ML) (P : MP) (h0 : inA w a_l0 14 (x_l4 + (nI 1))) (h1 : inA w a_l0 14 (x_l4 + (nI 2))) (h2 : inA w a_l0 14 (x_l4 + (nI 3))) : go 225 877 [.ref a_l0, .ref a_l1, l2, .null, .int x_l4, l5, l6, l7, l8] [] w I L P = kC (call 216 [.ref a_l1, .int (I a_l0 (Int32.toNatClampNeg (x_l4 + (nI 1)))), .int (I a_l0 (Int32.toNatClampNeg (x_l4 + (nI 2)))), .int (I a_l0 (Int32.toNatClampNeg (x_l4 + (nI 3)))), .null] w I L P) (fun v w1 I1 L1 P1 => go 225 900 [.ref a_l0, .ref a_l1, l2, .null, .int x_l4, l5, l6, l7, l8] (v.toList ++ []) w1 I1 L1 P1) := by
  refine (go_aload_n (m := 225) (pc := 877) (k := 1) (by decide +kernel) rfl).trans ?_
  refine (go_aload_n (m := 225) (pc := 878) (k := 0) (by decide +kernel) rfl).trans ?_
  refine (go_iload (m := 225) (pc := 879) (k := 4) (by decide +kernel) rfl).trans ?_
  refine (go_ic (m := 225) (pc := 881) (n := 1) (by decide +kernel) ic_1).trans ?_
  refine (go_iadd (m := 225) (pc := 882) (by decide +kernel)).trans ?_
  refine (go_iald14 (m := 225) (pc := 883) (by decide +kernel) h0).trans ?_
  refine (go_aload_n (m := 225) (pc := 884) (k := 0) (by decide +kernel) rfl).trans ?_
  refine (go_iload (m := 225) (pc := 885) (k := 4) (by decide +kernel) rfl).trans ?_
  refine (go_ic (m := 225) (pc := 887) (n := 2) (by decide +kernel) ic_2).trans ?_
  refine (go_iadd (m := 225) (pc := 888) (by decide +kernel)).trans ?_
  refine (go_iald14 (m := 225) (pc := 889) (by decide +kernel) h1).trans ?_
  refine (go_aload_n (m := 225) (pc := 890) (k := 0) (by decide +kernel) rfl).trans ?_
  refine (go_iload (m := 225) (pc := 891) (k := 4) (by decide +kernel) rfl).trans ?_
  refine (go_ic (m := 225) (pc := 893) (n := 3) (by decide +kernel) ic_3).trans ?_
  refine (go_iadd (m := 225) (pc := 894) (by decide +kernel)).trans ?_
  refine (go_iald14 (m := 225) (pc := 895) (by decide +kernel) h2).trans ?_
  refine (go_aload_nN (m := 225) (pc := 896) (k := 3) (by decide +kernel) rfl).trans ?_
  exact go_sta (m := 225) (pc := 897) (o := 8) (x := 128) (y := 216) (kd := 4) (as := [.ref a_l1, .int (I a_l0 (Int32.toNatClampNeg (x_l4 + (nI 1)))), .int (I a_l0 (Int32.toNatClampNeg (x_l4 + (nI 2)))), .int (I a_l0 (Int32.toNatClampNeg (x_l4 + (nI 3)))), .null]) (rs := []) (by decide +kernel) rfl rfl c_8_128 (Or.inr (Or.inr rfl)) rfl rfl rfl (by decide +kernel) (by simp only [List.length_cons, List.length_nil]; decide) (Nat.le_of_ble_eq_true rfl)
theorem Law_law_877_3 (a_l0 : Nat) (a_l1 : Nat) (l2 : Value) (a_l3 : Nat) (x_l4 : Int32) (l5 : Value) (l6 : Value) (l7 : Value) (l8 : Value) (w : Wd) (I : MI) (L : ML) (P : MP) (h0 : inA w a_l0 14 (x_l4 + (nI 1))) (h1 : inA w a_l0 14 (x_l4 + (nI 2))) (h2 : inA w a_l0 14 (x_l4 + (nI 3))) : go 225 877 [.ref a_l0, .ref a_l1, l2, .ref a_l3, .int x_l4, l5, l6, l7, l8] [] w I L P = kC (call 216 [.ref a_l1, .int (I a_l0 (Int32.toNatClampNeg (x_l4 + (nI 1)))), .int (I a_l0 (Int32.toNatClampNeg (x_l4 + (nI 2)))), .int (I a_l0 (Int32.toNatClampNeg (x_l4 + (nI 3)))), .ref a_l3] w I L P) (fun v w1 I1 L1 P1 => go 225 900 [.ref a_l0, .ref a_l1, l2, .ref a_l3, .int x_l4, l5, l6, l7, l8] (v.toList ++ []) w1 I1 L1 P1) := by
  refine (go_aload_n (m := 225) (pc := 877) (k := 1) (by decide +kernel) rfl).trans ?_
  refine (go_aload_n (m := 225) (pc := 878) (k := 0) (by decide +kernel) rfl).trans ?_
  refine (go_iload (m := 225) (pc := 879) (k := 4) (by decide +kernel) rfl).trans ?_
  refine (go_ic (m := 225) (pc := 881) (n := 1) (by decide +kernel) ic_1).trans ?_
  refine (go_iadd (m := 225) (pc := 882) (by decide +kernel)).trans ?_
  refine (go_iald14 (m := 225) (pc := 883) (by decide +kernel) h0).trans ?_
  refine (go_aload_n (m := 225) (pc := 884) (k := 0) (by decide +kernel) rfl).trans ?_
  refine (go_iload (m := 225) (pc := 885) (k := 4) (by decide +kernel) rfl).trans ?_
  refine (go_ic (m := 225) (pc := 887) (n := 2) (by decide +kernel) ic_2).trans ?_
  refine (go_iadd (m := 225) (pc := 888) (by decide +kernel)).trans ?_
  refine (go_iald14 (m := 225) (pc := 889) (by decide +kernel) h1).trans ?_
  refine (go_aload_n (m := 225) (pc := 890) (k := 0) (by decide +kernel) rfl).trans ?_
  refine (go_iload (m := 225) (pc := 891) (k := 4) (by decide +kernel) rfl).trans ?_
  refine (go_ic (m := 225) (pc := 893) (n := 3) (by decide +kernel) ic_3).trans ?_
  refine (go_iadd (m := 225) (pc := 894) (by decide +kernel)).trans ?_
  refine (go_iald14 (m := 225) (pc := 895) (by decide +kernel) h2).trans ?_
  refine (go_aload_n (m := 225) (pc := 896) (k := 3) (by decide +kernel) rfl).trans ?_
  exact go_sta (m := 225) (pc := 897) (o := 8) (x := 128) (y := 216) (kd := 4) (as := [.ref a_l1, .int (I a_l0 (Int32.toNatClampNeg (x_l4 + (nI 1)))), .int (I a_l0 (Int32.toNatClampNeg (x_l4 + (nI 2)))), .int (I a_l0 (Int32.toNatClampNeg (x_l4 + (nI 3)))), .ref a_l3]) (rs := []) (by decide +kernel) rfl rfl c_8_128 (Or.inr (Or.inr rfl)) rfl rfl rfl (by decide +kernel) (by simp only [List.length_cons, List.length_nil]; decide) (Nat.le_of_ble_eq_true rfl)
theorem Law_law_900 (a_l0 : Nat) (l1 : Value) (a_l2 : Nat) (l3 : Value) (x_l4 : Int32) (l5 : Value) (l6 : Value) (l7 : Value) (l8 : Value) (y0 : Int32) (w : Wd) (I : MI) (L : ML) (P : MP) (h0 : inA w a_l0 14 (x_l4 + (nI 1))) (h1 : inA w a_l0 14 (x_l4 + (nI 2))) (h2 : inA w a_l0 14 (x_l4 + (nI 3))) (h3 : w.1 a_l2 = some (7, 0)) : go 225 900 [.ref a_l0, l1, .ref a_l2, l3, .int x_l4, l5, l6, l7, l8] [.int y0] w I L P = kC (call 176 [.ref a_l2, .int (I a_l0 (Int32.toNatClampNeg (x_l4 + (nI 1)))), .int (I a_l0 (Int32.toNatClampNeg (x_l4 + (nI 2)))), .int (I a_l0 (Int32.toNatClampNeg (x_l4 + (nI 3))))] w I L P) (fun v w1 I1 L1 P1 => go 225 924 [.ref a_l0, l1, .ref a_l2, l3, .int x_l4, .int y0, l6, l7, l8] (v.toList ++ []) w1 I1 L1 P1) := by
  refine (go_istore (m := 225) (pc := 900) (k := 5) (ls' := [.ref a_l0, l1, .ref a_l2, l3, .int x_l4, .int y0, l6, l7, l8]) (by decide +kernel) (by simp only [List.length_cons, List.length_nil]; decide) rfl).trans ?_
  refine (go_aload_n (m := 225) (pc := 902) (k := 2) (by decide +kernel) rfl).trans ?_
  refine (go_aload_n (m := 225) (pc := 903) (k := 0) (by decide +kernel) rfl).trans ?_
  refine (go_iload (m := 225) (pc := 904) (k := 4) (by decide +kernel) rfl).trans ?_
  refine (go_ic (m := 225) (pc := 906) (n := 1) (by decide +kernel) ic_1).trans ?_
  refine (go_iadd (m := 225) (pc := 907) (by decide +kernel)).trans ?_
  refine (go_iald14 (m := 225) (pc := 908) (by decide +kernel) h0).trans ?_
  refine (go_aload_n (m := 225) (pc := 909) (k := 0) (by decide +kernel) rfl).trans ?_
  refine (go_iload (m := 225) (pc := 910) (k := 4) (by decide +kernel) rfl).trans ?_
  refine (go_ic (m := 225) (pc := 912) (n := 2) (by decide +kernel) ic_2).trans ?_
  refine (go_iadd (m := 225) (pc := 913) (by decide +kernel)).trans ?_
  refine (go_iald14 (m := 225) (pc := 914) (by decide +kernel) h1).trans ?_
  refine (go_aload_n (m := 225) (pc := 915) (k := 0) (by decide +kernel) rfl).trans ?_
  refine (go_iload (m := 225) (pc := 916) (k := 4) (by decide +kernel) rfl).trans ?_
  refine (go_ic (m := 225) (pc := 918) (n := 3) (by decide +kernel) ic_3).trans ?_
  refine (go_iadd (m := 225) (pc := 919) (by decide +kernel)).trans ?_
  refine (go_iald14 (m := 225) (pc := 920) (by decide +kernel) h2).trans ?_
  exact go_vir (m := 225) (pc := 921) (o := 8) (x := 130) (y := 176) (kd := 0) (b := a_l2) (bs := [.int (I a_l0 (Int32.toNatClampNeg (x_l4 + (nI 1)))), .int (I a_l0 (Int32.toNatClampNeg (x_l4 + (nI 2)))), .int (I a_l0 (Int32.toNatClampNeg (x_l4 + (nI 3))))]) (rs := []) (by decide +kernel) rfl rfl c_8_130 (Or.inl rfl) rfl rfl rfl (by decide +kernel) (by simp only [List.length_cons, List.length_nil]; decide) (Nat.le_of_ble_eq_true rfl) h3
theorem Law_law_924 (l0 : Value) (l1 : Value) (a_l2 : Nat) (l3 : Value) (l4 : Value) (l5 : Value) (l6 : Value) (l7 : Value) (l8 : Value) (y0 : Int32) (w : Wd) (I : MI) (L : ML) (P : MP) (h0 : w.1 a_l2 = some (7, 0)) : go 225 924 [l0, l1, .ref a_l2, l3, l4, l5, l6, l7, l8] [.int y0] w I L P = kC (call 121 [.ref a_l2] w I L P) (fun v w1 I1 L1 P1 => go 225 930 [l0, l1, .ref a_l2, l3, l4, (fix1 l5), .int y0, l7, l8] (v.toList ++ []) w1 I1 L1 P1) := by
  refine (go_istore (m := 225) (pc := 924) (k := 6) (ls' := [l0, l1, .ref a_l2, l3, l4, (fix1 l5), .int y0, l7, l8]) (by decide +kernel) (by simp only [List.length_cons, List.length_nil]; decide) rfl).trans ?_
  refine (go_aload_n (m := 225) (pc := 926) (k := 2) (by decide +kernel) rfl).trans ?_
  exact go_vir (m := 225) (pc := 927) (o := 8) (x := 88) (y := 121) (kd := 0) (b := a_l2) (bs := []) (rs := []) (by decide +kernel) rfl rfl c_8_88 (Or.inl rfl) rfl rfl rfl (by decide +kernel) (by simp only [List.length_cons, List.length_nil]; decide) (Nat.le_of_ble_eq_true rfl) h0
theorem Law_law_930 (l0 : Value) (l1 : Value) (l2 : Value) (l3 : Value) (l4 : Value) (x_l5 : Int32) (l6 : Value) (l7 : Value) (l8 : Value) (y0 : Int32) (w : Wd) (I : MI) (L : ML) (P : MP)  : go 225 930 [l0, l1, l2, l3, l4, .int x_l5, l6, l7, l8] [.int y0] w I L P = if y0 = x_l5 then go 225 937 [l0, l1, l2, l3, l4, .int x_l5, l6, l7, l8] [] w I L P else go 225 935 [l0, l1, l2, l3, l4, .int x_l5, l6, l7, l8] [] w I L P := by
  refine (go_iload (m := 225) (pc := 930) (k := 5) (by decide +kernel) rfl).trans ?_
  exact go_icmpeq (m := 225) (pc := 932) (off := 5) (t := 937) (by decide +kernel) (by decide)
theorem Law_law_935 (l0 : Value) (l1 : Value) (l2 : Value) (l3 : Value) (l4 : Value) (l5 : Value) (l6 : Value) (l7 : Value) (l8 : Value) (w : Wd) (I : MI) (L : ML) (P : MP) (h0 : (nI 0) &&& 1 = (nI 0)) : go 225 935 [l0, l1, l2, l3, l4, l5, l6, l7, l8] [] w I L P = some (.inl (some (.int (nI 0))), w, I, L, P) := by
  refine (go_ic (m := 225) (pc := 935) (n := 0) (by decide +kernel) ic_0).trans ?_
  exact go_retZ (m := 225) (pc := 936) (by decide +kernel) rfl h0
theorem Law_law_937 (l0 : Value) (l1 : Value) (l2 : Value) (l3 : Value) (l4 : Value) (x_l5 : Int32) (l6 : Value) (l7 : Value) (l8 : Value) (w : Wd) (I : MI) (L : ML) (P : MP)  : go 225 937 [l0, l1, l2, l3, l4, .int x_l5, l6, l7, l8] [] w I L P = if x_l5 ≠ 0 then go 225 954 [l0, l1, l2, l3, l4, .int x_l5, l6, l7, l8] [] w I L P else go 225 942 [l0, l1, l2, l3, l4, .int x_l5, l6, l7, l8] [] w I L P := by
  refine (go_iload (m := 225) (pc := 937) (k := 5) (by decide +kernel) rfl).trans ?_
  exact go_ifne (m := 225) (pc := 939) (off := 15) (t := 954) (by decide +kernel) (by decide)
theorem Law_law_942 (l0 : Value) (l1 : Value) (l2 : Value) (a_l3 : Nat) (l4 : Value) (l5 : Value) (x_l6 : Int32) (l7 : Value) (l8 : Value) (w : Wd) (I : MI) (L : ML) (P : MP) (h0 : inA w a_l3 9 (nI 0)) : go 225 942 [l0, l1, l2, .ref a_l3, l4, l5, .int x_l6, l7, l8] [] w I L P = if (lg_cmp (L a_l3 (Int32.toNatClampNeg (nI 0))) (Int32.toInt64 x_l6)) = 0 then go 225 954 [l0, l1, l2, .ref a_l3, l4, l5, .int x_l6, l7, l8] [] w I L P else go 225 952 [l0, l1, l2, .ref a_l3, l4, l5, .int x_l6, l7, l8] [] w I L P := by
  refine (go_aload_n (m := 225) (pc := 942) (k := 3) (by decide +kernel) rfl).trans ?_
  refine (go_ic (m := 225) (pc := 943) (n := 0) (by decide +kernel) ic_0).trans ?_
  refine (go_lald (m := 225) (pc := 944) (by decide +kernel) h0).trans ?_
  refine (go_iload (m := 225) (pc := 945) (k := 6) (by decide +kernel) rfl).trans ?_
  refine (go_i2l (m := 225) (pc := 947) (by decide +kernel)).trans ?_
  refine (go_lcmp (m := 225) (pc := 948) (by decide +kernel)).trans ?_
  exact go_ifeq (m := 225) (pc := 949) (off := 5) (t := 954) (by decide +kernel) (by decide)
theorem Law_law_952 (l0 : Value) (l1 : Value) (l2 : Value) (l3 : Value) (l4 : Value) (l5 : Value) (l6 : Value) (l7 : Value) (l8 : Value) (w : Wd) (I : MI) (L : ML) (P : MP) (h0 : (nI 0) &&& 1 = (nI 0)) : go 225 952 [l0, l1, l2, l3, l4, l5, l6, l7, l8] [] w I L P = some (.inl (some (.int (nI 0))), w, I, L, P) := by
  refine (go_ic (m := 225) (pc := 952) (n := 0) (by decide +kernel) ic_0).trans ?_
  exact go_retZ (m := 225) (pc := 953) (by decide +kernel) rfl h0
theorem Law_law_954 (l0 : Value) (l1 : Value) (l2 : Value) (l3 : Value) (l4 : Value) (l5 : Value) (l6 : Value) (l7 : Value) (l8 : Value) (w : Wd) (I : MI) (L : ML) (P : MP)  : go 225 954 [l0, l1, l2, l3, l4, l5, l6, l7, l8] [] w I L P = go 225 1536 [l0, l1, l2, l3, l4, l5, l6, l7, l8] [] w I L P := by
  refine (go_goto (m := 225) (pc := 954) (off := 582) (t := 1536) (by decide +kernel) (by decide)).trans ?_
  rfl
theorem Law_law_957_0 (a_l0 : Nat) (l2 : Value) (x_l4 : Int32) (l5 : Value) (l6 : Value) (l7 : Value) (l8 : Value) (w : Wd) (I : MI) (L : ML) (P : MP) (h0 : inA w a_l0 14 (x_l4 + (nI 1))) (h1 : inA w a_l0 14 (x_l4 + (nI 2))) : go 225 957 [.ref a_l0, .null, l2, .null, .int x_l4, l5, l6, l7, l8] [] w I L P = kC (call 217 [.null, .int (I a_l0 (Int32.toNatClampNeg (x_l4 + (nI 1)))), .int (I a_l0 (Int32.toNatClampNeg (x_l4 + (nI 2)))), .null] w I L P) (fun v w1 I1 L1 P1 => go 225 974 [.ref a_l0, .null, l2, .null, .int x_l4, l5, l6, l7, l8] (v.toList ++ []) w1 I1 L1 P1) := by
  refine (go_aload_nN (m := 225) (pc := 957) (k := 1) (by decide +kernel) rfl).trans ?_
  refine (go_aload_n (m := 225) (pc := 958) (k := 0) (by decide +kernel) rfl).trans ?_
  refine (go_iload (m := 225) (pc := 959) (k := 4) (by decide +kernel) rfl).trans ?_
  refine (go_ic (m := 225) (pc := 961) (n := 1) (by decide +kernel) ic_1).trans ?_
  refine (go_iadd (m := 225) (pc := 962) (by decide +kernel)).trans ?_
  refine (go_iald14 (m := 225) (pc := 963) (by decide +kernel) h0).trans ?_
  refine (go_aload_n (m := 225) (pc := 964) (k := 0) (by decide +kernel) rfl).trans ?_
  refine (go_iload (m := 225) (pc := 965) (k := 4) (by decide +kernel) rfl).trans ?_
  refine (go_ic (m := 225) (pc := 967) (n := 2) (by decide +kernel) ic_2).trans ?_
  refine (go_iadd (m := 225) (pc := 968) (by decide +kernel)).trans ?_
  refine (go_iald14 (m := 225) (pc := 969) (by decide +kernel) h1).trans ?_
  refine (go_aload_nN (m := 225) (pc := 970) (k := 3) (by decide +kernel) rfl).trans ?_
  exact go_sta (m := 225) (pc := 971) (o := 8) (x := 131) (y := 217) (kd := 4) (as := [.null, .int (I a_l0 (Int32.toNatClampNeg (x_l4 + (nI 1)))), .int (I a_l0 (Int32.toNatClampNeg (x_l4 + (nI 2)))), .null]) (rs := []) (by decide +kernel) rfl rfl c_8_131 (Or.inr (Or.inr rfl)) rfl rfl rfl (by decide +kernel) (by simp only [List.length_cons, List.length_nil]; decide) (Nat.le_of_ble_eq_true rfl)
theorem Law_law_957_1 (a_l0 : Nat) (l2 : Value) (a_l3 : Nat) (x_l4 : Int32) (l5 : Value) (l6 : Value) (l7 : Value) (l8 : Value) (w : Wd) (I : MI) (L : ML) (P : MP) (h0 : inA w a_l0 14 (x_l4 + (nI 1))) (h1 : inA w a_l0 14 (x_l4 + (nI 2))) : go 225 957 [.ref a_l0, .null, l2, .ref a_l3, .int x_l4, l5, l6, l7, l8] [] w I L P = kC (call 217 [.null, .int (I a_l0 (Int32.toNatClampNeg (x_l4 + (nI 1)))), .int (I a_l0 (Int32.toNatClampNeg (x_l4 + (nI 2)))), .ref a_l3] w I L P) (fun v w1 I1 L1 P1 => go 225 974 [.ref a_l0, .null, l2, .ref a_l3, .int x_l4, l5, l6, l7, l8] (v.toList ++ []) w1 I1 L1 P1) := by
  refine (go_aload_nN (m := 225) (pc := 957) (k := 1) (by decide +kernel) rfl).trans ?_
  refine (go_aload_n (m := 225) (pc := 958) (k := 0) (by decide +kernel) rfl).trans ?_
  refine (go_iload (m := 225) (pc := 959) (k := 4) (by decide +kernel) rfl).trans ?_
  refine (go_ic (m := 225) (pc := 961) (n := 1) (by decide +kernel) ic_1).trans ?_
  refine (go_iadd (m := 225) (pc := 962) (by decide +kernel)).trans ?_
  refine (go_iald14 (m := 225) (pc := 963) (by decide +kernel) h0).trans ?_
  refine (go_aload_n (m := 225) (pc := 964) (k := 0) (by decide +kernel) rfl).trans ?_
  refine (go_iload (m := 225) (pc := 965) (k := 4) (by decide +kernel) rfl).trans ?_
  refine (go_ic (m := 225) (pc := 967) (n := 2) (by decide +kernel) ic_2).trans ?_
  refine (go_iadd (m := 225) (pc := 968) (by decide +kernel)).trans ?_
  refine (go_iald14 (m := 225) (pc := 969) (by decide +kernel) h1).trans ?_
  refine (go_aload_n (m := 225) (pc := 970) (k := 3) (by decide +kernel) rfl).trans ?_
  exact go_sta (m := 225) (pc := 971) (o := 8) (x := 131) (y := 217) (kd := 4) (as := [.null, .int (I a_l0 (Int32.toNatClampNeg (x_l4 + (nI 1)))), .int (I a_l0 (Int32.toNatClampNeg (x_l4 + (nI 2)))), .ref a_l3]) (rs := []) (by decide +kernel) rfl rfl c_8_131 (Or.inr (Or.inr rfl)) rfl rfl rfl (by decide +kernel) (by simp only [List.length_cons, List.length_nil]; decide) (Nat.le_of_ble_eq_true rfl)
theorem Law_law_957_2 (a_l0 : Nat) (a_l1 : Nat) (l2 : Value) (x_l4 : Int32) (l5 : Value) (l6 : Value) (l7 : Value) (l8 : Value) (w : Wd) (I : MI) (L : ML) (P : MP) (h0 : inA w a_l0 14 (x_l4 + (nI 1))) (h1 : inA w a_l0 14 (x_l4 + (nI 2))) : go 225 957 [.ref a_l0, .ref a_l1, l2, .null, .int x_l4, l5, l6, l7, l8] [] w I L P = kC (call 217 [.ref a_l1, .int (I a_l0 (Int32.toNatClampNeg (x_l4 + (nI 1)))), .int (I a_l0 (Int32.toNatClampNeg (x_l4 + (nI 2)))), .null] w I L P) (fun v w1 I1 L1 P1 => go 225 974 [.ref a_l0, .ref a_l1, l2, .null, .int x_l4, l5, l6, l7, l8] (v.toList ++ []) w1 I1 L1 P1) := by
  refine (go_aload_n (m := 225) (pc := 957) (k := 1) (by decide +kernel) rfl).trans ?_
  refine (go_aload_n (m := 225) (pc := 958) (k := 0) (by decide +kernel) rfl).trans ?_
  refine (go_iload (m := 225) (pc := 959) (k := 4) (by decide +kernel) rfl).trans ?_
  refine (go_ic (m := 225) (pc := 961) (n := 1) (by decide +kernel) ic_1).trans ?_
  refine (go_iadd (m := 225) (pc := 962) (by decide +kernel)).trans ?_
  refine (go_iald14 (m := 225) (pc := 963) (by decide +kernel) h0).trans ?_
  refine (go_aload_n (m := 225) (pc := 964) (k := 0) (by decide +kernel) rfl).trans ?_
  refine (go_iload (m := 225) (pc := 965) (k := 4) (by decide +kernel) rfl).trans ?_
  refine (go_ic (m := 225) (pc := 967) (n := 2) (by decide +kernel) ic_2).trans ?_
  refine (go_iadd (m := 225) (pc := 968) (by decide +kernel)).trans ?_
  refine (go_iald14 (m := 225) (pc := 969) (by decide +kernel) h1).trans ?_
  refine (go_aload_nN (m := 225) (pc := 970) (k := 3) (by decide +kernel) rfl).trans ?_
  exact go_sta (m := 225) (pc := 971) (o := 8) (x := 131) (y := 217) (kd := 4) (as := [.ref a_l1, .int (I a_l0 (Int32.toNatClampNeg (x_l4 + (nI 1)))), .int (I a_l0 (Int32.toNatClampNeg (x_l4 + (nI 2)))), .null]) (rs := []) (by decide +kernel) rfl rfl c_8_131 (Or.inr (Or.inr rfl)) rfl rfl rfl (by decide +kernel) (by simp only [List.length_cons, List.length_nil]; decide) (Nat.le_of_ble_eq_true rfl)
theorem Law_law_957_3 (a_l0 : Nat) (a_l1 : Nat) (l2 : Value) (a_l3 : Nat) (x_l4 : Int32) (l5 : Value) (l6 : Value) (l7 : Value) (l8 : Value) (w : Wd) (I : MI) (L : ML) (P : MP) (h0 : inA w a_l0 14 (x_l4 + (nI 1))) (h1 : inA w a_l0 14 (x_l4 + (nI 2))) : go 225 957 [.ref a_l0, .ref a_l1, l2, .ref a_l3, .int x_l4, l5, l6, l7, l8] [] w I L P = kC (call 217 [.ref a_l1, .int (I a_l0 (Int32.toNatClampNeg (x_l4 + (nI 1)))), .int (I a_l0 (Int32.toNatClampNeg (x_l4 + (nI 2)))), .ref a_l3] w I L P) (fun v w1 I1 L1 P1 => go 225 974 [.ref a_l0, .ref a_l1, l2, .ref a_l3, .int x_l4, l5, l6, l7, l8] (v.toList ++ []) w1 I1 L1 P1) := by
  refine (go_aload_n (m := 225) (pc := 957) (k := 1) (by decide +kernel) rfl).trans ?_
  refine (go_aload_n (m := 225) (pc := 958) (k := 0) (by decide +kernel) rfl).trans ?_
  refine (go_iload (m := 225) (pc := 959) (k := 4) (by decide +kernel) rfl).trans ?_
  refine (go_ic (m := 225) (pc := 961) (n := 1) (by decide +kernel) ic_1).trans ?_
  refine (go_iadd (m := 225) (pc := 962) (by decide +kernel)).trans ?_
  refine (go_iald14 (m := 225) (pc := 963) (by decide +kernel) h0).trans ?_
  refine (go_aload_n (m := 225) (pc := 964) (k := 0) (by decide +kernel) rfl).trans ?_
  refine (go_iload (m := 225) (pc := 965) (k := 4) (by decide +kernel) rfl).trans ?_
  refine (go_ic (m := 225) (pc := 967) (n := 2) (by decide +kernel) ic_2).trans ?_
  refine (go_iadd (m := 225) (pc := 968) (by decide +kernel)).trans ?_
  refine (go_iald14 (m := 225) (pc := 969) (by decide +kernel) h1).trans ?_
  refine (go_aload_n (m := 225) (pc := 970) (k := 3) (by decide +kernel) rfl).trans ?_
  exact go_sta (m := 225) (pc := 971) (o := 8) (x := 131) (y := 217) (kd := 4) (as := [.ref a_l1, .int (I a_l0 (Int32.toNatClampNeg (x_l4 + (nI 1)))), .int (I a_l0 (Int32.toNatClampNeg (x_l4 + (nI 2)))), .ref a_l3]) (rs := []) (by decide +kernel) rfl rfl c_8_131 (Or.inr (Or.inr rfl)) rfl rfl rfl (by decide +kernel) (by simp only [List.length_cons, List.length_nil]; decide) (Nat.le_of_ble_eq_true rfl)
theorem Law_law_974 (a_l0 : Nat) (l1 : Value) (a_l2 : Nat) (l3 : Value) (x_l4 : Int32) (l5 : Value) (l6 : Value) (l7 : Value) (l8 : Value) (y0 : Int32) (w : Wd) (I : MI) (L : ML) (P : MP) (h0 : inA w a_l0 14 (x_l4 + (nI 1))) (h1 : inA w a_l0 14 (x_l4 + (nI 2))) (h2 : w.1 a_l2 = some (7, 0)) : go 225 974 [.ref a_l0, l1, .ref a_l2, l3, .int x_l4, l5, l6, l7, l8] [.int y0] w I L P = kC (call 177 [.ref a_l2, .int (I a_l0 (Int32.toNatClampNeg (x_l4 + (nI 1)))), .int (I a_l0 (Int32.toNatClampNeg (x_l4 + (nI 2))))] w I L P) (fun v w1 I1 L1 P1 => go 225 992 [.ref a_l0, l1, .ref a_l2, l3, .int x_l4, .int y0, l6, l7, l8] (v.toList ++ []) w1 I1 L1 P1) := by
  refine (go_istore (m := 225) (pc := 974) (k := 5) (ls' := [.ref a_l0, l1, .ref a_l2, l3, .int x_l4, .int y0, l6, l7, l8]) (by decide +kernel) (by simp only [List.length_cons, List.length_nil]; decide) rfl).trans ?_
  refine (go_aload_n (m := 225) (pc := 976) (k := 2) (by decide +kernel) rfl).trans ?_
  refine (go_aload_n (m := 225) (pc := 977) (k := 0) (by decide +kernel) rfl).trans ?_
  refine (go_iload (m := 225) (pc := 978) (k := 4) (by decide +kernel) rfl).trans ?_
  refine (go_ic (m := 225) (pc := 980) (n := 1) (by decide +kernel) ic_1).trans ?_
  refine (go_iadd (m := 225) (pc := 981) (by decide +kernel)).trans ?_
  refine (go_iald14 (m := 225) (pc := 982) (by decide +kernel) h0).trans ?_
  refine (go_aload_n (m := 225) (pc := 983) (k := 0) (by decide +kernel) rfl).trans ?_
  refine (go_iload (m := 225) (pc := 984) (k := 4) (by decide +kernel) rfl).trans ?_
  refine (go_ic (m := 225) (pc := 986) (n := 2) (by decide +kernel) ic_2).trans ?_
  refine (go_iadd (m := 225) (pc := 987) (by decide +kernel)).trans ?_
  refine (go_iald14 (m := 225) (pc := 988) (by decide +kernel) h1).trans ?_
  exact go_vir (m := 225) (pc := 989) (o := 8) (x := 133) (y := 177) (kd := 0) (b := a_l2) (bs := [.int (I a_l0 (Int32.toNatClampNeg (x_l4 + (nI 1)))), .int (I a_l0 (Int32.toNatClampNeg (x_l4 + (nI 2))))]) (rs := []) (by decide +kernel) rfl rfl c_8_133 (Or.inl rfl) rfl rfl rfl (by decide +kernel) (by simp only [List.length_cons, List.length_nil]; decide) (Nat.le_of_ble_eq_true rfl) h2
theorem Law_law_992 (l0 : Value) (l1 : Value) (a_l2 : Nat) (l3 : Value) (l4 : Value) (l5 : Value) (l6 : Value) (l7 : Value) (l8 : Value) (y0 : Int32) (w : Wd) (I : MI) (L : ML) (P : MP) (h0 : w.1 a_l2 = some (7, 0)) : go 225 992 [l0, l1, .ref a_l2, l3, l4, l5, l6, l7, l8] [.int y0] w I L P = kC (call 121 [.ref a_l2] w I L P) (fun v w1 I1 L1 P1 => go 225 998 [l0, l1, .ref a_l2, l3, l4, (fix1 l5), .int y0, l7, l8] (v.toList ++ []) w1 I1 L1 P1) := by
  refine (go_istore (m := 225) (pc := 992) (k := 6) (ls' := [l0, l1, .ref a_l2, l3, l4, (fix1 l5), .int y0, l7, l8]) (by decide +kernel) (by simp only [List.length_cons, List.length_nil]; decide) rfl).trans ?_
  refine (go_aload_n (m := 225) (pc := 994) (k := 2) (by decide +kernel) rfl).trans ?_
  exact go_vir (m := 225) (pc := 995) (o := 8) (x := 88) (y := 121) (kd := 0) (b := a_l2) (bs := []) (rs := []) (by decide +kernel) rfl rfl c_8_88 (Or.inl rfl) rfl rfl rfl (by decide +kernel) (by simp only [List.length_cons, List.length_nil]; decide) (Nat.le_of_ble_eq_true rfl) h0
theorem Law_law_998 (l0 : Value) (l1 : Value) (l2 : Value) (l3 : Value) (l4 : Value) (x_l5 : Int32) (l6 : Value) (l7 : Value) (l8 : Value) (y0 : Int32) (w : Wd) (I : MI) (L : ML) (P : MP)  : go 225 998 [l0, l1, l2, l3, l4, .int x_l5, l6, l7, l8] [.int y0] w I L P = if y0 = x_l5 then go 225 1005 [l0, l1, l2, l3, l4, .int x_l5, l6, l7, l8] [] w I L P else go 225 1003 [l0, l1, l2, l3, l4, .int x_l5, l6, l7, l8] [] w I L P := by
  refine (go_iload (m := 225) (pc := 998) (k := 5) (by decide +kernel) rfl).trans ?_
  exact go_icmpeq (m := 225) (pc := 1000) (off := 5) (t := 1005) (by decide +kernel) (by decide)
theorem Law_law_1003 (l0 : Value) (l1 : Value) (l2 : Value) (l3 : Value) (l4 : Value) (l5 : Value) (l6 : Value) (l7 : Value) (l8 : Value) (w : Wd) (I : MI) (L : ML) (P : MP) (h0 : (nI 0) &&& 1 = (nI 0)) : go 225 1003 [l0, l1, l2, l3, l4, l5, l6, l7, l8] [] w I L P = some (.inl (some (.int (nI 0))), w, I, L, P) := by
  refine (go_ic (m := 225) (pc := 1003) (n := 0) (by decide +kernel) ic_0).trans ?_
  exact go_retZ (m := 225) (pc := 1004) (by decide +kernel) rfl h0
theorem Law_law_1005 (l0 : Value) (l1 : Value) (l2 : Value) (l3 : Value) (l4 : Value) (x_l5 : Int32) (l6 : Value) (l7 : Value) (l8 : Value) (w : Wd) (I : MI) (L : ML) (P : MP)  : go 225 1005 [l0, l1, l2, l3, l4, .int x_l5, l6, l7, l8] [] w I L P = if x_l5 ≠ 0 then go 225 1022 [l0, l1, l2, l3, l4, .int x_l5, l6, l7, l8] [] w I L P else go 225 1010 [l0, l1, l2, l3, l4, .int x_l5, l6, l7, l8] [] w I L P := by
  refine (go_iload (m := 225) (pc := 1005) (k := 5) (by decide +kernel) rfl).trans ?_
  exact go_ifne (m := 225) (pc := 1007) (off := 15) (t := 1022) (by decide +kernel) (by decide)
theorem Law_law_1010 (l0 : Value) (l1 : Value) (l2 : Value) (a_l3 : Nat) (l4 : Value) (l5 : Value) (x_l6 : Int32) (l7 : Value) (l8 : Value) (w : Wd) (I : MI) (L : ML) (P : MP) (h0 : inA w a_l3 9 (nI 0)) : go 225 1010 [l0, l1, l2, .ref a_l3, l4, l5, .int x_l6, l7, l8] [] w I L P = if (lg_cmp (L a_l3 (Int32.toNatClampNeg (nI 0))) (Int32.toInt64 x_l6)) = 0 then go 225 1022 [l0, l1, l2, .ref a_l3, l4, l5, .int x_l6, l7, l8] [] w I L P else go 225 1020 [l0, l1, l2, .ref a_l3, l4, l5, .int x_l6, l7, l8] [] w I L P := by
  refine (go_aload_n (m := 225) (pc := 1010) (k := 3) (by decide +kernel) rfl).trans ?_
  refine (go_ic (m := 225) (pc := 1011) (n := 0) (by decide +kernel) ic_0).trans ?_
  refine (go_lald (m := 225) (pc := 1012) (by decide +kernel) h0).trans ?_
  refine (go_iload (m := 225) (pc := 1013) (k := 6) (by decide +kernel) rfl).trans ?_
  refine (go_i2l (m := 225) (pc := 1015) (by decide +kernel)).trans ?_
  refine (go_lcmp (m := 225) (pc := 1016) (by decide +kernel)).trans ?_
  exact go_ifeq (m := 225) (pc := 1017) (off := 5) (t := 1022) (by decide +kernel) (by decide)
theorem Law_law_1020 (l0 : Value) (l1 : Value) (l2 : Value) (l3 : Value) (l4 : Value) (l5 : Value) (l6 : Value) (l7 : Value) (l8 : Value) (w : Wd) (I : MI) (L : ML) (P : MP) (h0 : (nI 0) &&& 1 = (nI 0)) : go 225 1020 [l0, l1, l2, l3, l4, l5, l6, l7, l8] [] w I L P = some (.inl (some (.int (nI 0))), w, I, L, P) := by
  refine (go_ic (m := 225) (pc := 1020) (n := 0) (by decide +kernel) ic_0).trans ?_
  exact go_retZ (m := 225) (pc := 1021) (by decide +kernel) rfl h0
theorem Law_law_1022 (l0 : Value) (l1 : Value) (l2 : Value) (l3 : Value) (l4 : Value) (l5 : Value) (l6 : Value) (l7 : Value) (l8 : Value) (w : Wd) (I : MI) (L : ML) (P : MP)  : go 225 1022 [l0, l1, l2, l3, l4, l5, l6, l7, l8] [] w I L P = go 225 1536 [l0, l1, l2, l3, l4, l5, l6, l7, l8] [] w I L P := by
  refine (go_goto (m := 225) (pc := 1022) (off := 514) (t := 1536) (by decide +kernel) (by decide)).trans ?_
  rfl
theorem Law_law_1025_0 (a_l0 : Nat) (l2 : Value) (x_l4 : Int32) (l5 : Value) (l6 : Value) (l7 : Value) (l8 : Value) (w : Wd) (I : MI) (L : ML) (P : MP) (h0 : inA w a_l0 14 (x_l4 + (nI 1))) (h1 : inA w a_l0 14 (x_l4 + (nI 2))) : go 225 1025 [.ref a_l0, .null, l2, .null, .int x_l4, l5, l6, l7, l8] [] w I L P = kC (call 218 [.null, .int (I a_l0 (Int32.toNatClampNeg (x_l4 + (nI 1)))), .int (I a_l0 (Int32.toNatClampNeg (x_l4 + (nI 2)))), .null] w I L P) (fun v w1 I1 L1 P1 => go 225 1042 [.ref a_l0, .null, l2, .null, .int x_l4, l5, l6, l7, l8] (v.toList ++ []) w1 I1 L1 P1) := by
  refine (go_aload_nN (m := 225) (pc := 1025) (k := 1) (by decide +kernel) rfl).trans ?_
  refine (go_aload_n (m := 225) (pc := 1026) (k := 0) (by decide +kernel) rfl).trans ?_
  refine (go_iload (m := 225) (pc := 1027) (k := 4) (by decide +kernel) rfl).trans ?_
  refine (go_ic (m := 225) (pc := 1029) (n := 1) (by decide +kernel) ic_1).trans ?_
  refine (go_iadd (m := 225) (pc := 1030) (by decide +kernel)).trans ?_
  refine (go_iald14 (m := 225) (pc := 1031) (by decide +kernel) h0).trans ?_
  refine (go_aload_n (m := 225) (pc := 1032) (k := 0) (by decide +kernel) rfl).trans ?_
  refine (go_iload (m := 225) (pc := 1033) (k := 4) (by decide +kernel) rfl).trans ?_
  refine (go_ic (m := 225) (pc := 1035) (n := 2) (by decide +kernel) ic_2).trans ?_
  refine (go_iadd (m := 225) (pc := 1036) (by decide +kernel)).trans ?_
  refine (go_iald14 (m := 225) (pc := 1037) (by decide +kernel) h1).trans ?_
  refine (go_aload_nN (m := 225) (pc := 1038) (k := 3) (by decide +kernel) rfl).trans ?_
  exact go_sta (m := 225) (pc := 1039) (o := 8) (x := 134) (y := 218) (kd := 4) (as := [.null, .int (I a_l0 (Int32.toNatClampNeg (x_l4 + (nI 1)))), .int (I a_l0 (Int32.toNatClampNeg (x_l4 + (nI 2)))), .null]) (rs := []) (by decide +kernel) rfl rfl c_8_134 (Or.inr (Or.inr rfl)) rfl rfl rfl (by decide +kernel) (by simp only [List.length_cons, List.length_nil]; decide) (Nat.le_of_ble_eq_true rfl)
theorem Law_law_1025_1 (a_l0 : Nat) (l2 : Value) (a_l3 : Nat) (x_l4 : Int32) (l5 : Value) (l6 : Value) (l7 : Value) (l8 : Value) (w : Wd) (I : MI) (L : ML) (P : MP) (h0 : inA w a_l0 14 (x_l4 + (nI 1))) (h1 : inA w a_l0 14 (x_l4 + (nI 2))) : go 225 1025 [.ref a_l0, .null, l2, .ref a_l3, .int x_l4, l5, l6, l7, l8] [] w I L P = kC (call 218 [.null, .int (I a_l0 (Int32.toNatClampNeg (x_l4 + (nI 1)))), .int (I a_l0 (Int32.toNatClampNeg (x_l4 + (nI 2)))), .ref a_l3] w I L P) (fun v w1 I1 L1 P1 => go 225 1042 [.ref a_l0, .null, l2, .ref a_l3, .int x_l4, l5, l6, l7, l8] (v.toList ++ []) w1 I1 L1 P1) := by
  refine (go_aload_nN (m := 225) (pc := 1025) (k := 1) (by decide +kernel) rfl).trans ?_
  refine (go_aload_n (m := 225) (pc := 1026) (k := 0) (by decide +kernel) rfl).trans ?_
  refine (go_iload (m := 225) (pc := 1027) (k := 4) (by decide +kernel) rfl).trans ?_
  refine (go_ic (m := 225) (pc := 1029) (n := 1) (by decide +kernel) ic_1).trans ?_
  refine (go_iadd (m := 225) (pc := 1030) (by decide +kernel)).trans ?_
  refine (go_iald14 (m := 225) (pc := 1031) (by decide +kernel) h0).trans ?_
  refine (go_aload_n (m := 225) (pc := 1032) (k := 0) (by decide +kernel) rfl).trans ?_
  refine (go_iload (m := 225) (pc := 1033) (k := 4) (by decide +kernel) rfl).trans ?_
  refine (go_ic (m := 225) (pc := 1035) (n := 2) (by decide +kernel) ic_2).trans ?_
  refine (go_iadd (m := 225) (pc := 1036) (by decide +kernel)).trans ?_
  refine (go_iald14 (m := 225) (pc := 1037) (by decide +kernel) h1).trans ?_
  refine (go_aload_n (m := 225) (pc := 1038) (k := 3) (by decide +kernel) rfl).trans ?_
  exact go_sta (m := 225) (pc := 1039) (o := 8) (x := 134) (y := 218) (kd := 4) (as := [.null, .int (I a_l0 (Int32.toNatClampNeg (x_l4 + (nI 1)))), .int (I a_l0 (Int32.toNatClampNeg (x_l4 + (nI 2)))), .ref a_l3]) (rs := []) (by decide +kernel) rfl rfl c_8_134 (Or.inr (Or.inr rfl)) rfl rfl rfl (by decide +kernel) (by simp only [List.length_cons, List.length_nil]; decide) (Nat.le_of_ble_eq_true rfl)
theorem Law_law_1025_2 (a_l0 : Nat) (a_l1 : Nat) (l2 : Value) (x_l4 : Int32) (l5 : Value) (l6 : Value) (l7 : Value) (l8 : Value) (w : Wd) (I : MI) (L : ML) (P : MP) (h0 : inA w a_l0 14 (x_l4 + (nI 1))) (h1 : inA w a_l0 14 (x_l4 + (nI 2))) : go 225 1025 [.ref a_l0, .ref a_l1, l2, .null, .int x_l4, l5, l6, l7, l8] [] w I L P = kC (call 218 [.ref a_l1, .int (I a_l0 (Int32.toNatClampNeg (x_l4 + (nI 1)))), .int (I a_l0 (Int32.toNatClampNeg (x_l4 + (nI 2)))), .null] w I L P) (fun v w1 I1 L1 P1 => go 225 1042 [.ref a_l0, .ref a_l1, l2, .null, .int x_l4, l5, l6, l7, l8] (v.toList ++ []) w1 I1 L1 P1) := by
  refine (go_aload_n (m := 225) (pc := 1025) (k := 1) (by decide +kernel) rfl).trans ?_
  refine (go_aload_n (m := 225) (pc := 1026) (k := 0) (by decide +kernel) rfl).trans ?_
  refine (go_iload (m := 225) (pc := 1027) (k := 4) (by decide +kernel) rfl).trans ?_
  refine (go_ic (m := 225) (pc := 1029) (n := 1) (by decide +kernel) ic_1).trans ?_
  refine (go_iadd (m := 225) (pc := 1030) (by decide +kernel)).trans ?_
  refine (go_iald14 (m := 225) (pc := 1031) (by decide +kernel) h0).trans ?_
  refine (go_aload_n (m := 225) (pc := 1032) (k := 0) (by decide +kernel) rfl).trans ?_
  refine (go_iload (m := 225) (pc := 1033) (k := 4) (by decide +kernel) rfl).trans ?_
  refine (go_ic (m := 225) (pc := 1035) (n := 2) (by decide +kernel) ic_2).trans ?_
  refine (go_iadd (m := 225) (pc := 1036) (by decide +kernel)).trans ?_
  refine (go_iald14 (m := 225) (pc := 1037) (by decide +kernel) h1).trans ?_
  refine (go_aload_nN (m := 225) (pc := 1038) (k := 3) (by decide +kernel) rfl).trans ?_
  exact go_sta (m := 225) (pc := 1039) (o := 8) (x := 134) (y := 218) (kd := 4) (as := [.ref a_l1, .int (I a_l0 (Int32.toNatClampNeg (x_l4 + (nI 1)))), .int (I a_l0 (Int32.toNatClampNeg (x_l4 + (nI 2)))), .null]) (rs := []) (by decide +kernel) rfl rfl c_8_134 (Or.inr (Or.inr rfl)) rfl rfl rfl (by decide +kernel) (by simp only [List.length_cons, List.length_nil]; decide) (Nat.le_of_ble_eq_true rfl)
theorem Law_law_1025_3 (a_l0 : Nat) (a_l1 : Nat) (l2 : Value) (a_l3 : Nat) (x_l4 : Int32) (l5 : Value) (l6 : Value) (l7 : Value) (l8 : Value) (w : Wd) (I : MI) (L : ML) (P : MP) (h0 : inA w a_l0 14 (x_l4 + (nI 1))) (h1 : inA w a_l0 14 (x_l4 + (nI 2))) : go 225 1025 [.ref a_l0, .ref a_l1, l2, .ref a_l3, .int x_l4, l5, l6, l7, l8] [] w I L P = kC (call 218 [.ref a_l1, .int (I a_l0 (Int32.toNatClampNeg (x_l4 + (nI 1)))), .int (I a_l0 (Int32.toNatClampNeg (x_l4 + (nI 2)))), .ref a_l3] w I L P) (fun v w1 I1 L1 P1 => go 225 1042 [.ref a_l0, .ref a_l1, l2, .ref a_l3, .int x_l4, l5, l6, l7, l8] (v.toList ++ []) w1 I1 L1 P1) := by
  refine (go_aload_n (m := 225) (pc := 1025) (k := 1) (by decide +kernel) rfl).trans ?_
  refine (go_aload_n (m := 225) (pc := 1026) (k := 0) (by decide +kernel) rfl).trans ?_
  refine (go_iload (m := 225) (pc := 1027) (k := 4) (by decide +kernel) rfl).trans ?_
  refine (go_ic (m := 225) (pc := 1029) (n := 1) (by decide +kernel) ic_1).trans ?_
  refine (go_iadd (m := 225) (pc := 1030) (by decide +kernel)).trans ?_
  refine (go_iald14 (m := 225) (pc := 1031) (by decide +kernel) h0).trans ?_
  refine (go_aload_n (m := 225) (pc := 1032) (k := 0) (by decide +kernel) rfl).trans ?_
  refine (go_iload (m := 225) (pc := 1033) (k := 4) (by decide +kernel) rfl).trans ?_
  refine (go_ic (m := 225) (pc := 1035) (n := 2) (by decide +kernel) ic_2).trans ?_
  refine (go_iadd (m := 225) (pc := 1036) (by decide +kernel)).trans ?_
  refine (go_iald14 (m := 225) (pc := 1037) (by decide +kernel) h1).trans ?_
  refine (go_aload_n (m := 225) (pc := 1038) (k := 3) (by decide +kernel) rfl).trans ?_
  exact go_sta (m := 225) (pc := 1039) (o := 8) (x := 134) (y := 218) (kd := 4) (as := [.ref a_l1, .int (I a_l0 (Int32.toNatClampNeg (x_l4 + (nI 1)))), .int (I a_l0 (Int32.toNatClampNeg (x_l4 + (nI 2)))), .ref a_l3]) (rs := []) (by decide +kernel) rfl rfl c_8_134 (Or.inr (Or.inr rfl)) rfl rfl rfl (by decide +kernel) (by simp only [List.length_cons, List.length_nil]; decide) (Nat.le_of_ble_eq_true rfl)
theorem Law_law_1042 (a_l0 : Nat) (l1 : Value) (a_l2 : Nat) (l3 : Value) (x_l4 : Int32) (l5 : Value) (l6 : Value) (l7 : Value) (l8 : Value) (y0 : Int32) (w : Wd) (I : MI) (L : ML) (P : MP) (h0 : inA w a_l0 14 (x_l4 + (nI 1))) (h1 : inA w a_l0 14 (x_l4 + (nI 2))) (h2 : w.1 a_l2 = some (7, 0)) : go 225 1042 [.ref a_l0, l1, .ref a_l2, l3, .int x_l4, l5, l6, l7, l8] [.int y0] w I L P = kC (call 178 [.ref a_l2, .int (I a_l0 (Int32.toNatClampNeg (x_l4 + (nI 1)))), .int (I a_l0 (Int32.toNatClampNeg (x_l4 + (nI 2))))] w I L P) (fun v w1 I1 L1 P1 => go 225 1060 [.ref a_l0, l1, .ref a_l2, l3, .int x_l4, .int y0, l6, l7, l8] (v.toList ++ []) w1 I1 L1 P1) := by
  refine (go_istore (m := 225) (pc := 1042) (k := 5) (ls' := [.ref a_l0, l1, .ref a_l2, l3, .int x_l4, .int y0, l6, l7, l8]) (by decide +kernel) (by simp only [List.length_cons, List.length_nil]; decide) rfl).trans ?_
  refine (go_aload_n (m := 225) (pc := 1044) (k := 2) (by decide +kernel) rfl).trans ?_
  refine (go_aload_n (m := 225) (pc := 1045) (k := 0) (by decide +kernel) rfl).trans ?_
  refine (go_iload (m := 225) (pc := 1046) (k := 4) (by decide +kernel) rfl).trans ?_
  refine (go_ic (m := 225) (pc := 1048) (n := 1) (by decide +kernel) ic_1).trans ?_
  refine (go_iadd (m := 225) (pc := 1049) (by decide +kernel)).trans ?_
  refine (go_iald14 (m := 225) (pc := 1050) (by decide +kernel) h0).trans ?_
  refine (go_aload_n (m := 225) (pc := 1051) (k := 0) (by decide +kernel) rfl).trans ?_
  refine (go_iload (m := 225) (pc := 1052) (k := 4) (by decide +kernel) rfl).trans ?_
  refine (go_ic (m := 225) (pc := 1054) (n := 2) (by decide +kernel) ic_2).trans ?_
  refine (go_iadd (m := 225) (pc := 1055) (by decide +kernel)).trans ?_
  refine (go_iald14 (m := 225) (pc := 1056) (by decide +kernel) h1).trans ?_
  exact go_vir (m := 225) (pc := 1057) (o := 8) (x := 136) (y := 178) (kd := 0) (b := a_l2) (bs := [.int (I a_l0 (Int32.toNatClampNeg (x_l4 + (nI 1)))), .int (I a_l0 (Int32.toNatClampNeg (x_l4 + (nI 2))))]) (rs := []) (by decide +kernel) rfl rfl c_8_136 (Or.inl rfl) rfl rfl rfl (by decide +kernel) (by simp only [List.length_cons, List.length_nil]; decide) (Nat.le_of_ble_eq_true rfl) h2
theorem Law_law_1060 (l0 : Value) (l1 : Value) (a_l2 : Nat) (l3 : Value) (l4 : Value) (l5 : Value) (l6 : Value) (l7 : Value) (l8 : Value) (y0 : Int32) (w : Wd) (I : MI) (L : ML) (P : MP) (h0 : w.1 a_l2 = some (7, 0)) : go 225 1060 [l0, l1, .ref a_l2, l3, l4, l5, l6, l7, l8] [.int y0] w I L P = kC (call 121 [.ref a_l2] w I L P) (fun v w1 I1 L1 P1 => go 225 1066 [l0, l1, .ref a_l2, l3, l4, (fix1 l5), .int y0, l7, l8] (v.toList ++ []) w1 I1 L1 P1) := by
  refine (go_istore (m := 225) (pc := 1060) (k := 6) (ls' := [l0, l1, .ref a_l2, l3, l4, (fix1 l5), .int y0, l7, l8]) (by decide +kernel) (by simp only [List.length_cons, List.length_nil]; decide) rfl).trans ?_
  refine (go_aload_n (m := 225) (pc := 1062) (k := 2) (by decide +kernel) rfl).trans ?_
  exact go_vir (m := 225) (pc := 1063) (o := 8) (x := 88) (y := 121) (kd := 0) (b := a_l2) (bs := []) (rs := []) (by decide +kernel) rfl rfl c_8_88 (Or.inl rfl) rfl rfl rfl (by decide +kernel) (by simp only [List.length_cons, List.length_nil]; decide) (Nat.le_of_ble_eq_true rfl) h0
theorem Law_law_1066 (l0 : Value) (l1 : Value) (l2 : Value) (l3 : Value) (l4 : Value) (x_l5 : Int32) (l6 : Value) (l7 : Value) (l8 : Value) (y0 : Int32) (w : Wd) (I : MI) (L : ML) (P : MP)  : go 225 1066 [l0, l1, l2, l3, l4, .int x_l5, l6, l7, l8] [.int y0] w I L P = if y0 = x_l5 then go 225 1073 [l0, l1, l2, l3, l4, .int x_l5, l6, l7, l8] [] w I L P else go 225 1071 [l0, l1, l2, l3, l4, .int x_l5, l6, l7, l8] [] w I L P := by
  refine (go_iload (m := 225) (pc := 1066) (k := 5) (by decide +kernel) rfl).trans ?_
  exact go_icmpeq (m := 225) (pc := 1068) (off := 5) (t := 1073) (by decide +kernel) (by decide)
theorem Law_law_1071 (l0 : Value) (l1 : Value) (l2 : Value) (l3 : Value) (l4 : Value) (l5 : Value) (l6 : Value) (l7 : Value) (l8 : Value) (w : Wd) (I : MI) (L : ML) (P : MP) (h0 : (nI 0) &&& 1 = (nI 0)) : go 225 1071 [l0, l1, l2, l3, l4, l5, l6, l7, l8] [] w I L P = some (.inl (some (.int (nI 0))), w, I, L, P) := by
  refine (go_ic (m := 225) (pc := 1071) (n := 0) (by decide +kernel) ic_0).trans ?_
  exact go_retZ (m := 225) (pc := 1072) (by decide +kernel) rfl h0
theorem Law_law_1073 (l0 : Value) (l1 : Value) (l2 : Value) (l3 : Value) (l4 : Value) (x_l5 : Int32) (l6 : Value) (l7 : Value) (l8 : Value) (w : Wd) (I : MI) (L : ML) (P : MP)  : go 225 1073 [l0, l1, l2, l3, l4, .int x_l5, l6, l7, l8] [] w I L P = if x_l5 ≠ 0 then go 225 1090 [l0, l1, l2, l3, l4, .int x_l5, l6, l7, l8] [] w I L P else go 225 1078 [l0, l1, l2, l3, l4, .int x_l5, l6, l7, l8] [] w I L P := by
  refine (go_iload (m := 225) (pc := 1073) (k := 5) (by decide +kernel) rfl).trans ?_
  exact go_ifne (m := 225) (pc := 1075) (off := 15) (t := 1090) (by decide +kernel) (by decide)
theorem Law_law_1078 (l0 : Value) (l1 : Value) (l2 : Value) (a_l3 : Nat) (l4 : Value) (l5 : Value) (x_l6 : Int32) (l7 : Value) (l8 : Value) (w : Wd) (I : MI) (L : ML) (P : MP) (h0 : inA w a_l3 9 (nI 0)) : go 225 1078 [l0, l1, l2, .ref a_l3, l4, l5, .int x_l6, l7, l8] [] w I L P = if (lg_cmp (L a_l3 (Int32.toNatClampNeg (nI 0))) (Int32.toInt64 x_l6)) = 0 then go 225 1090 [l0, l1, l2, .ref a_l3, l4, l5, .int x_l6, l7, l8] [] w I L P else go 225 1088 [l0, l1, l2, .ref a_l3, l4, l5, .int x_l6, l7, l8] [] w I L P := by
  refine (go_aload_n (m := 225) (pc := 1078) (k := 3) (by decide +kernel) rfl).trans ?_
  refine (go_ic (m := 225) (pc := 1079) (n := 0) (by decide +kernel) ic_0).trans ?_
  refine (go_lald (m := 225) (pc := 1080) (by decide +kernel) h0).trans ?_
  refine (go_iload (m := 225) (pc := 1081) (k := 6) (by decide +kernel) rfl).trans ?_
  refine (go_i2l (m := 225) (pc := 1083) (by decide +kernel)).trans ?_
  refine (go_lcmp (m := 225) (pc := 1084) (by decide +kernel)).trans ?_
  exact go_ifeq (m := 225) (pc := 1085) (off := 5) (t := 1090) (by decide +kernel) (by decide)
theorem Law_law_1088 (l0 : Value) (l1 : Value) (l2 : Value) (l3 : Value) (l4 : Value) (l5 : Value) (l6 : Value) (l7 : Value) (l8 : Value) (w : Wd) (I : MI) (L : ML) (P : MP) (h0 : (nI 0) &&& 1 = (nI 0)) : go 225 1088 [l0, l1, l2, l3, l4, l5, l6, l7, l8] [] w I L P = some (.inl (some (.int (nI 0))), w, I, L, P) := by
  refine (go_ic (m := 225) (pc := 1088) (n := 0) (by decide +kernel) ic_0).trans ?_
  exact go_retZ (m := 225) (pc := 1089) (by decide +kernel) rfl h0
theorem Law_law_1090 (l0 : Value) (l1 : Value) (l2 : Value) (l3 : Value) (l4 : Value) (l5 : Value) (l6 : Value) (l7 : Value) (l8 : Value) (w : Wd) (I : MI) (L : ML) (P : MP)  : go 225 1090 [l0, l1, l2, l3, l4, l5, l6, l7, l8] [] w I L P = go 225 1536 [l0, l1, l2, l3, l4, l5, l6, l7, l8] [] w I L P := by
  refine (go_goto (m := 225) (pc := 1090) (off := 446) (t := 1536) (by decide +kernel) (by decide)).trans ?_
  rfl
theorem Law_law_1093_0 (a_l0 : Nat) (l2 : Value) (x_l4 : Int32) (l5 : Value) (l6 : Value) (l7 : Value) (l8 : Value) (w : Wd) (I : MI) (L : ML) (P : MP) (h0 : inA w a_l0 14 (x_l4 + (nI 1))) : go 225 1093 [.ref a_l0, .null, l2, .null, .int x_l4, l5, l6, l7, l8] [] w I L P = kC (call 219 [.null, .int (I a_l0 (Int32.toNatClampNeg (x_l4 + (nI 1)))), .null] w I L P) (fun v w1 I1 L1 P1 => go 225 1104 [.ref a_l0, .null, l2, .null, .int x_l4, l5, l6, l7, l8] (v.toList ++ []) w1 I1 L1 P1) := by
  refine (go_aload_nN (m := 225) (pc := 1093) (k := 1) (by decide +kernel) rfl).trans ?_
  refine (go_aload_n (m := 225) (pc := 1094) (k := 0) (by decide +kernel) rfl).trans ?_
  refine (go_iload (m := 225) (pc := 1095) (k := 4) (by decide +kernel) rfl).trans ?_
  refine (go_ic (m := 225) (pc := 1097) (n := 1) (by decide +kernel) ic_1).trans ?_
  refine (go_iadd (m := 225) (pc := 1098) (by decide +kernel)).trans ?_
  refine (go_iald14 (m := 225) (pc := 1099) (by decide +kernel) h0).trans ?_
  refine (go_aload_nN (m := 225) (pc := 1100) (k := 3) (by decide +kernel) rfl).trans ?_
  exact go_sta (m := 225) (pc := 1101) (o := 8) (x := 137) (y := 219) (kd := 4) (as := [.null, .int (I a_l0 (Int32.toNatClampNeg (x_l4 + (nI 1)))), .null]) (rs := []) (by decide +kernel) rfl rfl c_8_137 (Or.inr (Or.inr rfl)) rfl rfl rfl (by decide +kernel) (by simp only [List.length_cons, List.length_nil]; decide) (Nat.le_of_ble_eq_true rfl)
theorem Law_law_1093_1 (a_l0 : Nat) (l2 : Value) (a_l3 : Nat) (x_l4 : Int32) (l5 : Value) (l6 : Value) (l7 : Value) (l8 : Value) (w : Wd) (I : MI) (L : ML) (P : MP) (h0 : inA w a_l0 14 (x_l4 + (nI 1))) : go 225 1093 [.ref a_l0, .null, l2, .ref a_l3, .int x_l4, l5, l6, l7, l8] [] w I L P = kC (call 219 [.null, .int (I a_l0 (Int32.toNatClampNeg (x_l4 + (nI 1)))), .ref a_l3] w I L P) (fun v w1 I1 L1 P1 => go 225 1104 [.ref a_l0, .null, l2, .ref a_l3, .int x_l4, l5, l6, l7, l8] (v.toList ++ []) w1 I1 L1 P1) := by
  refine (go_aload_nN (m := 225) (pc := 1093) (k := 1) (by decide +kernel) rfl).trans ?_
  refine (go_aload_n (m := 225) (pc := 1094) (k := 0) (by decide +kernel) rfl).trans ?_
  refine (go_iload (m := 225) (pc := 1095) (k := 4) (by decide +kernel) rfl).trans ?_
  refine (go_ic (m := 225) (pc := 1097) (n := 1) (by decide +kernel) ic_1).trans ?_
  refine (go_iadd (m := 225) (pc := 1098) (by decide +kernel)).trans ?_
  refine (go_iald14 (m := 225) (pc := 1099) (by decide +kernel) h0).trans ?_
  refine (go_aload_n (m := 225) (pc := 1100) (k := 3) (by decide +kernel) rfl).trans ?_
  exact go_sta (m := 225) (pc := 1101) (o := 8) (x := 137) (y := 219) (kd := 4) (as := [.null, .int (I a_l0 (Int32.toNatClampNeg (x_l4 + (nI 1)))), .ref a_l3]) (rs := []) (by decide +kernel) rfl rfl c_8_137 (Or.inr (Or.inr rfl)) rfl rfl rfl (by decide +kernel) (by simp only [List.length_cons, List.length_nil]; decide) (Nat.le_of_ble_eq_true rfl)
theorem Law_law_1093_2 (a_l0 : Nat) (a_l1 : Nat) (l2 : Value) (x_l4 : Int32) (l5 : Value) (l6 : Value) (l7 : Value) (l8 : Value) (w : Wd) (I : MI) (L : ML) (P : MP) (h0 : inA w a_l0 14 (x_l4 + (nI 1))) : go 225 1093 [.ref a_l0, .ref a_l1, l2, .null, .int x_l4, l5, l6, l7, l8] [] w I L P = kC (call 219 [.ref a_l1, .int (I a_l0 (Int32.toNatClampNeg (x_l4 + (nI 1)))), .null] w I L P) (fun v w1 I1 L1 P1 => go 225 1104 [.ref a_l0, .ref a_l1, l2, .null, .int x_l4, l5, l6, l7, l8] (v.toList ++ []) w1 I1 L1 P1) := by
  refine (go_aload_n (m := 225) (pc := 1093) (k := 1) (by decide +kernel) rfl).trans ?_
  refine (go_aload_n (m := 225) (pc := 1094) (k := 0) (by decide +kernel) rfl).trans ?_
  refine (go_iload (m := 225) (pc := 1095) (k := 4) (by decide +kernel) rfl).trans ?_
  refine (go_ic (m := 225) (pc := 1097) (n := 1) (by decide +kernel) ic_1).trans ?_
  refine (go_iadd (m := 225) (pc := 1098) (by decide +kernel)).trans ?_
  refine (go_iald14 (m := 225) (pc := 1099) (by decide +kernel) h0).trans ?_
  refine (go_aload_nN (m := 225) (pc := 1100) (k := 3) (by decide +kernel) rfl).trans ?_
  exact go_sta (m := 225) (pc := 1101) (o := 8) (x := 137) (y := 219) (kd := 4) (as := [.ref a_l1, .int (I a_l0 (Int32.toNatClampNeg (x_l4 + (nI 1)))), .null]) (rs := []) (by decide +kernel) rfl rfl c_8_137 (Or.inr (Or.inr rfl)) rfl rfl rfl (by decide +kernel) (by simp only [List.length_cons, List.length_nil]; decide) (Nat.le_of_ble_eq_true rfl)
theorem Law_law_1093_3 (a_l0 : Nat) (a_l1 : Nat) (l2 : Value) (a_l3 : Nat) (x_l4 : Int32) (l5 : Value) (l6 : Value) (l7 : Value) (l8 : Value) (w : Wd) (I : MI) (L : ML) (P : MP) (h0 : inA w a_l0 14 (x_l4 + (nI 1))) : go 225 1093 [.ref a_l0, .ref a_l1, l2, .ref a_l3, .int x_l4, l5, l6, l7, l8] [] w I L P = kC (call 219 [.ref a_l1, .int (I a_l0 (Int32.toNatClampNeg (x_l4 + (nI 1)))), .ref a_l3] w I L P) (fun v w1 I1 L1 P1 => go 225 1104 [.ref a_l0, .ref a_l1, l2, .ref a_l3, .int x_l4, l5, l6, l7, l8] (v.toList ++ []) w1 I1 L1 P1) := by
  refine (go_aload_n (m := 225) (pc := 1093) (k := 1) (by decide +kernel) rfl).trans ?_
  refine (go_aload_n (m := 225) (pc := 1094) (k := 0) (by decide +kernel) rfl).trans ?_
  refine (go_iload (m := 225) (pc := 1095) (k := 4) (by decide +kernel) rfl).trans ?_
  refine (go_ic (m := 225) (pc := 1097) (n := 1) (by decide +kernel) ic_1).trans ?_
  refine (go_iadd (m := 225) (pc := 1098) (by decide +kernel)).trans ?_
  refine (go_iald14 (m := 225) (pc := 1099) (by decide +kernel) h0).trans ?_
  refine (go_aload_n (m := 225) (pc := 1100) (k := 3) (by decide +kernel) rfl).trans ?_
  exact go_sta (m := 225) (pc := 1101) (o := 8) (x := 137) (y := 219) (kd := 4) (as := [.ref a_l1, .int (I a_l0 (Int32.toNatClampNeg (x_l4 + (nI 1)))), .ref a_l3]) (rs := []) (by decide +kernel) rfl rfl c_8_137 (Or.inr (Or.inr rfl)) rfl rfl rfl (by decide +kernel) (by simp only [List.length_cons, List.length_nil]; decide) (Nat.le_of_ble_eq_true rfl)
theorem Law_law_1104 (a_l0 : Nat) (l1 : Value) (a_l2 : Nat) (l3 : Value) (x_l4 : Int32) (l5 : Value) (l6 : Value) (l7 : Value) (l8 : Value) (y0 : Int32) (w : Wd) (I : MI) (L : ML) (P : MP) (h0 : inA w a_l0 14 (x_l4 + (nI 1))) (h1 : w.1 a_l2 = some (7, 0)) : go 225 1104 [.ref a_l0, l1, .ref a_l2, l3, .int x_l4, l5, l6, l7, l8] [.int y0] w I L P = kC (call 180 [.ref a_l2, .int (I a_l0 (Int32.toNatClampNeg (x_l4 + (nI 1))))] w I L P) (fun v w1 I1 L1 P1 => go 225 1116 [.ref a_l0, l1, .ref a_l2, l3, .int x_l4, .int y0, l6, l7, l8] (v.toList ++ []) w1 I1 L1 P1) := by
  refine (go_istore (m := 225) (pc := 1104) (k := 5) (ls' := [.ref a_l0, l1, .ref a_l2, l3, .int x_l4, .int y0, l6, l7, l8]) (by decide +kernel) (by simp only [List.length_cons, List.length_nil]; decide) rfl).trans ?_
  refine (go_aload_n (m := 225) (pc := 1106) (k := 2) (by decide +kernel) rfl).trans ?_
  refine (go_aload_n (m := 225) (pc := 1107) (k := 0) (by decide +kernel) rfl).trans ?_
  refine (go_iload (m := 225) (pc := 1108) (k := 4) (by decide +kernel) rfl).trans ?_
  refine (go_ic (m := 225) (pc := 1110) (n := 1) (by decide +kernel) ic_1).trans ?_
  refine (go_iadd (m := 225) (pc := 1111) (by decide +kernel)).trans ?_
  refine (go_iald14 (m := 225) (pc := 1112) (by decide +kernel) h0).trans ?_
  exact go_vir (m := 225) (pc := 1113) (o := 8) (x := 139) (y := 180) (kd := 0) (b := a_l2) (bs := [.int (I a_l0 (Int32.toNatClampNeg (x_l4 + (nI 1))))]) (rs := []) (by decide +kernel) rfl rfl c_8_139 (Or.inl rfl) rfl rfl rfl (by decide +kernel) (by simp only [List.length_cons, List.length_nil]; decide) (Nat.le_of_ble_eq_true rfl) h1
theorem Law_law_1116 (l0 : Value) (l1 : Value) (a_l2 : Nat) (l3 : Value) (l4 : Value) (l5 : Value) (l6 : Value) (l7 : Value) (l8 : Value) (y0 : Int32) (w : Wd) (I : MI) (L : ML) (P : MP) (h0 : w.1 a_l2 = some (7, 0)) : go 225 1116 [l0, l1, .ref a_l2, l3, l4, l5, l6, l7, l8] [.int y0] w I L P = kC (call 121 [.ref a_l2] w I L P) (fun v w1 I1 L1 P1 => go 225 1122 [l0, l1, .ref a_l2, l3, l4, (fix1 l5), .int y0, l7, l8] (v.toList ++ []) w1 I1 L1 P1) := by
  refine (go_istore (m := 225) (pc := 1116) (k := 6) (ls' := [l0, l1, .ref a_l2, l3, l4, (fix1 l5), .int y0, l7, l8]) (by decide +kernel) (by simp only [List.length_cons, List.length_nil]; decide) rfl).trans ?_
  refine (go_aload_n (m := 225) (pc := 1118) (k := 2) (by decide +kernel) rfl).trans ?_
  exact go_vir (m := 225) (pc := 1119) (o := 8) (x := 88) (y := 121) (kd := 0) (b := a_l2) (bs := []) (rs := []) (by decide +kernel) rfl rfl c_8_88 (Or.inl rfl) rfl rfl rfl (by decide +kernel) (by simp only [List.length_cons, List.length_nil]; decide) (Nat.le_of_ble_eq_true rfl) h0
theorem Law_law_1122 (l0 : Value) (l1 : Value) (l2 : Value) (l3 : Value) (l4 : Value) (x_l5 : Int32) (l6 : Value) (l7 : Value) (l8 : Value) (y0 : Int32) (w : Wd) (I : MI) (L : ML) (P : MP)  : go 225 1122 [l0, l1, l2, l3, l4, .int x_l5, l6, l7, l8] [.int y0] w I L P = if y0 = x_l5 then go 225 1129 [l0, l1, l2, l3, l4, .int x_l5, l6, l7, l8] [] w I L P else go 225 1127 [l0, l1, l2, l3, l4, .int x_l5, l6, l7, l8] [] w I L P := by
  refine (go_iload (m := 225) (pc := 1122) (k := 5) (by decide +kernel) rfl).trans ?_
  exact go_icmpeq (m := 225) (pc := 1124) (off := 5) (t := 1129) (by decide +kernel) (by decide)
theorem Law_law_1127 (l0 : Value) (l1 : Value) (l2 : Value) (l3 : Value) (l4 : Value) (l5 : Value) (l6 : Value) (l7 : Value) (l8 : Value) (w : Wd) (I : MI) (L : ML) (P : MP) (h0 : (nI 0) &&& 1 = (nI 0)) : go 225 1127 [l0, l1, l2, l3, l4, l5, l6, l7, l8] [] w I L P = some (.inl (some (.int (nI 0))), w, I, L, P) := by
  refine (go_ic (m := 225) (pc := 1127) (n := 0) (by decide +kernel) ic_0).trans ?_
  exact go_retZ (m := 225) (pc := 1128) (by decide +kernel) rfl h0
theorem Law_law_1129 (l0 : Value) (l1 : Value) (l2 : Value) (l3 : Value) (l4 : Value) (x_l5 : Int32) (l6 : Value) (l7 : Value) (l8 : Value) (w : Wd) (I : MI) (L : ML) (P : MP)  : go 225 1129 [l0, l1, l2, l3, l4, .int x_l5, l6, l7, l8] [] w I L P = if x_l5 ≠ 0 then go 225 1146 [l0, l1, l2, l3, l4, .int x_l5, l6, l7, l8] [] w I L P else go 225 1134 [l0, l1, l2, l3, l4, .int x_l5, l6, l7, l8] [] w I L P := by
  refine (go_iload (m := 225) (pc := 1129) (k := 5) (by decide +kernel) rfl).trans ?_
  exact go_ifne (m := 225) (pc := 1131) (off := 15) (t := 1146) (by decide +kernel) (by decide)
theorem Law_law_1134 (l0 : Value) (l1 : Value) (l2 : Value) (a_l3 : Nat) (l4 : Value) (l5 : Value) (x_l6 : Int32) (l7 : Value) (l8 : Value) (w : Wd) (I : MI) (L : ML) (P : MP) (h0 : inA w a_l3 9 (nI 0)) : go 225 1134 [l0, l1, l2, .ref a_l3, l4, l5, .int x_l6, l7, l8] [] w I L P = if (lg_cmp (L a_l3 (Int32.toNatClampNeg (nI 0))) (Int32.toInt64 x_l6)) = 0 then go 225 1146 [l0, l1, l2, .ref a_l3, l4, l5, .int x_l6, l7, l8] [] w I L P else go 225 1144 [l0, l1, l2, .ref a_l3, l4, l5, .int x_l6, l7, l8] [] w I L P := by
  refine (go_aload_n (m := 225) (pc := 1134) (k := 3) (by decide +kernel) rfl).trans ?_
  refine (go_ic (m := 225) (pc := 1135) (n := 0) (by decide +kernel) ic_0).trans ?_
  refine (go_lald (m := 225) (pc := 1136) (by decide +kernel) h0).trans ?_
  refine (go_iload (m := 225) (pc := 1137) (k := 6) (by decide +kernel) rfl).trans ?_
  refine (go_i2l (m := 225) (pc := 1139) (by decide +kernel)).trans ?_
  refine (go_lcmp (m := 225) (pc := 1140) (by decide +kernel)).trans ?_
  exact go_ifeq (m := 225) (pc := 1141) (off := 5) (t := 1146) (by decide +kernel) (by decide)
theorem Law_law_1144 (l0 : Value) (l1 : Value) (l2 : Value) (l3 : Value) (l4 : Value) (l5 : Value) (l6 : Value) (l7 : Value) (l8 : Value) (w : Wd) (I : MI) (L : ML) (P : MP) (h0 : (nI 0) &&& 1 = (nI 0)) : go 225 1144 [l0, l1, l2, l3, l4, l5, l6, l7, l8] [] w I L P = some (.inl (some (.int (nI 0))), w, I, L, P) := by
  refine (go_ic (m := 225) (pc := 1144) (n := 0) (by decide +kernel) ic_0).trans ?_
  exact go_retZ (m := 225) (pc := 1145) (by decide +kernel) rfl h0
theorem Law_law_1146 (l0 : Value) (l1 : Value) (l2 : Value) (l3 : Value) (l4 : Value) (l5 : Value) (l6 : Value) (l7 : Value) (l8 : Value) (w : Wd) (I : MI) (L : ML) (P : MP)  : go 225 1146 [l0, l1, l2, l3, l4, l5, l6, l7, l8] [] w I L P = go 225 1536 [l0, l1, l2, l3, l4, l5, l6, l7, l8] [] w I L P := by
  refine (go_goto (m := 225) (pc := 1146) (off := 390) (t := 1536) (by decide +kernel) (by decide)).trans ?_
  rfl
theorem Law_law_1149_0 (a_l0 : Nat) (l2 : Value) (x_l4 : Int32) (l5 : Value) (l6 : Value) (l7 : Value) (l8 : Value) (w : Wd) (I : MI) (L : ML) (P : MP) (h0 : inA w a_l0 14 (x_l4 + (nI 1))) (h1 : inA w a_l0 14 (x_l4 + (nI 2))) : go 225 1149 [.ref a_l0, .null, l2, .null, .int x_l4, l5, l6, l7, l8] [] w I L P = kC (call 220 [.null, .int (I a_l0 (Int32.toNatClampNeg (x_l4 + (nI 1)))), .int (I a_l0 (Int32.toNatClampNeg (x_l4 + (nI 2)))), .null] w I L P) (fun v w1 I1 L1 P1 => go 225 1166 [.ref a_l0, .null, l2, .null, .int x_l4, l5, l6, l7, l8] (v.toList ++ []) w1 I1 L1 P1) := by
  refine (go_aload_nN (m := 225) (pc := 1149) (k := 1) (by decide +kernel) rfl).trans ?_
  refine (go_aload_n (m := 225) (pc := 1150) (k := 0) (by decide +kernel) rfl).trans ?_
  refine (go_iload (m := 225) (pc := 1151) (k := 4) (by decide +kernel) rfl).trans ?_
  refine (go_ic (m := 225) (pc := 1153) (n := 1) (by decide +kernel) ic_1).trans ?_
  refine (go_iadd (m := 225) (pc := 1154) (by decide +kernel)).trans ?_
  refine (go_iald14 (m := 225) (pc := 1155) (by decide +kernel) h0).trans ?_
  refine (go_aload_n (m := 225) (pc := 1156) (k := 0) (by decide +kernel) rfl).trans ?_
  refine (go_iload (m := 225) (pc := 1157) (k := 4) (by decide +kernel) rfl).trans ?_
  refine (go_ic (m := 225) (pc := 1159) (n := 2) (by decide +kernel) ic_2).trans ?_
  refine (go_iadd (m := 225) (pc := 1160) (by decide +kernel)).trans ?_
  refine (go_iald14 (m := 225) (pc := 1161) (by decide +kernel) h1).trans ?_
  refine (go_aload_nN (m := 225) (pc := 1162) (k := 3) (by decide +kernel) rfl).trans ?_
  exact go_sta (m := 225) (pc := 1163) (o := 8) (x := 140) (y := 220) (kd := 4) (as := [.null, .int (I a_l0 (Int32.toNatClampNeg (x_l4 + (nI 1)))), .int (I a_l0 (Int32.toNatClampNeg (x_l4 + (nI 2)))), .null]) (rs := []) (by decide +kernel) rfl rfl c_8_140 (Or.inr (Or.inr rfl)) rfl rfl rfl (by decide +kernel) (by simp only [List.length_cons, List.length_nil]; decide) (Nat.le_of_ble_eq_true rfl)
theorem Law_law_1149_1 (a_l0 : Nat) (l2 : Value) (a_l3 : Nat) (x_l4 : Int32) (l5 : Value) (l6 : Value) (l7 : Value) (l8 : Value) (w : Wd) (I : MI) (L : ML) (P : MP) (h0 : inA w a_l0 14 (x_l4 + (nI 1))) (h1 : inA w a_l0 14 (x_l4 + (nI 2))) : go 225 1149 [.ref a_l0, .null, l2, .ref a_l3, .int x_l4, l5, l6, l7, l8] [] w I L P = kC (call 220 [.null, .int (I a_l0 (Int32.toNatClampNeg (x_l4 + (nI 1)))), .int (I a_l0 (Int32.toNatClampNeg (x_l4 + (nI 2)))), .ref a_l3] w I L P) (fun v w1 I1 L1 P1 => go 225 1166 [.ref a_l0, .null, l2, .ref a_l3, .int x_l4, l5, l6, l7, l8] (v.toList ++ []) w1 I1 L1 P1) := by
  refine (go_aload_nN (m := 225) (pc := 1149) (k := 1) (by decide +kernel) rfl).trans ?_
  refine (go_aload_n (m := 225) (pc := 1150) (k := 0) (by decide +kernel) rfl).trans ?_
  refine (go_iload (m := 225) (pc := 1151) (k := 4) (by decide +kernel) rfl).trans ?_
  refine (go_ic (m := 225) (pc := 1153) (n := 1) (by decide +kernel) ic_1).trans ?_
  refine (go_iadd (m := 225) (pc := 1154) (by decide +kernel)).trans ?_
  refine (go_iald14 (m := 225) (pc := 1155) (by decide +kernel) h0).trans ?_
  refine (go_aload_n (m := 225) (pc := 1156) (k := 0) (by decide +kernel) rfl).trans ?_
  refine (go_iload (m := 225) (pc := 1157) (k := 4) (by decide +kernel) rfl).trans ?_
  refine (go_ic (m := 225) (pc := 1159) (n := 2) (by decide +kernel) ic_2).trans ?_
  refine (go_iadd (m := 225) (pc := 1160) (by decide +kernel)).trans ?_
  refine (go_iald14 (m := 225) (pc := 1161) (by decide +kernel) h1).trans ?_
  refine (go_aload_n (m := 225) (pc := 1162) (k := 3) (by decide +kernel) rfl).trans ?_
  exact go_sta (m := 225) (pc := 1163) (o := 8) (x := 140) (y := 220) (kd := 4) (as := [.null, .int (I a_l0 (Int32.toNatClampNeg (x_l4 + (nI 1)))), .int (I a_l0 (Int32.toNatClampNeg (x_l4 + (nI 2)))), .ref a_l3]) (rs := []) (by decide +kernel) rfl rfl c_8_140 (Or.inr (Or.inr rfl)) rfl rfl rfl (by decide +kernel) (by simp only [List.length_cons, List.length_nil]; decide) (Nat.le_of_ble_eq_true rfl)
theorem Law_law_1149_2 (a_l0 : Nat) (a_l1 : Nat) (l2 : Value) (x_l4 : Int32) (l5 : Value) (l6 : Value) (l7 : Value) (l8 : Value) (w : Wd) (I : MI) (L : ML) (P : MP) (h0 : inA w a_l0 14 (x_l4 + (nI 1))) (h1 : inA w a_l0 14 (x_l4 + (nI 2))) : go 225 1149 [.ref a_l0, .ref a_l1, l2, .null, .int x_l4, l5, l6, l7, l8] [] w I L P = kC (call 220 [.ref a_l1, .int (I a_l0 (Int32.toNatClampNeg (x_l4 + (nI 1)))), .int (I a_l0 (Int32.toNatClampNeg (x_l4 + (nI 2)))), .null] w I L P) (fun v w1 I1 L1 P1 => go 225 1166 [.ref a_l0, .ref a_l1, l2, .null, .int x_l4, l5, l6, l7, l8] (v.toList ++ []) w1 I1 L1 P1) := by
  refine (go_aload_n (m := 225) (pc := 1149) (k := 1) (by decide +kernel) rfl).trans ?_
  refine (go_aload_n (m := 225) (pc := 1150) (k := 0) (by decide +kernel) rfl).trans ?_
  refine (go_iload (m := 225) (pc := 1151) (k := 4) (by decide +kernel) rfl).trans ?_
  refine (go_ic (m := 225) (pc := 1153) (n := 1) (by decide +kernel) ic_1).trans ?_
  refine (go_iadd (m := 225) (pc := 1154) (by decide +kernel)).trans ?_
  refine (go_iald14 (m := 225) (pc := 1155) (by decide +kernel) h0).trans ?_
  refine (go_aload_n (m := 225) (pc := 1156) (k := 0) (by decide +kernel) rfl).trans ?_
  refine (go_iload (m := 225) (pc := 1157) (k := 4) (by decide +kernel) rfl).trans ?_
  refine (go_ic (m := 225) (pc := 1159) (n := 2) (by decide +kernel) ic_2).trans ?_
  refine (go_iadd (m := 225) (pc := 1160) (by decide +kernel)).trans ?_
  refine (go_iald14 (m := 225) (pc := 1161) (by decide +kernel) h1).trans ?_
  refine (go_aload_nN (m := 225) (pc := 1162) (k := 3) (by decide +kernel) rfl).trans ?_
  exact go_sta (m := 225) (pc := 1163) (o := 8) (x := 140) (y := 220) (kd := 4) (as := [.ref a_l1, .int (I a_l0 (Int32.toNatClampNeg (x_l4 + (nI 1)))), .int (I a_l0 (Int32.toNatClampNeg (x_l4 + (nI 2)))), .null]) (rs := []) (by decide +kernel) rfl rfl c_8_140 (Or.inr (Or.inr rfl)) rfl rfl rfl (by decide +kernel) (by simp only [List.length_cons, List.length_nil]; decide) (Nat.le_of_ble_eq_true rfl)
theorem Law_law_1149_3 (a_l0 : Nat) (a_l1 : Nat) (l2 : Value) (a_l3 : Nat) (x_l4 : Int32) (l5 : Value) (l6 : Value) (l7 : Value) (l8 : Value) (w : Wd) (I : MI) (L : ML) (P : MP) (h0 : inA w a_l0 14 (x_l4 + (nI 1))) (h1 : inA w a_l0 14 (x_l4 + (nI 2))) : go 225 1149 [.ref a_l0, .ref a_l1, l2, .ref a_l3, .int x_l4, l5, l6, l7, l8] [] w I L P = kC (call 220 [.ref a_l1, .int (I a_l0 (Int32.toNatClampNeg (x_l4 + (nI 1)))), .int (I a_l0 (Int32.toNatClampNeg (x_l4 + (nI 2)))), .ref a_l3] w I L P) (fun v w1 I1 L1 P1 => go 225 1166 [.ref a_l0, .ref a_l1, l2, .ref a_l3, .int x_l4, l5, l6, l7, l8] (v.toList ++ []) w1 I1 L1 P1) := by
  refine (go_aload_n (m := 225) (pc := 1149) (k := 1) (by decide +kernel) rfl).trans ?_
  refine (go_aload_n (m := 225) (pc := 1150) (k := 0) (by decide +kernel) rfl).trans ?_
  refine (go_iload (m := 225) (pc := 1151) (k := 4) (by decide +kernel) rfl).trans ?_
  refine (go_ic (m := 225) (pc := 1153) (n := 1) (by decide +kernel) ic_1).trans ?_
  refine (go_iadd (m := 225) (pc := 1154) (by decide +kernel)).trans ?_
  refine (go_iald14 (m := 225) (pc := 1155) (by decide +kernel) h0).trans ?_
  refine (go_aload_n (m := 225) (pc := 1156) (k := 0) (by decide +kernel) rfl).trans ?_
  refine (go_iload (m := 225) (pc := 1157) (k := 4) (by decide +kernel) rfl).trans ?_
  refine (go_ic (m := 225) (pc := 1159) (n := 2) (by decide +kernel) ic_2).trans ?_
  refine (go_iadd (m := 225) (pc := 1160) (by decide +kernel)).trans ?_
  refine (go_iald14 (m := 225) (pc := 1161) (by decide +kernel) h1).trans ?_
  refine (go_aload_n (m := 225) (pc := 1162) (k := 3) (by decide +kernel) rfl).trans ?_
  exact go_sta (m := 225) (pc := 1163) (o := 8) (x := 140) (y := 220) (kd := 4) (as := [.ref a_l1, .int (I a_l0 (Int32.toNatClampNeg (x_l4 + (nI 1)))), .int (I a_l0 (Int32.toNatClampNeg (x_l4 + (nI 2)))), .ref a_l3]) (rs := []) (by decide +kernel) rfl rfl c_8_140 (Or.inr (Or.inr rfl)) rfl rfl rfl (by decide +kernel) (by simp only [List.length_cons, List.length_nil]; decide) (Nat.le_of_ble_eq_true rfl)
theorem Law_law_1166 (a_l0 : Nat) (l1 : Value) (a_l2 : Nat) (l3 : Value) (x_l4 : Int32) (l5 : Value) (l6 : Value) (l7 : Value) (l8 : Value) (y0 : Int32) (w : Wd) (I : MI) (L : ML) (P : MP) (h0 : inA w a_l0 14 (x_l4 + (nI 1))) (h1 : inA w a_l0 14 (x_l4 + (nI 2))) (h2 : w.1 a_l2 = some (7, 0)) : go 225 1166 [.ref a_l0, l1, .ref a_l2, l3, .int x_l4, l5, l6, l7, l8] [.int y0] w I L P = kC (call 183 [.ref a_l2, .int (I a_l0 (Int32.toNatClampNeg (x_l4 + (nI 1)))), .int (I a_l0 (Int32.toNatClampNeg (x_l4 + (nI 2))))] w I L P) (fun v w1 I1 L1 P1 => go 225 1184 [.ref a_l0, l1, .ref a_l2, l3, .int x_l4, .int y0, l6, l7, l8] (v.toList ++ []) w1 I1 L1 P1) := by
  refine (go_istore (m := 225) (pc := 1166) (k := 5) (ls' := [.ref a_l0, l1, .ref a_l2, l3, .int x_l4, .int y0, l6, l7, l8]) (by decide +kernel) (by simp only [List.length_cons, List.length_nil]; decide) rfl).trans ?_
  refine (go_aload_n (m := 225) (pc := 1168) (k := 2) (by decide +kernel) rfl).trans ?_
  refine (go_aload_n (m := 225) (pc := 1169) (k := 0) (by decide +kernel) rfl).trans ?_
  refine (go_iload (m := 225) (pc := 1170) (k := 4) (by decide +kernel) rfl).trans ?_
  refine (go_ic (m := 225) (pc := 1172) (n := 1) (by decide +kernel) ic_1).trans ?_
  refine (go_iadd (m := 225) (pc := 1173) (by decide +kernel)).trans ?_
  refine (go_iald14 (m := 225) (pc := 1174) (by decide +kernel) h0).trans ?_
  refine (go_aload_n (m := 225) (pc := 1175) (k := 0) (by decide +kernel) rfl).trans ?_
  refine (go_iload (m := 225) (pc := 1176) (k := 4) (by decide +kernel) rfl).trans ?_
  refine (go_ic (m := 225) (pc := 1178) (n := 2) (by decide +kernel) ic_2).trans ?_
  refine (go_iadd (m := 225) (pc := 1179) (by decide +kernel)).trans ?_
  refine (go_iald14 (m := 225) (pc := 1180) (by decide +kernel) h1).trans ?_
  exact go_vir (m := 225) (pc := 1181) (o := 8) (x := 142) (y := 183) (kd := 0) (b := a_l2) (bs := [.int (I a_l0 (Int32.toNatClampNeg (x_l4 + (nI 1)))), .int (I a_l0 (Int32.toNatClampNeg (x_l4 + (nI 2))))]) (rs := []) (by decide +kernel) rfl rfl c_8_142 (Or.inl rfl) rfl rfl rfl (by decide +kernel) (by simp only [List.length_cons, List.length_nil]; decide) (Nat.le_of_ble_eq_true rfl) h2
theorem Law_law_1184 (l0 : Value) (l1 : Value) (a_l2 : Nat) (l3 : Value) (l4 : Value) (l5 : Value) (l6 : Value) (l7 : Value) (l8 : Value) (y0 : Int32) (w : Wd) (I : MI) (L : ML) (P : MP) (h0 : w.1 a_l2 = some (7, 0)) : go 225 1184 [l0, l1, .ref a_l2, l3, l4, l5, l6, l7, l8] [.int y0] w I L P = kC (call 121 [.ref a_l2] w I L P) (fun v w1 I1 L1 P1 => go 225 1190 [l0, l1, .ref a_l2, l3, l4, (fix1 l5), .int y0, l7, l8] (v.toList ++ []) w1 I1 L1 P1) := by
  refine (go_istore (m := 225) (pc := 1184) (k := 6) (ls' := [l0, l1, .ref a_l2, l3, l4, (fix1 l5), .int y0, l7, l8]) (by decide +kernel) (by simp only [List.length_cons, List.length_nil]; decide) rfl).trans ?_
  refine (go_aload_n (m := 225) (pc := 1186) (k := 2) (by decide +kernel) rfl).trans ?_
  exact go_vir (m := 225) (pc := 1187) (o := 8) (x := 88) (y := 121) (kd := 0) (b := a_l2) (bs := []) (rs := []) (by decide +kernel) rfl rfl c_8_88 (Or.inl rfl) rfl rfl rfl (by decide +kernel) (by simp only [List.length_cons, List.length_nil]; decide) (Nat.le_of_ble_eq_true rfl) h0
theorem Law_law_1190 (l0 : Value) (l1 : Value) (l2 : Value) (l3 : Value) (l4 : Value) (x_l5 : Int32) (l6 : Value) (l7 : Value) (l8 : Value) (y0 : Int32) (w : Wd) (I : MI) (L : ML) (P : MP)  : go 225 1190 [l0, l1, l2, l3, l4, .int x_l5, l6, l7, l8] [.int y0] w I L P = if y0 = x_l5 then go 225 1197 [l0, l1, l2, l3, l4, .int x_l5, l6, l7, l8] [] w I L P else go 225 1195 [l0, l1, l2, l3, l4, .int x_l5, l6, l7, l8] [] w I L P := by
  refine (go_iload (m := 225) (pc := 1190) (k := 5) (by decide +kernel) rfl).trans ?_
  exact go_icmpeq (m := 225) (pc := 1192) (off := 5) (t := 1197) (by decide +kernel) (by decide)
theorem Law_law_1195 (l0 : Value) (l1 : Value) (l2 : Value) (l3 : Value) (l4 : Value) (l5 : Value) (l6 : Value) (l7 : Value) (l8 : Value) (w : Wd) (I : MI) (L : ML) (P : MP) (h0 : (nI 0) &&& 1 = (nI 0)) : go 225 1195 [l0, l1, l2, l3, l4, l5, l6, l7, l8] [] w I L P = some (.inl (some (.int (nI 0))), w, I, L, P) := by
  refine (go_ic (m := 225) (pc := 1195) (n := 0) (by decide +kernel) ic_0).trans ?_
  exact go_retZ (m := 225) (pc := 1196) (by decide +kernel) rfl h0
theorem Law_law_1197 (l0 : Value) (l1 : Value) (l2 : Value) (l3 : Value) (l4 : Value) (x_l5 : Int32) (l6 : Value) (l7 : Value) (l8 : Value) (w : Wd) (I : MI) (L : ML) (P : MP)  : go 225 1197 [l0, l1, l2, l3, l4, .int x_l5, l6, l7, l8] [] w I L P = if x_l5 ≠ 0 then go 225 1214 [l0, l1, l2, l3, l4, .int x_l5, l6, l7, l8] [] w I L P else go 225 1202 [l0, l1, l2, l3, l4, .int x_l5, l6, l7, l8] [] w I L P := by
  refine (go_iload (m := 225) (pc := 1197) (k := 5) (by decide +kernel) rfl).trans ?_
  exact go_ifne (m := 225) (pc := 1199) (off := 15) (t := 1214) (by decide +kernel) (by decide)
theorem Law_law_1202 (l0 : Value) (l1 : Value) (l2 : Value) (a_l3 : Nat) (l4 : Value) (l5 : Value) (x_l6 : Int32) (l7 : Value) (l8 : Value) (w : Wd) (I : MI) (L : ML) (P : MP) (h0 : inA w a_l3 9 (nI 0)) : go 225 1202 [l0, l1, l2, .ref a_l3, l4, l5, .int x_l6, l7, l8] [] w I L P = if (lg_cmp (L a_l3 (Int32.toNatClampNeg (nI 0))) (Int32.toInt64 x_l6)) = 0 then go 225 1214 [l0, l1, l2, .ref a_l3, l4, l5, .int x_l6, l7, l8] [] w I L P else go 225 1212 [l0, l1, l2, .ref a_l3, l4, l5, .int x_l6, l7, l8] [] w I L P := by
  refine (go_aload_n (m := 225) (pc := 1202) (k := 3) (by decide +kernel) rfl).trans ?_
  refine (go_ic (m := 225) (pc := 1203) (n := 0) (by decide +kernel) ic_0).trans ?_
  refine (go_lald (m := 225) (pc := 1204) (by decide +kernel) h0).trans ?_
  refine (go_iload (m := 225) (pc := 1205) (k := 6) (by decide +kernel) rfl).trans ?_
  refine (go_i2l (m := 225) (pc := 1207) (by decide +kernel)).trans ?_
  refine (go_lcmp (m := 225) (pc := 1208) (by decide +kernel)).trans ?_
  exact go_ifeq (m := 225) (pc := 1209) (off := 5) (t := 1214) (by decide +kernel) (by decide)
theorem Law_law_1212 (l0 : Value) (l1 : Value) (l2 : Value) (l3 : Value) (l4 : Value) (l5 : Value) (l6 : Value) (l7 : Value) (l8 : Value) (w : Wd) (I : MI) (L : ML) (P : MP) (h0 : (nI 0) &&& 1 = (nI 0)) : go 225 1212 [l0, l1, l2, l3, l4, l5, l6, l7, l8] [] w I L P = some (.inl (some (.int (nI 0))), w, I, L, P) := by
  refine (go_ic (m := 225) (pc := 1212) (n := 0) (by decide +kernel) ic_0).trans ?_
  exact go_retZ (m := 225) (pc := 1213) (by decide +kernel) rfl h0
theorem Law_law_1214 (l0 : Value) (l1 : Value) (l2 : Value) (l3 : Value) (l4 : Value) (l5 : Value) (l6 : Value) (l7 : Value) (l8 : Value) (w : Wd) (I : MI) (L : ML) (P : MP)  : go 225 1214 [l0, l1, l2, l3, l4, l5, l6, l7, l8] [] w I L P = go 225 1536 [l0, l1, l2, l3, l4, l5, l6, l7, l8] [] w I L P := by
  refine (go_goto (m := 225) (pc := 1214) (off := 322) (t := 1536) (by decide +kernel) (by decide)).trans ?_
  rfl
theorem Law_law_1217 (l0 : Value) (a_l1 : Nat) (l2 : Value) (l3 : Value) (l4 : Value) (l5 : Value) (l6 : Value) (l7 : Value) (l8 : Value) (w : Wd) (I : MI) (L : ML) (P : MP) (h0 : w.1 a_l1 = some (6, 0)) : go 225 1217 [l0, .ref a_l1, l2, l3, l4, l5, l6, l7, l8] [] w I L P = kC (call 96 [.ref a_l1] w I L P) (fun v w1 I1 L1 P1 => go 225 1221 [l0, .ref a_l1, l2, l3, l4, l5, l6, l7, l8] (v.toList ++ []) w1 I1 L1 P1) := by
  refine (go_aload_n (m := 225) (pc := 1217) (k := 1) (by decide +kernel) rfl).trans ?_
  exact go_vir (m := 225) (pc := 1218) (o := 8) (x := 143) (y := 96) (kd := 0) (b := a_l1) (bs := []) (rs := []) (by decide +kernel) rfl rfl c_8_143 (Or.inl rfl) rfl rfl rfl (by decide +kernel) (by simp only [List.length_cons, List.length_nil]; decide) (Nat.le_of_ble_eq_true rfl) h0
theorem Law_law_1221 (l0 : Value) (l1 : Value) (a_l2 : Nat) (l3 : Value) (l4 : Value) (l5 : Value) (l6 : Value) (l7 : Value) (l8 : Value) (y0 : Int32) (w : Wd) (I : MI) (L : ML) (P : MP) (h0 : w.1 a_l2 = some (7, 0)) : go 225 1221 [l0, l1, .ref a_l2, l3, l4, l5, l6, l7, l8] [.int y0] w I L P = kC (call 185 [.ref a_l2] w I L P) (fun v w1 I1 L1 P1 => go 225 1225 [l0, l1, .ref a_l2, l3, l4, l5, l6, l7, l8] (v.toList ++ [.int y0]) w1 I1 L1 P1) := by
  refine (go_aload_n (m := 225) (pc := 1221) (k := 2) (by decide +kernel) rfl).trans ?_
  exact go_vir (m := 225) (pc := 1222) (o := 8) (x := 146) (y := 185) (kd := 0) (b := a_l2) (bs := []) (rs := [.int y0]) (by decide +kernel) rfl rfl c_8_146 (Or.inl rfl) rfl rfl rfl (by decide +kernel) (by simp only [List.length_cons, List.length_nil]; decide) (Nat.le_of_ble_eq_true rfl) h0
theorem Law_law_1225 (l0 : Value) (l1 : Value) (l2 : Value) (l3 : Value) (l4 : Value) (l5 : Value) (l6 : Value) (l7 : Value) (l8 : Value) (y0 : Int32) (y1 : Int32) (w : Wd) (I : MI) (L : ML) (P : MP)  : go 225 1225 [l0, l1, l2, l3, l4, l5, l6, l7, l8] [.int y1, .int y0] w I L P = if y0 = y1 then go 225 1536 [l0, l1, l2, l3, l4, l5, l6, l7, l8] [] w I L P else go 225 1228 [l0, l1, l2, l3, l4, l5, l6, l7, l8] [] w I L P := by
  exact go_icmpeq (m := 225) (pc := 1225) (off := 311) (t := 1536) (by decide +kernel) (by decide)
theorem Law_law_1228 (l0 : Value) (l1 : Value) (l2 : Value) (l3 : Value) (l4 : Value) (l5 : Value) (l6 : Value) (l7 : Value) (l8 : Value) (w : Wd) (I : MI) (L : ML) (P : MP) (h0 : (nI 0) &&& 1 = (nI 0)) : go 225 1228 [l0, l1, l2, l3, l4, l5, l6, l7, l8] [] w I L P = some (.inl (some (.int (nI 0))), w, I, L, P) := by
  refine (go_ic (m := 225) (pc := 1228) (n := 0) (by decide +kernel) ic_0).trans ?_
  exact go_retZ (m := 225) (pc := 1229) (by decide +kernel) rfl h0
theorem Law_law_1230_0 (a_l0 : Nat) (l2 : Value) (x_l4 : Int32) (l5 : Value) (l6 : Value) (l7 : Value) (l8 : Value) (w : Wd) (I : MI) (L : ML) (P : MP) (h0 : inA w a_l0 14 (x_l4 + (nI 1))) : go 225 1230 [.ref a_l0, .null, l2, .null, .int x_l4, l5, l6, l7, l8] [] w I L P = kC (call 221 [.null, .int (I a_l0 (Int32.toNatClampNeg (x_l4 + (nI 1)))), .null] w I L P) (fun v w1 I1 L1 P1 => go 225 1241 [.ref a_l0, .null, l2, .null, .int x_l4, l5, l6, l7, l8] (v.toList ++ []) w1 I1 L1 P1) := by
  refine (go_aload_nN (m := 225) (pc := 1230) (k := 1) (by decide +kernel) rfl).trans ?_
  refine (go_aload_n (m := 225) (pc := 1231) (k := 0) (by decide +kernel) rfl).trans ?_
  refine (go_iload (m := 225) (pc := 1232) (k := 4) (by decide +kernel) rfl).trans ?_
  refine (go_ic (m := 225) (pc := 1234) (n := 1) (by decide +kernel) ic_1).trans ?_
  refine (go_iadd (m := 225) (pc := 1235) (by decide +kernel)).trans ?_
  refine (go_iald14 (m := 225) (pc := 1236) (by decide +kernel) h0).trans ?_
  refine (go_aload_nN (m := 225) (pc := 1237) (k := 3) (by decide +kernel) rfl).trans ?_
  exact go_sta (m := 225) (pc := 1238) (o := 8) (x := 147) (y := 221) (kd := 4) (as := [.null, .int (I a_l0 (Int32.toNatClampNeg (x_l4 + (nI 1)))), .null]) (rs := []) (by decide +kernel) rfl rfl c_8_147 (Or.inr (Or.inr rfl)) rfl rfl rfl (by decide +kernel) (by simp only [List.length_cons, List.length_nil]; decide) (Nat.le_of_ble_eq_true rfl)
theorem Law_law_1230_1 (a_l0 : Nat) (l2 : Value) (a_l3 : Nat) (x_l4 : Int32) (l5 : Value) (l6 : Value) (l7 : Value) (l8 : Value) (w : Wd) (I : MI) (L : ML) (P : MP) (h0 : inA w a_l0 14 (x_l4 + (nI 1))) : go 225 1230 [.ref a_l0, .null, l2, .ref a_l3, .int x_l4, l5, l6, l7, l8] [] w I L P = kC (call 221 [.null, .int (I a_l0 (Int32.toNatClampNeg (x_l4 + (nI 1)))), .ref a_l3] w I L P) (fun v w1 I1 L1 P1 => go 225 1241 [.ref a_l0, .null, l2, .ref a_l3, .int x_l4, l5, l6, l7, l8] (v.toList ++ []) w1 I1 L1 P1) := by
  refine (go_aload_nN (m := 225) (pc := 1230) (k := 1) (by decide +kernel) rfl).trans ?_
  refine (go_aload_n (m := 225) (pc := 1231) (k := 0) (by decide +kernel) rfl).trans ?_
  refine (go_iload (m := 225) (pc := 1232) (k := 4) (by decide +kernel) rfl).trans ?_
  refine (go_ic (m := 225) (pc := 1234) (n := 1) (by decide +kernel) ic_1).trans ?_
  refine (go_iadd (m := 225) (pc := 1235) (by decide +kernel)).trans ?_
  refine (go_iald14 (m := 225) (pc := 1236) (by decide +kernel) h0).trans ?_
  refine (go_aload_n (m := 225) (pc := 1237) (k := 3) (by decide +kernel) rfl).trans ?_
  exact go_sta (m := 225) (pc := 1238) (o := 8) (x := 147) (y := 221) (kd := 4) (as := [.null, .int (I a_l0 (Int32.toNatClampNeg (x_l4 + (nI 1)))), .ref a_l3]) (rs := []) (by decide +kernel) rfl rfl c_8_147 (Or.inr (Or.inr rfl)) rfl rfl rfl (by decide +kernel) (by simp only [List.length_cons, List.length_nil]; decide) (Nat.le_of_ble_eq_true rfl)
theorem Law_law_1230_2 (a_l0 : Nat) (a_l1 : Nat) (l2 : Value) (x_l4 : Int32) (l5 : Value) (l6 : Value) (l7 : Value) (l8 : Value) (w : Wd) (I : MI) (L : ML) (P : MP) (h0 : inA w a_l0 14 (x_l4 + (nI 1))) : go 225 1230 [.ref a_l0, .ref a_l1, l2, .null, .int x_l4, l5, l6, l7, l8] [] w I L P = kC (call 221 [.ref a_l1, .int (I a_l0 (Int32.toNatClampNeg (x_l4 + (nI 1)))), .null] w I L P) (fun v w1 I1 L1 P1 => go 225 1241 [.ref a_l0, .ref a_l1, l2, .null, .int x_l4, l5, l6, l7, l8] (v.toList ++ []) w1 I1 L1 P1) := by
  refine (go_aload_n (m := 225) (pc := 1230) (k := 1) (by decide +kernel) rfl).trans ?_
  refine (go_aload_n (m := 225) (pc := 1231) (k := 0) (by decide +kernel) rfl).trans ?_
  refine (go_iload (m := 225) (pc := 1232) (k := 4) (by decide +kernel) rfl).trans ?_
  refine (go_ic (m := 225) (pc := 1234) (n := 1) (by decide +kernel) ic_1).trans ?_
  refine (go_iadd (m := 225) (pc := 1235) (by decide +kernel)).trans ?_
  refine (go_iald14 (m := 225) (pc := 1236) (by decide +kernel) h0).trans ?_
  refine (go_aload_nN (m := 225) (pc := 1237) (k := 3) (by decide +kernel) rfl).trans ?_
  exact go_sta (m := 225) (pc := 1238) (o := 8) (x := 147) (y := 221) (kd := 4) (as := [.ref a_l1, .int (I a_l0 (Int32.toNatClampNeg (x_l4 + (nI 1)))), .null]) (rs := []) (by decide +kernel) rfl rfl c_8_147 (Or.inr (Or.inr rfl)) rfl rfl rfl (by decide +kernel) (by simp only [List.length_cons, List.length_nil]; decide) (Nat.le_of_ble_eq_true rfl)
theorem Law_law_1230_3 (a_l0 : Nat) (a_l1 : Nat) (l2 : Value) (a_l3 : Nat) (x_l4 : Int32) (l5 : Value) (l6 : Value) (l7 : Value) (l8 : Value) (w : Wd) (I : MI) (L : ML) (P : MP) (h0 : inA w a_l0 14 (x_l4 + (nI 1))) : go 225 1230 [.ref a_l0, .ref a_l1, l2, .ref a_l3, .int x_l4, l5, l6, l7, l8] [] w I L P = kC (call 221 [.ref a_l1, .int (I a_l0 (Int32.toNatClampNeg (x_l4 + (nI 1)))), .ref a_l3] w I L P) (fun v w1 I1 L1 P1 => go 225 1241 [.ref a_l0, .ref a_l1, l2, .ref a_l3, .int x_l4, l5, l6, l7, l8] (v.toList ++ []) w1 I1 L1 P1) := by
  refine (go_aload_n (m := 225) (pc := 1230) (k := 1) (by decide +kernel) rfl).trans ?_
  refine (go_aload_n (m := 225) (pc := 1231) (k := 0) (by decide +kernel) rfl).trans ?_
  refine (go_iload (m := 225) (pc := 1232) (k := 4) (by decide +kernel) rfl).trans ?_
  refine (go_ic (m := 225) (pc := 1234) (n := 1) (by decide +kernel) ic_1).trans ?_
  refine (go_iadd (m := 225) (pc := 1235) (by decide +kernel)).trans ?_
  refine (go_iald14 (m := 225) (pc := 1236) (by decide +kernel) h0).trans ?_
  refine (go_aload_n (m := 225) (pc := 1237) (k := 3) (by decide +kernel) rfl).trans ?_
  exact go_sta (m := 225) (pc := 1238) (o := 8) (x := 147) (y := 221) (kd := 4) (as := [.ref a_l1, .int (I a_l0 (Int32.toNatClampNeg (x_l4 + (nI 1)))), .ref a_l3]) (rs := []) (by decide +kernel) rfl rfl c_8_147 (Or.inr (Or.inr rfl)) rfl rfl rfl (by decide +kernel) (by simp only [List.length_cons, List.length_nil]; decide) (Nat.le_of_ble_eq_true rfl)
theorem Law_law_1241 (a_l0 : Nat) (l1 : Value) (a_l2 : Nat) (l3 : Value) (x_l4 : Int32) (l5 : Value) (l6 : Value) (l7 : Value) (l8 : Value) (y0 : Int32) (w : Wd) (I : MI) (L : ML) (P : MP) (h0 : inA w a_l0 14 (x_l4 + (nI 1))) (h1 : w.1 a_l2 = some (7, 0)) : go 225 1241 [.ref a_l0, l1, .ref a_l2, l3, .int x_l4, l5, l6, l7, l8] [.int y0] w I L P = kC (call 187 [.ref a_l2, .int (I a_l0 (Int32.toNatClampNeg (x_l4 + (nI 1))))] w I L P) (fun v w1 I1 L1 P1 => go 225 1253 [.ref a_l0, l1, .ref a_l2, l3, .int x_l4, .int y0, l6, l7, l8] (v.toList ++ []) w1 I1 L1 P1) := by
  refine (go_istore (m := 225) (pc := 1241) (k := 5) (ls' := [.ref a_l0, l1, .ref a_l2, l3, .int x_l4, .int y0, l6, l7, l8]) (by decide +kernel) (by simp only [List.length_cons, List.length_nil]; decide) rfl).trans ?_
  refine (go_aload_n (m := 225) (pc := 1243) (k := 2) (by decide +kernel) rfl).trans ?_
  refine (go_aload_n (m := 225) (pc := 1244) (k := 0) (by decide +kernel) rfl).trans ?_
  refine (go_iload (m := 225) (pc := 1245) (k := 4) (by decide +kernel) rfl).trans ?_
  refine (go_ic (m := 225) (pc := 1247) (n := 1) (by decide +kernel) ic_1).trans ?_
  refine (go_iadd (m := 225) (pc := 1248) (by decide +kernel)).trans ?_
  refine (go_iald14 (m := 225) (pc := 1249) (by decide +kernel) h0).trans ?_
  exact go_vir (m := 225) (pc := 1250) (o := 8) (x := 149) (y := 187) (kd := 0) (b := a_l2) (bs := [.int (I a_l0 (Int32.toNatClampNeg (x_l4 + (nI 1))))]) (rs := []) (by decide +kernel) rfl rfl c_8_149 (Or.inl rfl) rfl rfl rfl (by decide +kernel) (by simp only [List.length_cons, List.length_nil]; decide) (Nat.le_of_ble_eq_true rfl) h1
theorem Law_law_1253 (l0 : Value) (l1 : Value) (a_l2 : Nat) (l3 : Value) (l4 : Value) (l5 : Value) (l6 : Value) (l7 : Value) (l8 : Value) (y0 : Int32) (w : Wd) (I : MI) (L : ML) (P : MP) (h0 : w.1 a_l2 = some (7, 0)) : go 225 1253 [l0, l1, .ref a_l2, l3, l4, l5, l6, l7, l8] [.int y0] w I L P = kC (call 121 [.ref a_l2] w I L P) (fun v w1 I1 L1 P1 => go 225 1259 [l0, l1, .ref a_l2, l3, l4, (fix1 l5), .int y0, l7, l8] (v.toList ++ []) w1 I1 L1 P1) := by
  refine (go_istore (m := 225) (pc := 1253) (k := 6) (ls' := [l0, l1, .ref a_l2, l3, l4, (fix1 l5), .int y0, l7, l8]) (by decide +kernel) (by simp only [List.length_cons, List.length_nil]; decide) rfl).trans ?_
  refine (go_aload_n (m := 225) (pc := 1255) (k := 2) (by decide +kernel) rfl).trans ?_
  exact go_vir (m := 225) (pc := 1256) (o := 8) (x := 88) (y := 121) (kd := 0) (b := a_l2) (bs := []) (rs := []) (by decide +kernel) rfl rfl c_8_88 (Or.inl rfl) rfl rfl rfl (by decide +kernel) (by simp only [List.length_cons, List.length_nil]; decide) (Nat.le_of_ble_eq_true rfl) h0
theorem Law_law_1259 (l0 : Value) (l1 : Value) (l2 : Value) (l3 : Value) (l4 : Value) (x_l5 : Int32) (l6 : Value) (l7 : Value) (l8 : Value) (y0 : Int32) (w : Wd) (I : MI) (L : ML) (P : MP)  : go 225 1259 [l0, l1, l2, l3, l4, .int x_l5, l6, l7, l8] [.int y0] w I L P = if y0 = x_l5 then go 225 1266 [l0, l1, l2, l3, l4, .int x_l5, l6, l7, l8] [] w I L P else go 225 1264 [l0, l1, l2, l3, l4, .int x_l5, l6, l7, l8] [] w I L P := by
  refine (go_iload (m := 225) (pc := 1259) (k := 5) (by decide +kernel) rfl).trans ?_
  exact go_icmpeq (m := 225) (pc := 1261) (off := 5) (t := 1266) (by decide +kernel) (by decide)
theorem Law_law_1264 (l0 : Value) (l1 : Value) (l2 : Value) (l3 : Value) (l4 : Value) (l5 : Value) (l6 : Value) (l7 : Value) (l8 : Value) (w : Wd) (I : MI) (L : ML) (P : MP) (h0 : (nI 0) &&& 1 = (nI 0)) : go 225 1264 [l0, l1, l2, l3, l4, l5, l6, l7, l8] [] w I L P = some (.inl (some (.int (nI 0))), w, I, L, P) := by
  refine (go_ic (m := 225) (pc := 1264) (n := 0) (by decide +kernel) ic_0).trans ?_
  exact go_retZ (m := 225) (pc := 1265) (by decide +kernel) rfl h0
theorem Law_law_1266 (l0 : Value) (l1 : Value) (l2 : Value) (l3 : Value) (l4 : Value) (x_l5 : Int32) (l6 : Value) (l7 : Value) (l8 : Value) (w : Wd) (I : MI) (L : ML) (P : MP)  : go 225 1266 [l0, l1, l2, l3, l4, .int x_l5, l6, l7, l8] [] w I L P = if x_l5 ≠ 0 then go 225 1283 [l0, l1, l2, l3, l4, .int x_l5, l6, l7, l8] [] w I L P else go 225 1271 [l0, l1, l2, l3, l4, .int x_l5, l6, l7, l8] [] w I L P := by
  refine (go_iload (m := 225) (pc := 1266) (k := 5) (by decide +kernel) rfl).trans ?_
  exact go_ifne (m := 225) (pc := 1268) (off := 15) (t := 1283) (by decide +kernel) (by decide)
theorem Law_law_1271 (l0 : Value) (l1 : Value) (l2 : Value) (a_l3 : Nat) (l4 : Value) (l5 : Value) (x_l6 : Int32) (l7 : Value) (l8 : Value) (w : Wd) (I : MI) (L : ML) (P : MP) (h0 : inA w a_l3 9 (nI 0)) : go 225 1271 [l0, l1, l2, .ref a_l3, l4, l5, .int x_l6, l7, l8] [] w I L P = if (lg_cmp (L a_l3 (Int32.toNatClampNeg (nI 0))) (Int32.toInt64 x_l6)) = 0 then go 225 1283 [l0, l1, l2, .ref a_l3, l4, l5, .int x_l6, l7, l8] [] w I L P else go 225 1281 [l0, l1, l2, .ref a_l3, l4, l5, .int x_l6, l7, l8] [] w I L P := by
  refine (go_aload_n (m := 225) (pc := 1271) (k := 3) (by decide +kernel) rfl).trans ?_
  refine (go_ic (m := 225) (pc := 1272) (n := 0) (by decide +kernel) ic_0).trans ?_
  refine (go_lald (m := 225) (pc := 1273) (by decide +kernel) h0).trans ?_
  refine (go_iload (m := 225) (pc := 1274) (k := 6) (by decide +kernel) rfl).trans ?_
  refine (go_i2l (m := 225) (pc := 1276) (by decide +kernel)).trans ?_
  refine (go_lcmp (m := 225) (pc := 1277) (by decide +kernel)).trans ?_
  exact go_ifeq (m := 225) (pc := 1278) (off := 5) (t := 1283) (by decide +kernel) (by decide)
theorem Law_law_1281 (l0 : Value) (l1 : Value) (l2 : Value) (l3 : Value) (l4 : Value) (l5 : Value) (l6 : Value) (l7 : Value) (l8 : Value) (w : Wd) (I : MI) (L : ML) (P : MP) (h0 : (nI 0) &&& 1 = (nI 0)) : go 225 1281 [l0, l1, l2, l3, l4, l5, l6, l7, l8] [] w I L P = some (.inl (some (.int (nI 0))), w, I, L, P) := by
  refine (go_ic (m := 225) (pc := 1281) (n := 0) (by decide +kernel) ic_0).trans ?_
  exact go_retZ (m := 225) (pc := 1282) (by decide +kernel) rfl h0
theorem Law_law_1283 (l0 : Value) (l1 : Value) (l2 : Value) (l3 : Value) (l4 : Value) (l5 : Value) (l6 : Value) (l7 : Value) (l8 : Value) (w : Wd) (I : MI) (L : ML) (P : MP)  : go 225 1283 [l0, l1, l2, l3, l4, l5, l6, l7, l8] [] w I L P = go 225 1536 [l0, l1, l2, l3, l4, l5, l6, l7, l8] [] w I L P := by
  refine (go_goto (m := 225) (pc := 1283) (off := 253) (t := 1536) (by decide +kernel) (by decide)).trans ?_
  rfl
theorem Law_law_1286 (l0 : Value) (a_l1 : Nat) (l2 : Value) (l3 : Value) (l4 : Value) (l5 : Value) (l6 : Value) (l7 : Value) (l8 : Value) (w : Wd) (I : MI) (L : ML) (P : MP) (h0 : w.1 a_l1 = some (6, 0)) : go 225 1286 [l0, .ref a_l1, l2, l3, l4, l5, l6, l7, l8] [] w I L P = kC (call 98 [.ref a_l1] w I L P) (fun v w1 I1 L1 P1 => go 225 1290 [l0, .ref a_l1, l2, l3, l4, l5, l6, l7, l8] (v.toList ++ []) w1 I1 L1 P1) := by
  refine (go_aload_n (m := 225) (pc := 1286) (k := 1) (by decide +kernel) rfl).trans ?_
  exact go_vir (m := 225) (pc := 1287) (o := 8) (x := 150) (y := 98) (kd := 0) (b := a_l1) (bs := []) (rs := []) (by decide +kernel) rfl rfl c_8_150 (Or.inl rfl) rfl rfl rfl (by decide +kernel) (by simp only [List.length_cons, List.length_nil]; decide) (Nat.le_of_ble_eq_true rfl) h0
theorem Law_law_1290 (l0 : Value) (l1 : Value) (a_l2 : Nat) (l3 : Value) (l4 : Value) (l5 : Value) (l6 : Value) (l7 : Value) (l8 : Value) (y0 : Int32) (w : Wd) (I : MI) (L : ML) (P : MP) (h0 : w.1 a_l2 = some (7, 0)) : go 225 1290 [l0, l1, .ref a_l2, l3, l4, l5, l6, l7, l8] [.int y0] w I L P = kC (call 188 [.ref a_l2] w I L P) (fun v w1 I1 L1 P1 => go 225 1294 [l0, l1, .ref a_l2, l3, l4, l5, l6, l7, l8] (v.toList ++ [.int y0]) w1 I1 L1 P1) := by
  refine (go_aload_n (m := 225) (pc := 1290) (k := 2) (by decide +kernel) rfl).trans ?_
  exact go_vir (m := 225) (pc := 1291) (o := 8) (x := 153) (y := 188) (kd := 0) (b := a_l2) (bs := []) (rs := [.int y0]) (by decide +kernel) rfl rfl c_8_153 (Or.inl rfl) rfl rfl rfl (by decide +kernel) (by simp only [List.length_cons, List.length_nil]; decide) (Nat.le_of_ble_eq_true rfl) h0
theorem Law_law_1294 (l0 : Value) (l1 : Value) (l2 : Value) (l3 : Value) (l4 : Value) (l5 : Value) (l6 : Value) (l7 : Value) (l8 : Value) (y0 : Int32) (y1 : Int32) (w : Wd) (I : MI) (L : ML) (P : MP)  : go 225 1294 [l0, l1, l2, l3, l4, l5, l6, l7, l8] [.int y1, .int y0] w I L P = if y0 = y1 then go 225 1536 [l0, l1, l2, l3, l4, l5, l6, l7, l8] [] w I L P else go 225 1297 [l0, l1, l2, l3, l4, l5, l6, l7, l8] [] w I L P := by
  exact go_icmpeq (m := 225) (pc := 1294) (off := 242) (t := 1536) (by decide +kernel) (by decide)
theorem Law_law_1297 (l0 : Value) (l1 : Value) (l2 : Value) (l3 : Value) (l4 : Value) (l5 : Value) (l6 : Value) (l7 : Value) (l8 : Value) (w : Wd) (I : MI) (L : ML) (P : MP) (h0 : (nI 0) &&& 1 = (nI 0)) : go 225 1297 [l0, l1, l2, l3, l4, l5, l6, l7, l8] [] w I L P = some (.inl (some (.int (nI 0))), w, I, L, P) := by
  refine (go_ic (m := 225) (pc := 1297) (n := 0) (by decide +kernel) ic_0).trans ?_
  exact go_retZ (m := 225) (pc := 1298) (by decide +kernel) rfl h0
theorem Law_law_1299_0 (a_l0 : Nat) (l2 : Value) (x_l4 : Int32) (l5 : Value) (l6 : Value) (l7 : Value) (l8 : Value) (w : Wd) (I : MI) (L : ML) (P : MP) (h0 : inA w a_l0 14 (x_l4 + (nI 1))) : go 225 1299 [.ref a_l0, .null, l2, .null, .int x_l4, l5, l6, l7, l8] [] w I L P = kC (call 222 [.null, .int (I a_l0 (Int32.toNatClampNeg (x_l4 + (nI 1)))), .null] w I L P) (fun v w1 I1 L1 P1 => go 225 1310 [.ref a_l0, .null, l2, .null, .int x_l4, l5, l6, l7, l8] (v.toList ++ []) w1 I1 L1 P1) := by
  refine (go_aload_nN (m := 225) (pc := 1299) (k := 1) (by decide +kernel) rfl).trans ?_
  refine (go_aload_n (m := 225) (pc := 1300) (k := 0) (by decide +kernel) rfl).trans ?_
  refine (go_iload (m := 225) (pc := 1301) (k := 4) (by decide +kernel) rfl).trans ?_
  refine (go_ic (m := 225) (pc := 1303) (n := 1) (by decide +kernel) ic_1).trans ?_
  refine (go_iadd (m := 225) (pc := 1304) (by decide +kernel)).trans ?_
  refine (go_iald14 (m := 225) (pc := 1305) (by decide +kernel) h0).trans ?_
  refine (go_aload_nN (m := 225) (pc := 1306) (k := 3) (by decide +kernel) rfl).trans ?_
  exact go_sta (m := 225) (pc := 1307) (o := 8) (x := 154) (y := 222) (kd := 4) (as := [.null, .int (I a_l0 (Int32.toNatClampNeg (x_l4 + (nI 1)))), .null]) (rs := []) (by decide +kernel) rfl rfl c_8_154 (Or.inr (Or.inr rfl)) rfl rfl rfl (by decide +kernel) (by simp only [List.length_cons, List.length_nil]; decide) (Nat.le_of_ble_eq_true rfl)
theorem Law_law_1299_1 (a_l0 : Nat) (l2 : Value) (a_l3 : Nat) (x_l4 : Int32) (l5 : Value) (l6 : Value) (l7 : Value) (l8 : Value) (w : Wd) (I : MI) (L : ML) (P : MP) (h0 : inA w a_l0 14 (x_l4 + (nI 1))) : go 225 1299 [.ref a_l0, .null, l2, .ref a_l3, .int x_l4, l5, l6, l7, l8] [] w I L P = kC (call 222 [.null, .int (I a_l0 (Int32.toNatClampNeg (x_l4 + (nI 1)))), .ref a_l3] w I L P) (fun v w1 I1 L1 P1 => go 225 1310 [.ref a_l0, .null, l2, .ref a_l3, .int x_l4, l5, l6, l7, l8] (v.toList ++ []) w1 I1 L1 P1) := by
  refine (go_aload_nN (m := 225) (pc := 1299) (k := 1) (by decide +kernel) rfl).trans ?_
  refine (go_aload_n (m := 225) (pc := 1300) (k := 0) (by decide +kernel) rfl).trans ?_
  refine (go_iload (m := 225) (pc := 1301) (k := 4) (by decide +kernel) rfl).trans ?_
  refine (go_ic (m := 225) (pc := 1303) (n := 1) (by decide +kernel) ic_1).trans ?_
  refine (go_iadd (m := 225) (pc := 1304) (by decide +kernel)).trans ?_
  refine (go_iald14 (m := 225) (pc := 1305) (by decide +kernel) h0).trans ?_
  refine (go_aload_n (m := 225) (pc := 1306) (k := 3) (by decide +kernel) rfl).trans ?_
  exact go_sta (m := 225) (pc := 1307) (o := 8) (x := 154) (y := 222) (kd := 4) (as := [.null, .int (I a_l0 (Int32.toNatClampNeg (x_l4 + (nI 1)))), .ref a_l3]) (rs := []) (by decide +kernel) rfl rfl c_8_154 (Or.inr (Or.inr rfl)) rfl rfl rfl (by decide +kernel) (by simp only [List.length_cons, List.length_nil]; decide) (Nat.le_of_ble_eq_true rfl)
theorem Law_law_1299_2 (a_l0 : Nat) (a_l1 : Nat) (l2 : Value) (x_l4 : Int32) (l5 : Value) (l6 : Value) (l7 : Value) (l8 : Value) (w : Wd) (I : MI) (L : ML) (P : MP) (h0 : inA w a_l0 14 (x_l4 + (nI 1))) : go 225 1299 [.ref a_l0, .ref a_l1, l2, .null, .int x_l4, l5, l6, l7, l8] [] w I L P = kC (call 222 [.ref a_l1, .int (I a_l0 (Int32.toNatClampNeg (x_l4 + (nI 1)))), .null] w I L P) (fun v w1 I1 L1 P1 => go 225 1310 [.ref a_l0, .ref a_l1, l2, .null, .int x_l4, l5, l6, l7, l8] (v.toList ++ []) w1 I1 L1 P1) := by
  refine (go_aload_n (m := 225) (pc := 1299) (k := 1) (by decide +kernel) rfl).trans ?_
  refine (go_aload_n (m := 225) (pc := 1300) (k := 0) (by decide +kernel) rfl).trans ?_
  refine (go_iload (m := 225) (pc := 1301) (k := 4) (by decide +kernel) rfl).trans ?_
  refine (go_ic (m := 225) (pc := 1303) (n := 1) (by decide +kernel) ic_1).trans ?_
  refine (go_iadd (m := 225) (pc := 1304) (by decide +kernel)).trans ?_
  refine (go_iald14 (m := 225) (pc := 1305) (by decide +kernel) h0).trans ?_
  refine (go_aload_nN (m := 225) (pc := 1306) (k := 3) (by decide +kernel) rfl).trans ?_
  exact go_sta (m := 225) (pc := 1307) (o := 8) (x := 154) (y := 222) (kd := 4) (as := [.ref a_l1, .int (I a_l0 (Int32.toNatClampNeg (x_l4 + (nI 1)))), .null]) (rs := []) (by decide +kernel) rfl rfl c_8_154 (Or.inr (Or.inr rfl)) rfl rfl rfl (by decide +kernel) (by simp only [List.length_cons, List.length_nil]; decide) (Nat.le_of_ble_eq_true rfl)
theorem Law_law_1299_3 (a_l0 : Nat) (a_l1 : Nat) (l2 : Value) (a_l3 : Nat) (x_l4 : Int32) (l5 : Value) (l6 : Value) (l7 : Value) (l8 : Value) (w : Wd) (I : MI) (L : ML) (P : MP) (h0 : inA w a_l0 14 (x_l4 + (nI 1))) : go 225 1299 [.ref a_l0, .ref a_l1, l2, .ref a_l3, .int x_l4, l5, l6, l7, l8] [] w I L P = kC (call 222 [.ref a_l1, .int (I a_l0 (Int32.toNatClampNeg (x_l4 + (nI 1)))), .ref a_l3] w I L P) (fun v w1 I1 L1 P1 => go 225 1310 [.ref a_l0, .ref a_l1, l2, .ref a_l3, .int x_l4, l5, l6, l7, l8] (v.toList ++ []) w1 I1 L1 P1) := by
  refine (go_aload_n (m := 225) (pc := 1299) (k := 1) (by decide +kernel) rfl).trans ?_
  refine (go_aload_n (m := 225) (pc := 1300) (k := 0) (by decide +kernel) rfl).trans ?_
  refine (go_iload (m := 225) (pc := 1301) (k := 4) (by decide +kernel) rfl).trans ?_
  refine (go_ic (m := 225) (pc := 1303) (n := 1) (by decide +kernel) ic_1).trans ?_
  refine (go_iadd (m := 225) (pc := 1304) (by decide +kernel)).trans ?_
  refine (go_iald14 (m := 225) (pc := 1305) (by decide +kernel) h0).trans ?_
  refine (go_aload_n (m := 225) (pc := 1306) (k := 3) (by decide +kernel) rfl).trans ?_
  exact go_sta (m := 225) (pc := 1307) (o := 8) (x := 154) (y := 222) (kd := 4) (as := [.ref a_l1, .int (I a_l0 (Int32.toNatClampNeg (x_l4 + (nI 1)))), .ref a_l3]) (rs := []) (by decide +kernel) rfl rfl c_8_154 (Or.inr (Or.inr rfl)) rfl rfl rfl (by decide +kernel) (by simp only [List.length_cons, List.length_nil]; decide) (Nat.le_of_ble_eq_true rfl)
theorem Law_law_1310 (a_l0 : Nat) (l1 : Value) (a_l2 : Nat) (l3 : Value) (x_l4 : Int32) (l5 : Value) (l6 : Value) (l7 : Value) (l8 : Value) (y0 : Int32) (w : Wd) (I : MI) (L : ML) (P : MP) (h0 : inA w a_l0 14 (x_l4 + (nI 1))) (h1 : w.1 a_l2 = some (7, 0)) : go 225 1310 [.ref a_l0, l1, .ref a_l2, l3, .int x_l4, l5, l6, l7, l8] [.int y0] w I L P = kC (call 189 [.ref a_l2, .int (I a_l0 (Int32.toNatClampNeg (x_l4 + (nI 1))))] w I L P) (fun v w1 I1 L1 P1 => go 225 1322 [.ref a_l0, l1, .ref a_l2, l3, .int x_l4, .int y0, l6, l7, l8] (v.toList ++ []) w1 I1 L1 P1) := by
  refine (go_istore (m := 225) (pc := 1310) (k := 5) (ls' := [.ref a_l0, l1, .ref a_l2, l3, .int x_l4, .int y0, l6, l7, l8]) (by decide +kernel) (by simp only [List.length_cons, List.length_nil]; decide) rfl).trans ?_
  refine (go_aload_n (m := 225) (pc := 1312) (k := 2) (by decide +kernel) rfl).trans ?_
  refine (go_aload_n (m := 225) (pc := 1313) (k := 0) (by decide +kernel) rfl).trans ?_
  refine (go_iload (m := 225) (pc := 1314) (k := 4) (by decide +kernel) rfl).trans ?_
  refine (go_ic (m := 225) (pc := 1316) (n := 1) (by decide +kernel) ic_1).trans ?_
  refine (go_iadd (m := 225) (pc := 1317) (by decide +kernel)).trans ?_
  refine (go_iald14 (m := 225) (pc := 1318) (by decide +kernel) h0).trans ?_
  exact go_vir (m := 225) (pc := 1319) (o := 8) (x := 156) (y := 189) (kd := 0) (b := a_l2) (bs := [.int (I a_l0 (Int32.toNatClampNeg (x_l4 + (nI 1))))]) (rs := []) (by decide +kernel) rfl rfl c_8_156 (Or.inl rfl) rfl rfl rfl (by decide +kernel) (by simp only [List.length_cons, List.length_nil]; decide) (Nat.le_of_ble_eq_true rfl) h1
theorem Law_law_1322 (l0 : Value) (l1 : Value) (a_l2 : Nat) (l3 : Value) (l4 : Value) (l5 : Value) (l6 : Value) (l7 : Value) (l8 : Value) (y0 : Int32) (w : Wd) (I : MI) (L : ML) (P : MP) (h0 : w.1 a_l2 = some (7, 0)) : go 225 1322 [l0, l1, .ref a_l2, l3, l4, l5, l6, l7, l8] [.int y0] w I L P = kC (call 121 [.ref a_l2] w I L P) (fun v w1 I1 L1 P1 => go 225 1328 [l0, l1, .ref a_l2, l3, l4, (fix1 l5), .int y0, l7, l8] (v.toList ++ []) w1 I1 L1 P1) := by
  refine (go_istore (m := 225) (pc := 1322) (k := 6) (ls' := [l0, l1, .ref a_l2, l3, l4, (fix1 l5), .int y0, l7, l8]) (by decide +kernel) (by simp only [List.length_cons, List.length_nil]; decide) rfl).trans ?_
  refine (go_aload_n (m := 225) (pc := 1324) (k := 2) (by decide +kernel) rfl).trans ?_
  exact go_vir (m := 225) (pc := 1325) (o := 8) (x := 88) (y := 121) (kd := 0) (b := a_l2) (bs := []) (rs := []) (by decide +kernel) rfl rfl c_8_88 (Or.inl rfl) rfl rfl rfl (by decide +kernel) (by simp only [List.length_cons, List.length_nil]; decide) (Nat.le_of_ble_eq_true rfl) h0
theorem Law_law_1328 (l0 : Value) (l1 : Value) (l2 : Value) (l3 : Value) (l4 : Value) (x_l5 : Int32) (l6 : Value) (l7 : Value) (l8 : Value) (y0 : Int32) (w : Wd) (I : MI) (L : ML) (P : MP)  : go 225 1328 [l0, l1, l2, l3, l4, .int x_l5, l6, l7, l8] [.int y0] w I L P = if y0 = x_l5 then go 225 1335 [l0, l1, l2, l3, l4, .int x_l5, l6, l7, l8] [] w I L P else go 225 1333 [l0, l1, l2, l3, l4, .int x_l5, l6, l7, l8] [] w I L P := by
  refine (go_iload (m := 225) (pc := 1328) (k := 5) (by decide +kernel) rfl).trans ?_
  exact go_icmpeq (m := 225) (pc := 1330) (off := 5) (t := 1335) (by decide +kernel) (by decide)
theorem Law_law_1333 (l0 : Value) (l1 : Value) (l2 : Value) (l3 : Value) (l4 : Value) (l5 : Value) (l6 : Value) (l7 : Value) (l8 : Value) (w : Wd) (I : MI) (L : ML) (P : MP) (h0 : (nI 0) &&& 1 = (nI 0)) : go 225 1333 [l0, l1, l2, l3, l4, l5, l6, l7, l8] [] w I L P = some (.inl (some (.int (nI 0))), w, I, L, P) := by
  refine (go_ic (m := 225) (pc := 1333) (n := 0) (by decide +kernel) ic_0).trans ?_
  exact go_retZ (m := 225) (pc := 1334) (by decide +kernel) rfl h0
theorem Law_law_1335 (l0 : Value) (l1 : Value) (l2 : Value) (l3 : Value) (l4 : Value) (x_l5 : Int32) (l6 : Value) (l7 : Value) (l8 : Value) (w : Wd) (I : MI) (L : ML) (P : MP)  : go 225 1335 [l0, l1, l2, l3, l4, .int x_l5, l6, l7, l8] [] w I L P = if x_l5 ≠ 0 then go 225 1352 [l0, l1, l2, l3, l4, .int x_l5, l6, l7, l8] [] w I L P else go 225 1340 [l0, l1, l2, l3, l4, .int x_l5, l6, l7, l8] [] w I L P := by
  refine (go_iload (m := 225) (pc := 1335) (k := 5) (by decide +kernel) rfl).trans ?_
  exact go_ifne (m := 225) (pc := 1337) (off := 15) (t := 1352) (by decide +kernel) (by decide)
theorem Law_law_1340 (l0 : Value) (l1 : Value) (l2 : Value) (a_l3 : Nat) (l4 : Value) (l5 : Value) (x_l6 : Int32) (l7 : Value) (l8 : Value) (w : Wd) (I : MI) (L : ML) (P : MP) (h0 : inA w a_l3 9 (nI 0)) : go 225 1340 [l0, l1, l2, .ref a_l3, l4, l5, .int x_l6, l7, l8] [] w I L P = if (lg_cmp (L a_l3 (Int32.toNatClampNeg (nI 0))) (Int32.toInt64 x_l6)) = 0 then go 225 1352 [l0, l1, l2, .ref a_l3, l4, l5, .int x_l6, l7, l8] [] w I L P else go 225 1350 [l0, l1, l2, .ref a_l3, l4, l5, .int x_l6, l7, l8] [] w I L P := by
  refine (go_aload_n (m := 225) (pc := 1340) (k := 3) (by decide +kernel) rfl).trans ?_
  refine (go_ic (m := 225) (pc := 1341) (n := 0) (by decide +kernel) ic_0).trans ?_
  refine (go_lald (m := 225) (pc := 1342) (by decide +kernel) h0).trans ?_
  refine (go_iload (m := 225) (pc := 1343) (k := 6) (by decide +kernel) rfl).trans ?_
  refine (go_i2l (m := 225) (pc := 1345) (by decide +kernel)).trans ?_
  refine (go_lcmp (m := 225) (pc := 1346) (by decide +kernel)).trans ?_
  exact go_ifeq (m := 225) (pc := 1347) (off := 5) (t := 1352) (by decide +kernel) (by decide)
theorem Law_law_1350 (l0 : Value) (l1 : Value) (l2 : Value) (l3 : Value) (l4 : Value) (l5 : Value) (l6 : Value) (l7 : Value) (l8 : Value) (w : Wd) (I : MI) (L : ML) (P : MP) (h0 : (nI 0) &&& 1 = (nI 0)) : go 225 1350 [l0, l1, l2, l3, l4, l5, l6, l7, l8] [] w I L P = some (.inl (some (.int (nI 0))), w, I, L, P) := by
  refine (go_ic (m := 225) (pc := 1350) (n := 0) (by decide +kernel) ic_0).trans ?_
  exact go_retZ (m := 225) (pc := 1351) (by decide +kernel) rfl h0
theorem Law_law_1352 (l0 : Value) (l1 : Value) (l2 : Value) (l3 : Value) (l4 : Value) (l5 : Value) (l6 : Value) (l7 : Value) (l8 : Value) (w : Wd) (I : MI) (L : ML) (P : MP)  : go 225 1352 [l0, l1, l2, l3, l4, l5, l6, l7, l8] [] w I L P = go 225 1536 [l0, l1, l2, l3, l4, l5, l6, l7, l8] [] w I L P := by
  refine (go_goto (m := 225) (pc := 1352) (off := 184) (t := 1536) (by decide +kernel) (by decide)).trans ?_
  rfl
theorem Law_law_1355 (l0 : Value) (a_l1 : Nat) (l2 : Value) (l3 : Value) (l4 : Value) (l5 : Value) (l6 : Value) (l7 : Value) (l8 : Value) (w : Wd) (I : MI) (L : ML) (P : MP) (h0 : w.1 a_l1 = some (6, 0)) : go 225 1355 [l0, .ref a_l1, l2, l3, l4, l5, l6, l7, l8] [] w I L P = kC (call 100 [.ref a_l1] w I L P) (fun v w1 I1 L1 P1 => go 225 1359 [l0, .ref a_l1, l2, l3, l4, l5, l6, l7, l8] (v.toList ++ []) w1 I1 L1 P1) := by
  refine (go_aload_n (m := 225) (pc := 1355) (k := 1) (by decide +kernel) rfl).trans ?_
  exact go_vir (m := 225) (pc := 1356) (o := 8) (x := 157) (y := 100) (kd := 0) (b := a_l1) (bs := []) (rs := []) (by decide +kernel) rfl rfl c_8_157 (Or.inl rfl) rfl rfl rfl (by decide +kernel) (by simp only [List.length_cons, List.length_nil]; decide) (Nat.le_of_ble_eq_true rfl) h0
theorem Law_law_1359 (l0 : Value) (l1 : Value) (a_l2 : Nat) (l3 : Value) (l4 : Value) (l5 : Value) (l6 : Value) (l7 : Value) (l8 : Value) (y0 : UInt64) (w : Wd) (I : MI) (L : ML) (P : MP) (h0 : w.1 a_l2 = some (7, 0)) : go 225 1359 [l0, l1, .ref a_l2, l3, l4, l5, l6, l7, l8] [.double y0] w I L P = kC (call 190 [.ref a_l2] w I L P) (fun v w1 I1 L1 P1 => go 225 1365 [l0, l1, .ref a_l2, l3, (fix1 l4), .double y0, unk, l7, l8] (v.toList ++ []) w1 I1 L1 P1) := by
  refine (go_dstore (m := 225) (pc := 1359) (k := 5) (ls' := [l0, l1, .ref a_l2, l3, (fix1 l4), .double y0, unk, l7, l8]) (by decide +kernel) (by simp only [List.length_cons, List.length_nil]; decide) rfl).trans ?_
  refine (go_aload_n (m := 225) (pc := 1361) (k := 2) (by decide +kernel) rfl).trans ?_
  exact go_vir (m := 225) (pc := 1362) (o := 8) (x := 161) (y := 190) (kd := 0) (b := a_l2) (bs := []) (rs := []) (by decide +kernel) rfl rfl c_8_161 (Or.inl rfl) rfl rfl rfl (by decide +kernel) (by simp only [List.length_cons, List.length_nil]; decide) (Nat.le_of_ble_eq_true rfl) h0
theorem Law_law_1365 (l0 : Value) (l1 : Value) (l2 : Value) (l3 : Value) (l4 : Value) (x_l5 : UInt64) (l6 : Value) (l7 : Value) (l8 : Value) (y0 : UInt64) (w : Wd) (I : MI) (L : ML) (P : MP)  : go 225 1365 [l0, l1, l2, l3, l4, .double x_l5, l6, l7, l8] [.double y0] w I L P = if (Op.cmpValue (FP.dcmp x_l5 y0) .l) = 0 then go 225 1393 [l0, l1, l2, l3, l4, .double x_l5, (fix1 l6), .double y0, unk] [] w I L P else go 225 1375 [l0, l1, l2, l3, l4, .double x_l5, (fix1 l6), .double y0, unk] [] w I L P := by
  refine (go_dstore (m := 225) (pc := 1365) (k := 7) (ls' := [l0, l1, l2, l3, l4, .double x_l5, (fix1 l6), .double y0, unk]) (by decide +kernel) (by simp only [List.length_cons, List.length_nil]; decide) rfl).trans ?_
  refine (go_dload (m := 225) (pc := 1367) (k := 5) (by decide +kernel) rfl).trans ?_
  refine (go_dload (m := 225) (pc := 1369) (k := 7) (by decide +kernel) rfl).trans ?_
  refine (go_dcmp (m := 225) (pc := 1371) (op := .l) (by decide +kernel)).trans ?_
  exact go_ifeq (m := 225) (pc := 1372) (off := 21) (t := 1393) (by decide +kernel) (by decide)
theorem Law_law_1375 (l0 : Value) (l1 : Value) (l2 : Value) (l3 : Value) (l4 : Value) (x_l5 : UInt64) (l6 : Value) (l7 : Value) (l8 : Value) (w : Wd) (I : MI) (L : ML) (P : MP)  : go 225 1375 [l0, l1, l2, l3, l4, .double x_l5, l6, l7, l8] [] w I L P = if (Op.cmpValue (FP.dcmp x_l5 x_l5) .l) = 0 then go 225 1391 [l0, l1, l2, l3, l4, .double x_l5, l6, l7, l8] [] w I L P else go 225 1383 [l0, l1, l2, l3, l4, .double x_l5, l6, l7, l8] [] w I L P := by
  refine (go_dload (m := 225) (pc := 1375) (k := 5) (by decide +kernel) rfl).trans ?_
  refine (go_dload (m := 225) (pc := 1377) (k := 5) (by decide +kernel) rfl).trans ?_
  refine (go_dcmp (m := 225) (pc := 1379) (op := .l) (by decide +kernel)).trans ?_
  exact go_ifeq (m := 225) (pc := 1380) (off := 11) (t := 1391) (by decide +kernel) (by decide)
theorem Law_law_1383 (l0 : Value) (l1 : Value) (l2 : Value) (l3 : Value) (l4 : Value) (l5 : Value) (l6 : Value) (x_l7 : UInt64) (l8 : Value) (w : Wd) (I : MI) (L : ML) (P : MP)  : go 225 1383 [l0, l1, l2, l3, l4, l5, l6, .double x_l7, l8] [] w I L P = if (Op.cmpValue (FP.dcmp x_l7 x_l7) .l) ≠ 0 then go 225 1393 [l0, l1, l2, l3, l4, l5, l6, .double x_l7, l8] [] w I L P else go 225 1391 [l0, l1, l2, l3, l4, l5, l6, .double x_l7, l8] [] w I L P := by
  refine (go_dload (m := 225) (pc := 1383) (k := 7) (by decide +kernel) rfl).trans ?_
  refine (go_dload (m := 225) (pc := 1385) (k := 7) (by decide +kernel) rfl).trans ?_
  refine (go_dcmp (m := 225) (pc := 1387) (op := .l) (by decide +kernel)).trans ?_
  exact go_ifne (m := 225) (pc := 1388) (off := 5) (t := 1393) (by decide +kernel) (by decide)
theorem Law_law_1391 (l0 : Value) (l1 : Value) (l2 : Value) (l3 : Value) (l4 : Value) (l5 : Value) (l6 : Value) (l7 : Value) (l8 : Value) (w : Wd) (I : MI) (L : ML) (P : MP) (h0 : (nI 0) &&& 1 = (nI 0)) : go 225 1391 [l0, l1, l2, l3, l4, l5, l6, l7, l8] [] w I L P = some (.inl (some (.int (nI 0))), w, I, L, P) := by
  refine (go_ic (m := 225) (pc := 1391) (n := 0) (by decide +kernel) ic_0).trans ?_
  exact go_retZ (m := 225) (pc := 1392) (by decide +kernel) rfl h0
theorem Law_law_1393 (l0 : Value) (l1 : Value) (l2 : Value) (l3 : Value) (l4 : Value) (l5 : Value) (l6 : Value) (l7 : Value) (l8 : Value) (w : Wd) (I : MI) (L : ML) (P : MP)  : go 225 1393 [l0, l1, l2, l3, l4, l5, l6, l7, l8] [] w I L P = go 225 1536 [l0, l1, l2, l3, l4, l5, l6, l7, l8] [] w I L P := by
  refine (go_goto (m := 225) (pc := 1393) (off := 143) (t := 1536) (by decide +kernel) (by decide)).trans ?_
  rfl
theorem Law_law_1396_0 (a_l0 : Nat) (l2 : Value) (x_l4 : Int32) (l5 : Value) (l6 : Value) (l7 : Value) (l8 : Value) (w : Wd) (I : MI) (L : ML) (P : MP) (h0 : inA w a_l0 14 (x_l4 + (nI 1))) : go 225 1396 [.ref a_l0, .null, l2, .null, .int x_l4, l5, l6, l7, l8] [] w I L P = kC (call 223 [.null, .int (I a_l0 (Int32.toNatClampNeg (x_l4 + (nI 1)))), .null] w I L P) (fun v w1 I1 L1 P1 => go 225 1407 [.ref a_l0, .null, l2, .null, .int x_l4, l5, l6, l7, l8] (v.toList ++ []) w1 I1 L1 P1) := by
  refine (go_aload_nN (m := 225) (pc := 1396) (k := 1) (by decide +kernel) rfl).trans ?_
  refine (go_aload_n (m := 225) (pc := 1397) (k := 0) (by decide +kernel) rfl).trans ?_
  refine (go_iload (m := 225) (pc := 1398) (k := 4) (by decide +kernel) rfl).trans ?_
  refine (go_ic (m := 225) (pc := 1400) (n := 1) (by decide +kernel) ic_1).trans ?_
  refine (go_iadd (m := 225) (pc := 1401) (by decide +kernel)).trans ?_
  refine (go_iald14 (m := 225) (pc := 1402) (by decide +kernel) h0).trans ?_
  refine (go_aload_nN (m := 225) (pc := 1403) (k := 3) (by decide +kernel) rfl).trans ?_
  exact go_sta (m := 225) (pc := 1404) (o := 8) (x := 162) (y := 223) (kd := 4) (as := [.null, .int (I a_l0 (Int32.toNatClampNeg (x_l4 + (nI 1)))), .null]) (rs := []) (by decide +kernel) rfl rfl c_8_162 (Or.inr (Or.inr rfl)) rfl rfl rfl (by decide +kernel) (by simp only [List.length_cons, List.length_nil]; decide) (Nat.le_of_ble_eq_true rfl)
theorem Law_law_1396_1 (a_l0 : Nat) (l2 : Value) (a_l3 : Nat) (x_l4 : Int32) (l5 : Value) (l6 : Value) (l7 : Value) (l8 : Value) (w : Wd) (I : MI) (L : ML) (P : MP) (h0 : inA w a_l0 14 (x_l4 + (nI 1))) : go 225 1396 [.ref a_l0, .null, l2, .ref a_l3, .int x_l4, l5, l6, l7, l8] [] w I L P = kC (call 223 [.null, .int (I a_l0 (Int32.toNatClampNeg (x_l4 + (nI 1)))), .ref a_l3] w I L P) (fun v w1 I1 L1 P1 => go 225 1407 [.ref a_l0, .null, l2, .ref a_l3, .int x_l4, l5, l6, l7, l8] (v.toList ++ []) w1 I1 L1 P1) := by
  refine (go_aload_nN (m := 225) (pc := 1396) (k := 1) (by decide +kernel) rfl).trans ?_
  refine (go_aload_n (m := 225) (pc := 1397) (k := 0) (by decide +kernel) rfl).trans ?_
  refine (go_iload (m := 225) (pc := 1398) (k := 4) (by decide +kernel) rfl).trans ?_
  refine (go_ic (m := 225) (pc := 1400) (n := 1) (by decide +kernel) ic_1).trans ?_
  refine (go_iadd (m := 225) (pc := 1401) (by decide +kernel)).trans ?_
  refine (go_iald14 (m := 225) (pc := 1402) (by decide +kernel) h0).trans ?_
  refine (go_aload_n (m := 225) (pc := 1403) (k := 3) (by decide +kernel) rfl).trans ?_
  exact go_sta (m := 225) (pc := 1404) (o := 8) (x := 162) (y := 223) (kd := 4) (as := [.null, .int (I a_l0 (Int32.toNatClampNeg (x_l4 + (nI 1)))), .ref a_l3]) (rs := []) (by decide +kernel) rfl rfl c_8_162 (Or.inr (Or.inr rfl)) rfl rfl rfl (by decide +kernel) (by simp only [List.length_cons, List.length_nil]; decide) (Nat.le_of_ble_eq_true rfl)
theorem Law_law_1396_2 (a_l0 : Nat) (a_l1 : Nat) (l2 : Value) (x_l4 : Int32) (l5 : Value) (l6 : Value) (l7 : Value) (l8 : Value) (w : Wd) (I : MI) (L : ML) (P : MP) (h0 : inA w a_l0 14 (x_l4 + (nI 1))) : go 225 1396 [.ref a_l0, .ref a_l1, l2, .null, .int x_l4, l5, l6, l7, l8] [] w I L P = kC (call 223 [.ref a_l1, .int (I a_l0 (Int32.toNatClampNeg (x_l4 + (nI 1)))), .null] w I L P) (fun v w1 I1 L1 P1 => go 225 1407 [.ref a_l0, .ref a_l1, l2, .null, .int x_l4, l5, l6, l7, l8] (v.toList ++ []) w1 I1 L1 P1) := by
  refine (go_aload_n (m := 225) (pc := 1396) (k := 1) (by decide +kernel) rfl).trans ?_
  refine (go_aload_n (m := 225) (pc := 1397) (k := 0) (by decide +kernel) rfl).trans ?_
  refine (go_iload (m := 225) (pc := 1398) (k := 4) (by decide +kernel) rfl).trans ?_
  refine (go_ic (m := 225) (pc := 1400) (n := 1) (by decide +kernel) ic_1).trans ?_
  refine (go_iadd (m := 225) (pc := 1401) (by decide +kernel)).trans ?_
  refine (go_iald14 (m := 225) (pc := 1402) (by decide +kernel) h0).trans ?_
  refine (go_aload_nN (m := 225) (pc := 1403) (k := 3) (by decide +kernel) rfl).trans ?_
  exact go_sta (m := 225) (pc := 1404) (o := 8) (x := 162) (y := 223) (kd := 4) (as := [.ref a_l1, .int (I a_l0 (Int32.toNatClampNeg (x_l4 + (nI 1)))), .null]) (rs := []) (by decide +kernel) rfl rfl c_8_162 (Or.inr (Or.inr rfl)) rfl rfl rfl (by decide +kernel) (by simp only [List.length_cons, List.length_nil]; decide) (Nat.le_of_ble_eq_true rfl)
theorem Law_law_1396_3 (a_l0 : Nat) (a_l1 : Nat) (l2 : Value) (a_l3 : Nat) (x_l4 : Int32) (l5 : Value) (l6 : Value) (l7 : Value) (l8 : Value) (w : Wd) (I : MI) (L : ML) (P : MP) (h0 : inA w a_l0 14 (x_l4 + (nI 1))) : go 225 1396 [.ref a_l0, .ref a_l1, l2, .ref a_l3, .int x_l4, l5, l6, l7, l8] [] w I L P = kC (call 223 [.ref a_l1, .int (I a_l0 (Int32.toNatClampNeg (x_l4 + (nI 1)))), .ref a_l3] w I L P) (fun v w1 I1 L1 P1 => go 225 1407 [.ref a_l0, .ref a_l1, l2, .ref a_l3, .int x_l4, l5, l6, l7, l8] (v.toList ++ []) w1 I1 L1 P1) := by
  refine (go_aload_n (m := 225) (pc := 1396) (k := 1) (by decide +kernel) rfl).trans ?_
  refine (go_aload_n (m := 225) (pc := 1397) (k := 0) (by decide +kernel) rfl).trans ?_
  refine (go_iload (m := 225) (pc := 1398) (k := 4) (by decide +kernel) rfl).trans ?_
  refine (go_ic (m := 225) (pc := 1400) (n := 1) (by decide +kernel) ic_1).trans ?_
  refine (go_iadd (m := 225) (pc := 1401) (by decide +kernel)).trans ?_
  refine (go_iald14 (m := 225) (pc := 1402) (by decide +kernel) h0).trans ?_
  refine (go_aload_n (m := 225) (pc := 1403) (k := 3) (by decide +kernel) rfl).trans ?_
  exact go_sta (m := 225) (pc := 1404) (o := 8) (x := 162) (y := 223) (kd := 4) (as := [.ref a_l1, .int (I a_l0 (Int32.toNatClampNeg (x_l4 + (nI 1)))), .ref a_l3]) (rs := []) (by decide +kernel) rfl rfl c_8_162 (Or.inr (Or.inr rfl)) rfl rfl rfl (by decide +kernel) (by simp only [List.length_cons, List.length_nil]; decide) (Nat.le_of_ble_eq_true rfl)
theorem Law_law_1407 (a_l0 : Nat) (l1 : Value) (a_l2 : Nat) (l3 : Value) (x_l4 : Int32) (l5 : Value) (l6 : Value) (l7 : Value) (l8 : Value) (y0 : Int32) (w : Wd) (I : MI) (L : ML) (P : MP) (h0 : inA w a_l0 14 (x_l4 + (nI 1))) (h1 : w.1 a_l2 = some (7, 0)) : go 225 1407 [.ref a_l0, l1, .ref a_l2, l3, .int x_l4, l5, l6, l7, l8] [.int y0] w I L P = kC (call 191 [.ref a_l2, .int (I a_l0 (Int32.toNatClampNeg (x_l4 + (nI 1))))] w I L P) (fun v w1 I1 L1 P1 => go 225 1419 [.ref a_l0, l1, .ref a_l2, l3, .int x_l4, .int y0, l6, l7, l8] (v.toList ++ []) w1 I1 L1 P1) := by
  refine (go_istore (m := 225) (pc := 1407) (k := 5) (ls' := [.ref a_l0, l1, .ref a_l2, l3, .int x_l4, .int y0, l6, l7, l8]) (by decide +kernel) (by simp only [List.length_cons, List.length_nil]; decide) rfl).trans ?_
  refine (go_aload_n (m := 225) (pc := 1409) (k := 2) (by decide +kernel) rfl).trans ?_
  refine (go_aload_n (m := 225) (pc := 1410) (k := 0) (by decide +kernel) rfl).trans ?_
  refine (go_iload (m := 225) (pc := 1411) (k := 4) (by decide +kernel) rfl).trans ?_
  refine (go_ic (m := 225) (pc := 1413) (n := 1) (by decide +kernel) ic_1).trans ?_
  refine (go_iadd (m := 225) (pc := 1414) (by decide +kernel)).trans ?_
  refine (go_iald14 (m := 225) (pc := 1415) (by decide +kernel) h0).trans ?_
  exact go_vir (m := 225) (pc := 1416) (o := 8) (x := 164) (y := 191) (kd := 0) (b := a_l2) (bs := [.int (I a_l0 (Int32.toNatClampNeg (x_l4 + (nI 1))))]) (rs := []) (by decide +kernel) rfl rfl c_8_164 (Or.inl rfl) rfl rfl rfl (by decide +kernel) (by simp only [List.length_cons, List.length_nil]; decide) (Nat.le_of_ble_eq_true rfl) h1
theorem Law_law_1419 (l0 : Value) (l1 : Value) (a_l2 : Nat) (l3 : Value) (l4 : Value) (l5 : Value) (l6 : Value) (l7 : Value) (l8 : Value) (y0 : Int32) (w : Wd) (I : MI) (L : ML) (P : MP) (h0 : w.1 a_l2 = some (7, 0)) : go 225 1419 [l0, l1, .ref a_l2, l3, l4, l5, l6, l7, l8] [.int y0] w I L P = kC (call 121 [.ref a_l2] w I L P) (fun v w1 I1 L1 P1 => go 225 1425 [l0, l1, .ref a_l2, l3, l4, (fix1 l5), .int y0, l7, l8] (v.toList ++ []) w1 I1 L1 P1) := by
  refine (go_istore (m := 225) (pc := 1419) (k := 6) (ls' := [l0, l1, .ref a_l2, l3, l4, (fix1 l5), .int y0, l7, l8]) (by decide +kernel) (by simp only [List.length_cons, List.length_nil]; decide) rfl).trans ?_
  refine (go_aload_n (m := 225) (pc := 1421) (k := 2) (by decide +kernel) rfl).trans ?_
  exact go_vir (m := 225) (pc := 1422) (o := 8) (x := 88) (y := 121) (kd := 0) (b := a_l2) (bs := []) (rs := []) (by decide +kernel) rfl rfl c_8_88 (Or.inl rfl) rfl rfl rfl (by decide +kernel) (by simp only [List.length_cons, List.length_nil]; decide) (Nat.le_of_ble_eq_true rfl) h0
theorem Law_law_1425 (l0 : Value) (l1 : Value) (l2 : Value) (l3 : Value) (l4 : Value) (x_l5 : Int32) (l6 : Value) (l7 : Value) (l8 : Value) (y0 : Int32) (w : Wd) (I : MI) (L : ML) (P : MP)  : go 225 1425 [l0, l1, l2, l3, l4, .int x_l5, l6, l7, l8] [.int y0] w I L P = if y0 = x_l5 then go 225 1432 [l0, l1, l2, l3, l4, .int x_l5, l6, l7, l8] [] w I L P else go 225 1430 [l0, l1, l2, l3, l4, .int x_l5, l6, l7, l8] [] w I L P := by
  refine (go_iload (m := 225) (pc := 1425) (k := 5) (by decide +kernel) rfl).trans ?_
  exact go_icmpeq (m := 225) (pc := 1427) (off := 5) (t := 1432) (by decide +kernel) (by decide)
theorem Law_law_1430 (l0 : Value) (l1 : Value) (l2 : Value) (l3 : Value) (l4 : Value) (l5 : Value) (l6 : Value) (l7 : Value) (l8 : Value) (w : Wd) (I : MI) (L : ML) (P : MP) (h0 : (nI 0) &&& 1 = (nI 0)) : go 225 1430 [l0, l1, l2, l3, l4, l5, l6, l7, l8] [] w I L P = some (.inl (some (.int (nI 0))), w, I, L, P) := by
  refine (go_ic (m := 225) (pc := 1430) (n := 0) (by decide +kernel) ic_0).trans ?_
  exact go_retZ (m := 225) (pc := 1431) (by decide +kernel) rfl h0
theorem Law_law_1432 (l0 : Value) (l1 : Value) (l2 : Value) (l3 : Value) (l4 : Value) (x_l5 : Int32) (l6 : Value) (l7 : Value) (l8 : Value) (w : Wd) (I : MI) (L : ML) (P : MP)  : go 225 1432 [l0, l1, l2, l3, l4, .int x_l5, l6, l7, l8] [] w I L P = if x_l5 ≠ 0 then go 225 1449 [l0, l1, l2, l3, l4, .int x_l5, l6, l7, l8] [] w I L P else go 225 1437 [l0, l1, l2, l3, l4, .int x_l5, l6, l7, l8] [] w I L P := by
  refine (go_iload (m := 225) (pc := 1432) (k := 5) (by decide +kernel) rfl).trans ?_
  exact go_ifne (m := 225) (pc := 1434) (off := 15) (t := 1449) (by decide +kernel) (by decide)
theorem Law_law_1437 (l0 : Value) (l1 : Value) (l2 : Value) (a_l3 : Nat) (l4 : Value) (l5 : Value) (x_l6 : Int32) (l7 : Value) (l8 : Value) (w : Wd) (I : MI) (L : ML) (P : MP) (h0 : inA w a_l3 9 (nI 0)) : go 225 1437 [l0, l1, l2, .ref a_l3, l4, l5, .int x_l6, l7, l8] [] w I L P = if (lg_cmp (L a_l3 (Int32.toNatClampNeg (nI 0))) (Int32.toInt64 x_l6)) = 0 then go 225 1449 [l0, l1, l2, .ref a_l3, l4, l5, .int x_l6, l7, l8] [] w I L P else go 225 1447 [l0, l1, l2, .ref a_l3, l4, l5, .int x_l6, l7, l8] [] w I L P := by
  refine (go_aload_n (m := 225) (pc := 1437) (k := 3) (by decide +kernel) rfl).trans ?_
  refine (go_ic (m := 225) (pc := 1438) (n := 0) (by decide +kernel) ic_0).trans ?_
  refine (go_lald (m := 225) (pc := 1439) (by decide +kernel) h0).trans ?_
  refine (go_iload (m := 225) (pc := 1440) (k := 6) (by decide +kernel) rfl).trans ?_
  refine (go_i2l (m := 225) (pc := 1442) (by decide +kernel)).trans ?_
  refine (go_lcmp (m := 225) (pc := 1443) (by decide +kernel)).trans ?_
  exact go_ifeq (m := 225) (pc := 1444) (off := 5) (t := 1449) (by decide +kernel) (by decide)
theorem Law_law_1447 (l0 : Value) (l1 : Value) (l2 : Value) (l3 : Value) (l4 : Value) (l5 : Value) (l6 : Value) (l7 : Value) (l8 : Value) (w : Wd) (I : MI) (L : ML) (P : MP) (h0 : (nI 0) &&& 1 = (nI 0)) : go 225 1447 [l0, l1, l2, l3, l4, l5, l6, l7, l8] [] w I L P = some (.inl (some (.int (nI 0))), w, I, L, P) := by
  refine (go_ic (m := 225) (pc := 1447) (n := 0) (by decide +kernel) ic_0).trans ?_
  exact go_retZ (m := 225) (pc := 1448) (by decide +kernel) rfl h0
theorem Law_law_1449 (l0 : Value) (l1 : Value) (l2 : Value) (l3 : Value) (l4 : Value) (l5 : Value) (l6 : Value) (l7 : Value) (l8 : Value) (w : Wd) (I : MI) (L : ML) (P : MP)  : go 225 1449 [l0, l1, l2, l3, l4, l5, l6, l7, l8] [] w I L P = go 225 1536 [l0, l1, l2, l3, l4, l5, l6, l7, l8] [] w I L P := by
  refine (go_goto (m := 225) (pc := 1449) (off := 87) (t := 1536) (by decide +kernel) (by decide)).trans ?_
  rfl
theorem Law_law_1452 (l0 : Value) (a_l1 : Nat) (l2 : Value) (l3 : Value) (l4 : Value) (l5 : Value) (l6 : Value) (l7 : Value) (l8 : Value) (w : Wd) (I : MI) (L : ML) (P : MP) (h0 : w.1 a_l1 = some (6, 0)) : go 225 1452 [l0, .ref a_l1, l2, l3, l4, l5, l6, l7, l8] [] w I L P = kC (call 102 [.ref a_l1] w I L P) (fun v w1 I1 L1 P1 => go 225 1456 [l0, .ref a_l1, l2, l3, l4, l5, l6, l7, l8] (v.toList ++ []) w1 I1 L1 P1) := by
  refine (go_aload_n (m := 225) (pc := 1452) (k := 1) (by decide +kernel) rfl).trans ?_
  exact go_vir (m := 225) (pc := 1453) (o := 8) (x := 165) (y := 102) (kd := 0) (b := a_l1) (bs := []) (rs := []) (by decide +kernel) rfl rfl c_8_165 (Or.inl rfl) rfl rfl rfl (by decide +kernel) (by simp only [List.length_cons, List.length_nil]; decide) (Nat.le_of_ble_eq_true rfl) h0
theorem Law_law_1456 (l0 : Value) (l1 : Value) (a_l2 : Nat) (l3 : Value) (l4 : Value) (l5 : Value) (l6 : Value) (l7 : Value) (l8 : Value) (y0 : Int32) (w : Wd) (I : MI) (L : ML) (P : MP) (h0 : w.1 a_l2 = some (7, 0)) : go 225 1456 [l0, l1, .ref a_l2, l3, l4, l5, l6, l7, l8] [.int y0] w I L P = kC (call 192 [.ref a_l2] w I L P) (fun v w1 I1 L1 P1 => go 225 1460 [l0, l1, .ref a_l2, l3, l4, l5, l6, l7, l8] (v.toList ++ [.int y0]) w1 I1 L1 P1) := by
  refine (go_aload_n (m := 225) (pc := 1456) (k := 2) (by decide +kernel) rfl).trans ?_
  exact go_vir (m := 225) (pc := 1457) (o := 8) (x := 168) (y := 192) (kd := 0) (b := a_l2) (bs := []) (rs := [.int y0]) (by decide +kernel) rfl rfl c_8_168 (Or.inl rfl) rfl rfl rfl (by decide +kernel) (by simp only [List.length_cons, List.length_nil]; decide) (Nat.le_of_ble_eq_true rfl) h0
theorem Law_law_1460 (l0 : Value) (l1 : Value) (l2 : Value) (l3 : Value) (l4 : Value) (l5 : Value) (l6 : Value) (l7 : Value) (l8 : Value) (y0 : Int32) (y1 : Int32) (w : Wd) (I : MI) (L : ML) (P : MP)  : go 225 1460 [l0, l1, l2, l3, l4, l5, l6, l7, l8] [.int y1, .int y0] w I L P = if y0 = y1 then go 225 1536 [l0, l1, l2, l3, l4, l5, l6, l7, l8] [] w I L P else go 225 1463 [l0, l1, l2, l3, l4, l5, l6, l7, l8] [] w I L P := by
  exact go_icmpeq (m := 225) (pc := 1460) (off := 76) (t := 1536) (by decide +kernel) (by decide)
theorem Law_law_1463 (l0 : Value) (l1 : Value) (l2 : Value) (l3 : Value) (l4 : Value) (l5 : Value) (l6 : Value) (l7 : Value) (l8 : Value) (w : Wd) (I : MI) (L : ML) (P : MP) (h0 : (nI 0) &&& 1 = (nI 0)) : go 225 1463 [l0, l1, l2, l3, l4, l5, l6, l7, l8] [] w I L P = some (.inl (some (.int (nI 0))), w, I, L, P) := by
  refine (go_ic (m := 225) (pc := 1463) (n := 0) (by decide +kernel) ic_0).trans ?_
  exact go_retZ (m := 225) (pc := 1464) (by decide +kernel) rfl h0
theorem Law_law_1465 (l0 : Value) (a_l1 : Nat) (l2 : Value) (l3 : Value) (l4 : Value) (l5 : Value) (l6 : Value) (l7 : Value) (l8 : Value) (w : Wd) (I : MI) (L : ML) (P : MP) (h0 : w.1 a_l1 = some (6, 0)) : go 225 1465 [l0, .ref a_l1, l2, l3, l4, l5, l6, l7, l8] [] w I L P = kC (call 103 [.ref a_l1] w I L P) (fun v w1 I1 L1 P1 => go 225 1469 [l0, .ref a_l1, l2, l3, l4, l5, l6, l7, l8] (v.toList ++ []) w1 I1 L1 P1) := by
  refine (go_aload_n (m := 225) (pc := 1465) (k := 1) (by decide +kernel) rfl).trans ?_
  exact go_vir (m := 225) (pc := 1466) (o := 8) (x := 169) (y := 103) (kd := 0) (b := a_l1) (bs := []) (rs := []) (by decide +kernel) rfl rfl c_8_169 (Or.inl rfl) rfl rfl rfl (by decide +kernel) (by simp only [List.length_cons, List.length_nil]; decide) (Nat.le_of_ble_eq_true rfl) h0
theorem Law_law_1469 (l0 : Value) (l1 : Value) (a_l2 : Nat) (l3 : Value) (l4 : Value) (l5 : Value) (l6 : Value) (l7 : Value) (l8 : Value) (y0 : Int32) (w : Wd) (I : MI) (L : ML) (P : MP) (h0 : w.1 a_l2 = some (7, 0)) : go 225 1469 [l0, l1, .ref a_l2, l3, l4, l5, l6, l7, l8] [.int y0] w I L P = kC (call 203 [.ref a_l2] w I L P) (fun v w1 I1 L1 P1 => go 225 1473 [l0, l1, .ref a_l2, l3, l4, l5, l6, l7, l8] (v.toList ++ [.int y0]) w1 I1 L1 P1) := by
  refine (go_aload_n (m := 225) (pc := 1469) (k := 2) (by decide +kernel) rfl).trans ?_
  exact go_vir (m := 225) (pc := 1470) (o := 8) (x := 172) (y := 203) (kd := 0) (b := a_l2) (bs := []) (rs := [.int y0]) (by decide +kernel) rfl rfl c_8_172 (Or.inl rfl) rfl rfl rfl (by decide +kernel) (by simp only [List.length_cons, List.length_nil]; decide) (Nat.le_of_ble_eq_true rfl) h0
theorem Law_law_1473 (l0 : Value) (l1 : Value) (l2 : Value) (l3 : Value) (l4 : Value) (l5 : Value) (l6 : Value) (l7 : Value) (l8 : Value) (y0 : Int32) (y1 : Int32) (w : Wd) (I : MI) (L : ML) (P : MP)  : go 225 1473 [l0, l1, l2, l3, l4, l5, l6, l7, l8] [.int y1, .int y0] w I L P = if y0 = y1 then go 225 1536 [l0, l1, l2, l3, l4, l5, l6, l7, l8] [] w I L P else go 225 1476 [l0, l1, l2, l3, l4, l5, l6, l7, l8] [] w I L P := by
  exact go_icmpeq (m := 225) (pc := 1473) (off := 63) (t := 1536) (by decide +kernel) (by decide)
theorem Law_law_1476 (l0 : Value) (l1 : Value) (l2 : Value) (l3 : Value) (l4 : Value) (l5 : Value) (l6 : Value) (l7 : Value) (l8 : Value) (w : Wd) (I : MI) (L : ML) (P : MP) (h0 : (nI 0) &&& 1 = (nI 0)) : go 225 1476 [l0, l1, l2, l3, l4, l5, l6, l7, l8] [] w I L P = some (.inl (some (.int (nI 0))), w, I, L, P) := by
  refine (go_ic (m := 225) (pc := 1476) (n := 0) (by decide +kernel) ic_0).trans ?_
  exact go_retZ (m := 225) (pc := 1477) (by decide +kernel) rfl h0
theorem Law_law_1478_0 (l0 : Value) (l2 : Value) (l4 : Value) (l5 : Value) (l6 : Value) (l7 : Value) (l8 : Value) (w : Wd) (I : MI) (L : ML) (P : MP)  : go 225 1478 [l0, .null, l2, .null, l4, l5, l6, l7, l8] [] w I L P = kC (call 224 [.null, .null] w I L P) (fun v w1 I1 L1 P1 => go 225 1483 [l0, .null, l2, .null, l4, l5, l6, l7, l8] (v.toList ++ []) w1 I1 L1 P1) := by
  refine (go_aload_nN (m := 225) (pc := 1478) (k := 1) (by decide +kernel) rfl).trans ?_
  refine (go_aload_nN (m := 225) (pc := 1479) (k := 3) (by decide +kernel) rfl).trans ?_
  exact go_sta (m := 225) (pc := 1480) (o := 8) (x := 173) (y := 224) (kd := 4) (as := [.null, .null]) (rs := []) (by decide +kernel) rfl rfl c_8_173 (Or.inr (Or.inr rfl)) rfl rfl rfl (by decide +kernel) (by simp only [List.length_cons, List.length_nil]; decide) (Nat.le_of_ble_eq_true rfl)
theorem Law_law_1478_1 (l0 : Value) (l2 : Value) (a_l3 : Nat) (l4 : Value) (l5 : Value) (l6 : Value) (l7 : Value) (l8 : Value) (w : Wd) (I : MI) (L : ML) (P : MP)  : go 225 1478 [l0, .null, l2, .ref a_l3, l4, l5, l6, l7, l8] [] w I L P = kC (call 224 [.null, .ref a_l3] w I L P) (fun v w1 I1 L1 P1 => go 225 1483 [l0, .null, l2, .ref a_l3, l4, l5, l6, l7, l8] (v.toList ++ []) w1 I1 L1 P1) := by
  refine (go_aload_nN (m := 225) (pc := 1478) (k := 1) (by decide +kernel) rfl).trans ?_
  refine (go_aload_n (m := 225) (pc := 1479) (k := 3) (by decide +kernel) rfl).trans ?_
  exact go_sta (m := 225) (pc := 1480) (o := 8) (x := 173) (y := 224) (kd := 4) (as := [.null, .ref a_l3]) (rs := []) (by decide +kernel) rfl rfl c_8_173 (Or.inr (Or.inr rfl)) rfl rfl rfl (by decide +kernel) (by simp only [List.length_cons, List.length_nil]; decide) (Nat.le_of_ble_eq_true rfl)
theorem Law_law_1478_2 (l0 : Value) (a_l1 : Nat) (l2 : Value) (l4 : Value) (l5 : Value) (l6 : Value) (l7 : Value) (l8 : Value) (w : Wd) (I : MI) (L : ML) (P : MP)  : go 225 1478 [l0, .ref a_l1, l2, .null, l4, l5, l6, l7, l8] [] w I L P = kC (call 224 [.ref a_l1, .null] w I L P) (fun v w1 I1 L1 P1 => go 225 1483 [l0, .ref a_l1, l2, .null, l4, l5, l6, l7, l8] (v.toList ++ []) w1 I1 L1 P1) := by
  refine (go_aload_n (m := 225) (pc := 1478) (k := 1) (by decide +kernel) rfl).trans ?_
  refine (go_aload_nN (m := 225) (pc := 1479) (k := 3) (by decide +kernel) rfl).trans ?_
  exact go_sta (m := 225) (pc := 1480) (o := 8) (x := 173) (y := 224) (kd := 4) (as := [.ref a_l1, .null]) (rs := []) (by decide +kernel) rfl rfl c_8_173 (Or.inr (Or.inr rfl)) rfl rfl rfl (by decide +kernel) (by simp only [List.length_cons, List.length_nil]; decide) (Nat.le_of_ble_eq_true rfl)
theorem Law_law_1478_3 (l0 : Value) (a_l1 : Nat) (l2 : Value) (a_l3 : Nat) (l4 : Value) (l5 : Value) (l6 : Value) (l7 : Value) (l8 : Value) (w : Wd) (I : MI) (L : ML) (P : MP)  : go 225 1478 [l0, .ref a_l1, l2, .ref a_l3, l4, l5, l6, l7, l8] [] w I L P = kC (call 224 [.ref a_l1, .ref a_l3] w I L P) (fun v w1 I1 L1 P1 => go 225 1483 [l0, .ref a_l1, l2, .ref a_l3, l4, l5, l6, l7, l8] (v.toList ++ []) w1 I1 L1 P1) := by
  refine (go_aload_n (m := 225) (pc := 1478) (k := 1) (by decide +kernel) rfl).trans ?_
  refine (go_aload_n (m := 225) (pc := 1479) (k := 3) (by decide +kernel) rfl).trans ?_
  exact go_sta (m := 225) (pc := 1480) (o := 8) (x := 173) (y := 224) (kd := 4) (as := [.ref a_l1, .ref a_l3]) (rs := []) (by decide +kernel) rfl rfl c_8_173 (Or.inr (Or.inr rfl)) rfl rfl rfl (by decide +kernel) (by simp only [List.length_cons, List.length_nil]; decide) (Nat.le_of_ble_eq_true rfl)
theorem Law_law_1483 (l0 : Value) (l1 : Value) (a_l2 : Nat) (l3 : Value) (l4 : Value) (l5 : Value) (l6 : Value) (l7 : Value) (l8 : Value) (y0 : Int32) (w : Wd) (I : MI) (L : ML) (P : MP) (h0 : w.1 a_l2 = some (7, 0)) : go 225 1483 [l0, l1, .ref a_l2, l3, l4, l5, l6, l7, l8] [.int y0] w I L P = kC (call 138 [.ref a_l2] w I L P) (fun v w1 I1 L1 P1 => go 225 1489 [l0, l1, .ref a_l2, l3, (fix1 l4), .int y0, l6, l7, l8] (v.toList ++ []) w1 I1 L1 P1) := by
  refine (go_istore (m := 225) (pc := 1483) (k := 5) (ls' := [l0, l1, .ref a_l2, l3, (fix1 l4), .int y0, l6, l7, l8]) (by decide +kernel) (by simp only [List.length_cons, List.length_nil]; decide) rfl).trans ?_
  refine (go_aload_n (m := 225) (pc := 1485) (k := 2) (by decide +kernel) rfl).trans ?_
  exact go_vir (m := 225) (pc := 1486) (o := 8) (x := 176) (y := 138) (kd := 0) (b := a_l2) (bs := []) (rs := []) (by decide +kernel) rfl rfl c_8_176 (Or.inl rfl) rfl rfl rfl (by decide +kernel) (by simp only [List.length_cons, List.length_nil]; decide) (Nat.le_of_ble_eq_true rfl) h0
theorem Law_law_1489 (l0 : Value) (l1 : Value) (a_l2 : Nat) (l3 : Value) (l4 : Value) (l5 : Value) (l6 : Value) (l7 : Value) (l8 : Value) (y0 : Int32) (w : Wd) (I : MI) (L : ML) (P : MP) (h0 : w.1 a_l2 = some (7, 0)) : go 225 1489 [l0, l1, .ref a_l2, l3, l4, l5, l6, l7, l8] [.int y0] w I L P = kC (call 121 [.ref a_l2] w I L P) (fun v w1 I1 L1 P1 => go 225 1495 [l0, l1, .ref a_l2, l3, l4, (fix1 l5), .int y0, l7, l8] (v.toList ++ []) w1 I1 L1 P1) := by
  refine (go_istore (m := 225) (pc := 1489) (k := 6) (ls' := [l0, l1, .ref a_l2, l3, l4, (fix1 l5), .int y0, l7, l8]) (by decide +kernel) (by simp only [List.length_cons, List.length_nil]; decide) rfl).trans ?_
  refine (go_aload_n (m := 225) (pc := 1491) (k := 2) (by decide +kernel) rfl).trans ?_
  exact go_vir (m := 225) (pc := 1492) (o := 8) (x := 88) (y := 121) (kd := 0) (b := a_l2) (bs := []) (rs := []) (by decide +kernel) rfl rfl c_8_88 (Or.inl rfl) rfl rfl rfl (by decide +kernel) (by simp only [List.length_cons, List.length_nil]; decide) (Nat.le_of_ble_eq_true rfl) h0
theorem Law_law_1495 (l0 : Value) (l1 : Value) (l2 : Value) (l3 : Value) (l4 : Value) (x_l5 : Int32) (l6 : Value) (l7 : Value) (l8 : Value) (y0 : Int32) (w : Wd) (I : MI) (L : ML) (P : MP)  : go 225 1495 [l0, l1, l2, l3, l4, .int x_l5, l6, l7, l8] [.int y0] w I L P = if y0 = x_l5 then go 225 1502 [l0, l1, l2, l3, l4, .int x_l5, l6, l7, l8] [] w I L P else go 225 1500 [l0, l1, l2, l3, l4, .int x_l5, l6, l7, l8] [] w I L P := by
  refine (go_iload (m := 225) (pc := 1495) (k := 5) (by decide +kernel) rfl).trans ?_
  exact go_icmpeq (m := 225) (pc := 1497) (off := 5) (t := 1502) (by decide +kernel) (by decide)
theorem Law_law_1500 (l0 : Value) (l1 : Value) (l2 : Value) (l3 : Value) (l4 : Value) (l5 : Value) (l6 : Value) (l7 : Value) (l8 : Value) (w : Wd) (I : MI) (L : ML) (P : MP) (h0 : (nI 0) &&& 1 = (nI 0)) : go 225 1500 [l0, l1, l2, l3, l4, l5, l6, l7, l8] [] w I L P = some (.inl (some (.int (nI 0))), w, I, L, P) := by
  refine (go_ic (m := 225) (pc := 1500) (n := 0) (by decide +kernel) ic_0).trans ?_
  exact go_retZ (m := 225) (pc := 1501) (by decide +kernel) rfl h0
theorem Law_law_1502 (l0 : Value) (l1 : Value) (l2 : Value) (l3 : Value) (l4 : Value) (x_l5 : Int32) (l6 : Value) (l7 : Value) (l8 : Value) (w : Wd) (I : MI) (L : ML) (P : MP)  : go 225 1502 [l0, l1, l2, l3, l4, .int x_l5, l6, l7, l8] [] w I L P = if x_l5 ≠ 0 then go 225 1519 [l0, l1, l2, l3, l4, .int x_l5, l6, l7, l8] [] w I L P else go 225 1507 [l0, l1, l2, l3, l4, .int x_l5, l6, l7, l8] [] w I L P := by
  refine (go_iload (m := 225) (pc := 1502) (k := 5) (by decide +kernel) rfl).trans ?_
  exact go_ifne (m := 225) (pc := 1504) (off := 15) (t := 1519) (by decide +kernel) (by decide)
theorem Law_law_1507 (l0 : Value) (l1 : Value) (l2 : Value) (a_l3 : Nat) (l4 : Value) (l5 : Value) (x_l6 : Int32) (l7 : Value) (l8 : Value) (w : Wd) (I : MI) (L : ML) (P : MP) (h0 : inA w a_l3 9 (nI 0)) : go 225 1507 [l0, l1, l2, .ref a_l3, l4, l5, .int x_l6, l7, l8] [] w I L P = if (lg_cmp (L a_l3 (Int32.toNatClampNeg (nI 0))) (Int32.toInt64 x_l6)) = 0 then go 225 1519 [l0, l1, l2, .ref a_l3, l4, l5, .int x_l6, l7, l8] [] w I L P else go 225 1517 [l0, l1, l2, .ref a_l3, l4, l5, .int x_l6, l7, l8] [] w I L P := by
  refine (go_aload_n (m := 225) (pc := 1507) (k := 3) (by decide +kernel) rfl).trans ?_
  refine (go_ic (m := 225) (pc := 1508) (n := 0) (by decide +kernel) ic_0).trans ?_
  refine (go_lald (m := 225) (pc := 1509) (by decide +kernel) h0).trans ?_
  refine (go_iload (m := 225) (pc := 1510) (k := 6) (by decide +kernel) rfl).trans ?_
  refine (go_i2l (m := 225) (pc := 1512) (by decide +kernel)).trans ?_
  refine (go_lcmp (m := 225) (pc := 1513) (by decide +kernel)).trans ?_
  exact go_ifeq (m := 225) (pc := 1514) (off := 5) (t := 1519) (by decide +kernel) (by decide)
theorem Law_law_1517 (l0 : Value) (l1 : Value) (l2 : Value) (l3 : Value) (l4 : Value) (l5 : Value) (l6 : Value) (l7 : Value) (l8 : Value) (w : Wd) (I : MI) (L : ML) (P : MP) (h0 : (nI 0) &&& 1 = (nI 0)) : go 225 1517 [l0, l1, l2, l3, l4, l5, l6, l7, l8] [] w I L P = some (.inl (some (.int (nI 0))), w, I, L, P) := by
  refine (go_ic (m := 225) (pc := 1517) (n := 0) (by decide +kernel) ic_0).trans ?_
  exact go_retZ (m := 225) (pc := 1518) (by decide +kernel) rfl h0
theorem Law_law_1519 (l0 : Value) (l1 : Value) (l2 : Value) (l3 : Value) (l4 : Value) (l5 : Value) (l6 : Value) (l7 : Value) (l8 : Value) (w : Wd) (I : MI) (L : ML) (P : MP)  : go 225 1519 [l0, l1, l2, l3, l4, l5, l6, l7, l8] [] w I L P = go 225 1536 [l0, l1, l2, l3, l4, l5, l6, l7, l8] [] w I L P := by
  refine (go_goto (m := 225) (pc := 1519) (off := 17) (t := 1536) (by decide +kernel) (by decide)).trans ?_
  rfl
theorem Law_law_1522 (l0 : Value) (a_l1 : Nat) (l2 : Value) (l3 : Value) (l4 : Value) (l5 : Value) (l6 : Value) (l7 : Value) (l8 : Value) (w : Wd) (I : MI) (L : ML) (P : MP) (h0 : w.1 a_l1 = some (6, 0)) : go 225 1522 [l0, .ref a_l1, l2, l3, l4, l5, l6, l7, l8] [] w I L P = kC (call 105 [.ref a_l1] w I L P) (fun v w1 I1 L1 P1 => go 225 1526 [l0, .ref a_l1, l2, l3, l4, l5, l6, l7, l8] (v.toList ++ []) w1 I1 L1 P1) := by
  refine (go_aload_n (m := 225) (pc := 1522) (k := 1) (by decide +kernel) rfl).trans ?_
  exact go_vir (m := 225) (pc := 1523) (o := 8) (x := 177) (y := 105) (kd := 0) (b := a_l1) (bs := []) (rs := []) (by decide +kernel) rfl rfl c_8_177 (Or.inl rfl) rfl rfl rfl (by decide +kernel) (by simp only [List.length_cons, List.length_nil]; decide) (Nat.le_of_ble_eq_true rfl) h0
theorem Law_law_1526 (l0 : Value) (l1 : Value) (a_l2 : Nat) (l3 : Value) (l4 : Value) (l5 : Value) (l6 : Value) (l7 : Value) (l8 : Value) (y0 : Int64) (w : Wd) (I : MI) (L : ML) (P : MP) (h0 : w.1 a_l2 = some (7, 0)) : go 225 1526 [l0, l1, .ref a_l2, l3, l4, l5, l6, l7, l8] [.long y0] w I L P = kC (call 205 [.ref a_l2] w I L P) (fun v w1 I1 L1 P1 => go 225 1530 [l0, l1, .ref a_l2, l3, l4, l5, l6, l7, l8] (v.toList ++ [.long y0]) w1 I1 L1 P1) := by
  refine (go_aload_n (m := 225) (pc := 1526) (k := 2) (by decide +kernel) rfl).trans ?_
  exact go_vir (m := 225) (pc := 1527) (o := 8) (x := 181) (y := 205) (kd := 0) (b := a_l2) (bs := []) (rs := [.long y0]) (by decide +kernel) rfl rfl c_8_181 (Or.inl rfl) rfl rfl rfl (by decide +kernel) (by simp only [List.length_cons, List.length_nil]; decide) (Nat.le_of_ble_eq_true rfl) h0
theorem Law_law_1530 (l0 : Value) (l1 : Value) (l2 : Value) (l3 : Value) (l4 : Value) (l5 : Value) (l6 : Value) (l7 : Value) (l8 : Value) (y0 : Int64) (y1 : Int64) (w : Wd) (I : MI) (L : ML) (P : MP)  : go 225 1530 [l0, l1, l2, l3, l4, l5, l6, l7, l8] [.long y1, .long y0] w I L P = if (lg_cmp y0 y1) = 0 then go 225 1536 [l0, l1, l2, l3, l4, l5, l6, l7, l8] [] w I L P else go 225 1534 [l0, l1, l2, l3, l4, l5, l6, l7, l8] [] w I L P := by
  refine (go_lcmp (m := 225) (pc := 1530) (by decide +kernel)).trans ?_
  exact go_ifeq (m := 225) (pc := 1531) (off := 5) (t := 1536) (by decide +kernel) (by decide)
theorem Law_law_1534 (l0 : Value) (l1 : Value) (l2 : Value) (l3 : Value) (l4 : Value) (l5 : Value) (l6 : Value) (l7 : Value) (l8 : Value) (w : Wd) (I : MI) (L : ML) (P : MP) (h0 : (nI 0) &&& 1 = (nI 0)) : go 225 1534 [l0, l1, l2, l3, l4, l5, l6, l7, l8] [] w I L P = some (.inl (some (.int (nI 0))), w, I, L, P) := by
  refine (go_ic (m := 225) (pc := 1534) (n := 0) (by decide +kernel) ic_0).trans ?_
  exact go_retZ (m := 225) (pc := 1535) (by decide +kernel) rfl h0
theorem Law_law_1536 (l0 : Value) (l1 : Value) (l2 : Value) (l3 : Value) (x_l4 : Int32) (l5 : Value) (l6 : Value) (l7 : Value) (l8 : Value) (w : Wd) (I : MI) (L : ML) (P : MP)  : go 225 1536 [l0, l1, l2, l3, .int x_l4, l5, l6, l7, l8] [] w I L P = go 225 23 [l0, l1, l2, (fix1 l3), .int (x_l4 + (nI 6)), l5, l6, l7, l8] [] w I L P := by
  refine (go_iinc (m := 225) (pc := 1536) (k := 4) (n := 6) (x := x_l4) (v := x_l4 + (nI 6)) (ls' := [l0, l1, l2, (fix1 l3), .int (x_l4 + (nI 6)), l5, l6, l7, l8]) (by decide +kernel) rfl (by rw [ic_6]) rfl).trans ?_
  refine (go_goto (m := 225) (pc := 1539) (off := -1516) (t := 23) (by decide +kernel) (by decide)).trans ?_
  rfl
theorem Law_law_1542 (l0 : Value) (l1 : Value) (l2 : Value) (l3 : Value) (l4 : Value) (l5 : Value) (l6 : Value) (l7 : Value) (l8 : Value) (w : Wd) (I : MI) (L : ML) (P : MP) (h0 : (nI 1) &&& 1 = (nI 1)) : go 225 1542 [l0, l1, l2, l3, l4, l5, l6, l7, l8] [] w I L P = some (.inl (some (.int (nI 1))), w, I, L, P) := by
  refine (go_ic (m := 225) (pc := 1542) (n := 1) (by decide +kernel) ic_1).trans ?_
  exact go_retZ (m := 225) (pc := 1543) (by decide +kernel) rfl h0
theorem Law_law_E (p0 : Nat) (w : Wd) (I : MI) (L : ML) (P : MP) : call 225 [.ref p0] w I L P = go 225 0 [.ref p0, unk, unk, unk, unk, unk, unk, unk, unk] [] w I L P := rfl
theorem Law_law_E1  (w : Wd) (I : MI) (L : ML) (P : MP) : call 225 [.null] w I L P = go 225 0 [.null, unk, unk, unk, unk, unk, unk, unk, unk] [] w I L P := rfl
