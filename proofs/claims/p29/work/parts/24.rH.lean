theorem Law_refuses_0 (a_l0 : Nat) (l1 : Value) (l2 : Value) (l3 : Value) (l4 : Value) (l5 : Value) (w : Wd) (I : MI) (L : ML) (P : MP) (h0 : w.1 a_l0 = some (6, 0)) : go 144 0 [.ref a_l0, l1, l2, l3, l4, l5] [] w I L P = kC (call 105 [.ref a_l0] w I L P) (fun v w1 I1 L1 P1 => go 144 4 [.ref a_l0, l1, l2, l3, l4, l5] (v.toList ++ []) w1 I1 L1 P1) := by
  refine (go_aload_n (m := 144) (pc := 0) (k := 0) (by decide +kernel) rfl).trans ?_
  exact go_vir (m := 144) (pc := 1) (o := 8) (x := 128) (y := 105) (kd := 0) (b := a_l0) (bs := []) (rs := []) (by decide +kernel) rfl rfl c_8_128 (Or.inl rfl) rfl rfl rfl (by decide +kernel) (by simp only [List.length_cons, List.length_nil]; decide) (Nat.le_of_ble_eq_true rfl) h0
theorem Law_refuses_4_0 (l1 : Value) (l2 : Value) (l3 : Value) (l4 : Value) (l5 : Value) (y0 : Int64) (w : Wd) (I : MI) (L : ML) (P : MP)  : go 144 4 [.null, l1, l2, l3, l4, l5] [.long y0] w I L P = kC (call 133 [.null, .int (nI 1)] w I L P) (fun v w1 I1 L1 P1 => go 144 10 [.null, .long y0, unk, l3, l4, l5] (v.toList ++ []) w1 I1 L1 P1) := by
  refine (go_lstore_n (m := 144) (pc := 4) (k := 1) (ls' := [.null, .long y0, unk, l3, l4, l5]) (by decide +kernel) (by simp only [List.length_cons, List.length_nil]; decide) rfl).trans ?_
  refine (go_aload_nN (m := 144) (pc := 5) (k := 0) (by decide +kernel) rfl).trans ?_
  refine (go_ic (m := 144) (pc := 6) (n := 1) (by decide +kernel) ic_1).trans ?_
  exact go_sta (m := 144) (pc := 7) (o := 8) (x := 80) (y := 133) (kd := 4) (as := [.null, .int (nI 1)]) (rs := []) (by decide +kernel) rfl rfl c_8_80 (Or.inr (Or.inr rfl)) rfl rfl rfl (by decide +kernel) (by simp only [List.length_cons, List.length_nil]; decide) (Nat.le_of_ble_eq_true rfl)
theorem Law_refuses_4_1 (a_l0 : Nat) (l1 : Value) (l2 : Value) (l3 : Value) (l4 : Value) (l5 : Value) (y0 : Int64) (w : Wd) (I : MI) (L : ML) (P : MP)  : go 144 4 [.ref a_l0, l1, l2, l3, l4, l5] [.long y0] w I L P = kC (call 133 [.ref a_l0, .int (nI 1)] w I L P) (fun v w1 I1 L1 P1 => go 144 10 [.ref a_l0, .long y0, unk, l3, l4, l5] (v.toList ++ []) w1 I1 L1 P1) := by
  refine (go_lstore_n (m := 144) (pc := 4) (k := 1) (ls' := [.ref a_l0, .long y0, unk, l3, l4, l5]) (by decide +kernel) (by simp only [List.length_cons, List.length_nil]; decide) rfl).trans ?_
  refine (go_aload_n (m := 144) (pc := 5) (k := 0) (by decide +kernel) rfl).trans ?_
  refine (go_ic (m := 144) (pc := 6) (n := 1) (by decide +kernel) ic_1).trans ?_
  exact go_sta (m := 144) (pc := 7) (o := 8) (x := 80) (y := 133) (kd := 4) (as := [.ref a_l0, .int (nI 1)]) (rs := []) (by decide +kernel) rfl rfl c_8_80 (Or.inr (Or.inr rfl)) rfl rfl rfl (by decide +kernel) (by simp only [List.length_cons, List.length_nil]; decide) (Nat.le_of_ble_eq_true rfl)
theorem Law_refuses_10_0 (l1 : Value) (l2 : Value) (l3 : Value) (l4 : Value) (l5 : Value) (y0 : Int32) (w : Wd) (I : MI) (L : ML) (P : MP)  : go 144 10 [.null, l1, l2, l3, l4, l5] [.int y0] w I L P = kC (call 133 [.null, .int (nI 2)] w I L P) (fun v w1 I1 L1 P1 => go 144 16 [.null, l1, (fix1 l2), .int y0, l4, l5] (v.toList ++ []) w1 I1 L1 P1) := by
  refine (go_istore_n (m := 144) (pc := 10) (k := 3) (ls' := [.null, l1, (fix1 l2), .int y0, l4, l5]) (by decide +kernel) (by simp only [List.length_cons, List.length_nil]; decide) rfl).trans ?_
  refine (go_aload_nN (m := 144) (pc := 11) (k := 0) (by decide +kernel) rfl).trans ?_
  refine (go_ic (m := 144) (pc := 12) (n := 2) (by decide +kernel) ic_2).trans ?_
  exact go_sta (m := 144) (pc := 13) (o := 8) (x := 80) (y := 133) (kd := 4) (as := [.null, .int (nI 2)]) (rs := []) (by decide +kernel) rfl rfl c_8_80 (Or.inr (Or.inr rfl)) rfl rfl rfl (by decide +kernel) (by simp only [List.length_cons, List.length_nil]; decide) (Nat.le_of_ble_eq_true rfl)
theorem Law_refuses_10_1 (a_l0 : Nat) (l1 : Value) (l2 : Value) (l3 : Value) (l4 : Value) (l5 : Value) (y0 : Int32) (w : Wd) (I : MI) (L : ML) (P : MP)  : go 144 10 [.ref a_l0, l1, l2, l3, l4, l5] [.int y0] w I L P = kC (call 133 [.ref a_l0, .int (nI 2)] w I L P) (fun v w1 I1 L1 P1 => go 144 16 [.ref a_l0, l1, (fix1 l2), .int y0, l4, l5] (v.toList ++ []) w1 I1 L1 P1) := by
  refine (go_istore_n (m := 144) (pc := 10) (k := 3) (ls' := [.ref a_l0, l1, (fix1 l2), .int y0, l4, l5]) (by decide +kernel) (by simp only [List.length_cons, List.length_nil]; decide) rfl).trans ?_
  refine (go_aload_n (m := 144) (pc := 11) (k := 0) (by decide +kernel) rfl).trans ?_
  refine (go_ic (m := 144) (pc := 12) (n := 2) (by decide +kernel) ic_2).trans ?_
  exact go_sta (m := 144) (pc := 13) (o := 8) (x := 80) (y := 133) (kd := 4) (as := [.ref a_l0, .int (nI 2)]) (rs := []) (by decide +kernel) rfl rfl c_8_80 (Or.inr (Or.inr rfl)) rfl rfl rfl (by decide +kernel) (by simp only [List.length_cons, List.length_nil]; decide) (Nat.le_of_ble_eq_true rfl)
theorem Law_refuses_16_0 (l1 : Value) (l2 : Value) (l3 : Value) (l4 : Value) (l5 : Value) (y0 : Int32) (w : Wd) (I : MI) (L : ML) (P : MP)  : go 144 16 [.null, l1, l2, l3, l4, l5] [.int y0] w I L P = kC (call 120 [.null, .int (nI 0)] w I L P) (fun v w1 I1 L1 P1 => go 144 23 [.null, l1, l2, (fix1 l3), .int y0, l5] (v.toList ++ []) w1 I1 L1 P1) := by
  refine (go_istore (m := 144) (pc := 16) (k := 4) (ls' := [.null, l1, l2, (fix1 l3), .int y0, l5]) (by decide +kernel) (by simp only [List.length_cons, List.length_nil]; decide) rfl).trans ?_
  refine (go_aload_nN (m := 144) (pc := 18) (k := 0) (by decide +kernel) rfl).trans ?_
  refine (go_ic (m := 144) (pc := 19) (n := 0) (by decide +kernel) ic_0).trans ?_
  exact go_sta (m := 144) (pc := 20) (o := 8) (x := 132) (y := 120) (kd := 4) (as := [.null, .int (nI 0)]) (rs := []) (by decide +kernel) rfl rfl c_8_132 (Or.inr (Or.inr rfl)) rfl rfl rfl (by decide +kernel) (by simp only [List.length_cons, List.length_nil]; decide) (Nat.le_of_ble_eq_true rfl)
theorem Law_refuses_16_1 (a_l0 : Nat) (l1 : Value) (l2 : Value) (l3 : Value) (l4 : Value) (l5 : Value) (y0 : Int32) (w : Wd) (I : MI) (L : ML) (P : MP)  : go 144 16 [.ref a_l0, l1, l2, l3, l4, l5] [.int y0] w I L P = kC (call 120 [.ref a_l0, .int (nI 0)] w I L P) (fun v w1 I1 L1 P1 => go 144 23 [.ref a_l0, l1, l2, (fix1 l3), .int y0, l5] (v.toList ++ []) w1 I1 L1 P1) := by
  refine (go_istore (m := 144) (pc := 16) (k := 4) (ls' := [.ref a_l0, l1, l2, (fix1 l3), .int y0, l5]) (by decide +kernel) (by simp only [List.length_cons, List.length_nil]; decide) rfl).trans ?_
  refine (go_aload_n (m := 144) (pc := 18) (k := 0) (by decide +kernel) rfl).trans ?_
  refine (go_ic (m := 144) (pc := 19) (n := 0) (by decide +kernel) ic_0).trans ?_
  exact go_sta (m := 144) (pc := 20) (o := 8) (x := 132) (y := 120) (kd := 4) (as := [.ref a_l0, .int (nI 0)]) (rs := []) (by decide +kernel) rfl rfl c_8_132 (Or.inr (Or.inr rfl)) rfl rfl rfl (by decide +kernel) (by simp only [List.length_cons, List.length_nil]; decide) (Nat.le_of_ble_eq_true rfl)
theorem Law_refuses_23 (l0 : Value) (l1 : Value) (l2 : Value) (l3 : Value) (l4 : Value) (l5 : Value) (y0 : Int32) (w : Wd) (I : MI) (L : ML) (P : MP)  : go 144 23 [l0, l1, l2, l3, l4, l5] [.int y0] w I L P = if y0 ≠ (-11) then go 144 196 [l0, l1, l2, l3, l4, l5] [] w I L P else go 144 28 [l0, l1, l2, l3, l4, l5] [] w I L P := by
  refine (go_bi (m := 144) (pc := 23) (n := -11) (by decide +kernel) bi_m11).trans ?_
  exact go_icmpne (m := 144) (pc := 25) (off := 171) (t := 196) (by decide +kernel) (by decide)
theorem Law_refuses_28_0 (l1 : Value) (l2 : Value) (l3 : Value) (l4 : Value) (l5 : Value) (w : Wd) (I : MI) (L : ML) (P : MP)  : go 144 28 [.null, l1, l2, l3, l4, l5] [] w I L P = kC (call 120 [.null, .int (nI 4)] w I L P) (fun v w1 I1 L1 P1 => go 144 33 [.null, l1, l2, l3, l4, l5] (v.toList ++ []) w1 I1 L1 P1) := by
  refine (go_aload_nN (m := 144) (pc := 28) (k := 0) (by decide +kernel) rfl).trans ?_
  refine (go_ic (m := 144) (pc := 29) (n := 4) (by decide +kernel) ic_4).trans ?_
  exact go_sta (m := 144) (pc := 30) (o := 8) (x := 132) (y := 120) (kd := 4) (as := [.null, .int (nI 4)]) (rs := []) (by decide +kernel) rfl rfl c_8_132 (Or.inr (Or.inr rfl)) rfl rfl rfl (by decide +kernel) (by simp only [List.length_cons, List.length_nil]; decide) (Nat.le_of_ble_eq_true rfl)
theorem Law_refuses_28_1 (a_l0 : Nat) (l1 : Value) (l2 : Value) (l3 : Value) (l4 : Value) (l5 : Value) (w : Wd) (I : MI) (L : ML) (P : MP)  : go 144 28 [.ref a_l0, l1, l2, l3, l4, l5] [] w I L P = kC (call 120 [.ref a_l0, .int (nI 4)] w I L P) (fun v w1 I1 L1 P1 => go 144 33 [.ref a_l0, l1, l2, l3, l4, l5] (v.toList ++ []) w1 I1 L1 P1) := by
  refine (go_aload_n (m := 144) (pc := 28) (k := 0) (by decide +kernel) rfl).trans ?_
  refine (go_ic (m := 144) (pc := 29) (n := 4) (by decide +kernel) ic_4).trans ?_
  exact go_sta (m := 144) (pc := 30) (o := 8) (x := 132) (y := 120) (kd := 4) (as := [.ref a_l0, .int (nI 4)]) (rs := []) (by decide +kernel) rfl rfl c_8_132 (Or.inr (Or.inr rfl)) rfl rfl rfl (by decide +kernel) (by simp only [List.length_cons, List.length_nil]; decide) (Nat.le_of_ble_eq_true rfl)
theorem Law_refuses_33 (l0 : Value) (l1 : Value) (l2 : Value) (l3 : Value) (l4 : Value) (l5 : Value) (y0 : Int32) (w : Wd) (I : MI) (L : ML) (P : MP)  : go 144 33 [l0, l1, l2, l3, l4, l5] [.int y0] w I L P = if y0 ≠ (-11) then go 144 196 [l0, l1, l2, l3, l4, l5] [] w I L P else go 144 38 [l0, l1, l2, l3, l4, l5] [] w I L P := by
  refine (go_bi (m := 144) (pc := 33) (n := -11) (by decide +kernel) bi_m11).trans ?_
  exact go_icmpne (m := 144) (pc := 35) (off := 161) (t := 196) (by decide +kernel) (by decide)
theorem Law_refuses_38_0 (l1 : Value) (l2 : Value) (l3 : Value) (l4 : Value) (l5 : Value) (w : Wd) (I : MI) (L : ML) (P : MP)  : go 144 38 [.null, l1, l2, l3, l4, l5] [] w I L P = kC (call 121 [.null, .int (nI 128), .int (nI 0)] w I L P) (fun v w1 I1 L1 P1 => go 144 46 [.null, l1, l2, l3, l4, l5] (v.toList ++ []) w1 I1 L1 P1) := by
  refine (go_aload_nN (m := 144) (pc := 38) (k := 0) (by decide +kernel) rfl).trans ?_
  refine (go_si (m := 144) (pc := 39) (n := 128) (by decide +kernel) si_128).trans ?_
  refine (go_ic (m := 144) (pc := 42) (n := 0) (by decide +kernel) ic_0).trans ?_
  exact go_sta (m := 144) (pc := 43) (o := 8) (x := 134) (y := 121) (kd := 4) (as := [.null, .int (nI 128), .int (nI 0)]) (rs := []) (by decide +kernel) rfl rfl c_8_134 (Or.inr (Or.inr rfl)) rfl rfl rfl (by decide +kernel) (by simp only [List.length_cons, List.length_nil]; decide) (Nat.le_of_ble_eq_true rfl)
theorem Law_refuses_38_1 (a_l0 : Nat) (l1 : Value) (l2 : Value) (l3 : Value) (l4 : Value) (l5 : Value) (w : Wd) (I : MI) (L : ML) (P : MP)  : go 144 38 [.ref a_l0, l1, l2, l3, l4, l5] [] w I L P = kC (call 121 [.ref a_l0, .int (nI 128), .int (nI 0)] w I L P) (fun v w1 I1 L1 P1 => go 144 46 [.ref a_l0, l1, l2, l3, l4, l5] (v.toList ++ []) w1 I1 L1 P1) := by
  refine (go_aload_n (m := 144) (pc := 38) (k := 0) (by decide +kernel) rfl).trans ?_
  refine (go_si (m := 144) (pc := 39) (n := 128) (by decide +kernel) si_128).trans ?_
  refine (go_ic (m := 144) (pc := 42) (n := 0) (by decide +kernel) ic_0).trans ?_
  exact go_sta (m := 144) (pc := 43) (o := 8) (x := 134) (y := 121) (kd := 4) (as := [.ref a_l0, .int (nI 128), .int (nI 0)]) (rs := []) (by decide +kernel) rfl rfl c_8_134 (Or.inr (Or.inr rfl)) rfl rfl rfl (by decide +kernel) (by simp only [List.length_cons, List.length_nil]; decide) (Nat.le_of_ble_eq_true rfl)
theorem Law_refuses_46 (l0 : Value) (l1 : Value) (l2 : Value) (l3 : Value) (l4 : Value) (l5 : Value) (y0 : Int32) (w : Wd) (I : MI) (L : ML) (P : MP)  : go 144 46 [l0, l1, l2, l3, l4, l5] [.int y0] w I L P = if y0 ≠ (-11) then go 144 196 [l0, l1, l2, l3, l4, l5] [] w I L P else go 144 51 [l0, l1, l2, l3, l4, l5] [] w I L P := by
  refine (go_bi (m := 144) (pc := 46) (n := -11) (by decide +kernel) bi_m11).trans ?_
  exact go_icmpne (m := 144) (pc := 48) (off := 148) (t := 196) (by decide +kernel) (by decide)
theorem Law_refuses_51_0 (l1 : Value) (l2 : Value) (l3 : Value) (l4 : Value) (l5 : Value) (w : Wd) (I : MI) (L : ML) (P : MP)  : go 144 51 [.null, l1, l2, l3, l4, l5] [] w I L P = kC (call 121 [.null, .int (nI 0), .int (nI 10)] w I L P) (fun v w1 I1 L1 P1 => go 144 58 [.null, l1, l2, l3, l4, l5] (v.toList ++ []) w1 I1 L1 P1) := by
  refine (go_aload_nN (m := 144) (pc := 51) (k := 0) (by decide +kernel) rfl).trans ?_
  refine (go_ic (m := 144) (pc := 52) (n := 0) (by decide +kernel) ic_0).trans ?_
  refine (go_bi (m := 144) (pc := 53) (n := 10) (by decide +kernel) bi_10).trans ?_
  exact go_sta (m := 144) (pc := 55) (o := 8) (x := 134) (y := 121) (kd := 4) (as := [.null, .int (nI 0), .int (nI 10)]) (rs := []) (by decide +kernel) rfl rfl c_8_134 (Or.inr (Or.inr rfl)) rfl rfl rfl (by decide +kernel) (by simp only [List.length_cons, List.length_nil]; decide) (Nat.le_of_ble_eq_true rfl)
theorem Law_refuses_51_1 (a_l0 : Nat) (l1 : Value) (l2 : Value) (l3 : Value) (l4 : Value) (l5 : Value) (w : Wd) (I : MI) (L : ML) (P : MP)  : go 144 51 [.ref a_l0, l1, l2, l3, l4, l5] [] w I L P = kC (call 121 [.ref a_l0, .int (nI 0), .int (nI 10)] w I L P) (fun v w1 I1 L1 P1 => go 144 58 [.ref a_l0, l1, l2, l3, l4, l5] (v.toList ++ []) w1 I1 L1 P1) := by
  refine (go_aload_n (m := 144) (pc := 51) (k := 0) (by decide +kernel) rfl).trans ?_
  refine (go_ic (m := 144) (pc := 52) (n := 0) (by decide +kernel) ic_0).trans ?_
  refine (go_bi (m := 144) (pc := 53) (n := 10) (by decide +kernel) bi_10).trans ?_
  exact go_sta (m := 144) (pc := 55) (o := 8) (x := 134) (y := 121) (kd := 4) (as := [.ref a_l0, .int (nI 0), .int (nI 10)]) (rs := []) (by decide +kernel) rfl rfl c_8_134 (Or.inr (Or.inr rfl)) rfl rfl rfl (by decide +kernel) (by simp only [List.length_cons, List.length_nil]; decide) (Nat.le_of_ble_eq_true rfl)
theorem Law_refuses_58 (l0 : Value) (l1 : Value) (l2 : Value) (l3 : Value) (l4 : Value) (l5 : Value) (y0 : Int32) (w : Wd) (I : MI) (L : ML) (P : MP)  : go 144 58 [l0, l1, l2, l3, l4, l5] [.int y0] w I L P = if y0 ≠ (-11) then go 144 196 [l0, l1, l2, l3, l4, l5] [] w I L P else go 144 63 [l0, l1, l2, l3, l4, l5] [] w I L P := by
  refine (go_bi (m := 144) (pc := 58) (n := -11) (by decide +kernel) bi_m11).trans ?_
  exact go_icmpne (m := 144) (pc := 60) (off := 136) (t := 196) (by decide +kernel) (by decide)
theorem Law_refuses_63_0 (l1 : Value) (l2 : Value) (l3 : Value) (x_l4 : Int32) (l5 : Value) (w : Wd) (I : MI) (L : ML) (P : MP)  : go 144 63 [.null, l1, l2, l3, .int x_l4, l5] [] w I L P = kC (call 122 [.null, .int x_l4, .int (nI 1)] w I L P) (fun v w1 I1 L1 P1 => go 144 70 [.null, l1, l2, l3, .int x_l4, l5] (v.toList ++ []) w1 I1 L1 P1) := by
  refine (go_aload_nN (m := 144) (pc := 63) (k := 0) (by decide +kernel) rfl).trans ?_
  refine (go_iload (m := 144) (pc := 64) (k := 4) (by decide +kernel) rfl).trans ?_
  refine (go_ic (m := 144) (pc := 66) (n := 1) (by decide +kernel) ic_1).trans ?_
  exact go_sta (m := 144) (pc := 67) (o := 8) (x := 136) (y := 122) (kd := 4) (as := [.null, .int x_l4, .int (nI 1)]) (rs := []) (by decide +kernel) rfl rfl c_8_136 (Or.inr (Or.inr rfl)) rfl rfl rfl (by decide +kernel) (by simp only [List.length_cons, List.length_nil]; decide) (Nat.le_of_ble_eq_true rfl)
theorem Law_refuses_63_1 (a_l0 : Nat) (l1 : Value) (l2 : Value) (l3 : Value) (x_l4 : Int32) (l5 : Value) (w : Wd) (I : MI) (L : ML) (P : MP)  : go 144 63 [.ref a_l0, l1, l2, l3, .int x_l4, l5] [] w I L P = kC (call 122 [.ref a_l0, .int x_l4, .int (nI 1)] w I L P) (fun v w1 I1 L1 P1 => go 144 70 [.ref a_l0, l1, l2, l3, .int x_l4, l5] (v.toList ++ []) w1 I1 L1 P1) := by
  refine (go_aload_n (m := 144) (pc := 63) (k := 0) (by decide +kernel) rfl).trans ?_
  refine (go_iload (m := 144) (pc := 64) (k := 4) (by decide +kernel) rfl).trans ?_
  refine (go_ic (m := 144) (pc := 66) (n := 1) (by decide +kernel) ic_1).trans ?_
  exact go_sta (m := 144) (pc := 67) (o := 8) (x := 136) (y := 122) (kd := 4) (as := [.ref a_l0, .int x_l4, .int (nI 1)]) (rs := []) (by decide +kernel) rfl rfl c_8_136 (Or.inr (Or.inr rfl)) rfl rfl rfl (by decide +kernel) (by simp only [List.length_cons, List.length_nil]; decide) (Nat.le_of_ble_eq_true rfl)
theorem Law_refuses_70 (l0 : Value) (l1 : Value) (l2 : Value) (l3 : Value) (l4 : Value) (l5 : Value) (y0 : Int32) (w : Wd) (I : MI) (L : ML) (P : MP)  : go 144 70 [l0, l1, l2, l3, l4, l5] [.int y0] w I L P = if y0 ≠ (-11) then go 144 196 [l0, l1, l2, l3, l4, l5] [] w I L P else go 144 75 [l0, l1, l2, l3, l4, l5] [] w I L P := by
  refine (go_bi (m := 144) (pc := 70) (n := -11) (by decide +kernel) bi_m11).trans ?_
  exact go_icmpne (m := 144) (pc := 72) (off := 124) (t := 196) (by decide +kernel) (by decide)
theorem Law_refuses_75_0 (l1 : Value) (l2 : Value) (l3 : Value) (l4 : Value) (l5 : Value) (w : Wd) (I : MI) (L : ML) (P : MP)  : go 144 75 [.null, l1, l2, l3, l4, l5] [] w I L P = kC (call 123 [.null, .int (-1)] w I L P) (fun v w1 I1 L1 P1 => go 144 80 [.null, l1, l2, l3, l4, l5] (v.toList ++ []) w1 I1 L1 P1) := by
  refine (go_aload_nN (m := 144) (pc := 75) (k := 0) (by decide +kernel) rfl).trans ?_
  refine (go_ic (m := 144) (pc := 76) (n := -1) (by decide +kernel) ic_m1).trans ?_
  exact go_sta (m := 144) (pc := 77) (o := 8) (x := 139) (y := 123) (kd := 4) (as := [.null, .int (-1)]) (rs := []) (by decide +kernel) rfl rfl c_8_139 (Or.inr (Or.inr rfl)) rfl rfl rfl (by decide +kernel) (by simp only [List.length_cons, List.length_nil]; decide) (Nat.le_of_ble_eq_true rfl)
theorem Law_refuses_75_1 (a_l0 : Nat) (l1 : Value) (l2 : Value) (l3 : Value) (l4 : Value) (l5 : Value) (w : Wd) (I : MI) (L : ML) (P : MP)  : go 144 75 [.ref a_l0, l1, l2, l3, l4, l5] [] w I L P = kC (call 123 [.ref a_l0, .int (-1)] w I L P) (fun v w1 I1 L1 P1 => go 144 80 [.ref a_l0, l1, l2, l3, l4, l5] (v.toList ++ []) w1 I1 L1 P1) := by
  refine (go_aload_n (m := 144) (pc := 75) (k := 0) (by decide +kernel) rfl).trans ?_
  refine (go_ic (m := 144) (pc := 76) (n := -1) (by decide +kernel) ic_m1).trans ?_
  exact go_sta (m := 144) (pc := 77) (o := 8) (x := 139) (y := 123) (kd := 4) (as := [.ref a_l0, .int (-1)]) (rs := []) (by decide +kernel) rfl rfl c_8_139 (Or.inr (Or.inr rfl)) rfl rfl rfl (by decide +kernel) (by simp only [List.length_cons, List.length_nil]; decide) (Nat.le_of_ble_eq_true rfl)
theorem Law_refuses_80 (l0 : Value) (l1 : Value) (l2 : Value) (l3 : Value) (l4 : Value) (l5 : Value) (y0 : Int32) (w : Wd) (I : MI) (L : ML) (P : MP)  : go 144 80 [l0, l1, l2, l3, l4, l5] [.int y0] w I L P = if y0 ≠ (-11) then go 144 196 [l0, l1, l2, l3, l4, l5] [] w I L P else go 144 85 [l0, l1, l2, l3, l4, l5] [] w I L P := by
  refine (go_bi (m := 144) (pc := 80) (n := -11) (by decide +kernel) bi_m11).trans ?_
  exact go_icmpne (m := 144) (pc := 82) (off := 114) (t := 196) (by decide +kernel) (by decide)
theorem Law_refuses_85_0 (l1 : Value) (l2 : Value) (l3 : Value) (l4 : Value) (l5 : Value) (w : Wd) (I : MI) (L : ML) (P : MP)  : go 144 85 [.null, l1, l2, l3, l4, l5] [] w I L P = kC (call 124 [.null, .int (nI 0)] w I L P) (fun v w1 I1 L1 P1 => go 144 90 [.null, l1, l2, l3, l4, l5] (v.toList ++ []) w1 I1 L1 P1) := by
  refine (go_aload_nN (m := 144) (pc := 85) (k := 0) (by decide +kernel) rfl).trans ?_
  refine (go_ic (m := 144) (pc := 86) (n := 0) (by decide +kernel) ic_0).trans ?_
  exact go_sta (m := 144) (pc := 87) (o := 8) (x := 141) (y := 124) (kd := 4) (as := [.null, .int (nI 0)]) (rs := []) (by decide +kernel) rfl rfl c_8_141 (Or.inr (Or.inr rfl)) rfl rfl rfl (by decide +kernel) (by simp only [List.length_cons, List.length_nil]; decide) (Nat.le_of_ble_eq_true rfl)
theorem Law_refuses_85_1 (a_l0 : Nat) (l1 : Value) (l2 : Value) (l3 : Value) (l4 : Value) (l5 : Value) (w : Wd) (I : MI) (L : ML) (P : MP)  : go 144 85 [.ref a_l0, l1, l2, l3, l4, l5] [] w I L P = kC (call 124 [.ref a_l0, .int (nI 0)] w I L P) (fun v w1 I1 L1 P1 => go 144 90 [.ref a_l0, l1, l2, l3, l4, l5] (v.toList ++ []) w1 I1 L1 P1) := by
  refine (go_aload_n (m := 144) (pc := 85) (k := 0) (by decide +kernel) rfl).trans ?_
  refine (go_ic (m := 144) (pc := 86) (n := 0) (by decide +kernel) ic_0).trans ?_
  exact go_sta (m := 144) (pc := 87) (o := 8) (x := 141) (y := 124) (kd := 4) (as := [.ref a_l0, .int (nI 0)]) (rs := []) (by decide +kernel) rfl rfl c_8_141 (Or.inr (Or.inr rfl)) rfl rfl rfl (by decide +kernel) (by simp only [List.length_cons, List.length_nil]; decide) (Nat.le_of_ble_eq_true rfl)
theorem Law_refuses_90 (l0 : Value) (l1 : Value) (l2 : Value) (l3 : Value) (l4 : Value) (l5 : Value) (y0 : Int32) (w : Wd) (I : MI) (L : ML) (P : MP)  : go 144 90 [l0, l1, l2, l3, l4, l5] [.int y0] w I L P = if y0 ≠ (-11) then go 144 196 [l0, l1, l2, l3, l4, l5] [] w I L P else go 144 95 [l0, l1, l2, l3, l4, l5] [] w I L P := by
  refine (go_bi (m := 144) (pc := 90) (n := -11) (by decide +kernel) bi_m11).trans ?_
  exact go_icmpne (m := 144) (pc := 92) (off := 104) (t := 196) (by decide +kernel) (by decide)
theorem Law_refuses_95_0 (l1 : Value) (l2 : Value) (l3 : Value) (l4 : Value) (l5 : Value) (w : Wd) (I : MI) (L : ML) (P : MP)  : go 144 95 [.null, l1, l2, l3, l4, l5] [] w I L P = kC (call 124 [.null, .int (nI 10)] w I L P) (fun v w1 I1 L1 P1 => go 144 101 [.null, l1, l2, l3, l4, l5] (v.toList ++ []) w1 I1 L1 P1) := by
  refine (go_aload_nN (m := 144) (pc := 95) (k := 0) (by decide +kernel) rfl).trans ?_
  refine (go_bi (m := 144) (pc := 96) (n := 10) (by decide +kernel) bi_10).trans ?_
  exact go_sta (m := 144) (pc := 98) (o := 8) (x := 141) (y := 124) (kd := 4) (as := [.null, .int (nI 10)]) (rs := []) (by decide +kernel) rfl rfl c_8_141 (Or.inr (Or.inr rfl)) rfl rfl rfl (by decide +kernel) (by simp only [List.length_cons, List.length_nil]; decide) (Nat.le_of_ble_eq_true rfl)
theorem Law_refuses_95_1 (a_l0 : Nat) (l1 : Value) (l2 : Value) (l3 : Value) (l4 : Value) (l5 : Value) (w : Wd) (I : MI) (L : ML) (P : MP)  : go 144 95 [.ref a_l0, l1, l2, l3, l4, l5] [] w I L P = kC (call 124 [.ref a_l0, .int (nI 10)] w I L P) (fun v w1 I1 L1 P1 => go 144 101 [.ref a_l0, l1, l2, l3, l4, l5] (v.toList ++ []) w1 I1 L1 P1) := by
  refine (go_aload_n (m := 144) (pc := 95) (k := 0) (by decide +kernel) rfl).trans ?_
  refine (go_bi (m := 144) (pc := 96) (n := 10) (by decide +kernel) bi_10).trans ?_
  exact go_sta (m := 144) (pc := 98) (o := 8) (x := 141) (y := 124) (kd := 4) (as := [.ref a_l0, .int (nI 10)]) (rs := []) (by decide +kernel) rfl rfl c_8_141 (Or.inr (Or.inr rfl)) rfl rfl rfl (by decide +kernel) (by simp only [List.length_cons, List.length_nil]; decide) (Nat.le_of_ble_eq_true rfl)
theorem Law_refuses_101 (l0 : Value) (l1 : Value) (l2 : Value) (l3 : Value) (l4 : Value) (l5 : Value) (y0 : Int32) (w : Wd) (I : MI) (L : ML) (P : MP)  : go 144 101 [l0, l1, l2, l3, l4, l5] [.int y0] w I L P = if y0 ≠ (-11) then go 144 196 [l0, l1, l2, l3, l4, l5] [] w I L P else go 144 106 [l0, l1, l2, l3, l4, l5] [] w I L P := by
  refine (go_bi (m := 144) (pc := 101) (n := -11) (by decide +kernel) bi_m11).trans ?_
  exact go_icmpne (m := 144) (pc := 103) (off := 93) (t := 196) (by decide +kernel) (by decide)
theorem Law_refuses_106_0 (l1 : Value) (l2 : Value) (x_l3 : Int32) (l4 : Value) (l5 : Value) (w : Wd) (I : MI) (L : ML) (P : MP)  : go 144 106 [.null, l1, l2, .int x_l3, l4, l5] [] w I L P = kC (call 125 [.null, .int x_l3, .int (nI 0), .int (nI 1), .long 0] w I L P) (fun v w1 I1 L1 P1 => go 144 114 [.null, l1, l2, .int x_l3, l4, l5] (v.toList ++ []) w1 I1 L1 P1) := by
  refine (go_aload_nN (m := 144) (pc := 106) (k := 0) (by decide +kernel) rfl).trans ?_
  refine (go_iload_n (m := 144) (pc := 107) (k := 3) (by decide +kernel) rfl).trans ?_
  refine (go_ic (m := 144) (pc := 108) (n := 0) (by decide +kernel) ic_0).trans ?_
  refine (go_ic (m := 144) (pc := 109) (n := 1) (by decide +kernel) ic_1).trans ?_
  refine (go_lc (m := 144) (pc := 110) (n := 0) (v := 0) (by decide +kernel) rfl).trans ?_
  exact go_sta (m := 144) (pc := 111) (o := 8) (x := 143) (y := 125) (kd := 4) (as := [.null, .int x_l3, .int (nI 0), .int (nI 1), .long 0]) (rs := []) (by decide +kernel) rfl rfl c_8_143 (Or.inr (Or.inr rfl)) rfl rfl rfl (by decide +kernel) (by simp only [List.length_cons, List.length_nil]; decide) (Nat.le_of_ble_eq_true rfl)
theorem Law_refuses_106_1 (a_l0 : Nat) (l1 : Value) (l2 : Value) (x_l3 : Int32) (l4 : Value) (l5 : Value) (w : Wd) (I : MI) (L : ML) (P : MP)  : go 144 106 [.ref a_l0, l1, l2, .int x_l3, l4, l5] [] w I L P = kC (call 125 [.ref a_l0, .int x_l3, .int (nI 0), .int (nI 1), .long 0] w I L P) (fun v w1 I1 L1 P1 => go 144 114 [.ref a_l0, l1, l2, .int x_l3, l4, l5] (v.toList ++ []) w1 I1 L1 P1) := by
  refine (go_aload_n (m := 144) (pc := 106) (k := 0) (by decide +kernel) rfl).trans ?_
  refine (go_iload_n (m := 144) (pc := 107) (k := 3) (by decide +kernel) rfl).trans ?_
  refine (go_ic (m := 144) (pc := 108) (n := 0) (by decide +kernel) ic_0).trans ?_
  refine (go_ic (m := 144) (pc := 109) (n := 1) (by decide +kernel) ic_1).trans ?_
  refine (go_lc (m := 144) (pc := 110) (n := 0) (v := 0) (by decide +kernel) rfl).trans ?_
  exact go_sta (m := 144) (pc := 111) (o := 8) (x := 143) (y := 125) (kd := 4) (as := [.ref a_l0, .int x_l3, .int (nI 0), .int (nI 1), .long 0]) (rs := []) (by decide +kernel) rfl rfl c_8_143 (Or.inr (Or.inr rfl)) rfl rfl rfl (by decide +kernel) (by simp only [List.length_cons, List.length_nil]; decide) (Nat.le_of_ble_eq_true rfl)
theorem Law_refuses_114 (l0 : Value) (l1 : Value) (l2 : Value) (l3 : Value) (l4 : Value) (l5 : Value) (y0 : Int32) (w : Wd) (I : MI) (L : ML) (P : MP)  : go 144 114 [l0, l1, l2, l3, l4, l5] [.int y0] w I L P = if y0 ≠ (-11) then go 144 196 [l0, l1, l2, l3, l4, l5] [] w I L P else go 144 119 [l0, l1, l2, l3, l4, l5] [] w I L P := by
  refine (go_bi (m := 144) (pc := 114) (n := -11) (by decide +kernel) bi_m11).trans ?_
  exact go_icmpne (m := 144) (pc := 116) (off := 80) (t := 196) (by decide +kernel) (by decide)
theorem Law_refuses_119_0 (l1 : Value) (l2 : Value) (l3 : Value) (l4 : Value) (l5 : Value) (w : Wd) (I : MI) (L : ML) (P : MP)  : go 144 119 [.null, l1, l2, l3, l4, l5] [] w I L P = kC (call 125 [.null, .int (nI 0), .int (nI 128), .int (nI 1), .long 0] w I L P) (fun v w1 I1 L1 P1 => go 144 129 [.null, l1, l2, l3, l4, l5] (v.toList ++ []) w1 I1 L1 P1) := by
  refine (go_aload_nN (m := 144) (pc := 119) (k := 0) (by decide +kernel) rfl).trans ?_
  refine (go_ic (m := 144) (pc := 120) (n := 0) (by decide +kernel) ic_0).trans ?_
  refine (go_si (m := 144) (pc := 121) (n := 128) (by decide +kernel) si_128).trans ?_
  refine (go_ic (m := 144) (pc := 124) (n := 1) (by decide +kernel) ic_1).trans ?_
  refine (go_lc (m := 144) (pc := 125) (n := 0) (v := 0) (by decide +kernel) rfl).trans ?_
  exact go_sta (m := 144) (pc := 126) (o := 8) (x := 143) (y := 125) (kd := 4) (as := [.null, .int (nI 0), .int (nI 128), .int (nI 1), .long 0]) (rs := []) (by decide +kernel) rfl rfl c_8_143 (Or.inr (Or.inr rfl)) rfl rfl rfl (by decide +kernel) (by simp only [List.length_cons, List.length_nil]; decide) (Nat.le_of_ble_eq_true rfl)
theorem Law_refuses_119_1 (a_l0 : Nat) (l1 : Value) (l2 : Value) (l3 : Value) (l4 : Value) (l5 : Value) (w : Wd) (I : MI) (L : ML) (P : MP)  : go 144 119 [.ref a_l0, l1, l2, l3, l4, l5] [] w I L P = kC (call 125 [.ref a_l0, .int (nI 0), .int (nI 128), .int (nI 1), .long 0] w I L P) (fun v w1 I1 L1 P1 => go 144 129 [.ref a_l0, l1, l2, l3, l4, l5] (v.toList ++ []) w1 I1 L1 P1) := by
  refine (go_aload_n (m := 144) (pc := 119) (k := 0) (by decide +kernel) rfl).trans ?_
  refine (go_ic (m := 144) (pc := 120) (n := 0) (by decide +kernel) ic_0).trans ?_
  refine (go_si (m := 144) (pc := 121) (n := 128) (by decide +kernel) si_128).trans ?_
  refine (go_ic (m := 144) (pc := 124) (n := 1) (by decide +kernel) ic_1).trans ?_
  refine (go_lc (m := 144) (pc := 125) (n := 0) (v := 0) (by decide +kernel) rfl).trans ?_
  exact go_sta (m := 144) (pc := 126) (o := 8) (x := 143) (y := 125) (kd := 4) (as := [.ref a_l0, .int (nI 0), .int (nI 128), .int (nI 1), .long 0]) (rs := []) (by decide +kernel) rfl rfl c_8_143 (Or.inr (Or.inr rfl)) rfl rfl rfl (by decide +kernel) (by simp only [List.length_cons, List.length_nil]; decide) (Nat.le_of_ble_eq_true rfl)
theorem Law_refuses_129 (l0 : Value) (l1 : Value) (l2 : Value) (l3 : Value) (l4 : Value) (l5 : Value) (y0 : Int32) (w : Wd) (I : MI) (L : ML) (P : MP)  : go 144 129 [l0, l1, l2, l3, l4, l5] [.int y0] w I L P = if y0 ≠ (-12) then go 144 196 [l0, l1, l2, l3, l4, l5] [] w I L P else go 144 134 [l0, l1, l2, l3, l4, l5] [] w I L P := by
  refine (go_bi (m := 144) (pc := 129) (n := -12) (by decide +kernel) bi_m12).trans ?_
  exact go_icmpne (m := 144) (pc := 131) (off := 65) (t := 196) (by decide +kernel) (by decide)
theorem Law_refuses_134_0 (l1 : Value) (l2 : Value) (l3 : Value) (l4 : Value) (l5 : Value) (w : Wd) (I : MI) (L : ML) (P : MP)  : go 144 134 [.null, l1, l2, l3, l4, l5] [] w I L P = kC (call 125 [.null, .int (nI 0), .int (nI 0), .int (nI 5), .long 0] w I L P) (fun v w1 I1 L1 P1 => go 144 142 [.null, l1, l2, l3, l4, l5] (v.toList ++ []) w1 I1 L1 P1) := by
  refine (go_aload_nN (m := 144) (pc := 134) (k := 0) (by decide +kernel) rfl).trans ?_
  refine (go_ic (m := 144) (pc := 135) (n := 0) (by decide +kernel) ic_0).trans ?_
  refine (go_ic (m := 144) (pc := 136) (n := 0) (by decide +kernel) ic_0).trans ?_
  refine (go_ic (m := 144) (pc := 137) (n := 5) (by decide +kernel) ic_5).trans ?_
  refine (go_lc (m := 144) (pc := 138) (n := 0) (v := 0) (by decide +kernel) rfl).trans ?_
  exact go_sta (m := 144) (pc := 139) (o := 8) (x := 143) (y := 125) (kd := 4) (as := [.null, .int (nI 0), .int (nI 0), .int (nI 5), .long 0]) (rs := []) (by decide +kernel) rfl rfl c_8_143 (Or.inr (Or.inr rfl)) rfl rfl rfl (by decide +kernel) (by simp only [List.length_cons, List.length_nil]; decide) (Nat.le_of_ble_eq_true rfl)
theorem Law_refuses_134_1 (a_l0 : Nat) (l1 : Value) (l2 : Value) (l3 : Value) (l4 : Value) (l5 : Value) (w : Wd) (I : MI) (L : ML) (P : MP)  : go 144 134 [.ref a_l0, l1, l2, l3, l4, l5] [] w I L P = kC (call 125 [.ref a_l0, .int (nI 0), .int (nI 0), .int (nI 5), .long 0] w I L P) (fun v w1 I1 L1 P1 => go 144 142 [.ref a_l0, l1, l2, l3, l4, l5] (v.toList ++ []) w1 I1 L1 P1) := by
  refine (go_aload_n (m := 144) (pc := 134) (k := 0) (by decide +kernel) rfl).trans ?_
  refine (go_ic (m := 144) (pc := 135) (n := 0) (by decide +kernel) ic_0).trans ?_
  refine (go_ic (m := 144) (pc := 136) (n := 0) (by decide +kernel) ic_0).trans ?_
  refine (go_ic (m := 144) (pc := 137) (n := 5) (by decide +kernel) ic_5).trans ?_
  refine (go_lc (m := 144) (pc := 138) (n := 0) (v := 0) (by decide +kernel) rfl).trans ?_
  exact go_sta (m := 144) (pc := 139) (o := 8) (x := 143) (y := 125) (kd := 4) (as := [.ref a_l0, .int (nI 0), .int (nI 0), .int (nI 5), .long 0]) (rs := []) (by decide +kernel) rfl rfl c_8_143 (Or.inr (Or.inr rfl)) rfl rfl rfl (by decide +kernel) (by simp only [List.length_cons, List.length_nil]; decide) (Nat.le_of_ble_eq_true rfl)
theorem Law_refuses_142 (l0 : Value) (l1 : Value) (l2 : Value) (l3 : Value) (l4 : Value) (l5 : Value) (y0 : Int32) (w : Wd) (I : MI) (L : ML) (P : MP)  : go 144 142 [l0, l1, l2, l3, l4, l5] [.int y0] w I L P = if y0 ≠ (-12) then go 144 196 [l0, l1, l2, l3, l4, l5] [] w I L P else go 144 147 [l0, l1, l2, l3, l4, l5] [] w I L P := by
  refine (go_bi (m := 144) (pc := 142) (n := -12) (by decide +kernel) bi_m12).trans ?_
  exact go_icmpne (m := 144) (pc := 144) (off := 52) (t := 196) (by decide +kernel) (by decide)
theorem Law_refuses_147_0 (l1 : Value) (l2 : Value) (l3 : Value) (l4 : Value) (l5 : Value) (w : Wd) (I : MI) (L : ML) (P : MP)  : go 144 147 [.null, l1, l2, l3, l4, l5] [] w I L P = kC (call 125 [.null, .int (nI 0), .int (nI 0), .int (nI 1), .long 256] w I L P) (fun v w1 I1 L1 P1 => go 144 157 [.null, l1, l2, l3, l4, l5] (v.toList ++ []) w1 I1 L1 P1) := by
  refine (go_aload_nN (m := 144) (pc := 147) (k := 0) (by decide +kernel) rfl).trans ?_
  refine (go_ic (m := 144) (pc := 148) (n := 0) (by decide +kernel) ic_0).trans ?_
  refine (go_ic (m := 144) (pc := 149) (n := 0) (by decide +kernel) ic_0).trans ?_
  refine (go_ic (m := 144) (pc := 150) (n := 1) (by decide +kernel) ic_1).trans ?_
  refine (go_ldc2 (m := 144) (pc := 151) (o := 8) (x := 146) (v := 256) (by decide +kernel) rfl (by decide +kernel)).trans ?_
  exact go_sta (m := 144) (pc := 154) (o := 8) (x := 143) (y := 125) (kd := 4) (as := [.null, .int (nI 0), .int (nI 0), .int (nI 1), .long 256]) (rs := []) (by decide +kernel) rfl rfl c_8_143 (Or.inr (Or.inr rfl)) rfl rfl rfl (by decide +kernel) (by simp only [List.length_cons, List.length_nil]; decide) (Nat.le_of_ble_eq_true rfl)
theorem Law_refuses_147_1 (a_l0 : Nat) (l1 : Value) (l2 : Value) (l3 : Value) (l4 : Value) (l5 : Value) (w : Wd) (I : MI) (L : ML) (P : MP)  : go 144 147 [.ref a_l0, l1, l2, l3, l4, l5] [] w I L P = kC (call 125 [.ref a_l0, .int (nI 0), .int (nI 0), .int (nI 1), .long 256] w I L P) (fun v w1 I1 L1 P1 => go 144 157 [.ref a_l0, l1, l2, l3, l4, l5] (v.toList ++ []) w1 I1 L1 P1) := by
  refine (go_aload_n (m := 144) (pc := 147) (k := 0) (by decide +kernel) rfl).trans ?_
  refine (go_ic (m := 144) (pc := 148) (n := 0) (by decide +kernel) ic_0).trans ?_
  refine (go_ic (m := 144) (pc := 149) (n := 0) (by decide +kernel) ic_0).trans ?_
  refine (go_ic (m := 144) (pc := 150) (n := 1) (by decide +kernel) ic_1).trans ?_
  refine (go_ldc2 (m := 144) (pc := 151) (o := 8) (x := 146) (v := 256) (by decide +kernel) rfl (by decide +kernel)).trans ?_
  exact go_sta (m := 144) (pc := 154) (o := 8) (x := 143) (y := 125) (kd := 4) (as := [.ref a_l0, .int (nI 0), .int (nI 0), .int (nI 1), .long 256]) (rs := []) (by decide +kernel) rfl rfl c_8_143 (Or.inr (Or.inr rfl)) rfl rfl rfl (by decide +kernel) (by simp only [List.length_cons, List.length_nil]; decide) (Nat.le_of_ble_eq_true rfl)
theorem Law_refuses_157 (l0 : Value) (l1 : Value) (l2 : Value) (l3 : Value) (l4 : Value) (l5 : Value) (y0 : Int32) (w : Wd) (I : MI) (L : ML) (P : MP)  : go 144 157 [l0, l1, l2, l3, l4, l5] [.int y0] w I L P = if y0 ≠ (-12) then go 144 196 [l0, l1, l2, l3, l4, l5] [] w I L P else go 144 162 [l0, l1, l2, l3, l4, l5] [] w I L P := by
  refine (go_bi (m := 144) (pc := 157) (n := -12) (by decide +kernel) bi_m12).trans ?_
  exact go_icmpne (m := 144) (pc := 159) (off := 37) (t := 196) (by decide +kernel) (by decide)
theorem Law_refuses_162_0 (l1 : Value) (l2 : Value) (l3 : Value) (l4 : Value) (l5 : Value) (w : Wd) (I : MI) (L : ML) (P : MP)  : go 144 162 [.null, l1, l2, l3, l4, l5] [] w I L P = kC (call 125 [.null, .int (nI 0), .int (nI 0), .int (nI 4), .long 4294967296] w I L P) (fun v w1 I1 L1 P1 => go 144 172 [.null, l1, l2, l3, l4, l5] (v.toList ++ []) w1 I1 L1 P1) := by
  refine (go_aload_nN (m := 144) (pc := 162) (k := 0) (by decide +kernel) rfl).trans ?_
  refine (go_ic (m := 144) (pc := 163) (n := 0) (by decide +kernel) ic_0).trans ?_
  refine (go_ic (m := 144) (pc := 164) (n := 0) (by decide +kernel) ic_0).trans ?_
  refine (go_ic (m := 144) (pc := 165) (n := 4) (by decide +kernel) ic_4).trans ?_
  refine (go_ldc2 (m := 144) (pc := 166) (o := 8) (x := 148) (v := 4294967296) (by decide +kernel) rfl (by decide +kernel)).trans ?_
  exact go_sta (m := 144) (pc := 169) (o := 8) (x := 143) (y := 125) (kd := 4) (as := [.null, .int (nI 0), .int (nI 0), .int (nI 4), .long 4294967296]) (rs := []) (by decide +kernel) rfl rfl c_8_143 (Or.inr (Or.inr rfl)) rfl rfl rfl (by decide +kernel) (by simp only [List.length_cons, List.length_nil]; decide) (Nat.le_of_ble_eq_true rfl)
theorem Law_refuses_162_1 (a_l0 : Nat) (l1 : Value) (l2 : Value) (l3 : Value) (l4 : Value) (l5 : Value) (w : Wd) (I : MI) (L : ML) (P : MP)  : go 144 162 [.ref a_l0, l1, l2, l3, l4, l5] [] w I L P = kC (call 125 [.ref a_l0, .int (nI 0), .int (nI 0), .int (nI 4), .long 4294967296] w I L P) (fun v w1 I1 L1 P1 => go 144 172 [.ref a_l0, l1, l2, l3, l4, l5] (v.toList ++ []) w1 I1 L1 P1) := by
  refine (go_aload_n (m := 144) (pc := 162) (k := 0) (by decide +kernel) rfl).trans ?_
  refine (go_ic (m := 144) (pc := 163) (n := 0) (by decide +kernel) ic_0).trans ?_
  refine (go_ic (m := 144) (pc := 164) (n := 0) (by decide +kernel) ic_0).trans ?_
  refine (go_ic (m := 144) (pc := 165) (n := 4) (by decide +kernel) ic_4).trans ?_
  refine (go_ldc2 (m := 144) (pc := 166) (o := 8) (x := 148) (v := 4294967296) (by decide +kernel) rfl (by decide +kernel)).trans ?_
  exact go_sta (m := 144) (pc := 169) (o := 8) (x := 143) (y := 125) (kd := 4) (as := [.ref a_l0, .int (nI 0), .int (nI 0), .int (nI 4), .long 4294967296]) (rs := []) (by decide +kernel) rfl rfl c_8_143 (Or.inr (Or.inr rfl)) rfl rfl rfl (by decide +kernel) (by simp only [List.length_cons, List.length_nil]; decide) (Nat.le_of_ble_eq_true rfl)
theorem Law_refuses_172 (l0 : Value) (l1 : Value) (l2 : Value) (l3 : Value) (l4 : Value) (l5 : Value) (y0 : Int32) (w : Wd) (I : MI) (L : ML) (P : MP)  : go 144 172 [l0, l1, l2, l3, l4, l5] [.int y0] w I L P = if y0 ≠ (-12) then go 144 196 [l0, l1, l2, l3, l4, l5] [] w I L P else go 144 177 [l0, l1, l2, l3, l4, l5] [] w I L P := by
  refine (go_bi (m := 144) (pc := 172) (n := -12) (by decide +kernel) bi_m12).trans ?_
  exact go_icmpne (m := 144) (pc := 174) (off := 22) (t := 196) (by decide +kernel) (by decide)
theorem Law_refuses_177_0 (l1 : Value) (l2 : Value) (l3 : Value) (l4 : Value) (l5 : Value) (w : Wd) (I : MI) (L : ML) (P : MP)  : go 144 177 [.null, l1, l2, l3, l4, l5] [] w I L P = kC (call 125 [.null, .int (nI 0), .int (nI 0), .int (nI 4), .long (-1)] w I L P) (fun v w1 I1 L1 P1 => go 144 187 [.null, l1, l2, l3, l4, l5] (v.toList ++ []) w1 I1 L1 P1) := by
  refine (go_aload_nN (m := 144) (pc := 177) (k := 0) (by decide +kernel) rfl).trans ?_
  refine (go_ic (m := 144) (pc := 178) (n := 0) (by decide +kernel) ic_0).trans ?_
  refine (go_ic (m := 144) (pc := 179) (n := 0) (by decide +kernel) ic_0).trans ?_
  refine (go_ic (m := 144) (pc := 180) (n := 4) (by decide +kernel) ic_4).trans ?_
  refine (go_ldc2 (m := 144) (pc := 181) (o := 8) (x := 150) (v := -1) (by decide +kernel) rfl (by decide +kernel)).trans ?_
  exact go_sta (m := 144) (pc := 184) (o := 8) (x := 143) (y := 125) (kd := 4) (as := [.null, .int (nI 0), .int (nI 0), .int (nI 4), .long (-1)]) (rs := []) (by decide +kernel) rfl rfl c_8_143 (Or.inr (Or.inr rfl)) rfl rfl rfl (by decide +kernel) (by simp only [List.length_cons, List.length_nil]; decide) (Nat.le_of_ble_eq_true rfl)
theorem Law_refuses_177_1 (a_l0 : Nat) (l1 : Value) (l2 : Value) (l3 : Value) (l4 : Value) (l5 : Value) (w : Wd) (I : MI) (L : ML) (P : MP)  : go 144 177 [.ref a_l0, l1, l2, l3, l4, l5] [] w I L P = kC (call 125 [.ref a_l0, .int (nI 0), .int (nI 0), .int (nI 4), .long (-1)] w I L P) (fun v w1 I1 L1 P1 => go 144 187 [.ref a_l0, l1, l2, l3, l4, l5] (v.toList ++ []) w1 I1 L1 P1) := by
  refine (go_aload_n (m := 144) (pc := 177) (k := 0) (by decide +kernel) rfl).trans ?_
  refine (go_ic (m := 144) (pc := 178) (n := 0) (by decide +kernel) ic_0).trans ?_
  refine (go_ic (m := 144) (pc := 179) (n := 0) (by decide +kernel) ic_0).trans ?_
  refine (go_ic (m := 144) (pc := 180) (n := 4) (by decide +kernel) ic_4).trans ?_
  refine (go_ldc2 (m := 144) (pc := 181) (o := 8) (x := 150) (v := -1) (by decide +kernel) rfl (by decide +kernel)).trans ?_
  exact go_sta (m := 144) (pc := 184) (o := 8) (x := 143) (y := 125) (kd := 4) (as := [.ref a_l0, .int (nI 0), .int (nI 0), .int (nI 4), .long (-1)]) (rs := []) (by decide +kernel) rfl rfl c_8_143 (Or.inr (Or.inr rfl)) rfl rfl rfl (by decide +kernel) (by simp only [List.length_cons, List.length_nil]; decide) (Nat.le_of_ble_eq_true rfl)
theorem Law_refuses_187 (l0 : Value) (l1 : Value) (l2 : Value) (l3 : Value) (l4 : Value) (l5 : Value) (y0 : Int32) (w : Wd) (I : MI) (L : ML) (P : MP)  : go 144 187 [l0, l1, l2, l3, l4, l5] [.int y0] w I L P = if y0 ≠ (-12) then go 144 196 [l0, l1, l2, l3, l4, l5] [] w I L P else go 144 192 [l0, l1, l2, l3, l4, l5] [] w I L P := by
  refine (go_bi (m := 144) (pc := 187) (n := -12) (by decide +kernel) bi_m12).trans ?_
  exact go_icmpne (m := 144) (pc := 189) (off := 7) (t := 196) (by decide +kernel) (by decide)
theorem Law_refuses_192 (l0 : Value) (l1 : Value) (l2 : Value) (l3 : Value) (l4 : Value) (l5 : Value) (w : Wd) (I : MI) (L : ML) (P : MP)  : go 144 192 [l0, l1, l2, l3, l4, l5] [] w I L P = go 144 197 [l0, l1, l2, l3, l4, l5] [.int (nI 1)] w I L P := by
  refine (go_ic (m := 144) (pc := 192) (n := 1) (by decide +kernel) ic_1).trans ?_
  refine (go_goto (m := 144) (pc := 193) (off := 4) (t := 197) (by decide +kernel) (by decide)).trans ?_
  rfl
theorem Law_refuses_196 (l0 : Value) (l1 : Value) (l2 : Value) (l3 : Value) (l4 : Value) (l5 : Value) (w : Wd) (I : MI) (L : ML) (P : MP)  : go 144 196 [l0, l1, l2, l3, l4, l5] [] w I L P = go 144 197 [l0, l1, l2, l3, l4, l5] [.int (nI 0)] w I L P := by
  refine (go_ic (m := 144) (pc := 196) (n := 0) (by decide +kernel) ic_0).trans ?_
  rfl
theorem Law_refuses_197 (l0 : Value) (l1 : Value) (l2 : Value) (l3 : Value) (l4 : Value) (l5 : Value) (y0 : Int32) (w : Wd) (I : MI) (L : ML) (P : MP)  : go 144 197 [l0, l1, l2, l3, l4, l5] [.int y0] w I L P = if y0 = 0 then go 144 370 [l0, l1, l2, l3, (fix1 l4), .int y0] [] w I L P else go 144 204 [l0, l1, l2, l3, (fix1 l4), .int y0] [] w I L P := by
  refine (go_istore (m := 144) (pc := 197) (k := 5) (ls' := [l0, l1, l2, l3, (fix1 l4), .int y0]) (by decide +kernel) (by simp only [List.length_cons, List.length_nil]; decide) rfl).trans ?_
  refine (go_iload (m := 144) (pc := 199) (k := 5) (by decide +kernel) rfl).trans ?_
  exact go_ifeq (m := 144) (pc := 201) (off := 169) (t := 370) (by decide +kernel) (by decide)
theorem Law_refuses_204_0 (l1 : Value) (l2 : Value) (l3 : Value) (l4 : Value) (l5 : Value) (w : Wd) (I : MI) (L : ML) (P : MP)  : go 144 204 [.null, l1, l2, l3, l4, l5] [] w I L P = kC (call 126 [.null, .int (-1), .int (nI 0), .int (nI 1)] w I L P) (fun v w1 I1 L1 P1 => go 144 211 [.null, l1, l2, l3, l4, l5] (v.toList ++ []) w1 I1 L1 P1) := by
  refine (go_aload_nN (m := 144) (pc := 204) (k := 0) (by decide +kernel) rfl).trans ?_
  refine (go_ic (m := 144) (pc := 205) (n := -1) (by decide +kernel) ic_m1).trans ?_
  refine (go_ic (m := 144) (pc := 206) (n := 0) (by decide +kernel) ic_0).trans ?_
  refine (go_ic (m := 144) (pc := 207) (n := 1) (by decide +kernel) ic_1).trans ?_
  exact go_sta (m := 144) (pc := 208) (o := 8) (x := 152) (y := 126) (kd := 4) (as := [.null, .int (-1), .int (nI 0), .int (nI 1)]) (rs := []) (by decide +kernel) rfl rfl c_8_152 (Or.inr (Or.inr rfl)) rfl rfl rfl (by decide +kernel) (by simp only [List.length_cons, List.length_nil]; decide) (Nat.le_of_ble_eq_true rfl)
theorem Law_refuses_204_1 (a_l0 : Nat) (l1 : Value) (l2 : Value) (l3 : Value) (l4 : Value) (l5 : Value) (w : Wd) (I : MI) (L : ML) (P : MP)  : go 144 204 [.ref a_l0, l1, l2, l3, l4, l5] [] w I L P = kC (call 126 [.ref a_l0, .int (-1), .int (nI 0), .int (nI 1)] w I L P) (fun v w1 I1 L1 P1 => go 144 211 [.ref a_l0, l1, l2, l3, l4, l5] (v.toList ++ []) w1 I1 L1 P1) := by
  refine (go_aload_n (m := 144) (pc := 204) (k := 0) (by decide +kernel) rfl).trans ?_
  refine (go_ic (m := 144) (pc := 205) (n := -1) (by decide +kernel) ic_m1).trans ?_
  refine (go_ic (m := 144) (pc := 206) (n := 0) (by decide +kernel) ic_0).trans ?_
  refine (go_ic (m := 144) (pc := 207) (n := 1) (by decide +kernel) ic_1).trans ?_
  exact go_sta (m := 144) (pc := 208) (o := 8) (x := 152) (y := 126) (kd := 4) (as := [.ref a_l0, .int (-1), .int (nI 0), .int (nI 1)]) (rs := []) (by decide +kernel) rfl rfl c_8_152 (Or.inr (Or.inr rfl)) rfl rfl rfl (by decide +kernel) (by simp only [List.length_cons, List.length_nil]; decide) (Nat.le_of_ble_eq_true rfl)
theorem Law_refuses_211 (l0 : Value) (l1 : Value) (l2 : Value) (l3 : Value) (l4 : Value) (l5 : Value) (y0 : Int32) (w : Wd) (I : MI) (L : ML) (P : MP)  : go 144 211 [l0, l1, l2, l3, l4, l5] [.int y0] w I L P = if y0 ≠ (-11) then go 144 370 [l0, l1, l2, l3, l4, l5] [] w I L P else go 144 216 [l0, l1, l2, l3, l4, l5] [] w I L P := by
  refine (go_bi (m := 144) (pc := 211) (n := -11) (by decide +kernel) bi_m11).trans ?_
  exact go_icmpne (m := 144) (pc := 213) (off := 157) (t := 370) (by decide +kernel) (by decide)
theorem Law_refuses_216_0 (l1 : Value) (l2 : Value) (l3 : Value) (l4 : Value) (l5 : Value) (w : Wd) (I : MI) (L : ML) (P : MP)  : go 144 216 [.null, l1, l2, l3, l4, l5] [] w I L P = kC (call 126 [.null, .int (nI 0), .int (-1), .int (nI 1)] w I L P) (fun v w1 I1 L1 P1 => go 144 223 [.null, l1, l2, l3, l4, l5] (v.toList ++ []) w1 I1 L1 P1) := by
  refine (go_aload_nN (m := 144) (pc := 216) (k := 0) (by decide +kernel) rfl).trans ?_
  refine (go_ic (m := 144) (pc := 217) (n := 0) (by decide +kernel) ic_0).trans ?_
  refine (go_ic (m := 144) (pc := 218) (n := -1) (by decide +kernel) ic_m1).trans ?_
  refine (go_ic (m := 144) (pc := 219) (n := 1) (by decide +kernel) ic_1).trans ?_
  exact go_sta (m := 144) (pc := 220) (o := 8) (x := 152) (y := 126) (kd := 4) (as := [.null, .int (nI 0), .int (-1), .int (nI 1)]) (rs := []) (by decide +kernel) rfl rfl c_8_152 (Or.inr (Or.inr rfl)) rfl rfl rfl (by decide +kernel) (by simp only [List.length_cons, List.length_nil]; decide) (Nat.le_of_ble_eq_true rfl)
theorem Law_refuses_216_1 (a_l0 : Nat) (l1 : Value) (l2 : Value) (l3 : Value) (l4 : Value) (l5 : Value) (w : Wd) (I : MI) (L : ML) (P : MP)  : go 144 216 [.ref a_l0, l1, l2, l3, l4, l5] [] w I L P = kC (call 126 [.ref a_l0, .int (nI 0), .int (-1), .int (nI 1)] w I L P) (fun v w1 I1 L1 P1 => go 144 223 [.ref a_l0, l1, l2, l3, l4, l5] (v.toList ++ []) w1 I1 L1 P1) := by
  refine (go_aload_n (m := 144) (pc := 216) (k := 0) (by decide +kernel) rfl).trans ?_
  refine (go_ic (m := 144) (pc := 217) (n := 0) (by decide +kernel) ic_0).trans ?_
  refine (go_ic (m := 144) (pc := 218) (n := -1) (by decide +kernel) ic_m1).trans ?_
  refine (go_ic (m := 144) (pc := 219) (n := 1) (by decide +kernel) ic_1).trans ?_
  exact go_sta (m := 144) (pc := 220) (o := 8) (x := 152) (y := 126) (kd := 4) (as := [.ref a_l0, .int (nI 0), .int (-1), .int (nI 1)]) (rs := []) (by decide +kernel) rfl rfl c_8_152 (Or.inr (Or.inr rfl)) rfl rfl rfl (by decide +kernel) (by simp only [List.length_cons, List.length_nil]; decide) (Nat.le_of_ble_eq_true rfl)
theorem Law_refuses_223 (l0 : Value) (l1 : Value) (l2 : Value) (l3 : Value) (l4 : Value) (l5 : Value) (y0 : Int32) (w : Wd) (I : MI) (L : ML) (P : MP)  : go 144 223 [l0, l1, l2, l3, l4, l5] [.int y0] w I L P = if y0 ≠ (-12) then go 144 370 [l0, l1, l2, l3, l4, l5] [] w I L P else go 144 228 [l0, l1, l2, l3, l4, l5] [] w I L P := by
  refine (go_bi (m := 144) (pc := 223) (n := -12) (by decide +kernel) bi_m12).trans ?_
  exact go_icmpne (m := 144) (pc := 225) (off := 145) (t := 370) (by decide +kernel) (by decide)
theorem Law_refuses_228_0 (l1 : Value) (l2 : Value) (l3 : Value) (l4 : Value) (l5 : Value) (w : Wd) (I : MI) (L : ML) (P : MP)  : go 144 228 [.null, l1, l2, l3, l4, l5] [] w I L P = kC (call 126 [.null, .int (nI 0), .int (nI 0), .int (nI 0)] w I L P) (fun v w1 I1 L1 P1 => go 144 235 [.null, l1, l2, l3, l4, l5] (v.toList ++ []) w1 I1 L1 P1) := by
  refine (go_aload_nN (m := 144) (pc := 228) (k := 0) (by decide +kernel) rfl).trans ?_
  refine (go_ic (m := 144) (pc := 229) (n := 0) (by decide +kernel) ic_0).trans ?_
  refine (go_ic (m := 144) (pc := 230) (n := 0) (by decide +kernel) ic_0).trans ?_
  refine (go_ic (m := 144) (pc := 231) (n := 0) (by decide +kernel) ic_0).trans ?_
  exact go_sta (m := 144) (pc := 232) (o := 8) (x := 152) (y := 126) (kd := 4) (as := [.null, .int (nI 0), .int (nI 0), .int (nI 0)]) (rs := []) (by decide +kernel) rfl rfl c_8_152 (Or.inr (Or.inr rfl)) rfl rfl rfl (by decide +kernel) (by simp only [List.length_cons, List.length_nil]; decide) (Nat.le_of_ble_eq_true rfl)
theorem Law_refuses_228_1 (a_l0 : Nat) (l1 : Value) (l2 : Value) (l3 : Value) (l4 : Value) (l5 : Value) (w : Wd) (I : MI) (L : ML) (P : MP)  : go 144 228 [.ref a_l0, l1, l2, l3, l4, l5] [] w I L P = kC (call 126 [.ref a_l0, .int (nI 0), .int (nI 0), .int (nI 0)] w I L P) (fun v w1 I1 L1 P1 => go 144 235 [.ref a_l0, l1, l2, l3, l4, l5] (v.toList ++ []) w1 I1 L1 P1) := by
  refine (go_aload_n (m := 144) (pc := 228) (k := 0) (by decide +kernel) rfl).trans ?_
  refine (go_ic (m := 144) (pc := 229) (n := 0) (by decide +kernel) ic_0).trans ?_
  refine (go_ic (m := 144) (pc := 230) (n := 0) (by decide +kernel) ic_0).trans ?_
  refine (go_ic (m := 144) (pc := 231) (n := 0) (by decide +kernel) ic_0).trans ?_
  exact go_sta (m := 144) (pc := 232) (o := 8) (x := 152) (y := 126) (kd := 4) (as := [.ref a_l0, .int (nI 0), .int (nI 0), .int (nI 0)]) (rs := []) (by decide +kernel) rfl rfl c_8_152 (Or.inr (Or.inr rfl)) rfl rfl rfl (by decide +kernel) (by simp only [List.length_cons, List.length_nil]; decide) (Nat.le_of_ble_eq_true rfl)
theorem Law_refuses_235 (l0 : Value) (l1 : Value) (l2 : Value) (l3 : Value) (l4 : Value) (l5 : Value) (y0 : Int32) (w : Wd) (I : MI) (L : ML) (P : MP)  : go 144 235 [l0, l1, l2, l3, l4, l5] [.int y0] w I L P = if y0 ≠ (-12) then go 144 370 [l0, l1, l2, l3, l4, l5] [] w I L P else go 144 240 [l0, l1, l2, l3, l4, l5] [] w I L P := by
  refine (go_bi (m := 144) (pc := 235) (n := -12) (by decide +kernel) bi_m12).trans ?_
  exact go_icmpne (m := 144) (pc := 237) (off := 133) (t := 370) (by decide +kernel) (by decide)
theorem Law_refuses_240_0 (l1 : Value) (l2 : Value) (x_l3 : Int32) (l4 : Value) (l5 : Value) (w : Wd) (I : MI) (L : ML) (P : MP)  : go 144 240 [.null, l1, l2, .int x_l3, l4, l5] [] w I L P = kC (call 127 [.null, .int x_l3] w I L P) (fun v w1 I1 L1 P1 => go 144 245 [.null, l1, l2, .int x_l3, l4, l5] (v.toList ++ []) w1 I1 L1 P1) := by
  refine (go_aload_nN (m := 144) (pc := 240) (k := 0) (by decide +kernel) rfl).trans ?_
  refine (go_iload_n (m := 144) (pc := 241) (k := 3) (by decide +kernel) rfl).trans ?_
  exact go_sta (m := 144) (pc := 242) (o := 8) (x := 126) (y := 127) (kd := 4) (as := [.null, .int x_l3]) (rs := []) (by decide +kernel) rfl rfl c_8_126 (Or.inr (Or.inr rfl)) rfl rfl rfl (by decide +kernel) (by simp only [List.length_cons, List.length_nil]; decide) (Nat.le_of_ble_eq_true rfl)
theorem Law_refuses_240_1 (a_l0 : Nat) (l1 : Value) (l2 : Value) (x_l3 : Int32) (l4 : Value) (l5 : Value) (w : Wd) (I : MI) (L : ML) (P : MP)  : go 144 240 [.ref a_l0, l1, l2, .int x_l3, l4, l5] [] w I L P = kC (call 127 [.ref a_l0, .int x_l3] w I L P) (fun v w1 I1 L1 P1 => go 144 245 [.ref a_l0, l1, l2, .int x_l3, l4, l5] (v.toList ++ []) w1 I1 L1 P1) := by
  refine (go_aload_n (m := 144) (pc := 240) (k := 0) (by decide +kernel) rfl).trans ?_
  refine (go_iload_n (m := 144) (pc := 241) (k := 3) (by decide +kernel) rfl).trans ?_
  exact go_sta (m := 144) (pc := 242) (o := 8) (x := 126) (y := 127) (kd := 4) (as := [.ref a_l0, .int x_l3]) (rs := []) (by decide +kernel) rfl rfl c_8_126 (Or.inr (Or.inr rfl)) rfl rfl rfl (by decide +kernel) (by simp only [List.length_cons, List.length_nil]; decide) (Nat.le_of_ble_eq_true rfl)
theorem Law_refuses_245 (l0 : Value) (l1 : Value) (l2 : Value) (l3 : Value) (l4 : Value) (l5 : Value) (y0 : Int32) (w : Wd) (I : MI) (L : ML) (P : MP)  : go 144 245 [l0, l1, l2, l3, l4, l5] [.int y0] w I L P = if y0 ≠ (-11) then go 144 370 [l0, l1, l2, l3, l4, l5] [] w I L P else go 144 250 [l0, l1, l2, l3, l4, l5] [] w I L P := by
  refine (go_bi (m := 144) (pc := 245) (n := -11) (by decide +kernel) bi_m11).trans ?_
  exact go_icmpne (m := 144) (pc := 247) (off := 123) (t := 370) (by decide +kernel) (by decide)
theorem Law_refuses_250_0 (l1 : Value) (l2 : Value) (l3 : Value) (l4 : Value) (l5 : Value) (w : Wd) (I : MI) (L : ML) (P : MP)  : go 144 250 [.null, l1, l2, l3, l4, l5] [] w I L P = kC (call 128 [.null, .int (nI 0)] w I L P) (fun v w1 I1 L1 P1 => go 144 255 [.null, l1, l2, l3, l4, l5] (v.toList ++ []) w1 I1 L1 P1) := by
  refine (go_aload_nN (m := 144) (pc := 250) (k := 0) (by decide +kernel) rfl).trans ?_
  refine (go_ic (m := 144) (pc := 251) (n := 0) (by decide +kernel) ic_0).trans ?_
  exact go_sta (m := 144) (pc := 252) (o := 8) (x := 113) (y := 128) (kd := 4) (as := [.null, .int (nI 0)]) (rs := []) (by decide +kernel) rfl rfl c_8_113 (Or.inr (Or.inr rfl)) rfl rfl rfl (by decide +kernel) (by simp only [List.length_cons, List.length_nil]; decide) (Nat.le_of_ble_eq_true rfl)
theorem Law_refuses_250_1 (a_l0 : Nat) (l1 : Value) (l2 : Value) (l3 : Value) (l4 : Value) (l5 : Value) (w : Wd) (I : MI) (L : ML) (P : MP)  : go 144 250 [.ref a_l0, l1, l2, l3, l4, l5] [] w I L P = kC (call 128 [.ref a_l0, .int (nI 0)] w I L P) (fun v w1 I1 L1 P1 => go 144 255 [.ref a_l0, l1, l2, l3, l4, l5] (v.toList ++ []) w1 I1 L1 P1) := by
  refine (go_aload_n (m := 144) (pc := 250) (k := 0) (by decide +kernel) rfl).trans ?_
  refine (go_ic (m := 144) (pc := 251) (n := 0) (by decide +kernel) ic_0).trans ?_
  exact go_sta (m := 144) (pc := 252) (o := 8) (x := 113) (y := 128) (kd := 4) (as := [.ref a_l0, .int (nI 0)]) (rs := []) (by decide +kernel) rfl rfl c_8_113 (Or.inr (Or.inr rfl)) rfl rfl rfl (by decide +kernel) (by simp only [List.length_cons, List.length_nil]; decide) (Nat.le_of_ble_eq_true rfl)
theorem Law_refuses_255 (l0 : Value) (l1 : Value) (l2 : Value) (l3 : Value) (l4 : Value) (l5 : Value) (y0 : Int32) (w : Wd) (I : MI) (L : ML) (P : MP)  : go 144 255 [l0, l1, l2, l3, l4, l5] [.int y0] w I L P = if y0 ≠ (-11) then go 144 370 [l0, l1, l2, l3, l4, l5] [] w I L P else go 144 260 [l0, l1, l2, l3, l4, l5] [] w I L P := by
  refine (go_bi (m := 144) (pc := 255) (n := -11) (by decide +kernel) bi_m11).trans ?_
  exact go_icmpne (m := 144) (pc := 257) (off := 113) (t := 370) (by decide +kernel) (by decide)
theorem Law_refuses_260_0 (l1 : Value) (l2 : Value) (l3 : Value) (l4 : Value) (l5 : Value) (w : Wd) (I : MI) (L : ML) (P : MP)  : go 144 260 [.null, l1, l2, l3, l4, l5] [] w I L P = kC (call 128 [.null, .int (nI 201)] w I L P) (fun v w1 I1 L1 P1 => go 144 267 [.null, l1, l2, l3, l4, l5] (v.toList ++ []) w1 I1 L1 P1) := by
  refine (go_aload_nN (m := 144) (pc := 260) (k := 0) (by decide +kernel) rfl).trans ?_
  refine (go_si (m := 144) (pc := 261) (n := 201) (by decide +kernel) si_201).trans ?_
  exact go_sta (m := 144) (pc := 264) (o := 8) (x := 113) (y := 128) (kd := 4) (as := [.null, .int (nI 201)]) (rs := []) (by decide +kernel) rfl rfl c_8_113 (Or.inr (Or.inr rfl)) rfl rfl rfl (by decide +kernel) (by simp only [List.length_cons, List.length_nil]; decide) (Nat.le_of_ble_eq_true rfl)
theorem Law_refuses_260_1 (a_l0 : Nat) (l1 : Value) (l2 : Value) (l3 : Value) (l4 : Value) (l5 : Value) (w : Wd) (I : MI) (L : ML) (P : MP)  : go 144 260 [.ref a_l0, l1, l2, l3, l4, l5] [] w I L P = kC (call 128 [.ref a_l0, .int (nI 201)] w I L P) (fun v w1 I1 L1 P1 => go 144 267 [.ref a_l0, l1, l2, l3, l4, l5] (v.toList ++ []) w1 I1 L1 P1) := by
  refine (go_aload_n (m := 144) (pc := 260) (k := 0) (by decide +kernel) rfl).trans ?_
  refine (go_si (m := 144) (pc := 261) (n := 201) (by decide +kernel) si_201).trans ?_
  exact go_sta (m := 144) (pc := 264) (o := 8) (x := 113) (y := 128) (kd := 4) (as := [.ref a_l0, .int (nI 201)]) (rs := []) (by decide +kernel) rfl rfl c_8_113 (Or.inr (Or.inr rfl)) rfl rfl rfl (by decide +kernel) (by simp only [List.length_cons, List.length_nil]; decide) (Nat.le_of_ble_eq_true rfl)
theorem Law_refuses_267 (l0 : Value) (l1 : Value) (l2 : Value) (l3 : Value) (l4 : Value) (l5 : Value) (y0 : Int32) (w : Wd) (I : MI) (L : ML) (P : MP)  : go 144 267 [l0, l1, l2, l3, l4, l5] [.int y0] w I L P = if y0 ≠ (-11) then go 144 370 [l0, l1, l2, l3, l4, l5] [] w I L P else go 144 272 [l0, l1, l2, l3, l4, l5] [] w I L P := by
  refine (go_bi (m := 144) (pc := 267) (n := -11) (by decide +kernel) bi_m11).trans ?_
  exact go_icmpne (m := 144) (pc := 269) (off := 101) (t := 370) (by decide +kernel) (by decide)
theorem Law_refuses_272_0 (l1 : Value) (l2 : Value) (x_l3 : Int32) (l4 : Value) (l5 : Value) (w : Wd) (I : MI) (L : ML) (P : MP)  : go 144 272 [.null, l1, l2, .int x_l3, l4, l5] [] w I L P = kC (call 129 [.null, .int x_l3, .int (nI 0)] w I L P) (fun v w1 I1 L1 P1 => go 144 278 [.null, l1, l2, .int x_l3, l4, l5] (v.toList ++ []) w1 I1 L1 P1) := by
  refine (go_aload_nN (m := 144) (pc := 272) (k := 0) (by decide +kernel) rfl).trans ?_
  refine (go_iload_n (m := 144) (pc := 273) (k := 3) (by decide +kernel) rfl).trans ?_
  refine (go_ic (m := 144) (pc := 274) (n := 0) (by decide +kernel) ic_0).trans ?_
  exact go_sta (m := 144) (pc := 275) (o := 8) (x := 85) (y := 129) (kd := 4) (as := [.null, .int x_l3, .int (nI 0)]) (rs := []) (by decide +kernel) rfl rfl c_8_85 (Or.inr (Or.inr rfl)) rfl rfl rfl (by decide +kernel) (by simp only [List.length_cons, List.length_nil]; decide) (Nat.le_of_ble_eq_true rfl)
theorem Law_refuses_272_1 (a_l0 : Nat) (l1 : Value) (l2 : Value) (x_l3 : Int32) (l4 : Value) (l5 : Value) (w : Wd) (I : MI) (L : ML) (P : MP)  : go 144 272 [.ref a_l0, l1, l2, .int x_l3, l4, l5] [] w I L P = kC (call 129 [.ref a_l0, .int x_l3, .int (nI 0)] w I L P) (fun v w1 I1 L1 P1 => go 144 278 [.ref a_l0, l1, l2, .int x_l3, l4, l5] (v.toList ++ []) w1 I1 L1 P1) := by
  refine (go_aload_n (m := 144) (pc := 272) (k := 0) (by decide +kernel) rfl).trans ?_
  refine (go_iload_n (m := 144) (pc := 273) (k := 3) (by decide +kernel) rfl).trans ?_
  refine (go_ic (m := 144) (pc := 274) (n := 0) (by decide +kernel) ic_0).trans ?_
  exact go_sta (m := 144) (pc := 275) (o := 8) (x := 85) (y := 129) (kd := 4) (as := [.ref a_l0, .int x_l3, .int (nI 0)]) (rs := []) (by decide +kernel) rfl rfl c_8_85 (Or.inr (Or.inr rfl)) rfl rfl rfl (by decide +kernel) (by simp only [List.length_cons, List.length_nil]; decide) (Nat.le_of_ble_eq_true rfl)
theorem Law_refuses_278 (l0 : Value) (l1 : Value) (l2 : Value) (l3 : Value) (l4 : Value) (l5 : Value) (y0 : Int32) (w : Wd) (I : MI) (L : ML) (P : MP)  : go 144 278 [l0, l1, l2, l3, l4, l5] [.int y0] w I L P = if y0 ≠ (-11) then go 144 370 [l0, l1, l2, l3, l4, l5] [] w I L P else go 144 283 [l0, l1, l2, l3, l4, l5] [] w I L P := by
  refine (go_bi (m := 144) (pc := 278) (n := -11) (by decide +kernel) bi_m11).trans ?_
  exact go_icmpne (m := 144) (pc := 280) (off := 90) (t := 370) (by decide +kernel) (by decide)
theorem Law_refuses_283_0 (l1 : Value) (l2 : Value) (l3 : Value) (l4 : Value) (l5 : Value) (w : Wd) (I : MI) (L : ML) (P : MP)  : go 144 283 [.null, l1, l2, l3, l4, l5] [] w I L P = kC (call 129 [.null, .int (nI 0), .int (nI 9)] w I L P) (fun v w1 I1 L1 P1 => go 144 290 [.null, l1, l2, l3, l4, l5] (v.toList ++ []) w1 I1 L1 P1) := by
  refine (go_aload_nN (m := 144) (pc := 283) (k := 0) (by decide +kernel) rfl).trans ?_
  refine (go_ic (m := 144) (pc := 284) (n := 0) (by decide +kernel) ic_0).trans ?_
  refine (go_bi (m := 144) (pc := 285) (n := 9) (by decide +kernel) bi_9).trans ?_
  exact go_sta (m := 144) (pc := 287) (o := 8) (x := 85) (y := 129) (kd := 4) (as := [.null, .int (nI 0), .int (nI 9)]) (rs := []) (by decide +kernel) rfl rfl c_8_85 (Or.inr (Or.inr rfl)) rfl rfl rfl (by decide +kernel) (by simp only [List.length_cons, List.length_nil]; decide) (Nat.le_of_ble_eq_true rfl)
theorem Law_refuses_283_1 (a_l0 : Nat) (l1 : Value) (l2 : Value) (l3 : Value) (l4 : Value) (l5 : Value) (w : Wd) (I : MI) (L : ML) (P : MP)  : go 144 283 [.ref a_l0, l1, l2, l3, l4, l5] [] w I L P = kC (call 129 [.ref a_l0, .int (nI 0), .int (nI 9)] w I L P) (fun v w1 I1 L1 P1 => go 144 290 [.ref a_l0, l1, l2, l3, l4, l5] (v.toList ++ []) w1 I1 L1 P1) := by
  refine (go_aload_n (m := 144) (pc := 283) (k := 0) (by decide +kernel) rfl).trans ?_
  refine (go_ic (m := 144) (pc := 284) (n := 0) (by decide +kernel) ic_0).trans ?_
  refine (go_bi (m := 144) (pc := 285) (n := 9) (by decide +kernel) bi_9).trans ?_
  exact go_sta (m := 144) (pc := 287) (o := 8) (x := 85) (y := 129) (kd := 4) (as := [.ref a_l0, .int (nI 0), .int (nI 9)]) (rs := []) (by decide +kernel) rfl rfl c_8_85 (Or.inr (Or.inr rfl)) rfl rfl rfl (by decide +kernel) (by simp only [List.length_cons, List.length_nil]; decide) (Nat.le_of_ble_eq_true rfl)
theorem Law_refuses_290 (l0 : Value) (l1 : Value) (l2 : Value) (l3 : Value) (l4 : Value) (l5 : Value) (y0 : Int32) (w : Wd) (I : MI) (L : ML) (P : MP)  : go 144 290 [l0, l1, l2, l3, l4, l5] [.int y0] w I L P = if y0 ≠ (-12) then go 144 370 [l0, l1, l2, l3, l4, l5] [] w I L P else go 144 295 [l0, l1, l2, l3, l4, l5] [] w I L P := by
  refine (go_bi (m := 144) (pc := 290) (n := -12) (by decide +kernel) bi_m12).trans ?_
  exact go_icmpne (m := 144) (pc := 292) (off := 78) (t := 370) (by decide +kernel) (by decide)
theorem Law_refuses_295_0 (l1 : Value) (l2 : Value) (l3 : Value) (l4 : Value) (l5 : Value) (w : Wd) (I : MI) (L : ML) (P : MP)  : go 144 295 [.null, l1, l2, l3, l4, l5] [] w I L P = kC (call 130 [.null, .int (nI 0), .int (-1), .int (nI 9)] w I L P) (fun v w1 I1 L1 P1 => go 144 303 [.null, l1, l2, l3, l4, l5] (v.toList ++ []) w1 I1 L1 P1) := by
  refine (go_aload_nN (m := 144) (pc := 295) (k := 0) (by decide +kernel) rfl).trans ?_
  refine (go_ic (m := 144) (pc := 296) (n := 0) (by decide +kernel) ic_0).trans ?_
  refine (go_ic (m := 144) (pc := 297) (n := -1) (by decide +kernel) ic_m1).trans ?_
  refine (go_bi (m := 144) (pc := 298) (n := 9) (by decide +kernel) bi_9).trans ?_
  exact go_sta (m := 144) (pc := 300) (o := 8) (x := 90) (y := 130) (kd := 4) (as := [.null, .int (nI 0), .int (-1), .int (nI 9)]) (rs := []) (by decide +kernel) rfl rfl c_8_90 (Or.inr (Or.inr rfl)) rfl rfl rfl (by decide +kernel) (by simp only [List.length_cons, List.length_nil]; decide) (Nat.le_of_ble_eq_true rfl)
theorem Law_refuses_295_1 (a_l0 : Nat) (l1 : Value) (l2 : Value) (l3 : Value) (l4 : Value) (l5 : Value) (w : Wd) (I : MI) (L : ML) (P : MP)  : go 144 295 [.ref a_l0, l1, l2, l3, l4, l5] [] w I L P = kC (call 130 [.ref a_l0, .int (nI 0), .int (-1), .int (nI 9)] w I L P) (fun v w1 I1 L1 P1 => go 144 303 [.ref a_l0, l1, l2, l3, l4, l5] (v.toList ++ []) w1 I1 L1 P1) := by
  refine (go_aload_n (m := 144) (pc := 295) (k := 0) (by decide +kernel) rfl).trans ?_
  refine (go_ic (m := 144) (pc := 296) (n := 0) (by decide +kernel) ic_0).trans ?_
  refine (go_ic (m := 144) (pc := 297) (n := -1) (by decide +kernel) ic_m1).trans ?_
  refine (go_bi (m := 144) (pc := 298) (n := 9) (by decide +kernel) bi_9).trans ?_
  exact go_sta (m := 144) (pc := 300) (o := 8) (x := 90) (y := 130) (kd := 4) (as := [.ref a_l0, .int (nI 0), .int (-1), .int (nI 9)]) (rs := []) (by decide +kernel) rfl rfl c_8_90 (Or.inr (Or.inr rfl)) rfl rfl rfl (by decide +kernel) (by simp only [List.length_cons, List.length_nil]; decide) (Nat.le_of_ble_eq_true rfl)
theorem Law_refuses_303 (l0 : Value) (l1 : Value) (l2 : Value) (l3 : Value) (l4 : Value) (l5 : Value) (y0 : Int32) (w : Wd) (I : MI) (L : ML) (P : MP)  : go 144 303 [l0, l1, l2, l3, l4, l5] [.int y0] w I L P = if y0 ≠ (-11) then go 144 370 [l0, l1, l2, l3, l4, l5] [] w I L P else go 144 308 [l0, l1, l2, l3, l4, l5] [] w I L P := by
  refine (go_bi (m := 144) (pc := 303) (n := -11) (by decide +kernel) bi_m11).trans ?_
  exact go_icmpne (m := 144) (pc := 305) (off := 65) (t := 370) (by decide +kernel) (by decide)
theorem Law_refuses_308_0 (l1 : Value) (l2 : Value) (l3 : Value) (x_l4 : Int32) (l5 : Value) (w : Wd) (I : MI) (L : ML) (P : MP)  : go 144 308 [.null, l1, l2, l3, .int x_l4, l5] [] w I L P = kC (call 131 [.null, .int x_l4, .int (nI 0)] w I L P) (fun v w1 I1 L1 P1 => go 144 315 [.null, l1, l2, l3, .int x_l4, l5] (v.toList ++ []) w1 I1 L1 P1) := by
  refine (go_aload_nN (m := 144) (pc := 308) (k := 0) (by decide +kernel) rfl).trans ?_
  refine (go_iload (m := 144) (pc := 309) (k := 4) (by decide +kernel) rfl).trans ?_
  refine (go_ic (m := 144) (pc := 311) (n := 0) (by decide +kernel) ic_0).trans ?_
  exact go_sta (m := 144) (pc := 312) (o := 8) (x := 93) (y := 131) (kd := 4) (as := [.null, .int x_l4, .int (nI 0)]) (rs := []) (by decide +kernel) rfl rfl c_8_93 (Or.inr (Or.inr rfl)) rfl rfl rfl (by decide +kernel) (by simp only [List.length_cons, List.length_nil]; decide) (Nat.le_of_ble_eq_true rfl)
theorem Law_refuses_308_1 (a_l0 : Nat) (l1 : Value) (l2 : Value) (l3 : Value) (x_l4 : Int32) (l5 : Value) (w : Wd) (I : MI) (L : ML) (P : MP)  : go 144 308 [.ref a_l0, l1, l2, l3, .int x_l4, l5] [] w I L P = kC (call 131 [.ref a_l0, .int x_l4, .int (nI 0)] w I L P) (fun v w1 I1 L1 P1 => go 144 315 [.ref a_l0, l1, l2, l3, .int x_l4, l5] (v.toList ++ []) w1 I1 L1 P1) := by
  refine (go_aload_n (m := 144) (pc := 308) (k := 0) (by decide +kernel) rfl).trans ?_
  refine (go_iload (m := 144) (pc := 309) (k := 4) (by decide +kernel) rfl).trans ?_
  refine (go_ic (m := 144) (pc := 311) (n := 0) (by decide +kernel) ic_0).trans ?_
  exact go_sta (m := 144) (pc := 312) (o := 8) (x := 93) (y := 131) (kd := 4) (as := [.ref a_l0, .int x_l4, .int (nI 0)]) (rs := []) (by decide +kernel) rfl rfl c_8_93 (Or.inr (Or.inr rfl)) rfl rfl rfl (by decide +kernel) (by simp only [List.length_cons, List.length_nil]; decide) (Nat.le_of_ble_eq_true rfl)
theorem Law_refuses_315 (l0 : Value) (l1 : Value) (l2 : Value) (l3 : Value) (l4 : Value) (l5 : Value) (y0 : Int32) (w : Wd) (I : MI) (L : ML) (P : MP)  : go 144 315 [l0, l1, l2, l3, l4, l5] [.int y0] w I L P = if y0 ≠ (-11) then go 144 370 [l0, l1, l2, l3, l4, l5] [] w I L P else go 144 320 [l0, l1, l2, l3, l4, l5] [] w I L P := by
  refine (go_bi (m := 144) (pc := 315) (n := -11) (by decide +kernel) bi_m11).trans ?_
  exact go_icmpne (m := 144) (pc := 317) (off := 53) (t := 370) (by decide +kernel) (by decide)
theorem Law_refuses_320_0 (l1 : Value) (l2 : Value) (l3 : Value) (x_l4 : Int32) (l5 : Value) (w : Wd) (I : MI) (L : ML) (P : MP)  : go 144 320 [.null, l1, l2, l3, .int x_l4, l5] [] w I L P = kC (call 132 [.null, .int x_l4, .int (nI 0)] w I L P) (fun v w1 I1 L1 P1 => go 144 327 [.null, l1, l2, l3, .int x_l4, l5] (v.toList ++ []) w1 I1 L1 P1) := by
  refine (go_aload_nN (m := 144) (pc := 320) (k := 0) (by decide +kernel) rfl).trans ?_
  refine (go_iload (m := 144) (pc := 321) (k := 4) (by decide +kernel) rfl).trans ?_
  refine (go_ic (m := 144) (pc := 323) (n := 0) (by decide +kernel) ic_0).trans ?_
  exact go_sta (m := 144) (pc := 324) (o := 8) (x := 95) (y := 132) (kd := 4) (as := [.null, .int x_l4, .int (nI 0)]) (rs := []) (by decide +kernel) rfl rfl c_8_95 (Or.inr (Or.inr rfl)) rfl rfl rfl (by decide +kernel) (by simp only [List.length_cons, List.length_nil]; decide) (Nat.le_of_ble_eq_true rfl)
theorem Law_refuses_320_1 (a_l0 : Nat) (l1 : Value) (l2 : Value) (l3 : Value) (x_l4 : Int32) (l5 : Value) (w : Wd) (I : MI) (L : ML) (P : MP)  : go 144 320 [.ref a_l0, l1, l2, l3, .int x_l4, l5] [] w I L P = kC (call 132 [.ref a_l0, .int x_l4, .int (nI 0)] w I L P) (fun v w1 I1 L1 P1 => go 144 327 [.ref a_l0, l1, l2, l3, .int x_l4, l5] (v.toList ++ []) w1 I1 L1 P1) := by
  refine (go_aload_n (m := 144) (pc := 320) (k := 0) (by decide +kernel) rfl).trans ?_
  refine (go_iload (m := 144) (pc := 321) (k := 4) (by decide +kernel) rfl).trans ?_
  refine (go_ic (m := 144) (pc := 323) (n := 0) (by decide +kernel) ic_0).trans ?_
  exact go_sta (m := 144) (pc := 324) (o := 8) (x := 95) (y := 132) (kd := 4) (as := [.ref a_l0, .int x_l4, .int (nI 0)]) (rs := []) (by decide +kernel) rfl rfl c_8_95 (Or.inr (Or.inr rfl)) rfl rfl rfl (by decide +kernel) (by simp only [List.length_cons, List.length_nil]; decide) (Nat.le_of_ble_eq_true rfl)
theorem Law_refuses_327 (l0 : Value) (l1 : Value) (l2 : Value) (l3 : Value) (l4 : Value) (l5 : Value) (y0 : Int32) (w : Wd) (I : MI) (L : ML) (P : MP)  : go 144 327 [l0, l1, l2, l3, l4, l5] [.int y0] w I L P = if y0 ≠ (-11) then go 144 370 [l0, l1, l2, l3, l4, l5] [] w I L P else go 144 332 [l0, l1, l2, l3, l4, l5] [] w I L P := by
  refine (go_bi (m := 144) (pc := 327) (n := -11) (by decide +kernel) bi_m11).trans ?_
  exact go_icmpne (m := 144) (pc := 329) (off := 41) (t := 370) (by decide +kernel) (by decide)
theorem Law_refuses_332_0 (l1 : Value) (l2 : Value) (l3 : Value) (l4 : Value) (l5 : Value) (w : Wd) (I : MI) (L : ML) (P : MP)  : go 144 332 [.null, l1, l2, l3, l4, l5] [] w I L P = kC (call 133 [.null, .int (nI 10)] w I L P) (fun v w1 I1 L1 P1 => go 144 338 [.null, l1, l2, l3, l4, l5] (v.toList ++ []) w1 I1 L1 P1) := by
  refine (go_aload_nN (m := 144) (pc := 332) (k := 0) (by decide +kernel) rfl).trans ?_
  refine (go_bi (m := 144) (pc := 333) (n := 10) (by decide +kernel) bi_10).trans ?_
  exact go_sta (m := 144) (pc := 335) (o := 8) (x := 80) (y := 133) (kd := 4) (as := [.null, .int (nI 10)]) (rs := []) (by decide +kernel) rfl rfl c_8_80 (Or.inr (Or.inr rfl)) rfl rfl rfl (by decide +kernel) (by simp only [List.length_cons, List.length_nil]; decide) (Nat.le_of_ble_eq_true rfl)
theorem Law_refuses_332_1 (a_l0 : Nat) (l1 : Value) (l2 : Value) (l3 : Value) (l4 : Value) (l5 : Value) (w : Wd) (I : MI) (L : ML) (P : MP)  : go 144 332 [.ref a_l0, l1, l2, l3, l4, l5] [] w I L P = kC (call 133 [.ref a_l0, .int (nI 10)] w I L P) (fun v w1 I1 L1 P1 => go 144 338 [.ref a_l0, l1, l2, l3, l4, l5] (v.toList ++ []) w1 I1 L1 P1) := by
  refine (go_aload_n (m := 144) (pc := 332) (k := 0) (by decide +kernel) rfl).trans ?_
  refine (go_bi (m := 144) (pc := 333) (n := 10) (by decide +kernel) bi_10).trans ?_
  exact go_sta (m := 144) (pc := 335) (o := 8) (x := 80) (y := 133) (kd := 4) (as := [.ref a_l0, .int (nI 10)]) (rs := []) (by decide +kernel) rfl rfl c_8_80 (Or.inr (Or.inr rfl)) rfl rfl rfl (by decide +kernel) (by simp only [List.length_cons, List.length_nil]; decide) (Nat.le_of_ble_eq_true rfl)
theorem Law_refuses_338 (l0 : Value) (l1 : Value) (l2 : Value) (l3 : Value) (l4 : Value) (l5 : Value) (y0 : Int32) (w : Wd) (I : MI) (L : ML) (P : MP)  : go 144 338 [l0, l1, l2, l3, l4, l5] [.int y0] w I L P = if y0 ≠ (-11) then go 144 370 [l0, l1, l2, l3, l4, l5] [] w I L P else go 144 343 [l0, l1, l2, l3, l4, l5] [] w I L P := by
  refine (go_bi (m := 144) (pc := 338) (n := -11) (by decide +kernel) bi_m11).trans ?_
  exact go_icmpne (m := 144) (pc := 340) (off := 30) (t := 370) (by decide +kernel) (by decide)
theorem Law_refuses_343_0 (l1 : Value) (l2 : Value) (l3 : Value) (l4 : Value) (l5 : Value) (w : Wd) (I : MI) (L : ML) (P : MP)  : go 144 343 [.null, l1, l2, l3, l4, l5] [] w I L P = kC (call 134 [.null, .int (nI 64), .int (nI 0)] w I L P) (fun v w1 I1 L1 P1 => go 144 350 [.null, l1, l2, l3, l4, l5] (v.toList ++ []) w1 I1 L1 P1) := by
  refine (go_aload_nN (m := 144) (pc := 343) (k := 0) (by decide +kernel) rfl).trans ?_
  refine (go_bi (m := 144) (pc := 344) (n := 64) (by decide +kernel) bi_64).trans ?_
  refine (go_ic (m := 144) (pc := 346) (n := 0) (by decide +kernel) ic_0).trans ?_
  exact go_sta (m := 144) (pc := 347) (o := 8) (x := 97) (y := 134) (kd := 4) (as := [.null, .int (nI 64), .int (nI 0)]) (rs := []) (by decide +kernel) rfl rfl c_8_97 (Or.inr (Or.inr rfl)) rfl rfl rfl (by decide +kernel) (by simp only [List.length_cons, List.length_nil]; decide) (Nat.le_of_ble_eq_true rfl)
theorem Law_refuses_343_1 (a_l0 : Nat) (l1 : Value) (l2 : Value) (l3 : Value) (l4 : Value) (l5 : Value) (w : Wd) (I : MI) (L : ML) (P : MP)  : go 144 343 [.ref a_l0, l1, l2, l3, l4, l5] [] w I L P = kC (call 134 [.ref a_l0, .int (nI 64), .int (nI 0)] w I L P) (fun v w1 I1 L1 P1 => go 144 350 [.ref a_l0, l1, l2, l3, l4, l5] (v.toList ++ []) w1 I1 L1 P1) := by
  refine (go_aload_n (m := 144) (pc := 343) (k := 0) (by decide +kernel) rfl).trans ?_
  refine (go_bi (m := 144) (pc := 344) (n := 64) (by decide +kernel) bi_64).trans ?_
  refine (go_ic (m := 144) (pc := 346) (n := 0) (by decide +kernel) ic_0).trans ?_
  exact go_sta (m := 144) (pc := 347) (o := 8) (x := 97) (y := 134) (kd := 4) (as := [.ref a_l0, .int (nI 64), .int (nI 0)]) (rs := []) (by decide +kernel) rfl rfl c_8_97 (Or.inr (Or.inr rfl)) rfl rfl rfl (by decide +kernel) (by simp only [List.length_cons, List.length_nil]; decide) (Nat.le_of_ble_eq_true rfl)
theorem Law_refuses_350 (l0 : Value) (l1 : Value) (l2 : Value) (l3 : Value) (l4 : Value) (l5 : Value) (y0 : Int32) (w : Wd) (I : MI) (L : ML) (P : MP)  : go 144 350 [l0, l1, l2, l3, l4, l5] [.int y0] w I L P = if y0 ≠ (-11) then go 144 370 [l0, l1, l2, l3, l4, l5] [] w I L P else go 144 355 [l0, l1, l2, l3, l4, l5] [] w I L P := by
  refine (go_bi (m := 144) (pc := 350) (n := -11) (by decide +kernel) bi_m11).trans ?_
  exact go_icmpne (m := 144) (pc := 352) (off := 18) (t := 370) (by decide +kernel) (by decide)
theorem Law_refuses_355_0 (l1 : Value) (l2 : Value) (l3 : Value) (l4 : Value) (l5 : Value) (w : Wd) (I : MI) (L : ML) (P : MP)  : go 144 355 [.null, l1, l2, l3, l4, l5] [] w I L P = kC (call 134 [.null, .int (-1), .int (nI 3)] w I L P) (fun v w1 I1 L1 P1 => go 144 361 [.null, l1, l2, l3, l4, l5] (v.toList ++ []) w1 I1 L1 P1) := by
  refine (go_aload_nN (m := 144) (pc := 355) (k := 0) (by decide +kernel) rfl).trans ?_
  refine (go_ic (m := 144) (pc := 356) (n := -1) (by decide +kernel) ic_m1).trans ?_
  refine (go_ic (m := 144) (pc := 357) (n := 3) (by decide +kernel) ic_3).trans ?_
  exact go_sta (m := 144) (pc := 358) (o := 8) (x := 97) (y := 134) (kd := 4) (as := [.null, .int (-1), .int (nI 3)]) (rs := []) (by decide +kernel) rfl rfl c_8_97 (Or.inr (Or.inr rfl)) rfl rfl rfl (by decide +kernel) (by simp only [List.length_cons, List.length_nil]; decide) (Nat.le_of_ble_eq_true rfl)
theorem Law_refuses_355_1 (a_l0 : Nat) (l1 : Value) (l2 : Value) (l3 : Value) (l4 : Value) (l5 : Value) (w : Wd) (I : MI) (L : ML) (P : MP)  : go 144 355 [.ref a_l0, l1, l2, l3, l4, l5] [] w I L P = kC (call 134 [.ref a_l0, .int (-1), .int (nI 3)] w I L P) (fun v w1 I1 L1 P1 => go 144 361 [.ref a_l0, l1, l2, l3, l4, l5] (v.toList ++ []) w1 I1 L1 P1) := by
  refine (go_aload_n (m := 144) (pc := 355) (k := 0) (by decide +kernel) rfl).trans ?_
  refine (go_ic (m := 144) (pc := 356) (n := -1) (by decide +kernel) ic_m1).trans ?_
  refine (go_ic (m := 144) (pc := 357) (n := 3) (by decide +kernel) ic_3).trans ?_
  exact go_sta (m := 144) (pc := 358) (o := 8) (x := 97) (y := 134) (kd := 4) (as := [.ref a_l0, .int (-1), .int (nI 3)]) (rs := []) (by decide +kernel) rfl rfl c_8_97 (Or.inr (Or.inr rfl)) rfl rfl rfl (by decide +kernel) (by simp only [List.length_cons, List.length_nil]; decide) (Nat.le_of_ble_eq_true rfl)
theorem Law_refuses_361 (l0 : Value) (l1 : Value) (l2 : Value) (l3 : Value) (l4 : Value) (l5 : Value) (y0 : Int32) (w : Wd) (I : MI) (L : ML) (P : MP)  : go 144 361 [l0, l1, l2, l3, l4, l5] [.int y0] w I L P = if y0 ≠ (-11) then go 144 370 [l0, l1, l2, l3, l4, l5] [] w I L P else go 144 366 [l0, l1, l2, l3, l4, l5] [] w I L P := by
  refine (go_bi (m := 144) (pc := 361) (n := -11) (by decide +kernel) bi_m11).trans ?_
  exact go_icmpne (m := 144) (pc := 363) (off := 7) (t := 370) (by decide +kernel) (by decide)
theorem Law_refuses_366 (l0 : Value) (l1 : Value) (l2 : Value) (l3 : Value) (l4 : Value) (l5 : Value) (w : Wd) (I : MI) (L : ML) (P : MP)  : go 144 366 [l0, l1, l2, l3, l4, l5] [] w I L P = go 144 371 [l0, l1, l2, l3, l4, l5] [.int (nI 1)] w I L P := by
  refine (go_ic (m := 144) (pc := 366) (n := 1) (by decide +kernel) ic_1).trans ?_
  refine (go_goto (m := 144) (pc := 367) (off := 4) (t := 371) (by decide +kernel) (by decide)).trans ?_
  rfl
theorem Law_refuses_370 (l0 : Value) (l1 : Value) (l2 : Value) (l3 : Value) (l4 : Value) (l5 : Value) (w : Wd) (I : MI) (L : ML) (P : MP)  : go 144 370 [l0, l1, l2, l3, l4, l5] [] w I L P = go 144 371 [l0, l1, l2, l3, l4, l5] [.int (nI 0)] w I L P := by
  refine (go_ic (m := 144) (pc := 370) (n := 0) (by decide +kernel) ic_0).trans ?_
  rfl
theorem Law_refuses_371 (l0 : Value) (l1 : Value) (l2 : Value) (l3 : Value) (l4 : Value) (l5 : Value) (y0 : Int32) (w : Wd) (I : MI) (L : ML) (P : MP)  : go 144 371 [l0, l1, l2, l3, l4, l5] [.int y0] w I L P = if y0 = 0 then go 144 501 [l0, l1, l2, l3, (fix1 l4), .int y0] [] w I L P else go 144 378 [l0, l1, l2, l3, (fix1 l4), .int y0] [] w I L P := by
  refine (go_istore (m := 144) (pc := 371) (k := 5) (ls' := [l0, l1, l2, l3, (fix1 l4), .int y0]) (by decide +kernel) (by simp only [List.length_cons, List.length_nil]; decide) rfl).trans ?_
  refine (go_iload (m := 144) (pc := 373) (k := 5) (by decide +kernel) rfl).trans ?_
  exact go_ifeq (m := 144) (pc := 375) (off := 126) (t := 501) (by decide +kernel) (by decide)
theorem Law_refuses_378_0 (l1 : Value) (l2 : Value) (l3 : Value) (l4 : Value) (l5 : Value) (w : Wd) (I : MI) (L : ML) (P : MP)  : go 144 378 [.null, l1, l2, l3, l4, l5] [] w I L P = kC (call 135 [.null, .int (nI 3)] w I L P) (fun v w1 I1 L1 P1 => go 144 383 [.null, l1, l2, l3, l4, l5] (v.toList ++ []) w1 I1 L1 P1) := by
  refine (go_aload_nN (m := 144) (pc := 378) (k := 0) (by decide +kernel) rfl).trans ?_
  refine (go_ic (m := 144) (pc := 379) (n := 3) (by decide +kernel) ic_3).trans ?_
  exact go_sta (m := 144) (pc := 380) (o := 8) (x := 88) (y := 135) (kd := 4) (as := [.null, .int (nI 3)]) (rs := []) (by decide +kernel) rfl rfl c_8_88 (Or.inr (Or.inr rfl)) rfl rfl rfl (by decide +kernel) (by simp only [List.length_cons, List.length_nil]; decide) (Nat.le_of_ble_eq_true rfl)
theorem Law_refuses_378_1 (a_l0 : Nat) (l1 : Value) (l2 : Value) (l3 : Value) (l4 : Value) (l5 : Value) (w : Wd) (I : MI) (L : ML) (P : MP)  : go 144 378 [.ref a_l0, l1, l2, l3, l4, l5] [] w I L P = kC (call 135 [.ref a_l0, .int (nI 3)] w I L P) (fun v w1 I1 L1 P1 => go 144 383 [.ref a_l0, l1, l2, l3, l4, l5] (v.toList ++ []) w1 I1 L1 P1) := by
  refine (go_aload_n (m := 144) (pc := 378) (k := 0) (by decide +kernel) rfl).trans ?_
  refine (go_ic (m := 144) (pc := 379) (n := 3) (by decide +kernel) ic_3).trans ?_
  exact go_sta (m := 144) (pc := 380) (o := 8) (x := 88) (y := 135) (kd := 4) (as := [.ref a_l0, .int (nI 3)]) (rs := []) (by decide +kernel) rfl rfl c_8_88 (Or.inr (Or.inr rfl)) rfl rfl rfl (by decide +kernel) (by simp only [List.length_cons, List.length_nil]; decide) (Nat.le_of_ble_eq_true rfl)
theorem Law_refuses_383 (l0 : Value) (l1 : Value) (l2 : Value) (l3 : Value) (l4 : Value) (l5 : Value) (y0 : Int32) (w : Wd) (I : MI) (L : ML) (P : MP)  : go 144 383 [l0, l1, l2, l3, l4, l5] [.int y0] w I L P = if y0 ≠ (-11) then go 144 501 [l0, l1, l2, l3, l4, l5] [] w I L P else go 144 388 [l0, l1, l2, l3, l4, l5] [] w I L P := by
  refine (go_bi (m := 144) (pc := 383) (n := -11) (by decide +kernel) bi_m11).trans ?_
  exact go_icmpne (m := 144) (pc := 385) (off := 116) (t := 501) (by decide +kernel) (by decide)
theorem Law_refuses_388_0 (l1 : Value) (l2 : Value) (l3 : Value) (l4 : Value) (l5 : Value) (w : Wd) (I : MI) (L : ML) (P : MP)  : go 144 388 [.null, l1, l2, l3, l4, l5] [] w I L P = kC (call 136 [.null, .int (-1)] w I L P) (fun v w1 I1 L1 P1 => go 144 393 [.null, l1, l2, l3, l4, l5] (v.toList ++ []) w1 I1 L1 P1) := by
  refine (go_aload_nN (m := 144) (pc := 388) (k := 0) (by decide +kernel) rfl).trans ?_
  refine (go_ic (m := 144) (pc := 389) (n := -1) (by decide +kernel) ic_m1).trans ?_
  exact go_sta (m := 144) (pc := 390) (o := 8) (x := 102) (y := 136) (kd := 4) (as := [.null, .int (-1)]) (rs := []) (by decide +kernel) rfl rfl c_8_102 (Or.inr (Or.inr rfl)) rfl rfl rfl (by decide +kernel) (by simp only [List.length_cons, List.length_nil]; decide) (Nat.le_of_ble_eq_true rfl)
theorem Law_refuses_388_1 (a_l0 : Nat) (l1 : Value) (l2 : Value) (l3 : Value) (l4 : Value) (l5 : Value) (w : Wd) (I : MI) (L : ML) (P : MP)  : go 144 388 [.ref a_l0, l1, l2, l3, l4, l5] [] w I L P = kC (call 136 [.ref a_l0, .int (-1)] w I L P) (fun v w1 I1 L1 P1 => go 144 393 [.ref a_l0, l1, l2, l3, l4, l5] (v.toList ++ []) w1 I1 L1 P1) := by
  refine (go_aload_n (m := 144) (pc := 388) (k := 0) (by decide +kernel) rfl).trans ?_
  refine (go_ic (m := 144) (pc := 389) (n := -1) (by decide +kernel) ic_m1).trans ?_
  exact go_sta (m := 144) (pc := 390) (o := 8) (x := 102) (y := 136) (kd := 4) (as := [.ref a_l0, .int (-1)]) (rs := []) (by decide +kernel) rfl rfl c_8_102 (Or.inr (Or.inr rfl)) rfl rfl rfl (by decide +kernel) (by simp only [List.length_cons, List.length_nil]; decide) (Nat.le_of_ble_eq_true rfl)
theorem Law_refuses_393 (l0 : Value) (l1 : Value) (l2 : Value) (l3 : Value) (l4 : Value) (l5 : Value) (y0 : Int32) (w : Wd) (I : MI) (L : ML) (P : MP)  : go 144 393 [l0, l1, l2, l3, l4, l5] [.int y0] w I L P = if y0 ≠ (-11) then go 144 501 [l0, l1, l2, l3, l4, l5] [] w I L P else go 144 398 [l0, l1, l2, l3, l4, l5] [] w I L P := by
  refine (go_bi (m := 144) (pc := 393) (n := -11) (by decide +kernel) bi_m11).trans ?_
  exact go_icmpne (m := 144) (pc := 395) (off := 106) (t := 501) (by decide +kernel) (by decide)
theorem Law_refuses_398_0 (l1 : Value) (l2 : Value) (l3 : Value) (l4 : Value) (l5 : Value) (w : Wd) (I : MI) (L : ML) (P : MP)  : go 144 398 [.null, l1, l2, l3, l4, l5] [] w I L P = kC (call 137 [.null, .int (-1)] w I L P) (fun v w1 I1 L1 P1 => go 144 403 [.null, l1, l2, l3, l4, l5] (v.toList ++ []) w1 I1 L1 P1) := by
  refine (go_aload_nN (m := 144) (pc := 398) (k := 0) (by decide +kernel) rfl).trans ?_
  refine (go_ic (m := 144) (pc := 399) (n := -1) (by decide +kernel) ic_m1).trans ?_
  exact go_sta (m := 144) (pc := 400) (o := 8) (x := 124) (y := 137) (kd := 4) (as := [.null, .int (-1)]) (rs := []) (by decide +kernel) rfl rfl c_8_124 (Or.inr (Or.inr rfl)) rfl rfl rfl (by decide +kernel) (by simp only [List.length_cons, List.length_nil]; decide) (Nat.le_of_ble_eq_true rfl)
theorem Law_refuses_398_1 (a_l0 : Nat) (l1 : Value) (l2 : Value) (l3 : Value) (l4 : Value) (l5 : Value) (w : Wd) (I : MI) (L : ML) (P : MP)  : go 144 398 [.ref a_l0, l1, l2, l3, l4, l5] [] w I L P = kC (call 137 [.ref a_l0, .int (-1)] w I L P) (fun v w1 I1 L1 P1 => go 144 403 [.ref a_l0, l1, l2, l3, l4, l5] (v.toList ++ []) w1 I1 L1 P1) := by
  refine (go_aload_n (m := 144) (pc := 398) (k := 0) (by decide +kernel) rfl).trans ?_
  refine (go_ic (m := 144) (pc := 399) (n := -1) (by decide +kernel) ic_m1).trans ?_
  exact go_sta (m := 144) (pc := 400) (o := 8) (x := 124) (y := 137) (kd := 4) (as := [.ref a_l0, .int (-1)]) (rs := []) (by decide +kernel) rfl rfl c_8_124 (Or.inr (Or.inr rfl)) rfl rfl rfl (by decide +kernel) (by simp only [List.length_cons, List.length_nil]; decide) (Nat.le_of_ble_eq_true rfl)
theorem Law_refuses_403 (l0 : Value) (l1 : Value) (l2 : Value) (l3 : Value) (l4 : Value) (l5 : Value) (y0 : Int32) (w : Wd) (I : MI) (L : ML) (P : MP)  : go 144 403 [l0, l1, l2, l3, l4, l5] [.int y0] w I L P = if y0 ≠ (-11) then go 144 501 [l0, l1, l2, l3, l4, l5] [] w I L P else go 144 408 [l0, l1, l2, l3, l4, l5] [] w I L P := by
  refine (go_bi (m := 144) (pc := 403) (n := -11) (by decide +kernel) bi_m11).trans ?_
  exact go_icmpne (m := 144) (pc := 405) (off := 96) (t := 501) (by decide +kernel) (by decide)
theorem Law_refuses_408_0 (l1 : Value) (l2 : Value) (l3 : Value) (l4 : Value) (l5 : Value) (w : Wd) (I : MI) (L : ML) (P : MP)  : go 144 408 [.null, l1, l2, l3, l4, l5] [] w I L P = kC (call 137 [.null, .int (nI 128)] w I L P) (fun v w1 I1 L1 P1 => go 144 415 [.null, l1, l2, l3, l4, l5] (v.toList ++ []) w1 I1 L1 P1) := by
  refine (go_aload_nN (m := 144) (pc := 408) (k := 0) (by decide +kernel) rfl).trans ?_
  refine (go_si (m := 144) (pc := 409) (n := 128) (by decide +kernel) si_128).trans ?_
  exact go_sta (m := 144) (pc := 412) (o := 8) (x := 124) (y := 137) (kd := 4) (as := [.null, .int (nI 128)]) (rs := []) (by decide +kernel) rfl rfl c_8_124 (Or.inr (Or.inr rfl)) rfl rfl rfl (by decide +kernel) (by simp only [List.length_cons, List.length_nil]; decide) (Nat.le_of_ble_eq_true rfl)
theorem Law_refuses_408_1 (a_l0 : Nat) (l1 : Value) (l2 : Value) (l3 : Value) (l4 : Value) (l5 : Value) (w : Wd) (I : MI) (L : ML) (P : MP)  : go 144 408 [.ref a_l0, l1, l2, l3, l4, l5] [] w I L P = kC (call 137 [.ref a_l0, .int (nI 128)] w I L P) (fun v w1 I1 L1 P1 => go 144 415 [.ref a_l0, l1, l2, l3, l4, l5] (v.toList ++ []) w1 I1 L1 P1) := by
  refine (go_aload_n (m := 144) (pc := 408) (k := 0) (by decide +kernel) rfl).trans ?_
  refine (go_si (m := 144) (pc := 409) (n := 128) (by decide +kernel) si_128).trans ?_
  exact go_sta (m := 144) (pc := 412) (o := 8) (x := 124) (y := 137) (kd := 4) (as := [.ref a_l0, .int (nI 128)]) (rs := []) (by decide +kernel) rfl rfl c_8_124 (Or.inr (Or.inr rfl)) rfl rfl rfl (by decide +kernel) (by simp only [List.length_cons, List.length_nil]; decide) (Nat.le_of_ble_eq_true rfl)
theorem Law_refuses_415 (l0 : Value) (l1 : Value) (l2 : Value) (l3 : Value) (l4 : Value) (l5 : Value) (y0 : Int32) (w : Wd) (I : MI) (L : ML) (P : MP)  : go 144 415 [l0, l1, l2, l3, l4, l5] [.int y0] w I L P = if y0 ≠ (-11) then go 144 501 [l0, l1, l2, l3, l4, l5] [] w I L P else go 144 420 [l0, l1, l2, l3, l4, l5] [] w I L P := by
  refine (go_bi (m := 144) (pc := 415) (n := -11) (by decide +kernel) bi_m11).trans ?_
  exact go_icmpne (m := 144) (pc := 417) (off := 84) (t := 501) (by decide +kernel) (by decide)
theorem Law_refuses_420_0 (l1 : Value) (l2 : Value) (l3 : Value) (l4 : Value) (l5 : Value) (w : Wd) (I : MI) (L : ML) (P : MP)  : go 144 420 [.null, l1, l2, l3, l4, l5] [] w I L P = kC (call 129 [.null, .int (nI 0), .int (nI 0)] w I L P) (fun v w1 I1 L1 P1 => go 144 426 [.null, l1, l2, l3, l4, l5] (v.toList ++ []) w1 I1 L1 P1) := by
  refine (go_aload_nN (m := 144) (pc := 420) (k := 0) (by decide +kernel) rfl).trans ?_
  refine (go_ic (m := 144) (pc := 421) (n := 0) (by decide +kernel) ic_0).trans ?_
  refine (go_ic (m := 144) (pc := 422) (n := 0) (by decide +kernel) ic_0).trans ?_
  exact go_sta (m := 144) (pc := 423) (o := 8) (x := 85) (y := 129) (kd := 4) (as := [.null, .int (nI 0), .int (nI 0)]) (rs := []) (by decide +kernel) rfl rfl c_8_85 (Or.inr (Or.inr rfl)) rfl rfl rfl (by decide +kernel) (by simp only [List.length_cons, List.length_nil]; decide) (Nat.le_of_ble_eq_true rfl)
theorem Law_refuses_420_1 (a_l0 : Nat) (l1 : Value) (l2 : Value) (l3 : Value) (l4 : Value) (l5 : Value) (w : Wd) (I : MI) (L : ML) (P : MP)  : go 144 420 [.ref a_l0, l1, l2, l3, l4, l5] [] w I L P = kC (call 129 [.ref a_l0, .int (nI 0), .int (nI 0)] w I L P) (fun v w1 I1 L1 P1 => go 144 426 [.ref a_l0, l1, l2, l3, l4, l5] (v.toList ++ []) w1 I1 L1 P1) := by
  refine (go_aload_n (m := 144) (pc := 420) (k := 0) (by decide +kernel) rfl).trans ?_
  refine (go_ic (m := 144) (pc := 421) (n := 0) (by decide +kernel) ic_0).trans ?_
  refine (go_ic (m := 144) (pc := 422) (n := 0) (by decide +kernel) ic_0).trans ?_
  exact go_sta (m := 144) (pc := 423) (o := 8) (x := 85) (y := 129) (kd := 4) (as := [.ref a_l0, .int (nI 0), .int (nI 0)]) (rs := []) (by decide +kernel) rfl rfl c_8_85 (Or.inr (Or.inr rfl)) rfl rfl rfl (by decide +kernel) (by simp only [List.length_cons, List.length_nil]; decide) (Nat.le_of_ble_eq_true rfl)
theorem Law_refuses_426 (l0 : Value) (l1 : Value) (l2 : Value) (l3 : Value) (l4 : Value) (l5 : Value) (y0 : Int32) (w : Wd) (I : MI) (L : ML) (P : MP)  : go 144 426 [l0, l1, l2, l3, l4, l5] [.int y0] w I L P = if 0 < y0 then go 144 439 [l0, l1, l2, l3, l4, l5] [] w I L P else go 144 429 [l0, l1, l2, l3, l4, l5] [] w I L P := by
  exact go_ifgt (m := 144) (pc := 426) (off := 13) (t := 439) (by decide +kernel) (by decide)
theorem Law_refuses_429_0 (l1 : Value) (l2 : Value) (l3 : Value) (l4 : Value) (l5 : Value) (w : Wd) (I : MI) (L : ML) (P : MP)  : go 144 429 [.null, l1, l2, l3, l4, l5] [] w I L P = kC (call 127 [.null, .int (nI 0)] w I L P) (fun v w1 I1 L1 P1 => go 144 434 [.null, l1, l2, l3, l4, l5] (v.toList ++ []) w1 I1 L1 P1) := by
  refine (go_aload_nN (m := 144) (pc := 429) (k := 0) (by decide +kernel) rfl).trans ?_
  refine (go_ic (m := 144) (pc := 430) (n := 0) (by decide +kernel) ic_0).trans ?_
  exact go_sta (m := 144) (pc := 431) (o := 8) (x := 126) (y := 127) (kd := 4) (as := [.null, .int (nI 0)]) (rs := []) (by decide +kernel) rfl rfl c_8_126 (Or.inr (Or.inr rfl)) rfl rfl rfl (by decide +kernel) (by simp only [List.length_cons, List.length_nil]; decide) (Nat.le_of_ble_eq_true rfl)
theorem Law_refuses_429_1 (a_l0 : Nat) (l1 : Value) (l2 : Value) (l3 : Value) (l4 : Value) (l5 : Value) (w : Wd) (I : MI) (L : ML) (P : MP)  : go 144 429 [.ref a_l0, l1, l2, l3, l4, l5] [] w I L P = kC (call 127 [.ref a_l0, .int (nI 0)] w I L P) (fun v w1 I1 L1 P1 => go 144 434 [.ref a_l0, l1, l2, l3, l4, l5] (v.toList ++ []) w1 I1 L1 P1) := by
  refine (go_aload_n (m := 144) (pc := 429) (k := 0) (by decide +kernel) rfl).trans ?_
  refine (go_ic (m := 144) (pc := 430) (n := 0) (by decide +kernel) ic_0).trans ?_
  exact go_sta (m := 144) (pc := 431) (o := 8) (x := 126) (y := 127) (kd := 4) (as := [.ref a_l0, .int (nI 0)]) (rs := []) (by decide +kernel) rfl rfl c_8_126 (Or.inr (Or.inr rfl)) rfl rfl rfl (by decide +kernel) (by simp only [List.length_cons, List.length_nil]; decide) (Nat.le_of_ble_eq_true rfl)
theorem Law_refuses_434 (l0 : Value) (l1 : Value) (l2 : Value) (l3 : Value) (l4 : Value) (l5 : Value) (y0 : Int32) (w : Wd) (I : MI) (L : ML) (P : MP)  : go 144 434 [l0, l1, l2, l3, l4, l5] [.int y0] w I L P = if y0 ≠ (-12) then go 144 501 [l0, l1, l2, l3, l4, l5] [] w I L P else go 144 439 [l0, l1, l2, l3, l4, l5] [] w I L P := by
  refine (go_bi (m := 144) (pc := 434) (n := -12) (by decide +kernel) bi_m12).trans ?_
  exact go_icmpne (m := 144) (pc := 436) (off := 65) (t := 501) (by decide +kernel) (by decide)
theorem Law_refuses_439 (l0 : Value) (l1 : Value) (l2 : Value) (l3 : Value) (x_l4 : Int32) (l5 : Value) (w : Wd) (I : MI) (L : ML) (P : MP)  : go 144 439 [l0, l1, l2, l3, .int x_l4, l5] [] w I L P = if x_l4 = 0 then go 144 497 [l0, l1, l2, l3, .int x_l4, l5] [] w I L P else go 144 444 [l0, l1, l2, l3, .int x_l4, l5] [] w I L P := by
  refine (go_iload (m := 144) (pc := 439) (k := 4) (by decide +kernel) rfl).trans ?_
  exact go_ifeq (m := 144) (pc := 441) (off := 56) (t := 497) (by decide +kernel) (by decide)
theorem Law_refuses_444_0 (l1 : Value) (l2 : Value) (l3 : Value) (l4 : Value) (l5 : Value) (w : Wd) (I : MI) (L : ML) (P : MP)  : go 144 444 [.null, l1, l2, l3, l4, l5] [] w I L P = kC (call 131 [.null, .int (nI 0), .int (nI 4)] w I L P) (fun v w1 I1 L1 P1 => go 144 452 [.null, l1, l2, l3, l4, l5] (v.toList ++ [.int (nI 0), .null]) w1 I1 L1 P1) := by
  refine (go_aload_nN (m := 144) (pc := 444) (k := 0) (by decide +kernel) rfl).trans ?_
  refine (go_ic (m := 144) (pc := 445) (n := 0) (by decide +kernel) ic_0).trans ?_
  refine (go_aload_nN (m := 144) (pc := 446) (k := 0) (by decide +kernel) rfl).trans ?_
  refine (go_ic (m := 144) (pc := 447) (n := 0) (by decide +kernel) ic_0).trans ?_
  refine (go_ic (m := 144) (pc := 448) (n := 4) (by decide +kernel) ic_4).trans ?_
  exact go_sta (m := 144) (pc := 449) (o := 8) (x := 93) (y := 131) (kd := 4) (as := [.null, .int (nI 0), .int (nI 4)]) (rs := [.int (nI 0), .null]) (by decide +kernel) rfl rfl c_8_93 (Or.inr (Or.inr rfl)) rfl rfl rfl (by decide +kernel) (by simp only [List.length_cons, List.length_nil]; decide) (Nat.le_of_ble_eq_true rfl)
theorem Law_refuses_444_1 (a_l0 : Nat) (l1 : Value) (l2 : Value) (l3 : Value) (l4 : Value) (l5 : Value) (w : Wd) (I : MI) (L : ML) (P : MP)  : go 144 444 [.ref a_l0, l1, l2, l3, l4, l5] [] w I L P = kC (call 131 [.ref a_l0, .int (nI 0), .int (nI 4)] w I L P) (fun v w1 I1 L1 P1 => go 144 452 [.ref a_l0, l1, l2, l3, l4, l5] (v.toList ++ [.int (nI 0), .ref a_l0]) w1 I1 L1 P1) := by
  refine (go_aload_n (m := 144) (pc := 444) (k := 0) (by decide +kernel) rfl).trans ?_
  refine (go_ic (m := 144) (pc := 445) (n := 0) (by decide +kernel) ic_0).trans ?_
  refine (go_aload_n (m := 144) (pc := 446) (k := 0) (by decide +kernel) rfl).trans ?_
  refine (go_ic (m := 144) (pc := 447) (n := 0) (by decide +kernel) ic_0).trans ?_
  refine (go_ic (m := 144) (pc := 448) (n := 4) (by decide +kernel) ic_4).trans ?_
  exact go_sta (m := 144) (pc := 449) (o := 8) (x := 93) (y := 131) (kd := 4) (as := [.ref a_l0, .int (nI 0), .int (nI 4)]) (rs := [.int (nI 0), .ref a_l0]) (by decide +kernel) rfl rfl c_8_93 (Or.inr (Or.inr rfl)) rfl rfl rfl (by decide +kernel) (by simp only [List.length_cons, List.length_nil]; decide) (Nat.le_of_ble_eq_true rfl)
theorem Law_refuses_452 (l0 : Value) (l1 : Value) (l2 : Value) (l3 : Value) (l4 : Value) (l5 : Value) (v0 : Value) (y1 : Int32) (y2 : Int32) (w : Wd) (I : MI) (L : ML) (P : MP)  : go 144 452 [l0, l1, l2, l3, l4, l5] [.int y2, .int y1, v0] w I L P = if y2 ≠ (nI 1) then go 144 460 [l0, l1, l2, l3, l4, l5] [.int y1, v0] w I L P else go 144 456 [l0, l1, l2, l3, l4, l5] [.int y1, v0] w I L P := by
  refine (go_ic (m := 144) (pc := 452) (n := 1) (by decide +kernel) ic_1).trans ?_
  exact go_icmpne (m := 144) (pc := 453) (off := 7) (t := 460) (by decide +kernel) (by decide)
theorem Law_refuses_456 (l0 : Value) (l1 : Value) (l2 : Value) (l3 : Value) (l4 : Value) (l5 : Value) (v0 : Value) (y1 : Int32) (w : Wd) (I : MI) (L : ML) (P : MP)  : go 144 456 [l0, l1, l2, l3, l4, l5] [.int y1, v0] w I L P = go 144 461 [l0, l1, l2, l3, l4, l5] [.int (nI 1), .int y1, v0] w I L P := by
  refine (go_ic (m := 144) (pc := 456) (n := 1) (by decide +kernel) ic_1).trans ?_
  refine (go_goto (m := 144) (pc := 457) (off := 4) (t := 461) (by decide +kernel) (by decide)).trans ?_
  rfl
theorem Law_refuses_460 (l0 : Value) (l1 : Value) (l2 : Value) (l3 : Value) (l4 : Value) (l5 : Value) (v0 : Value) (y1 : Int32) (w : Wd) (I : MI) (L : ML) (P : MP)  : go 144 460 [l0, l1, l2, l3, l4, l5] [.int y1, v0] w I L P = go 144 461 [l0, l1, l2, l3, l4, l5] [.int (nI 0), .int y1, v0] w I L P := by
  refine (go_ic (m := 144) (pc := 460) (n := 0) (by decide +kernel) ic_0).trans ?_
  rfl
theorem Law_refuses_461_0 (l0 : Value) (l1 : Value) (l2 : Value) (l3 : Value) (l4 : Value) (l5 : Value) (y1 : Int32) (y2 : Int32) (w : Wd) (I : MI) (L : ML) (P : MP)  : go 144 461 [l0, l1, l2, l3, l4, l5] [.int y2, .int y1, .null] w I L P = kC (call 122 [.null, .int y1, .int y2] w I L P) (fun v w1 I1 L1 P1 => go 144 464 [l0, l1, l2, l3, l4, l5] (v.toList ++ []) w1 I1 L1 P1) := by
  exact go_sta (m := 144) (pc := 461) (o := 8) (x := 136) (y := 122) (kd := 4) (as := [.null, .int y1, .int y2]) (rs := []) (by decide +kernel) rfl rfl c_8_136 (Or.inr (Or.inr rfl)) rfl rfl rfl (by decide +kernel) (by simp only [List.length_cons, List.length_nil]; decide) (Nat.le_of_ble_eq_true rfl)
theorem Law_refuses_461_1 (l0 : Value) (l1 : Value) (l2 : Value) (l3 : Value) (l4 : Value) (l5 : Value) (a_s0 : Nat) (y1 : Int32) (y2 : Int32) (w : Wd) (I : MI) (L : ML) (P : MP)  : go 144 461 [l0, l1, l2, l3, l4, l5] [.int y2, .int y1, .ref a_s0] w I L P = kC (call 122 [.ref a_s0, .int y1, .int y2] w I L P) (fun v w1 I1 L1 P1 => go 144 464 [l0, l1, l2, l3, l4, l5] (v.toList ++ []) w1 I1 L1 P1) := by
  exact go_sta (m := 144) (pc := 461) (o := 8) (x := 136) (y := 122) (kd := 4) (as := [.ref a_s0, .int y1, .int y2]) (rs := []) (by decide +kernel) rfl rfl c_8_136 (Or.inr (Or.inr rfl)) rfl rfl rfl (by decide +kernel) (by simp only [List.length_cons, List.length_nil]; decide) (Nat.le_of_ble_eq_true rfl)
theorem Law_refuses_464 (l0 : Value) (l1 : Value) (l2 : Value) (l3 : Value) (l4 : Value) (l5 : Value) (y0 : Int32) (w : Wd) (I : MI) (L : ML) (P : MP)  : go 144 464 [l0, l1, l2, l3, l4, l5] [.int y0] w I L P = if y0 ≠ (-12) then go 144 501 [l0, l1, l2, l3, l4, l5] [] w I L P else go 144 469 [l0, l1, l2, l3, l4, l5] [] w I L P := by
  refine (go_bi (m := 144) (pc := 464) (n := -12) (by decide +kernel) bi_m12).trans ?_
  exact go_icmpne (m := 144) (pc := 466) (off := 35) (t := 501) (by decide +kernel) (by decide)
theorem Law_refuses_469_0 (l1 : Value) (l2 : Value) (l3 : Value) (l4 : Value) (l5 : Value) (w : Wd) (I : MI) (L : ML) (P : MP)  : go 144 469 [.null, l1, l2, l3, l4, l5] [] w I L P = kC (call 131 [.null, .int (nI 0), .int (nI 0)] w I L P) (fun v w1 I1 L1 P1 => go 144 476 [.null, l1, l2, l3, l4, l5] (v.toList ++ [.null]) w1 I1 L1 P1) := by
  refine (go_aload_nN (m := 144) (pc := 469) (k := 0) (by decide +kernel) rfl).trans ?_
  refine (go_aload_nN (m := 144) (pc := 470) (k := 0) (by decide +kernel) rfl).trans ?_
  refine (go_ic (m := 144) (pc := 471) (n := 0) (by decide +kernel) ic_0).trans ?_
  refine (go_ic (m := 144) (pc := 472) (n := 0) (by decide +kernel) ic_0).trans ?_
  exact go_sta (m := 144) (pc := 473) (o := 8) (x := 93) (y := 131) (kd := 4) (as := [.null, .int (nI 0), .int (nI 0)]) (rs := [.null]) (by decide +kernel) rfl rfl c_8_93 (Or.inr (Or.inr rfl)) rfl rfl rfl (by decide +kernel) (by simp only [List.length_cons, List.length_nil]; decide) (Nat.le_of_ble_eq_true rfl)
theorem Law_refuses_469_1 (a_l0 : Nat) (l1 : Value) (l2 : Value) (l3 : Value) (l4 : Value) (l5 : Value) (w : Wd) (I : MI) (L : ML) (P : MP)  : go 144 469 [.ref a_l0, l1, l2, l3, l4, l5] [] w I L P = kC (call 131 [.ref a_l0, .int (nI 0), .int (nI 0)] w I L P) (fun v w1 I1 L1 P1 => go 144 476 [.ref a_l0, l1, l2, l3, l4, l5] (v.toList ++ [.ref a_l0]) w1 I1 L1 P1) := by
  refine (go_aload_n (m := 144) (pc := 469) (k := 0) (by decide +kernel) rfl).trans ?_
  refine (go_aload_n (m := 144) (pc := 470) (k := 0) (by decide +kernel) rfl).trans ?_
  refine (go_ic (m := 144) (pc := 471) (n := 0) (by decide +kernel) ic_0).trans ?_
  refine (go_ic (m := 144) (pc := 472) (n := 0) (by decide +kernel) ic_0).trans ?_
  exact go_sta (m := 144) (pc := 473) (o := 8) (x := 93) (y := 131) (kd := 4) (as := [.ref a_l0, .int (nI 0), .int (nI 0)]) (rs := [.ref a_l0]) (by decide +kernel) rfl rfl c_8_93 (Or.inr (Or.inr rfl)) rfl rfl rfl (by decide +kernel) (by simp only [List.length_cons, List.length_nil]; decide) (Nat.le_of_ble_eq_true rfl)
theorem Law_refuses_476_0 (l0 : Value) (l1 : Value) (l2 : Value) (l3 : Value) (l4 : Value) (l5 : Value) (y1 : Int32) (w : Wd) (I : MI) (L : ML) (P : MP)  : go 144 476 [l0, l1, l2, l3, l4, l5] [.int y1, .null] w I L P = kC (call 121 [.null, .int y1, .int (nI 1)] w I L P) (fun v w1 I1 L1 P1 => go 144 480 [l0, l1, l2, l3, l4, l5] (v.toList ++ []) w1 I1 L1 P1) := by
  refine (go_ic (m := 144) (pc := 476) (n := 1) (by decide +kernel) ic_1).trans ?_
  exact go_sta (m := 144) (pc := 477) (o := 8) (x := 134) (y := 121) (kd := 4) (as := [.null, .int y1, .int (nI 1)]) (rs := []) (by decide +kernel) rfl rfl c_8_134 (Or.inr (Or.inr rfl)) rfl rfl rfl (by decide +kernel) (by simp only [List.length_cons, List.length_nil]; decide) (Nat.le_of_ble_eq_true rfl)
theorem Law_refuses_476_1 (l0 : Value) (l1 : Value) (l2 : Value) (l3 : Value) (l4 : Value) (l5 : Value) (a_s0 : Nat) (y1 : Int32) (w : Wd) (I : MI) (L : ML) (P : MP)  : go 144 476 [l0, l1, l2, l3, l4, l5] [.int y1, .ref a_s0] w I L P = kC (call 121 [.ref a_s0, .int y1, .int (nI 1)] w I L P) (fun v w1 I1 L1 P1 => go 144 480 [l0, l1, l2, l3, l4, l5] (v.toList ++ []) w1 I1 L1 P1) := by
  refine (go_ic (m := 144) (pc := 476) (n := 1) (by decide +kernel) ic_1).trans ?_
  exact go_sta (m := 144) (pc := 477) (o := 8) (x := 134) (y := 121) (kd := 4) (as := [.ref a_s0, .int y1, .int (nI 1)]) (rs := []) (by decide +kernel) rfl rfl c_8_134 (Or.inr (Or.inr rfl)) rfl rfl rfl (by decide +kernel) (by simp only [List.length_cons, List.length_nil]; decide) (Nat.le_of_ble_eq_true rfl)
theorem Law_refuses_480 (l0 : Value) (l1 : Value) (l2 : Value) (l3 : Value) (l4 : Value) (l5 : Value) (y0 : Int32) (w : Wd) (I : MI) (L : ML) (P : MP)  : go 144 480 [l0, l1, l2, l3, l4, l5] [.int y0] w I L P = if y0 ≠ (-12) then go 144 501 [l0, l1, l2, l3, l4, l5] [] w I L P else go 144 485 [l0, l1, l2, l3, l4, l5] [] w I L P := by
  refine (go_bi (m := 144) (pc := 480) (n := -12) (by decide +kernel) bi_m12).trans ?_
  exact go_icmpne (m := 144) (pc := 482) (off := 19) (t := 501) (by decide +kernel) (by decide)
theorem Law_refuses_485_0 (l1 : Value) (l2 : Value) (l3 : Value) (l4 : Value) (l5 : Value) (w : Wd) (I : MI) (L : ML) (P : MP)  : go 144 485 [.null, l1, l2, l3, l4, l5] [] w I L P = kC (call 131 [.null, .int (nI 0), .int (nI 6)] w I L P) (fun v w1 I1 L1 P1 => go 144 492 [.null, l1, l2, l3, l4, l5] (v.toList ++ []) w1 I1 L1 P1) := by
  refine (go_aload_nN (m := 144) (pc := 485) (k := 0) (by decide +kernel) rfl).trans ?_
  refine (go_ic (m := 144) (pc := 486) (n := 0) (by decide +kernel) ic_0).trans ?_
  refine (go_bi (m := 144) (pc := 487) (n := 6) (by decide +kernel) bi_6).trans ?_
  exact go_sta (m := 144) (pc := 489) (o := 8) (x := 93) (y := 131) (kd := 4) (as := [.null, .int (nI 0), .int (nI 6)]) (rs := []) (by decide +kernel) rfl rfl c_8_93 (Or.inr (Or.inr rfl)) rfl rfl rfl (by decide +kernel) (by simp only [List.length_cons, List.length_nil]; decide) (Nat.le_of_ble_eq_true rfl)
theorem Law_refuses_485_1 (a_l0 : Nat) (l1 : Value) (l2 : Value) (l3 : Value) (l4 : Value) (l5 : Value) (w : Wd) (I : MI) (L : ML) (P : MP)  : go 144 485 [.ref a_l0, l1, l2, l3, l4, l5] [] w I L P = kC (call 131 [.ref a_l0, .int (nI 0), .int (nI 6)] w I L P) (fun v w1 I1 L1 P1 => go 144 492 [.ref a_l0, l1, l2, l3, l4, l5] (v.toList ++ []) w1 I1 L1 P1) := by
  refine (go_aload_n (m := 144) (pc := 485) (k := 0) (by decide +kernel) rfl).trans ?_
  refine (go_ic (m := 144) (pc := 486) (n := 0) (by decide +kernel) ic_0).trans ?_
  refine (go_bi (m := 144) (pc := 487) (n := 6) (by decide +kernel) bi_6).trans ?_
  exact go_sta (m := 144) (pc := 489) (o := 8) (x := 93) (y := 131) (kd := 4) (as := [.ref a_l0, .int (nI 0), .int (nI 6)]) (rs := []) (by decide +kernel) rfl rfl c_8_93 (Or.inr (Or.inr rfl)) rfl rfl rfl (by decide +kernel) (by simp only [List.length_cons, List.length_nil]; decide) (Nat.le_of_ble_eq_true rfl)
theorem Law_refuses_492 (l0 : Value) (l1 : Value) (l2 : Value) (l3 : Value) (l4 : Value) (l5 : Value) (y0 : Int32) (w : Wd) (I : MI) (L : ML) (P : MP)  : go 144 492 [l0, l1, l2, l3, l4, l5] [.int y0] w I L P = if y0 ≠ (-12) then go 144 501 [l0, l1, l2, l3, l4, l5] [] w I L P else go 144 497 [l0, l1, l2, l3, l4, l5] [] w I L P := by
  refine (go_bi (m := 144) (pc := 492) (n := -12) (by decide +kernel) bi_m12).trans ?_
  exact go_icmpne (m := 144) (pc := 494) (off := 7) (t := 501) (by decide +kernel) (by decide)
theorem Law_refuses_497 (l0 : Value) (l1 : Value) (l2 : Value) (l3 : Value) (l4 : Value) (l5 : Value) (w : Wd) (I : MI) (L : ML) (P : MP)  : go 144 497 [l0, l1, l2, l3, l4, l5] [] w I L P = go 144 502 [l0, l1, l2, l3, l4, l5] [.int (nI 1)] w I L P := by
  refine (go_ic (m := 144) (pc := 497) (n := 1) (by decide +kernel) ic_1).trans ?_
  refine (go_goto (m := 144) (pc := 498) (off := 4) (t := 502) (by decide +kernel) (by decide)).trans ?_
  rfl
theorem Law_refuses_501 (l0 : Value) (l1 : Value) (l2 : Value) (l3 : Value) (l4 : Value) (l5 : Value) (w : Wd) (I : MI) (L : ML) (P : MP)  : go 144 501 [l0, l1, l2, l3, l4, l5] [] w I L P = go 144 502 [l0, l1, l2, l3, l4, l5] [.int (nI 0)] w I L P := by
  refine (go_ic (m := 144) (pc := 501) (n := 0) (by decide +kernel) ic_0).trans ?_
  rfl
theorem Law_refuses_502 (l0 : Value) (l1 : Value) (l2 : Value) (l3 : Value) (l4 : Value) (l5 : Value) (y0 : Int32) (w : Wd) (I : MI) (L : ML) (P : MP)  : go 144 502 [l0, l1, l2, l3, l4, l5] [.int y0] w I L P = if y0 = 0 then go 144 522 [l0, l1, l2, l3, (fix1 l4), .int y0] [] w I L P else go 144 509 [l0, l1, l2, l3, (fix1 l4), .int y0] [] w I L P := by
  refine (go_istore (m := 144) (pc := 502) (k := 5) (ls' := [l0, l1, l2, l3, (fix1 l4), .int y0]) (by decide +kernel) (by simp only [List.length_cons, List.length_nil]; decide) rfl).trans ?_
  refine (go_iload (m := 144) (pc := 504) (k := 5) (by decide +kernel) rfl).trans ?_
  exact go_ifeq (m := 144) (pc := 506) (off := 16) (t := 522) (by decide +kernel) (by decide)
theorem Law_refuses_509 (a_l0 : Nat) (l1 : Value) (l2 : Value) (l3 : Value) (l4 : Value) (l5 : Value) (w : Wd) (I : MI) (L : ML) (P : MP) (h0 : w.1 a_l0 = some (6, 0)) : go 144 509 [.ref a_l0, l1, l2, l3, l4, l5] [] w I L P = kC (call 105 [.ref a_l0] w I L P) (fun v w1 I1 L1 P1 => go 144 513 [.ref a_l0, l1, l2, l3, l4, l5] (v.toList ++ []) w1 I1 L1 P1) := by
  refine (go_aload_n (m := 144) (pc := 509) (k := 0) (by decide +kernel) rfl).trans ?_
  exact go_vir (m := 144) (pc := 510) (o := 8) (x := 128) (y := 105) (kd := 0) (b := a_l0) (bs := []) (rs := []) (by decide +kernel) rfl rfl c_8_128 (Or.inl rfl) rfl rfl rfl (by decide +kernel) (by simp only [List.length_cons, List.length_nil]; decide) (Nat.le_of_ble_eq_true rfl) h0
theorem Law_refuses_513 (l0 : Value) (x_l1 : Int64) (l2 : Value) (l3 : Value) (l4 : Value) (l5 : Value) (y0 : Int64) (w : Wd) (I : MI) (L : ML) (P : MP)  : go 144 513 [l0, .long x_l1, l2, l3, l4, l5] [.long y0] w I L P = if (lg_cmp y0 x_l1) ≠ 0 then go 144 522 [l0, .long x_l1, l2, l3, l4, l5] [] w I L P else go 144 518 [l0, .long x_l1, l2, l3, l4, l5] [] w I L P := by
  refine (go_lload_n (m := 144) (pc := 513) (k := 1) (by decide +kernel) rfl).trans ?_
  refine (go_lcmp (m := 144) (pc := 514) (by decide +kernel)).trans ?_
  exact go_ifne (m := 144) (pc := 515) (off := 7) (t := 522) (by decide +kernel) (by decide)
theorem Law_refuses_518 (l0 : Value) (l1 : Value) (l2 : Value) (l3 : Value) (l4 : Value) (l5 : Value) (w : Wd) (I : MI) (L : ML) (P : MP)  : go 144 518 [l0, l1, l2, l3, l4, l5] [] w I L P = go 144 523 [l0, l1, l2, l3, l4, l5] [.int (nI 1)] w I L P := by
  refine (go_ic (m := 144) (pc := 518) (n := 1) (by decide +kernel) ic_1).trans ?_
  refine (go_goto (m := 144) (pc := 519) (off := 4) (t := 523) (by decide +kernel) (by decide)).trans ?_
  rfl
theorem Law_refuses_522 (l0 : Value) (l1 : Value) (l2 : Value) (l3 : Value) (l4 : Value) (l5 : Value) (w : Wd) (I : MI) (L : ML) (P : MP)  : go 144 522 [l0, l1, l2, l3, l4, l5] [] w I L P = go 144 523 [l0, l1, l2, l3, l4, l5] [.int (nI 0)] w I L P := by
  refine (go_ic (m := 144) (pc := 522) (n := 0) (by decide +kernel) ic_0).trans ?_
  rfl
theorem Law_refuses_523 (l0 : Value) (l1 : Value) (l2 : Value) (l3 : Value) (l4 : Value) (l5 : Value) (y0 : Int32) (w : Wd) (I : MI) (L : ML) (P : MP) (h0 : y0 &&& 1 = y0) : go 144 523 [l0, l1, l2, l3, l4, l5] [.int y0] w I L P = some (.inl (some (.int y0)), w, I, L, P) := by
  exact go_retZ (m := 144) (pc := 523) (by decide +kernel) rfl h0
theorem Law_refuses_E (p0 : Nat) (w : Wd) (I : MI) (L : ML) (P : MP) : call 144 [.ref p0] w I L P = go 144 0 [.ref p0, unk, unk, unk, unk, unk] [] w I L P := rfl
theorem Law_refuses_E1  (w : Wd) (I : MI) (L : ML) (P : MP) : call 144 [.null] w I L P = go 144 0 [.null, unk, unk, unk, unk, unk] [] w I L P := rfl
