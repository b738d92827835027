/-! values: what the class tells -/
theorem cl_ctell {w : Wd} {N : Nat → Int32} {b k n md c : Nat} {I : MI} {L : ML} {P : MP} (ht : BT w b) (h : BC b N I L P k n md) (hc : c < 3) {v : Nat} (hv : v < 8) : call 13 [.ref (b + 7 + 7 * c), .int (nI v)] w I L P = some (.inl (some (.int (N (207 + 40 * c + v)))), w, I, L, P) := by
  obtain ⟨ta, ta1, ta2, _⟩ := ht.2.2.2.2.2.1 c hc
  obtain ⟨q, s, ⟨hp0, hp2, _⟩, g1, g2, g3, g4, g5, g6, g7, _⟩ := h.2.2.2.2.2.2.2.1 c hc
  have en : ∀ v, 0 < v → v < 5 → go 13 68 [.ref (b + 7 + 7 * c), .int (nI v)] [] w I L P = some (.inl (some (.int (N (207 + 40 * c + v)))), w, I, L, P) := by
    intro v h0 h5
    rw [Caller_tell_68, if_neg (nI_nle h0 (by omega)), Caller_tell_72 _ _ _ _ _ _ ta, hp2, rf_some, Caller_tell_77 _ _ _ _ _ _ _ _ (isAr_of ta2), alen_of ta2, if_neg (nI_ge h5 (by omega)), Caller_tell_81 _ _ _ _ _ _ ta, hp2, rf_some, Caller_tell_85 _ _ _ _ _ _ _ (inA_nI ta2 h5 (by omega)), cl_nI (by omega), Caller_tell_91, g4 v h0 h5]
  rw [Caller_tell_E, Caller_tell_0]
  rcases (show v = 0 ∨ v = 1 ∨ v = 2 ∨ v = 3 ∨ v = 4 ∨ v = 5 ∨ v = 6 ∨ v = 7 by omega) with rfl | rfl | rfl | rfl | rfl | rfl | rfl | rfl
  · rw [Caller_tell_1_k0, Caller_tell_48 _ _ _ _ _ _ ta, g3, ← g2, Nat.add_zero]
  · rw [Caller_tell_1_k1, en 1 (by omega) (by omega)]
  · rw [Caller_tell_1_k2, en 2 (by omega) (by omega)]
  · rw [Caller_tell_1_k3, en 3 (by omega) (by omega)]
  · rw [Caller_tell_1_k4, en 4 (by omega) (by omega)]
  · rw [Caller_tell_1_k5, Caller_tell_53 _ _ _ _ _ _ ta, g5]
  · rw [Caller_tell_1_k6, Caller_tell_58 _ _ _ _ _ _ ta, g6]
  · rw [Caller_tell_1_k7, Caller_tell_63 _ _ _ _ _ _ ta, g7]
theorem cl_mtell {w : Wd} {N : Nat → Int32} {o m : Nat} {I : MI} {L : ML} {P : MP} (tm : w.1 m = some (3, 0)) (h : MR N o I L m) (hf : N (o + 1) = nI 0 ∨ N (o + 1) = nI 1) {v : Nat} (hv : v < 8) : call 4 [.ref m, .int (nI v)] w I L P = some (.inl (some (.int (N (o + v)))), w, I, L, P) := by
  obtain ⟨h0, h1, h2, h3, h4⟩ := h
  have by' : ∀ k, k < 4 → go 4 60 [.ref m, .int (nI (4 + k))] [] w I L P = some (.inl (some (.int (N (o + (4 + k))))), w, I, L, P) := by
    intro k hk
    rw [Message_tell_60 _ _ _ _ _ _ tm, pk_sub (by omega), Nat.add_sub_cancel_left, cl_byteAt tm]
    simp only [kC_ret, Option.toList, List.cons_append, List.nil_append, fix1_int, fix1_ref, fix1_unk, fix1_null, fix1_long]
    rw [Message_tell_67, h4 k hk, Nat.add_assoc]
  rw [Message_tell_E, Message_tell_0]
  rcases (show v = 0 ∨ v = 1 ∨ v = 2 ∨ v = 3 ∨ v = 4 ∨ v = 5 ∨ v = 6 ∨ v = 7 by omega) with rfl | rfl | rfl | rfl | rfl | rfl | rfl | rfl
  · rw [Message_tell_1_k0, Message_tell_32 _ _ _ _ _ _ tm, h1, Nat.add_zero]
  · rw [Message_tell_1_k1, Message_tell_37 _ _ _ _ _ _ tm, h0]
    rcases hf with e | e
    · rw [e, if_pos (by decide), Message_tell_48, Message_tell_49]
    · rw [e, if_neg (by decide), Message_tell_44, Message_tell_49]
  · rw [Message_tell_1_k2, Message_tell_50 _ _ _ _ _ _ tm, h2]
  · rw [Message_tell_1_k3, Message_tell_55 _ _ _ _ _ _ tm, h3]
  · rw [Message_tell_1_kd _ _ _ _ _ _ _ (Or.inr (by decide))]; exact by' 0 (by omega)
  · rw [Message_tell_1_kd _ _ _ _ _ _ _ (Or.inr (by decide))]; exact by' 1 (by omega)
  · rw [Message_tell_1_kd _ _ _ _ _ _ _ (Or.inr (by decide))]; exact by' 2 (by omega)
  · rw [Message_tell_1_kd _ _ _ _ _ _ _ (Or.inr (by decide))]; exact by' 3 (by omega)
theorem cl_ltell {w : Wd} {N : Nat → Int32} {b k n md l : Nat} {I : MI} {L : ML} {P : MP} (ht : BT w b) (h : BC b N I L P k n md) (hl : l < n) {v : Nat} (hv : v < 6) : call 20 [.ref (b + 28 + 2 * l), .int (nI v)] w I L P = some (.inl (some (.int (N (327 + 22 * l + v)))), w, I, L, P) := by
  obtain ⟨-, ⟨hn, -, -⟩, -, -, -, -, -, -, hls, -, -, ho, -⟩ := h
  have tl := (ht.2.2.2.2.2.2 l (by omega)).1
  obtain ⟨m, h0, h1, h2, h3, h4, h5, h6, h7, _⟩ := hls l hl
  rw [Listener_tell_E, Listener_tell_0]
  rcases (show v = 0 ∨ v = 1 ∨ v = 2 ∨ v = 3 ∨ v = 4 ∨ v = 5 by omega) with rfl | rfl | rfl | rfl | rfl | rfl
  · rw [Listener_tell_1_k0, Listener_tell_36 _ _ _ _ _ _ tl, h1, Nat.add_zero]
  · rw [Listener_tell_1_k1, Listener_tell_41 _ _ _ _ _ _ tl, h2]
  · rw [Listener_tell_1_k2, Listener_tell_46 _ _ _ _ _ _ tl, h5, h6]
  · rw [Listener_tell_1_k3, Listener_tell_51 _ _ _ _ _ _ tl, h7]
  · rw [Listener_tell_1_k4, Listener_tell_56 _ _ _ _ _ _ tl, h3]
    rcases (ho l (by omega)).2.1 with e | e
    · rw [e, if_pos (by decide), Listener_tell_67, Listener_tell_68]
    · rw [e, if_neg (by decide), Listener_tell_63, Listener_tell_68]
  · rw [Listener_tell_1_kd _ _ _ _ _ _ _ (Or.inr (by decide)), Listener_tell_69 _ _ _ _ _ _ tl, h4]
theorem cl_gtell {w : Wd} {N : Nat → Int32} {b q : Nat} {I : MI} {L : ML} {P : MP} (ht : BT w b) (hq : BQ P b) (h : LG b N I q) (hq2 : q < 2147483648) {bk v : Nat} (hb : bk < q) (hv : v < 3) : call 25 [.ref (b + 3), .int (nI bk), .int (nI v)] w I L P = some (.inl (some (.int (N (15 + 3 * ((q - 1 - bk) % 64) + v)))), w, I, L, P) := by
  obtain ⟨t0, _, _, t3, ⟨t4, t5, t6⟩, _⟩ := ht
  obtain ⟨_, _, _, _, _, p3, p4, p5⟩ := hq
  obtain ⟨l0, l1, l2, l3, l4, l5⟩ := h
  have hr : (q - 1 - bk) % 64 < 64 := Nat.mod_lt _ (by omega)
  have ea : ((nI q - nI 1) - nI bk) &&& nI 63 = nI ((q - 1 - bk) % 64) := by
    rw [pk_sub (by omega), pk_sub (by omega), pk_andN (by omega) 6 (by decide)]
  obtain ⟨m1, m2, m3⟩ := l4 _ hr
  rw [Log_tell_E, Log_tell_0 _ _ _ _ _ _ _ _ t3, l1, ea]
  rcases (show v = 0 ∨ v = 1 ∨ v = 2 by omega) with rfl | rfl | rfl
  · rw [Log_tell_13_k0, Log_tell_40 _ _ _ _ _ _ _ _ t3, p3, rf_some, Log_tell_44 _ _ _ _ _ _ _ _ _ (inA_nI t4 hr (by omega)), cl_nI (by omega), m1, Nat.add_zero]
  · rw [Log_tell_13_k1, Log_tell_47 _ _ _ _ _ _ _ _ t3, p4, rf_some, Log_tell_51 _ _ _ _ _ _ _ _ _ (inA_nI t5 hr (by omega)), cl_nI (by omega), m2, show 15 + 3 * ((q - 1 - bk) % 64) + 1 = 16 + 3 * ((q - 1 - bk) % 64) from by omega]
  · rw [Log_tell_13_kd _ _ _ _ _ _ _ _ _ (by decide) (by decide), Log_tell_54 _ _ _ _ _ _ _ _ t3, p5, rf_some, Log_tell_58 _ _ _ _ _ _ _ _ _ (inA_nI t6 hr (by omega)), cl_nI (by omega), m3, show 15 + 3 * ((q - 1 - bk) % 64) + 2 = 17 + 3 * ((q - 1 - bk) % 64) from by omega]
/-- the slots that are kept -/
def kept (q : Nat) : Nat := if 64 < q then 64 else q
theorem kept_le (q : Nat) : kept q ≤ 64 ∧ kept q ≤ q := by unfold kept; split <;> omega
theorem cl_kept {w : Wd} {N : Nat → Int32} {b q : Nat} {I : MI} {L : ML} {P : MP} (ht : BT w b) (h : LG b N I q) (hq2 : q < 2147483648) : call 23 [.ref (b + 3)] w I L P = some (.inl (some (.int (nI (kept q)))), w, I, L, P) := by
  rw [Log_keptCount_E, Log_keptCount_0 _ _ _ _ _ ht.2.2.2.1, h.2.1]
  unfold kept
  by_cases g : 64 < q
  · rw [if_pos g, if_pos (nI_lt g (by omega))]
  · rw [if_neg g, if_neg (nI_nlt (by omega) (by omega))]
theorem cl_last {w : Wd} {N : Nat → Int32} {b q : Nat} {I : MI} {L : ML} {P : MP} (ht : BT w b) (hq : BQ P b) (h : LG b N I q) (hq2 : q < 2147483648) : call 26 [.ref (b + 3)] w I L P = some (.inl (some (.int (N 12))), w, I, L, P) := by
  have t3 := ht.2.2.2.1
  rw [Log_lastLevel_E, Log_lastLevel_0 _ _ _ _ _ t3, h.2.1, h.2.2.2.2.2]
  by_cases g : q = 0
  · subst g
    rw [if_neg (by simp [n00]), Log_lastLevel_7, Log_lastLevel_17, if_pos rfl]
  · rw [if_pos (nI_ne0 (by omega) (by omega)), Log_lastLevel_11 _ _ _ _ _ t3, cl_gtell ht hq h hq2 (bk := 0) (v := 0) (by omega) (by omega), if_neg g]
    simp only [kC_ret, Option.toList, List.cons_append, List.nil_append, fix1_int, fix1_ref, fix1_unk, fix1_null, fix1_long]
    rw [Log_lastLevel_17, Nat.sub_zero, Nat.add_zero]
/-- the numbers of a bus -/
def numV (N : Nat → Int32) : Nat → Int32
  | 0 => N 0
  | 1 => N 1
  | 2 => N 2
  | 3 => N 3
  | 4 => if N 4 = 0 then nI 1 else nI 0
  | 5 => N 5
  | 6 => N 10
  | 7 => N 11
  | 8 => N 8
  | _ => N 12
theorem cl_btell {w : Wd} {N : Nat → Int32} {b k n md q : Nat} {I : MI} {L : ML} {P : MP} (ht : BT w b) (h : BC b N I L P k n md) (hlg : LG b N I q) (hq2 : q < 2147483648) {v : Nat} (hv : v < 10) : call 38 [.ref b, .int (nI v)] w I L P = some (.inl (some (.int (numV N v))), w, I, L, P) := by
  have t0 := ht.1
  have t3 := ht.2.2.2.1
  obtain ⟨⟨hk0, hk, h1, i1⟩, ⟨hn, h2, i3⟩, i4, h4, i7, i8, hq, -, -, -, -, -, hp⟩ := h
  have p5 := hq.2.2.1
  have h6 := PH_6 hp
  have hm : N 4 = 0 ↔ md = 0 := by
    rw [h4, ← nI_0, nI_eq (by have := PH_8 hp; omega) (by omega)]
  rw [Bus_tell_E, Bus_tell_0]
  rcases (show v = 0 ∨ v = 1 ∨ v = 2 ∨ v = 3 ∨ v = 4 ∨ v = 5 ∨ v = 6 ∨ v = 7 ∨ v = 8 ∨ v = 9 by omega) with rfl | rfl | rfl | rfl | rfl | rfl | rfl | rfl | rfl | rfl
  · rw [Bus_tell_1_k0, Bus_tell_52 _ _ _ _ _ _ t0, p5, rf_some, Bus_tell_56 _ _ _ _ _ _ _ t3, hlg.2.1, ← hlg.1]; rfl
  · rw [Bus_tell_1_k1, Bus_tell_60 _ _ _ _ _ _ t0, i1, ← h1]; rfl
  · rw [Bus_tell_1_k2, Bus_tell_65 _ _ _ _ _ _ t0, i3, ← h2]; rfl
  · rw [Bus_tell_1_k3, Bus_tell_70 _ _ _ _ _ _ t0, i4]; rfl
  · rw [Bus_tell_1_k4, Bus_tell_75 _ _ _ _ _ _ t0]
    by_cases z : md = 0
    · rw [if_neg (fun g => g (h6.mpr z)), Bus_tell_82, Bus_tell_87]
      rw [show numV N 4 = if N 4 = 0 then nI 1 else nI 0 from rfl, if_pos (hm.mpr z)]
    · rw [if_pos (fun g => z (h6.mp g)), Bus_tell_86, Bus_tell_87]
      rw [show numV N 4 = if N 4 = 0 then nI 1 else nI 0 from rfl, if_neg (fun g => z (hm.mp g))]
  · rw [Bus_tell_1_k5, Bus_tell_88 _ _ _ _ _ _ t0, i7]; rfl
  · rw [Bus_tell_1_k6, Bus_tell_93 _ _ _ _ _ _ t0, p5, rf_some, Bus_tell_97 _ _ _ _ _ _ _ t3, hlg.2.2.1]; rfl
  · rw [Bus_tell_1_k7, Bus_tell_101 _ _ _ _ _ _ t0, p5, rf_some, Bus_tell_105 _ _ _ _ _ _ _ t3, hlg.2.2.2.1]; rfl
  · rw [Bus_tell_1_k8, Bus_tell_109 _ _ _ _ _ _ t0, i8]; rfl
  · rw [Bus_tell_1_kd _ _ _ _ _ _ _ (Or.inr (by decide)), Bus_tell_114 _ _ _ _ _ _ t0, p5, rf_some, Bus_tell_118 _ _ _ _ _ _ _ t3, cl_last ht hq hlg hq2]
    simp only [kC_ret, Option.toList, List.cons_append, List.nil_append, fix1_int, fix1_ref, fix1_unk, fix1_null, fix1_long]
    rw [Bus_tell_121]; rfl
