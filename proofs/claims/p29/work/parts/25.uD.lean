/-! a slot of the class is a slot of the model: answers, bytes that are read, holding, stop -/
theorem cl_endBitsR {w : Wd} {P : MP} {b : Nat} (ht : BT w b) (I : MI) (L : ML) (h6 : I b 6 = nI 4) (h9 : I b 9 = nI 1) : call 52 [.ref b] w I L P = kC (call 53 [.ref b] w (wr I b (sN (sN (I b) 6 (nI 5)) 12 (I b 12 + nI 1))) L P) (fun v w1 I1 L1 P1 => go 52 40 [.ref b] (v.toList ++ []) w1 I1 L1 P1) := by
  have t0 := ht.1
  rw [Bus_endBits_E, Bus_endBits_0 _ _ _ _ _ t0, h6, if_pos (by decide), Bus_endBits_14 _ _ _ _ _ t0]
  simp only [updI_wr, wr_wr, wr_same, sN_ne (show 12 ≠ 6 by omega), sN_ne (show 9 ≠ 12 by omega), sN_ne (show 9 ≠ 6 by omega), h9]
  rw [if_neg (by decide), Bus_endBits_36 _ _ _ _ _ t0]
theorem leaves_reg {N M : Nat → Int32} {c as : Nat} (has : as < 5) (e : ∀ x, 207 + 40 * c ≤ x → x < 247 + 40 * c → M x = N x) : ∀ x, 207 + 40 * c ≤ x → x < 247 + 40 * c → leavesN M c as x = leavesN N c as x := by
  intro x g1 g2
  rw [leavesN_at has, leavesN_at has]
  by_cases q : 215 + 40 * c ≤ x ∧ x < 239 + 40 * c
  · rw [if_pos q, if_pos q, e _ (by omega) (by omega)]
  · rw [if_neg q, if_neg q, e x g1 g2]
theorem lvIf_out {N : Nat → Int32} {c as x : Nat} (has : as < 5) (h : x < 207 + 40 * c ∨ 247 + 40 * c ≤ x) : lvIf N c as x = N x := by
  unfold lvIf; split
  · exact leavesN_out has h
  · rfl
theorem lvIf_reg {N M : Nat → Int32} {c as : Nat} (has : as < 5) (e5 : M 5 = N 5) (e : ∀ x, 207 + 40 * c ≤ x → x < 247 + 40 * c → M x = N x) : ∀ x, 207 + 40 * c ≤ x → x < 247 + 40 * c → lvIf M c as x = lvIf N c as x := by
  intro x g1 g2
  unfold lvIf
  by_cases q : conB N (nI c)
  · rw [if_pos q, if_pos ((con_N e5).mpr q)]; exact leaves_reg has e x g1 g2
  · rw [if_neg q, if_neg (fun z => q ((con_N e5).mp z))]; exact e x g1 g2
theorem allLeave_reg {N : Nat → Int32} {as c : Nat} (has : as < 5) (hc : c < 3) : ∀ x, 207 + 40 * c ≤ x → x < 247 + 40 * c → allLeaveN N as x = lvIf N c as x := by
  intro x g1 g2
  unfold allLeaveN
  rw [sN_ne (by omega), sN_ne (by omega)]
  rcases (show c = 0 ∨ c = 1 ∨ c = 2 by omega) with rfl | rfl | rfl
  · rw [lvIf_out has (by omega), lvIf_out has (by omega)]
  · rw [lvIf_out has (by omega)]
    exact lvIf_reg has (lvIf_out has (by omega)) (fun x h1 h2 => lvIf_out has (by omega)) x g1 g2
  · exact lvIf_reg has ((lvIf_out has (by omega)).trans (lvIf_out has (by omega))) (fun x h1 h2 => (lvIf_out has (by omega)).trans (lvIf_out has (by omega))) x g1 g2
theorem allLeave_out {N : Nat → Int32} {as x : Nat} (has : as < 5) (h : x < 207 ∨ 327 ≤ x) (h4 : x ≠ 4) (h5 : x ≠ 5) : allLeaveN N as x = N x := by
  unfold allLeaveN
  rw [sN_ne h4, sN_ne h5, lvIf_out has (by omega), lvIf_out has (by omega), lvIf_out has (by omega)]
theorem IV_allLeave {N : Nat → Int32} {k as : Nat} (h0 : 0 < as) (has : as < 5) (hi : IV N k) : IV (allLeaveN N as) k := by
  have e5 : allLeaveN N as 5 = nI 0 := by unfold allLeaveN; rw [sN_ne (by omega), sN_eq]
  refine IV_0 (N := allLeaveN N as) (fun c hc => ?_) e5 (fun _ _ _ => rfl)
  refine OC_N (N := lvIf N c as) ?_ (allLeave_reg has hc)
  unfold lvIf; split
  · next q => exact OC_leaves h0 has (hi.1 c hc) (hi.2.1 c hc q).2
  · exact hi.1 c hc
/-- messages of all contenders end: NO_ANSWER or REFUSED -/
theorem cl_endAll {w : Wd} {N : Nat → Int32} {P : MP} {b : Nat} (ht : BT w b) (hq : BQ P b) {k as : Nat} (hk0 : 0 < k) (hk : k ≤ 3) (ha0 : 0 < as) (has : as < 5) (I : MI) (L : ML) (h1 : I b 1 = nI k) (h7 : I b 7 = N 5) (hs : CS N b I L P) (hi : IV N k) : ∃ J Q, call 59 [.ref b, .int (N 5), .int (nI as)] w I L P = some (.inl none, w, J, L, Q) ∧ CS (allLeaveN N as) b J L Q ∧ BQ Q b ∧ J b = sN (I b) 7 (nI 0) ∧ Fr (b + 7) (b + 28) (wr I b (J b)) J L L P Q := by
  have ho : ∀ c, c < 3 → conB' (N 5) (nI c) → conB N (nI c) := fun c hc q => q
  obtain ⟨J, Q, a1, a2, a3, a4, a5⟩ := cl_endMessages ht hq hk0 hk ha0 has I L h1 hs (N 5) (fun c hc q => (hi.2.1 c (by omega) (ho c (by omega) q)).2)
  have z : N 5 &&& (N 5 ^^^ (-1)) = nI 0 := by
    obtain ⟨s, hs8, h5⟩ := hi.2.2
    rw [h5]
    have d : ∀ s, s < 8 → nI s &&& (nI s ^^^ (-1)) = nI 0 := by decide +kernel
    exact d s hs8
  rw [h7, z] at a4 a5
  rw [enK_3 hk0 hk (fun c hc q => (hi.2.1 c hc (ho c hc q)).1)] at a2
  refine ⟨J, Q, a1, ?_, a3, a4, by rw [a4]; exact a5⟩
  refine CS_N a2 (fun x g1 g2 => ?_)
  rw [allLeave_en has, sN_ne (by omega), sN_ne (by omega)]
theorem anyc_con {N : Nat → Int32} (h8 : S8 N) (h5 : N 5 ≠ nI 0) : conB N (nI (anyc N)) := by
  unfold anyc
  by_cases q0 : conB N (nI 0)
  · rw [if_pos q0]; exact q0
  · rw [if_neg q0]
    by_cases q1 : conB N (nI 1)
    · rw [if_pos q1]; exact q1
    · rw [if_neg q1]
      obtain ⟨c, hc, q⟩ := (con_ex h8).mp h5
      rcases (show c = 0 ∨ c = 1 ∨ c = 2 by omega) with rfl | rfl | rfl
      · exact absurd q q0
      · exact absurd q q1
      · exact q
theorem nm1_0 : ¬ ((-1 : Int32) ≠ -1) := by simp
/-- the row behind 'the listener holds the line' -/
theorem BC_holds {N M : Nat → Int32} {P : MP} {b k n t h : Nat} {I J : MI} {L : ML} {R : Nat → Int32} (hk0 : 0 < k) (hk : k ≤ 3) (h1 : M 1 = nI k) (r1 : R 1 = nI k) (hn : n ≤ 6) (h2 : M 2 = nI n) (r3 : R 3 = nI n) (r4 : R 4 = M 3) (r7 : R 7 = M 5) (r8 : R 8 = M 8) (hq : BQ P b) (hs : CS M b J L P) (hl : LiS M b n J) (hu : LU b n J) (hi : IV M k) (ho : OL M n) (h5 : M 5 ≠ nI 0) (hb : BF M n) (r9 : R 9 = M 14) (r12 : R 12 = M 7) (hh : h ≤ 9) : ∃ md, BC b (nextByteN (sN M 9 (nI h))) (wr J b (hoB R (nI h))) L P k n md := by
  obtain ⟨md, a1, a2, a3, a4⟩ := PH_holds (h := h) hi h5 hb r9 r12 hh
  have e : ∀ x, x ≠ 4 → x ≠ 6 → x ≠ 13 → x ≠ 9 → nextByteN (sN M 9 (nI h)) x = M x := fun x g1 g2 g3 g4 => by rw [nbN_out (by omega), sN_ne g4]
  refine ⟨md, ⟨hk0, hk, by rw [e 1 (by omega) (by omega) (by omega) (by omega)]; exact h1, ?_⟩, ⟨hn, by rw [e 2 (by omega) (by omega) (by omega) (by omega)]; exact h2, ?_⟩, ?_, a2, ?_, ?_, hq, CS_5 hs (fun x g1 g2 => e x (by omega) (by omega) (by omega) (by omega)) (fun x g1 g2 => wr_ne _ _ (by omega)), LiS_N hn hl (fun x g1 g2 => e x (by omega) (by omega) (by omega) (by omega)) (fun x g1 g2 => wr_ne _ _ (by omega)), LU_I hu (fun x g1 g2 => wr_ne _ _ (by omega)), IV_N hi (e 5 (by omega) (by omega) (by omega) (by omega)) (fun x g1 g2 => e x (by omega) (by omega) (by omega) (by omega)), OL_N ho (fun x g1 g2 => e x (by omega) (by omega) (by omega) (by omega)), by rw [wr_same]; exact a1⟩
  · rw [wr_same, hoB_out (by omega)]; exact r1
  · rw [wr_same, hoB_out (by omega)]; exact r3
  · rw [wr_same, hoB_out (by omega), e 3 (by omega) (by omega) (by omega) (by omega)]; exact r4
  · rw [wr_same, hoB_out (by omega), e 5 (by omega) (by omega) (by omega) (by omega)]; exact r7
  · rw [wr_same, hoB_out (by omega), e 8 (by omega) (by omega) (by omega) (by omega)]; exact r8
/-- the row behind 'the next slot is a stop slot' -/
theorem BC_stop {M : Nat → Int32} {P : MP} {b k n : Nat} {J : MI} {L : ML} {R : Nat → Int32} (hk0 : 0 < k) (hk : k ≤ 3) (h1 : M 1 = nI k) (r1 : R 1 = nI k) (hn : n ≤ 6) (h2 : M 2 = nI n) (r3 : R 3 = nI n) (r4 : R 4 = M 3) (h4 : M 4 = nI 8) (r6 : R 6 = nI 7) (r7 : R 7 = M 5) (r8 : R 8 = M 8) (hq : BQ P b) (hs : CS M b J L P) (hl : LiS M b n J) (hu : LU b n J) (hi : IV M k) (ho : OL M n) (h5 : M 5 = nI 0) : BC b M (wr J b R) L P k n 8 := by
  refine ⟨⟨hk0, hk, h1, ?_⟩, ⟨hn, h2, ?_⟩, ?_, h4, ?_, ?_, hq, CS_5 hs (fun x g1 g2 => rfl) (fun x g1 g2 => wr_ne _ _ (by omega)), LiS_N hn hl (fun x g1 g2 => rfl) (fun x g1 g2 => wr_ne _ _ (by omega)), LU_I hu (fun x g1 g2 => wr_ne _ _ (by omega)), hi, ho, ?_, h5⟩
  · rw [wr_same]; exact r1
  · rw [wr_same]; exact r3
  · rw [wr_same]; exact r4
  · rw [wr_same]; exact r7
  · rw [wr_same]; exact r8
  · rw [wr_same]; exact r6
theorem n256 : ∀ x, x < 256 → nI x &&& nI 1 = nI (x % 2) ∧ nI x >>> (nI 1 &&& 31) = nI (x / 2) := by decide +kernel
/-- the answer to a header -/
theorem st_2 {w : Wd} {N : Nat → Int32} {P : MP} {b k n : Nat} {I : MI} {L : ML} (ht : BT w b) (h : BC b N I L P k n 2) : SG w b N I L P k n := by
  have t0 := ht.1
  obtain ⟨⟨hk0, hk, h1, i1⟩, ⟨hn, h2, i3⟩, i4, h4, i7, i8, hq, hs, hl, hu, hi, ho, r6, h5, h8, r12, lv, r11, hv⟩ := h
  have c4 := cl_of h4 (by omega)
  have c2 := cl_of h2 (by omega)
  have hac := anyc_con hi.2.2 h5
  obtain ⟨x, hx, ex, ev⟩ := hv _ (anyc_lt N) hac
  have exl : x = lv := by simpa using ev
  subst exl
  have hh : hdr N (anyc N) = nI x := by unfold snt at ex; rw [if_neg n10] at ex; exact ex
  obtain ⟨m1, m2⟩ := n256 x hx
  have ehd : hdr N (anyc N) / nI 2 = nI (x / 2) := by rw [hh, pk_div (by omega) (by omega) (by omega)]
  have ehm : hdr N (anyc N) - hdr N (anyc N) / nI 2 * nI 2 = nI (x % 2) := by rw [hh, pk_rem (by omega) (by omega) (by omega)]
  have est : stepN N = haN N n := by unfold stepN; rw [c4, c2]; rfl
  have esv : stepV N = haV N n := by unfold stepV; rw [c4, c2]; rfl
  have ek : slotKind N = nI 3 := by
    unfold slotKind
    rw [if_neg (by rw [h4]; decide), c4]; rfl
  have eT : haT N n = wFrom N (nI (x / 2)) 0 n := by unfold haT; rw [ehd]
  have hon : onOk N n := fun l hl => (ho l (by omega)).2.1
  have hfl : ∀ c, c < 3 → conB N (nI c) → N (216 + 40 * c) = nI (x % 2) := by
    intro c hc hcon
    obtain ⟨y, hy, ey, e01⟩ := hdr_256 hc hi hcon
    obtain ⟨z, hz, ez, ezv⟩ := hv c hc hcon
    have e1 : z = x := by simpa using ezv
    unfold snt at ez
    rw [if_neg n10, ey, nI_eq (by omega) (by omega)] at ez
    rcases e01 with ⟨q, q2⟩ | ⟨q, q2⟩
    · rw [q, show x % 2 = 0 from by omega]
    · rw [q, show x % 2 = 1 from by omega]
  have hcs1 : ∀ X, CS N b (wr I b X) L P := fun X => CS_5 hs (fun _ _ _ => rfl) (fun y g1 g2 => wr_ne _ _ (by omega))
  have hls1 : ∀ X, LiS N b n (wr I b X) := fun X => LiS_N hn hl (fun _ _ _ => rfl) (fun y g1 g2 => wr_ne _ _ (by omega))
  have hlu1 : ∀ X, LU b n (wr I b X) := fun X => LU_I hu (fun y g1 g2 => wr_ne _ _ (by omega))
  have h16 : go 54 0 [.ref b] [] w I L P = go 54 16 [.ref b] [.int (nI (x % 2)), .ref b] w I L P := by
    rw [Bus_answerHeader_0 _ _ _ _ _ t0, r11, m1]
    by_cases q : x % 2 = 1
    · rw [q, if_neg (by simp), Bus_answerHeader_11]
    · rw [show x % 2 = 0 from by omega, if_pos (by decide), Bus_answerHeader_15]
  have b16 : nI (x % 2) &&& 1 = nI (x % 2) := by
    rcases (show x % 2 = 0 ∨ x % 2 = 1 by omega) with q | q <;> rw [q] <;> decide
  unfold SG
  rw [esv, ek, est, Bus_passSlot_0 _ _ _ _ _ _ _ t0, r6, if_pos (by decide), Bus_passSlot_19 _ _ _ _ _ _ _ t0, r6, Bus_passSlot_27_k3, Bus_passSlot_88 _ _ _ _ _ _ _ t0, Bus_answerHeader_E, h16, Bus_answerHeader_16 _ _ _ _ _ _ _ t0 b16 t0]
  simp only [updI_wr, wr_same, sN_ne (show 11 ≠ 9 by omega), r11, m2]
  rw [cl_answererTo ht hq hn _ L (by rw [wr_same, sN_ne (by omega)]; exact i3) (hls1 _) hon]
  simp only [kC_ret, Option.toList, List.cons_append, List.nil_append, fix1_int, fix1_ref, fix1_unk, fix1_null, fix1_long]
  rw [Bus_answerHeader_30 _ _ _ _ _ _ _ t0 t0]
  simp only [updI_wr, wr_wr, wr_same, sN_eq]
  unfold haN haV ansN
  rw [eT]
  by_cases hz : wFrom N (nI (x / 2)) 0 n = -1 ∨ N (327 + 22 * Int32.toNatClampNeg (wFrom N (nI (x / 2)) 0 n) + 4) = 0
  · rw [if_pos hz, if_pos hz, if_pos hz, if_neg nm1_0, Bus_answerHeader_41 _ _ _ _ _ t0]
    rw [show (wr I b (sN (sN (I b) 9 (nI (x % 2))) 8 (-1))) b 7 = N 5 from by rw [wr_same, sN_ne (by omega), sN_ne (by omega)]; exact i7]
    obtain ⟨J, Q, a1, a2, a3, a4, a5⟩ := cl_endAll ht hq hk0 hk (show 0 < 2 by omega) (show 2 < 5 by omega) (wr I b (sN (sN (I b) 9 (nI (x % 2))) 8 (-1))) L (by rw [wr_same, sN_ne (by omega), sN_ne (by omega)]; exact i1) (by rw [wr_same, sN_ne (by omega), sN_ne (by omega)]; exact i7) (hcs1 _) hi
    rw [a1]
    simp only [kC_ret, Option.toList, List.cons_append, List.nil_append, fix1_int, fix1_ref, fix1_unk, fix1_null, fix1_long]
    rw [Bus_answerHeader_50 _ _ _ _ _ t0]
    simp only [kC_ret, Option.toList, List.cons_append, List.nil_append, fix1_int, fix1_ref, fix1_unk, fix1_null, fix1_long]
    rw [Bus_passSlot_92, updI_wr]
    simp only [kC_ret, Option.toList, List.cons_append, List.nil_append, fix1_int, fix1_ref, fix1_unk, fix1_null, fix1_long]
    rw [wr_same] at a4
    have ej : ∀ y, (y < b + 7 ∨ b + 28 ≤ y) → y ≠ b → J y = I y := fun y g g2 => by rw [(a5 y g).1, wr_ne _ _ g2, wr_ne _ _ g2]
    have eM : ∀ y, y < 207 ∨ 327 ≤ y → y ≠ 4 → y ≠ 5 → allLeaveN N 2 y = N y := fun y g g2 g3 => allLeave_out (by omega) g g2 g3
    refine ⟨_, Q, 8, rfl, ?_, Fs_trans (Fs_trans (Fs_trans Fs_wr Fs_wr) (Fs_Fr a5)) Fs_wr⟩
    refine BC_stop hk0 hk ?_ ?_ hn ?_ ?_ ?_ ?_ ?_ ?_ ?_ a3 a2 ?_ ?_ (IV_allLeave (by omega) (by omega) hi) ?_ ?_
    · rw [eM 1 (by omega) (by omega) (by omega)]; exact h1
    · rw [sN_ne (by omega), a4, sN_ne (by omega), sN_ne (by omega), sN_ne (by omega)]; exact i1
    · rw [eM 2 (by omega) (by omega) (by omega)]; exact h2
    · rw [sN_ne (by omega), a4, sN_ne (by omega), sN_ne (by omega), sN_ne (by omega)]; exact i3
    · rw [sN_ne (by omega), a4, sN_ne (by omega), sN_ne (by omega), sN_ne (by omega), eM 3 (by omega) (by omega) (by omega)]; exact i4
    · unfold allLeaveN; rw [sN_eq]
    · rw [sN_eq]
    · rw [sN_ne (by omega), a4, sN_eq]; unfold allLeaveN; rw [sN_ne (by omega), sN_eq]
    · rw [sN_ne (by omega), a4, sN_ne (by omega), sN_eq, eM 8 (by omega) (by omega) (by omega), h8]
    · exact LiS_N hn hl (fun y g1 g2 => eM y (by omega) (by omega) (by omega)) (fun y g1 g2 => ej y (by omega) (by omega))
    · exact LU_I hu (fun y g1 g2 => ej y (by omega) (by omega))
    · exact OL_N ho (fun y g1 g2 => eM y (by omega) (by omega) (by omega))
    · unfold allLeaveN; rw [sN_ne (by omega), sN_eq]
  · obtain ⟨t, ht6, htn, e⟩ : ∃ t, t < 6 ∧ t < n ∧ wFrom N (nI (x / 2)) 0 n = nI t := by
      rcases wFrom_spec N (nI (x / 2)) n 0 with q | ⟨t, _, q2, q3, _⟩
      · exact absurd (Or.inl q) hz
      · exact ⟨t, by omega, by omega, q3⟩
    rw [if_neg hz, if_neg hz, if_neg hz, e, if_pos (nI_nm1 (by omega)), Bus_answerHeader_58 _ _ _ _ _ t0, cl_nI (show t < 2147483648 by omega)]
    obtain ⟨m, hr⟩ := hl t htn
    obtain ⟨⟨hd, hd9, ehd9⟩, _⟩ := ho t ht6
    rw [cl_holdLine (N := N) ht hq hn htn _ L (by rw [wr_same, sN_ne (by omega), sN_ne (by omega)]; exact i3) (by rw [wr_same, sN_eq]) (by rw [wr_ne _ _ (by omega)]; exact hr.2.2.1), ehd9]
    simp only [kC_ret, Option.toList, List.cons_append, List.nil_append, fix1_int, fix1_ref, fix1_unk, fix1_null, fix1_long]
    rw [Bus_answerHeader_62]
    simp only [kC_ret, Option.toList, List.cons_append, List.nil_append, fix1_int, fix1_ref, fix1_unk, fix1_null, fix1_long]
    rw [Bus_passSlot_92]
    simp only [kC_ret, Option.toList, List.cons_append, List.nil_append, fix1_int, fix1_ref, fix1_unk, fix1_null, fix1_long]
    rw [wr_same, ehm]
    have hh9 : holdsN (sN (sN (sN N 8 (nI t)) 14 (nI (x % 2))) 7 (nI 0)) t = nextByteN (sN (sN (sN (sN N 8 (nI t)) 14 (nI (x % 2))) 7 (nI 0)) 9 (nI hd)) := by
      unfold holdsN
      rw [show (sN (sN (sN N 8 (nI t)) 14 (nI (x % 2))) 7 (nI 0)) (327 + 22 * t + 1) = nI hd from by rw [sN_ne (by omega), sN_ne (by omega), sN_ne (by omega)]; exact ehd9]
    rw [hh9]
    have eM : ∀ y, y ≠ 8 → y ≠ 14 → y ≠ 7 → (sN (sN (sN N 8 (nI t)) 14 (nI (x % 2))) 7 (nI 0)) y = N y := fun y g1 g2 g3 => by rw [sN_ne g3, sN_ne g2, sN_ne g1]
    have hbf : BF (sN (sN (sN N 8 (nI t)) 14 (nI (x % 2))) 7 (nI 0)) n := by
      refine ⟨⟨t, htn, by rw [sN_ne (by omega), sN_ne (by omega), sN_eq]⟩, ?_, 0, by omega, by rw [sN_eq], ?_⟩
      · rw [sN_ne (by omega), sN_eq]
        rcases (show x % 2 = 0 ∨ x % 2 = 1 by omega) with q | q <;> rw [q]
        · exact Or.inl rfl
        · exact Or.inr rfl
      · intro c hc hcon
        have hcon' : conB N (nI c) := (con_N (eM 5 (by omega) (by omega) (by omega))).mp hcon
        rw [eM (216 + 40 * c) (by omega) (by omega) (by omega), eM (217 + 40 * c) (by omega) (by omega) (by omega), hfl c hc hcon', sN_ne (show 14 ≠ 7 by omega), sN_eq]
        refine ⟨rfl, ?_⟩
        obtain ⟨s, hs4, z1, z2, z3⟩ := hi.1 c hc
        obtain ⟨_, s', hs', z4⟩ := hi.2.1 c hc hcon'
        rw [z1, nI_eq (by omega) (by omega)] at z4
        obtain ⟨_, _, y, hy0, hy4, ey, _⟩ := z3 0 (by omega)
        exact ⟨y, hy0, hy4, by rw [← ey, show 217 + 40 * c = 215 + 40 * c + 8 * 0 + 2 from by omega]⟩
    obtain ⟨md, hbc⟩ := BC_holds (N := N) (M := sN (sN (sN N 8 (nI t)) 14 (nI (x % 2))) 7 (nI 0)) (t := t) (h := hd) (I := I) (J := wr I b (sN (sN (I b) 9 (nI (x % 2))) 8 (nI t))) (L := L) (P := P) (b := b) (R := sN (sN (I b) 9 (nI (x % 2))) 8 (nI t)) hk0 hk (by rw [eM 1 (by omega) (by omega) (by omega)]; exact h1) (by rw [sN_ne (by omega), sN_ne (by omega)]; exact i1) hn (by rw [eM 2 (by omega) (by omega) (by omega)]; exact h2) (by rw [sN_ne (by omega), sN_ne (by omega)]; exact i3) (by rw [sN_ne (by omega), sN_ne (by omega), eM 3 (by omega) (by omega) (by omega)]; exact i4) (by rw [sN_ne (by omega), sN_ne (by omega), eM 5 (by omega) (by omega) (by omega)]; exact i7) (by rw [sN_eq, sN_ne (by omega), sN_ne (by omega), sN_eq]) hq (CS_5 hs (fun y g1 g2 => eM y (by omega) (by omega) (by omega)) (fun y g1 g2 => wr_ne _ _ (by omega))) (LiS_N hn hl (fun y g1 g2 => eM y (by omega) (by omega) (by omega)) (fun y g1 g2 => wr_ne _ _ (by omega))) (hlu1 _) (IV_N hi (eM 5 (by omega) (by omega) (by omega)) (fun y g1 g2 => eM y (by omega) (by omega) (by omega))) (OL_N ho (fun y g1 g2 => eM y (by omega) (by omega) (by omega))) (by rw [eM 5 (by omega) (by omega) (by omega)]; exact h5) hbf (by rw [sN_ne (by omega), sN_eq, sN_ne (by omega), sN_eq]) (by rw [sN_ne (by omega), sN_ne (by omega), sN_eq]; exact r12) hd9
    rw [wr_wr] at hbc ⊢
    exact ⟨_, P, md, rfl, hbc, Fs_wr⟩
