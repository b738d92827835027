/-! who goes on behind a byte -/
theorem fin_more {M : Nat → Int32} {k d : Nat} (hi : IV M k) (hd : d ≤ 4) (m7 : M 7 = nI d) (hc : ∀ c, c < 3 → conB M (nI c) → ∃ e, d ≤ e ∧ e ≤ 4 ∧ M (217 + 40 * c) = nI e) : moreK M (M 7) 3 = finN M 5 ∧ (∀ c, c < 3 → (conB' (M 5 &&& (moreK M (M 7) 3 ^^^ (-1))) (nI c) ↔ conB M (nI c) ∧ M (217 + 40 * c) = M 7)) ∧ M 5 &&& ((M 5 &&& (moreK M (M 7) 3 ^^^ (-1))) ^^^ (-1)) = finN M 5 := by
  have key : ∀ c, c < 3 → conB M (nI c) → (¬ M (217 + 40 * c) ≤ M 7 ↔ M (217 + 40 * c) ≠ M 7) := by
    intro c hc3 hcon
    obtain ⟨e, h1, h2, h3⟩ := hc c hc3 hcon
    rw [h3, m7, nI_leI (by omega) (by omega), ne_eq, nI_eq (by omega) (by omega)]
    omega
  have q : ∀ c, c < 3 → (conB (finN M) (nI c) ↔ conB M (nI c) ∧ ¬ M (217 + 40 * c) ≤ M 7) := by
    intro c hc3
    rw [con_finN hc3 hi.2.2]
    exact ⟨fun z => ⟨z.1, (key c hc3 z.1).mpr z.2⟩, fun z => ⟨z.1, (key c hc3 z.1).mp z.2⟩⟩
  have e1 : moreK M (M 7) 3 = finN M 5 := by
    rw [set3_con (IV_finN hi).2.2, moreK_set]
    congr 1
    · rw [decide_eq_decide]; exact (q 0 (by omega)).symm
    · rw [decide_eq_decide]; exact (q 1 (by omega)).symm
    · rw [decide_eq_decide]; exact (q 2 (by omega)).symm
  have hco : ∀ c, c < 3 → conB M (nI c) → (¬ (conB (finN M) (nI c)) ↔ M (217 + 40 * c) = M 7) := by
    intro c hc3 hcon
    rw [con_finN hc3 hi.2.2]
    exact ⟨fun z => Classical.byContradiction (fun y => z ⟨hcon, y⟩), fun z y => y.2 z⟩
  have hsub : ∀ c, c < 3 → conB (finN M) (nI c) → conB M (nI c) := fun c hc3 z => ((q c hc3).mp z).1
  refine ⟨e1, ?_, ?_⟩
  · rw [e1, set3_con (IV_finN hi).2.2, set3_con hi.2.2, set3_diff]
    intro c hc3
    obtain ⟨b0, b1, b2⟩ := set3_bit (decide (conB M (nI 0)) && !decide (conB (finN M) (nI 0))) (decide (conB M (nI 1)) && !decide (conB (finN M) (nI 1))) (decide (conB M (nI 2)) && !decide (conB (finN M) (nI 2)))
    have fin : ∀ c, c < 3 → ((decide (conB M (nI c)) && !decide (conB (finN M) (nI c))) = true ↔ conB M (nI c) ∧ M (217 + 40 * c) = M 7) := by
      intro c hc3
      rw [Bool.and_eq_true, decide_eq_true_eq, Bool.not_eq_true', decide_eq_false_iff_not]
      exact ⟨fun z => ⟨z.1, (hco c hc3 z.1).mp z.2⟩, fun z => ⟨z.1, (hco c hc3 z.1).mpr z.2⟩⟩
    rcases (show c = 0 ∨ c = 1 ∨ c = 2 by omega) with rfl | rfl | rfl
    · exact b0.trans (fin 0 (by omega))
    · exact b1.trans (fin 1 (by omega))
    · exact b2.trans (fin 2 (by omega))
  · rw [e1, set3_con (IV_finN hi).2.2, set3_con hi.2.2, set3_diff, set3_diff]
    have fin : ∀ c, c < 3 → (decide (conB M (nI c)) && !(decide (conB M (nI c)) && !decide (conB (finN M) (nI c)))) = decide (conB (finN M) (nI c)) := by
      intro c hc3
      by_cases z : conB (finN M) (nI c)
      · rw [decide_eq_true z, decide_eq_true (hsub c hc3 z)]; rfl
      · by_cases y : conB M (nI c)
        · rw [decide_eq_true y, decide_eq_false z]; rfl
        · rw [decide_eq_false y, decide_eq_false z]; rfl
    rw [fin 0 (by omega), fin 1 (by omega), fin 2 (by omega)]
theorem st_fin {w : Wd} {M : Nat → Int32} {P : MP} {b k n t d : Nat} {I : MI} {L : ML} (ht : BT w b) (hq : BQ P b) (hk0 : 0 < k) (hk : k ≤ 3) (m1 : M 1 = nI k) (i1 : I b 1 = nI k) (hn : n ≤ 6) (m2 : M 2 = nI n) (i3 : I b 3 = nI n) (i4 : I b 4 = M 3) (i7 : I b 7 = M 5) (i8 : I b 8 = M 8) (htn : t < n) (m8 : M 8 = nI t) (hs : CS M b I L P) (hl : LiS M b n I) (hu : LU b n I) (hi : IV M k) (ho : OL M n) (i9 : I b 9 = M 14) (m14 : M 14 = nI 0 ∨ M 14 = nI 1) (i12 : I b 12 = M 7) (hd : d ≤ 4) (m7 : M 7 = nI d) (hc : ∀ c, c < 3 → conB M (nI c) → M (216 + 40 * c) = M 14 ∧ ∃ e, d ≤ e ∧ e ≤ 4 ∧ M (217 + 40 * c) = nI e) : ∃ J Q md, call 58 [.ref b, .int (moreK M (M 7) k)] w I L P = some (.inl none, w, J, L, Q) ∧ BC b (if finV M = 0 then sN (finN M) 4 (nI 8) else holdsN (finN M) t) J L Q k n md ∧ Fs b I J L L P Q := by
  have t0 := ht.1
  have hco' : ∀ c, c < 3 → conB M (nI c) → c < k := fun c hc q => (hi.2.1 c hc q).1
  obtain ⟨f1, f2, f3⟩ := fin_more hi hd m7 (fun c hc3 hcon => (hc c hc3 hcon).2)
  have hfi := IV_finN hi
  have hov : ∀ c, c < 3 → conB' (M 5 &&& (moreK M (M 7) 3 ^^^ (-1))) (nI c) → conB M (nI c) := fun c hc3 z => ((f2 c hc3).mp z).1
  obtain ⟨J, Q, a1, a2, a3, a4, a5⟩ := cl_endMessages ht hq hk0 hk (show 0 < 1 by omega) (show 1 < 5 by omega) I L i1 hs (M 5 &&& (moreK M (M 7) 3 ^^^ (-1))) (fun c hc3 z => (hi.2.1 c (by omega) (hov c (by omega) z)).2)
  rw [enK_3 hk0 hk (fun c hc3 z => hco' c hc3 (hov c hc3 z))] at a2
  rw [i7, f3] at a4 a5
  have hag := AG_finN hi.2.2 f2
  have hcs : CS (finN M) b J L Q := CS_N a2 (fun x g1 g2 => hag x (by omega))
  rw [moreK_3 hk0 hk hco', Bus_goOnWith_E, Bus_goOnWith_0 _ _ _ _ _ _ t0, i7, a1]
  simp only [kC_ret, Option.toList, List.cons_append, List.nil_append, fix1_int, fix1_ref, fix1_unk, fix1_null, fix1_long]
  rw [Bus_goOnWith_13 _ _ _ _ _ _ t0, show J b 7 = finN M 5 from by rw [a4, sN_eq]]
  have ej : ∀ y, (y < b + 7 ∨ b + 28 ≤ y) → y ≠ b → J y = I y := fun y g g2 => by rw [(a5 y g).1, wr_ne _ _ g2]
  have hfs : Fs b I J L L P Q := Fs_trans Fs_wr (Fs_Fr a5)
  have hfl : LiS (finN M) b n J := LiS_N hn hl (fun y g1 g2 => finN_out (by omega) (by omega)) (fun y g1 g2 => ej y (by omega) (by omega))
  have hfu : LU b n J := LU_I hu (fun y g1 g2 => ej y (by omega) (by omega))
  have hfo : OL (finN M) n := OL_N ho (fun y g1 g2 => finN_out (by omega) (by omega))
  by_cases hz : finN M 5 = nI 0
  · rw [if_neg (by rw [hz]; exact fun q => q nI_0), if_pos ((finV_5 hi.2.2).mpr hz), Bus_goOnWith_20 _ _ _ _ _ _ t0, Bus_goOnWith_33, updI_wr, a4]
    have eM : ∀ y, y < 207 ∨ 327 ≤ y → y ≠ 4 → y ≠ 5 → sN (finN M) 4 (nI 8) y = M y := fun y g g2 g3 => by rw [sN_ne g2, finN_out g g3]
    refine ⟨_, Q, 8, rfl, ?_, Fs_trans hfs Fs_wr⟩
    refine BC_stop hk0 hk ?_ ?_ hn ?_ ?_ ?_ ?_ ?_ ?_ ?_ a3 ?_ ?_ ?_ ?_ ?_ ?_
    · rw [eM 1 (by omega) (by omega) (by omega)]; exact m1
    · rw [sN_ne (by omega), sN_ne (by omega)]; exact i1
    · rw [eM 2 (by omega) (by omega) (by omega)]; exact m2
    · rw [sN_ne (by omega), sN_ne (by omega)]; exact i3
    · rw [sN_ne (by omega), sN_ne (by omega), eM 3 (by omega) (by omega) (by omega)]; exact i4
    · rw [sN_eq]
    · rw [sN_eq]
    · rw [sN_ne (by omega), sN_eq, sN_ne (by omega)]
    · rw [sN_ne (by omega), sN_ne (by omega), eM 8 (by omega) (by omega) (by omega)]; exact i8
    · exact CS_N hcs (fun y g1 g2 => sN_ne (by omega))
    · exact LiS_N hn hfl (fun y g1 g2 => sN_ne (by omega)) (fun _ _ _ => rfl)
    · exact hfu
    · exact IV_N hfi (sN_ne (by omega)) (fun y g1 g2 => sN_ne (by omega))
    · exact OL_N hfo (fun y g1 g2 => sN_ne (by omega))
    · rw [sN_ne (by omega)]; exact hz
  · obtain ⟨⟨h, hh9, eh⟩, _⟩ := ho t (by omega)
    obtain ⟨m, hr⟩ := hl t htn
    rw [if_pos (fun q => hz (q.trans nI_0.symm)), if_neg (fun q => hz ((finV_5 hi.2.2).mp q)), Bus_goOnWith_29 _ _ _ _ _ _ t0, cl_holdLine (N := M) ht a3 hn htn J L (by rw [a4, sN_ne (by omega)]; exact i3) (by rw [a4, sN_ne (by omega), i8, m8]) (by rw [ej _ (by omega) (by omega)]; exact hr.2.2.1), eh]
    simp only [kC_ret, Option.toList, List.cons_append, List.nil_append, fix1_int, fix1_ref, fix1_unk, fix1_null, fix1_long]
    rw [Bus_goOnWith_33]
    have eM : ∀ y, y < 207 ∨ 327 ≤ y → y ≠ 5 → finN M y = M y := fun y g g2 => finN_out g g2
    have hh : holdsN (finN M) t = nextByteN (sN (finN M) 9 (nI h)) := by
      unfold holdsN
      rw [eM _ (by omega) (by omega), eh]
    rw [hh]
    have hbf : BF (finN M) n := by
      obtain ⟨c0, hc0, hcon0⟩ := (con_ex hfi.2.2).mp hz
      have hlt : d < 4 := by
        obtain ⟨z1, z2⟩ := (con_finN hc0 hi.2.2).mp hcon0
        obtain ⟨_, e, g1, g2, g3⟩ := hc c0 hc0 z1
        rw [g3, m7, ne_eq, nI_eq (by omega) (by omega)] at z2
        omega
      refine ⟨⟨t, htn, by rw [eM 8 (by omega) (by omega)]; exact m8⟩, by rw [eM 14 (by omega) (by omega)]; exact m14, d, hlt, by rw [eM 7 (by omega) (by omega)]; exact m7, ?_⟩
      intro c hc3 hcon
      obtain ⟨z1, z2⟩ := (con_finN hc3 hi.2.2).mp hcon
      obtain ⟨g0, e, g1, g2, g3⟩ := hc c hc3 z1
      have er := reg_finN hc3 hi.2.2 hcon
      rw [er (216 + 40 * c) (by omega) (by omega), er (217 + 40 * c) (by omega) (by omega), eM 14 (by omega) (by omega)]
      rw [g3, m7, ne_eq, nI_eq (by omega) (by omega)] at z2
      exact ⟨g0, e, by omega, g2, g3⟩
    obtain ⟨md, hbc⟩ := BC_holds (N := M) (M := finN M) (t := t) (h := h) (I := I) (J := J) (L := L) (P := Q) (b := b) (R := J b) hk0 hk (by rw [eM 1 (by omega) (by omega)]; exact m1) (by rw [a4, sN_ne (by omega)]; exact i1) hn (by rw [eM 2 (by omega) (by omega)]; exact m2) (by rw [a4, sN_ne (by omega)]; exact i3) (by rw [a4, sN_ne (by omega), eM 3 (by omega) (by omega)]; exact i4) (by rw [a4, sN_eq]) (by rw [a4, sN_ne (by omega), eM 8 (by omega) (by omega)]; exact i8) a3 hcs hfl hfu hfi hfo hz hbf (by rw [a4, sN_ne (by omega), eM 14 (by omega) (by omega)]; exact i9) (by rw [a4, sN_ne (by omega), eM 7 (by omega) (by omega)]; exact i12) hh9
    exact ⟨_, Q, md, rfl, hbc, Fs_trans hfs Fs_wr⟩
/-- the answer to a byte of a write -/
theorem st_4 {w : Wd} {N : Nat → Int32} {P : MP} {b k n : Nat} {I : MI} {L : ML} (ht : BT w b) (h : BC b N I L P k n 4) : SG w b N I L P k n := by
  have t0 := ht.1
  obtain ⟨⟨hk0, hk, h1, i1⟩, ⟨hn, h2, i3⟩, i4, h4, i7, i8, hq, hs, hl, hu, hi, ho, r6, h5, hbf, h14, r9, r12, lv, r11, hv⟩ := h
  have c4 := cl_of h4 (by omega)
  obtain ⟨⟨t, htn, h8⟩, g14, d, hd4, h7, hc⟩ := hbf
  have ht6 : t < 6 := by omega
  have tl := ht.2.2.2.2.2.2 t ht6
  obtain ⟨m, hr⟩ := hl t htn
  have hr' := hr
  obtain ⟨hm16, l0, l1, l2, l3, l5, lm, l6, lb⟩ := hr'
  have c8 := cl_of h8 (by omega)
  have cm : cl N (327 + 22 * t + 2) = m := cl_of lm (by omega)
  have est : stepN N = waN N t m := by unfold stepN; rw [c4, c8, cm]; rfl
  have esv : stepV N = waV m := by unfold stepV; rw [c4, c8, cm]; rfl
  have ek : slotKind N = nI 5 := by
    unfold slotKind
    rw [if_neg (by rw [h4]; decide), c4]; rfl
  obtain ⟨x, hx, ex, ev⟩ := hv _ (anyc_lt N) (anyc_con hi.2.2 h5)
  have exl : x = lv := by simpa using ev
  subst exl
  unfold SG
  rw [esv, ek, est, Bus_passSlot_0 _ _ _ _ _ _ _ t0, r6, if_pos (by decide), Bus_passSlot_19 _ _ _ _ _ _ _ t0, r6, Bus_passSlot_27_k5, Bus_passSlot_122 _ _ _ _ _ _ _ t0, r9, if_pos (by decide), Bus_passSlot_136 _ _ _ _ _ _ _ t0, Bus_answerWrite_E, Bus_answerWrite_0 _ _ _ _ _ _ t0, i8, h8, cl_listenerAt ht hq hn htn I L i3]
  simp only [kC_ret, Option.toList, List.cons_append, List.nil_append, fix1_int, fix1_ref, fix1_unk, fix1_null, fix1_long]
  rw [Bus_answerWrite_8_1, fix1_ref, Bus_answerWrite_13 _ _ _ _ _ _ t0 tl.1, r11, cl_store ht hq ht6 I L hr]
  unfold waN waV
  by_cases h16 : m = 16
  · rw [if_pos h16, if_pos h16, if_pos h16]
    simp only [kC_ret, Option.toList, List.cons_append, List.nil_append, fix1_int, fix1_ref, fix1_unk, fix1_null, fix1_long]
    rw [Bus_answerWrite_21, if_neg (by decide), Bus_answerWrite_24 _ _ _ _ _ _ t0, i7]
    obtain ⟨J, Q, a1, a2, a3, a4, a5⟩ := cl_endAll ht hq hk0 hk (show 0 < 3 by omega) (show 3 < 5 by omega) I L i1 i7 hs hi
    rw [a1]
    simp only [kC_ret, Option.toList, List.cons_append, List.nil_append, fix1_int, fix1_ref, fix1_unk, fix1_null, fix1_long]
    rw [Bus_answerWrite_33 _ _ _ _ _ _ t0]
    simp only [kC_ret, Option.toList, List.cons_append, List.nil_append, fix1_int, fix1_ref, fix1_unk, fix1_null, fix1_long]
    rw [Bus_passSlot_140, updI_wr]
    simp only [kC_ret, Option.toList, List.cons_append, List.nil_append, fix1_int, fix1_ref, fix1_unk, fix1_null, fix1_long]
    have ej : ∀ y, (y < b + 7 ∨ b + 28 ≤ y) → y ≠ b → J y = I y := fun y g g2 => by rw [(a5 y g).1, wr_ne _ _ g2]
    have eM : ∀ y, y < 207 ∨ 327 ≤ y → y ≠ 4 → y ≠ 5 → allLeaveN N 3 y = N y := fun y g g2 g3 => allLeave_out (by omega) g g2 g3
    refine ⟨_, Q, 8, rfl, ?_, Fs_trans (Fs_trans Fs_wr (Fs_Fr a5)) Fs_wr⟩
    refine BC_stop hk0 hk ?_ ?_ hn ?_ ?_ ?_ ?_ ?_ ?_ ?_ a3 a2 ?_ ?_ (IV_allLeave (by omega) (by omega) hi) ?_ ?_
    · rw [eM 1 (by omega) (by omega) (by omega)]; exact h1
    · rw [sN_ne (by omega), a4, sN_ne (by omega)]; exact i1
    · rw [eM 2 (by omega) (by omega) (by omega)]; exact h2
    · rw [sN_ne (by omega), a4, sN_ne (by omega)]; exact i3
    · rw [sN_ne (by omega), a4, sN_ne (by omega), eM 3 (by omega) (by omega) (by omega)]; exact i4
    · unfold allLeaveN; rw [sN_eq]
    · rw [sN_eq]
    · rw [sN_ne (by omega), a4, sN_eq]; unfold allLeaveN; rw [sN_ne (by omega), sN_eq]
    · rw [sN_ne (by omega), a4, sN_ne (by omega), eM 8 (by omega) (by omega) (by omega)]; exact i8
    · exact LiS_N hn hl (fun y g1 g2 => eM y (by omega) (by omega) (by omega)) (fun y g1 g2 => ej y (by omega) (by omega))
    · exact LU_I hu (fun y g1 g2 => ej y (by omega) (by omega))
    · exact OL_N ho (fun y g1 g2 => eM y (by omega) (by omega) (by omega))
    · unfold allLeaveN; rw [sN_ne (by omega), sN_eq]
  · rw [if_neg h16, if_neg h16, if_neg h16]
    simp only [kC_ret, Option.toList, List.cons_append, List.nil_append, fix1_int, fix1_ref, fix1_unk, fix1_null, fix1_long]
    rw [Bus_answerWrite_21, if_pos (by decide), Bus_answerWrite_41 _ _ _ _ _ _ t0]
    have m7 : waN1 N t m 7 = nI (d + 1) := by unfold waN1; rw [sN_eq, sN_ne (by omega), sN_ne (by omega), h7, nI_add]
    have m2 : waN1 N t m (327 + 22 * t + 2) = nI (m + 1) := by unfold waN1; rw [sN_ne (by omega), sN_eq, nI_add]
    have mb : waN1 N t m (327 + 22 * t + (6 + m)) = nI x := by unfold waN1; rw [sN_ne (by omega), sN_ne (by omega), sN_eq, ex]
    have eM : ∀ y, y ≠ 7 → y ≠ 327 + 22 * t + 2 → y ≠ 327 + 22 * t + (6 + m) → waN1 N t m y = N y := by
      intro y g1 g2 g3
      unfold waN1; rw [sN_ne g1, sN_ne g2, sN_ne g3]
    generalize waN1 N t m = M at *
    have ei : ∀ y, y ≠ b + 28 + 2 * t → y ≠ b + 29 + 2 * t → (wr (wr I (b + 29 + 2 * t) (sN (I (b + 29 + 2 * t)) m (nI x))) (b + 28 + 2 * t) (sN (I (b + 28 + 2 * t)) 5 (nI (m + 1)))) y = I y := fun y g1 g2 => by rw [wr_ne _ _ g1, wr_ne _ _ g2]
    have j0 : (wr (wr I (b + 29 + 2 * t) (sN (I (b + 29 + 2 * t)) m (nI x))) (b + 28 + 2 * t) (sN (I (b + 28 + 2 * t)) 5 (nI (m + 1)))) (b + 28 + 2 * t) = sN (I (b + 28 + 2 * t)) 5 (nI (m + 1)) := wr_same _ _ _
    have j1 : (wr (wr I (b + 29 + 2 * t) (sN (I (b + 29 + 2 * t)) m (nI x))) (b + 28 + 2 * t) (sN (I (b + 28 + 2 * t)) 5 (nI (m + 1)))) (b + 28 + 2 * t + 1) = sN (I (b + 28 + 2 * t + 1)) m (nI x) := by rw [wr_ne _ _ (by omega), show b + 28 + 2 * t + 1 = b + 29 + 2 * t from by omega, wr_same]
    have hfs : Fs b I (wr (wr I (b + 29 + 2 * t) (sN (I (b + 29 + 2 * t)) m (nI x))) (b + 28 + 2 * t) (sN (I (b + 28 + 2 * t)) 5 (nI (m + 1)))) L L P P := fun y hy => ⟨ei y (by omega) (by omega), rfl, rfl⟩
    generalize wr (wr I (b + 29 + 2 * t) (sN (I (b + 29 + 2 * t)) m (nI x))) (b + 28 + 2 * t) (sN (I (b + 28 + 2 * t)) 5 (nI (m + 1))) = I1 at *
    have eb : I1 b = I b := ei b (by omega) (by omega)
    have m5 : M 5 = N 5 := eM 5 (by omega) (by omega) (by omega)
    have hcs : CS M b I1 L P := CS_5 hs (fun y g1 g2 => eM y (by omega) (by omega) (by omega)) (fun y g1 g2 => ei y (by omega) (by omega))
    have hiv : IV M k := IV_N hi m5 (fun y g1 g2 => eM y (by omega) (by omega) (by omega))
    have hls : LiS M b n I1 := by
      intro l hln
      by_cases e : l = t
      · subst e
        refine ⟨m + 1, by omega, ?_, ?_, ?_, ?_, ?_, m2, ?_, ?_⟩
        · rw [j0, sN_ne (by omega), eM _ (by omega) (by omega) (by omega)]; exact l0
        · rw [j0, sN_ne (by omega), eM _ (by omega) (by omega) (by omega)]; exact l1
        · rw [j0, sN_ne (by omega), eM _ (by omega) (by omega) (by omega)]; exact l2
        · rw [j0, sN_ne (by omega), eM _ (by omega) (by omega) (by omega)]; exact l3
        · rw [j0, sN_eq]
        · rw [j0, sN_ne (by omega), eM _ (by omega) (by omega) (by omega)]; exact l6
        · intro i hi
          rw [j1]
          by_cases e2 : i = m
          · subst e2; rw [sN_eq, show 327 + 22 * l + 6 + i = 327 + 22 * l + (6 + i) from by omega, mb]
          · rw [sN_ne e2, eM _ (by omega) (by omega) (by omega)]; exact lb i (by omega)
      · obtain ⟨m', hr'⟩ := hl l hln
        exact ⟨m', LR_N hr' (fun y g1 g2 => eM y (by omega) (by omega) (by omega)) (ei _ (by omega) (by omega)) (ei _ (by omega) (by omega))⟩
    have hol : OL M n := by
      intro l hl6
      by_cases e : l = t
      · subst e
        obtain ⟨q1, q2, m', p, q3, q4, q5, q6, q7⟩ := ho l hl6
        rw [lm, nI_eq (by omega) (by omega)] at q4
        subst q4
        rw [eM (327 + 22 * l + 1) (by omega) (by omega) (by omega), eM (327 + 22 * l + 4) (by omega) (by omega) (by omega), eM (327 + 22 * l + 3) (by omega) (by omega) (by omega)]
        exact ⟨q1, q2, m + 1, p, by omega, m2, q5, by omega, fun y => by omega⟩
      · rw [eM (327 + 22 * l + 1) (by omega) (by omega) (by omega), eM (327 + 22 * l + 4) (by omega) (by omega) (by omega), eM (327 + 22 * l + 3) (by omega) (by omega) (by omega), eM (327 + 22 * l + 2) (by omega) (by omega) (by omega), eM (327 + 22 * l + 5) (by omega) (by omega) (by omega)]
        exact ho l hl6
    have i12 : I1 b 12 = M 7 := by rw [eb, r12, h7, m7, nI_add]
    rw [cl_more ht hq hk0 hk I1 L (by rw [eb]; exact i1) (by rw [eb, m5]; exact i7) hcs (CO_of hiv), i12]
    simp only [kC_ret, Option.toList, List.cons_append, List.nil_append, fix1_int, fix1_ref, fix1_unk, fix1_null, fix1_long]
    rw [Bus_answerWrite_46 _ _ _ _ _ _ _ _ t0]
    obtain ⟨J, Q, md, a1, a2, a3⟩ := st_fin (t := t) (d := d + 1) ht hq hk0 hk (by rw [eM 1 (by omega) (by omega) (by omega)]; exact h1) (by rw [eb]; exact i1) hn (by rw [eM 2 (by omega) (by omega) (by omega)]; exact h2) (by rw [eb]; exact i3) (by rw [eb, eM 3 (by omega) (by omega) (by omega)]; exact i4) (by rw [eb, m5]; exact i7) (by rw [eb, eM 8 (by omega) (by omega) (by omega)]; exact i8) htn (by rw [eM 8 (by omega) (by omega) (by omega)]; exact h8) hcs hls (fun l g1 g2 => by rw [ei _ (by omega) (by omega)]; exact hu l g1 g2) hiv hol (by rw [eb, eM 14 (by omega) (by omega) (by omega), r9, h14]) (by rw [eM 14 (by omega) (by omega) (by omega)]; exact g14) i12 (by omega) m7 (by
      intro c hc3 hcon
      rw [eM (216 + 40 * c) (by omega) (by omega) (by omega), eM (217 + 40 * c) (by omega) (by omega) (by omega), eM 14 (by omega) (by omega) (by omega)]
      obtain ⟨q1, e, q2, q3, q4⟩ := hc c hc3 ((con_N m5).mp hcon)
      exact ⟨q1, e, by omega, q3, q4⟩)
    rw [a1]
    simp only [kC_ret, Option.toList, List.cons_append, List.nil_append, fix1_int, fix1_ref, fix1_unk, fix1_null, fix1_long]
    rw [Bus_answerWrite_49]
    simp only [kC_ret, Option.toList, List.cons_append, List.nil_append, fix1_int, fix1_ref, fix1_unk, fix1_null, fix1_long]
    rw [Bus_passSlot_140]
    simp only [kC_ret, Option.toList, List.cons_append, List.nil_append, fix1_int, fix1_ref, fix1_unk, fix1_null, fix1_long]
    exact ⟨J, Q, md, rfl, a2, Fs_trans hfs a3⟩
