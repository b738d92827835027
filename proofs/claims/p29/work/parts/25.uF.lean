/-! slots: the answer to a byte of a read, its bits, holding, stop -/
theorem st_6 {w : Wd} {N : Nat → Int32} {P : MP} {b k n : Nat} {I : MI} {L : ML} (ht : BT w b) (h : BC b N I L P k n 6) : SG w b N I L P k n := by
  have t0 := ht.1
  obtain ⟨⟨hk0, hk, h1, i1⟩, ⟨hn, h2, i3⟩, i4, h4, i7, i8, hq, hs, hl, hu, hi, ho, r6, h5, hbf, h14, r9, r12⟩ := h
  have c4 := cl_of h4 (by omega)
  obtain ⟨⟨t, htn, h8⟩, g14, d, hd4, h7, hc⟩ := hbf
  have c8 := cl_of h8 (by omega)
  have est : stepN N = raN N t := by unfold stepN; rw [c4, c8]; rfl
  have esv : stepV N = raV N := by unfold stepV; rw [c4]; rfl
  have ek : slotKind N = nI 5 := by
    unfold slotKind
    rw [if_neg (by rw [h4]; decide), c4]; rfl
  unfold SG
  rw [esv, ek, est, Bus_passSlot_0 _ _ _ _ _ _ _ t0, r6, if_pos (by decide), Bus_passSlot_19 _ _ _ _ _ _ _ t0, r6, Bus_passSlot_27_k5, Bus_passSlot_122 _ _ _ _ _ _ _ t0, r9, if_neg (by decide), Bus_passSlot_129 _ _ _ _ _ _ _ t0, Bus_answerRead_E, Bus_answerRead_0 _ _ _ _ _ _ t0]
  unfold raN raV
  have m7 : raN1 N 7 = nI (d + 1) := by unfold raN1; rw [sN_eq, h7, nI_add]
  have eM : ∀ y, y ≠ 7 → raN1 N y = N y := by
    intro y g1
    unfold raN1; rw [sN_ne g1]
  generalize raN1 N = M at *
  have m5 : M 5 = N 5 := eM 5 (by omega)
  have hcs : CS M b I L P := CS_N hs (fun y g1 g2 => eM y (by omega))
  have hiv : IV M k := IV_N hi m5 (fun y g1 g2 => eM y (by omega))
  have i12 : I b 12 = M 7 := by rw [r12, h7, m7, nI_add]
  have i7' : I b 7 = M 5 := by rw [m5]; exact i7
  rw [cl_more ht hq hk0 hk I L i1 i7' hcs (CO_of hiv), i12]
  simp only [kC_ret, Option.toList, List.cons_append, List.nil_append, fix1_int, fix1_ref, fix1_unk, fix1_null, fix1_long]
  rw [Bus_answerRead_4 _ _ _ _ _ _ _ t0]
  have hc' : ∀ c, c < 3 → conB M (nI c) → M (216 + 40 * c) = M 14 ∧ ∃ e, d + 1 ≤ e ∧ e ≤ 4 ∧ M (217 + 40 * c) = nI e := by
    intro c hc3 hcon
    rw [eM (216 + 40 * c) (by omega), eM (217 + 40 * c) (by omega), eM 14 (by omega)]
    obtain ⟨q1, e, q2, q3, q4⟩ := hc c hc3 ((con_N m5).mp hcon)
    exact ⟨q1, e, by omega, q3, q4⟩
  obtain ⟨J, Q, md, a1, a2, a3⟩ := st_fin (t := t) (d := d + 1) ht hq hk0 hk (by rw [eM 1 (by omega)]; exact h1) i1 hn (by rw [eM 2 (by omega)]; exact h2) i3 (by rw [eM 3 (by omega)]; exact i4) i7' (by rw [eM 8 (by omega)]; exact i8) htn (by rw [eM 8 (by omega)]; exact h8) hcs (LiS_N hn hl (fun y g1 g2 => eM y (by omega)) (fun _ _ _ => rfl)) hu hiv (OL_N ho (fun y g1 g2 => eM y (by omega))) (by rw [eM 14 (by omega), r9, h14]) (by rw [eM 14 (by omega)]; exact g14) i12 (by omega) m7 hc'
  have f1 := (fin_more hiv (by omega) m7 (fun c hc3 hcon => (hc' c hc3 hcon).2)).1
  rw [a1]
  simp only [kC_ret, Option.toList, List.cons_append, List.nil_append, fix1_int, fix1_ref, fix1_unk, fix1_null, fix1_long]
  rw [Bus_answerRead_10, moreK_3 hk0 hk (fun c hc3 q => (hiv.2.1 c hc3 q).1), f1]
  by_cases hz : finN M 5 = nI 0
  · rw [if_neg (by rw [hz]; exact fun q => q nI_0), Bus_answerRead_14, Bus_answerRead_19]
    simp only [kC_ret, Option.toList, List.cons_append, List.nil_append, fix1_int, fix1_ref, fix1_unk, fix1_null, fix1_long]
    rw [Bus_passSlot_133, Bus_passSlot_140, if_pos ((finV_5 hiv.2.2).mpr hz)]
    simp only [kC_ret, Option.toList, List.cons_append, List.nil_append, fix1_int, fix1_ref, fix1_unk, fix1_null, fix1_long]
    rw [if_pos ((finV_5 hiv.2.2).mpr hz)] at a2 ⊢
    exact ⟨J, Q, md, rfl, a2, a3⟩
  · rw [if_pos (fun q => hz (q.trans nI_0.symm)), Bus_answerRead_18, Bus_answerRead_19]
    simp only [kC_ret, Option.toList, List.cons_append, List.nil_append, fix1_int, fix1_ref, fix1_unk, fix1_null, fix1_long]
    rw [Bus_passSlot_133, Bus_passSlot_140, if_neg (fun q => hz ((finV_5 hiv.2.2).mp q))]
    simp only [kC_ret, Option.toList, List.cons_append, List.nil_append, fix1_int, fix1_ref, fix1_unk, fix1_null, fix1_long]
    rw [if_neg (fun q => hz ((finV_5 hiv.2.2).mp q))] at a2 ⊢
    exact ⟨J, Q, md, rfl, a2, a3⟩
theorem st_8 {w : Wd} {N : Nat → Int32} {P : MP} {b k n : Nat} {I : MI} {L : ML} (ht : BT w b) (h : BC b N I L P k n 8) : SG w b N I L P k n := by
  have t0 := ht.1
  obtain ⟨⟨hk0, hk, h1, i1⟩, ⟨hn, h2, i3⟩, i4, h4, i7, i8, hq, hs, hl, hu, hi, ho, r6, h5⟩ := h
  have c4 := cl_of h4 (by omega)
  have est : stepN N = sN (sN N 4 (nI 0)) 8 (-1) := by unfold stepN; rw [c4]; rfl
  have esv : stepV N = nI 1 := by unfold stepV; rw [c4]; rfl
  have ek : slotKind N = nI 7 := by
    unfold slotKind
    rw [if_neg (by rw [h4]; decide), c4]; rfl
  have eM : ∀ y, y ≠ 4 → y ≠ 8 → sN (sN N 4 (nI 0)) 8 (-1) y = N y := fun y g1 g2 => by rw [sN_ne g2, sN_ne g1]
  unfold SG
  rw [esv, ek, est, Bus_passSlot_0 _ _ _ _ _ _ _ t0, r6, if_pos (by decide), Bus_passSlot_19 _ _ _ _ _ _ _ t0, r6, Bus_passSlot_27_k7, Bus_passSlot_152 _ _ _ _ _ _ _ t0, cl_stop ht]
  simp only [kC_ret, Option.toList, List.cons_append, List.nil_append, fix1_int, fix1_ref, fix1_unk, fix1_null, fix1_long]
  rw [Bus_passSlot_156]
  refine ⟨_, P, 0, rfl, ?_, Fs_wr⟩
  refine ⟨⟨hk0, hk, by rw [eM 1 (by omega) (by omega)]; exact h1, ?_⟩, ⟨hn, by rw [eM 2 (by omega) (by omega)]; exact h2, ?_⟩, ?_, by rw [sN_ne (by omega), sN_eq], ?_, ?_, hq, CS_5 hs (fun y g1 g2 => eM y (by omega) (by omega)) (fun y g1 g2 => wr_ne _ _ (by omega)), LiS_N hn hl (fun y g1 g2 => eM y (by omega) (by omega)) (fun y g1 g2 => wr_ne _ _ (by omega)), LU_I hu (fun y g1 g2 => wr_ne _ _ (by omega)), IV_N hi (eM 5 (by omega) (by omega)) (fun y g1 g2 => eM y (by omega) (by omega)), OL_N ho (fun y g1 g2 => eM y (by omega) (by omega)), ?_, ?_, by rw [sN_eq]⟩
  · rw [wr_same, sN_ne (by omega), sN_ne (by omega)]; exact i1
  · rw [wr_same, sN_ne (by omega), sN_ne (by omega)]; exact i3
  · rw [wr_same, sN_ne (by omega), sN_ne (by omega), eM 3 (by omega) (by omega)]; exact i4
  · rw [wr_same, sN_ne (by omega), sN_ne (by omega), eM 5 (by omega) (by omega)]; exact i7
  · rw [wr_same, sN_ne (by omega), sN_eq, sN_eq]
  · rw [wr_same, sN_eq]
  · rw [eM 5 (by omega) (by omega)]; exact h5
theorem hsB_ho {R : Nat → Int32} (h6 : R 6 = nI 6) : hsB R = hoB R (R 13 - nI 1) := by
  unfold hsB hoB
  have e : ∀ x : Int32, (0 < x) ↔ ¬ (x ≤ 0) := fun x => Int32.not_le.symm
  by_cases q : R 13 - nI 1 ≤ 0
  · rw [if_pos q, if_neg (fun z => (e _).mp z q)]
  · rw [if_neg q, if_pos ((e _).mpr q)]
    have : sN R 13 (R 13 - nI 1) 6 = nI 6 := by rw [sN_ne (by omega)]; exact h6
    rw [← this, sN_id]
theorem st_7 {w : Wd} {N : Nat → Int32} {P : MP} {b k n : Nat} {I : MI} {L : ML} (ht : BT w b) (h : BC b N I L P k n 7) : SG w b N I L P k n := by
  have t0 := ht.1
  obtain ⟨⟨hk0, hk, h1, i1⟩, ⟨hn, h2, i3⟩, i4, h4, i7, i8, hq, hs, hl, hu, hi, ho, r6, h5, hbf, r9, r12, h, hh0, hh9, n9, r13⟩ := h
  have c4 := cl_of h4 (by omega)
  have hbf' := hbf
  obtain ⟨⟨t, htn, h8⟩, g14, d, hd4, h7, hc⟩ := hbf'
  have ht6 : t < 6 := by omega
  have c8 := cl_of h8 (by omega)
  have est : stepN N = holdStep N t := by unfold stepN; rw [c4, c8]; rfl
  have esv : stepV N = nI 0 := by unfold stepV; rw [c4]; rfl
  have ek : slotKind N = nI 6 := by
    unfold slotKind
    rw [if_neg (by rw [h4]; decide), c4]; rfl
  have e13 : I b 13 - nI 1 = nI (h - 1) := by rw [r13, pk_sub (by omega)]
  have est2 : holdStep N t = nextByteN (sN (sN (sN N 11 (N 11 + nI 1)) (327 + 22 * t + 5) (N (327 + 22 * t + 5) + nI 1)) 9 (nI (h - 1))) := by
    have e : sN (sN (sN N 9 (N 9 - nI 1)) 11 (N 11 + nI 1)) (327 + 22 * t + 5) ((sN (sN N 9 (N 9 - nI 1)) 11 (N 11 + nI 1)) (327 + 22 * t + 5) + nI 1) = sN (sN (sN N 11 (N 11 + nI 1)) (327 + 22 * t + 5) (N (327 + 22 * t + 5) + nI 1)) 9 (nI (h - 1)) := by
      rw [sN_ne (show 327 + 22 * t + 5 ≠ 11 by omega), sN_ne (show 327 + 22 * t + 5 ≠ 9 by omega), n9, pk_sub (by omega)]
      funext y
      unfold sN
      by_cases y9 : y = 9
      · rw [if_neg (by omega), if_neg (by omega), if_pos y9, if_pos y9]
      · rw [if_neg y9]
        by_cases y5 : y = 327 + 22 * t + 5
        · rw [if_pos y5, if_neg y9]
        · rw [if_neg y5, if_neg y9]
    exact congrArg nextByteN e
  unfold SG
  rw [esv, ek, est, est2, Bus_passSlot_0 _ _ _ _ _ _ _ t0, r6, if_pos (by decide), Bus_passSlot_19 _ _ _ _ _ _ _ t0, r6, Bus_passSlot_27_k6, Bus_passSlot_144 _ _ _ _ _ _ _ t0, cl_holdSlot ht hq hn htn I L i3 (i8.trans h8), hsB_ho r6, e13]
  simp only [kC_ret, Option.toList, List.cons_append, List.nil_append, fix1_int, fix1_ref, fix1_unk, fix1_null, fix1_long]
  rw [Bus_passSlot_148]
  simp only [kC_ret, Option.toList, List.cons_append, List.nil_append, fix1_int, fix1_ref, fix1_unk, fix1_null, fix1_long]
  have eM : ∀ y, y ≠ 11 → y ≠ 327 + 22 * t + 5 → sN (sN N 11 (N 11 + nI 1)) (327 + 22 * t + 5) (N (327 + 22 * t + 5) + nI 1) y = N y := fun y g1 g2 => by rw [sN_ne g2, sN_ne g1]
  have me : sN (sN N 11 (N 11 + nI 1)) (327 + 22 * t + 5) (N (327 + 22 * t + 5) + nI 1) (327 + 22 * t + 5) = N (327 + 22 * t + 5) + nI 1 := sN_eq
  generalize sN (sN N 11 (N 11 + nI 1)) (327 + 22 * t + 5) (N (327 + 22 * t + 5) + nI 1) = M at *
  have m5 : M 5 = N 5 := eM 5 (by omega) (by omega)
  have ei : ∀ y, y ≠ b + 28 + 2 * t → (wr I (b + 28 + 2 * t) (sN (I (b + 28 + 2 * t)) 3 (I (b + 28 + 2 * t) 3 + nI 1))) y = I y := fun y g => wr_ne _ _ g
  have j0 : (wr I (b + 28 + 2 * t) (sN (I (b + 28 + 2 * t)) 3 (I (b + 28 + 2 * t) 3 + nI 1))) (b + 28 + 2 * t) = sN (I (b + 28 + 2 * t)) 3 (I (b + 28 + 2 * t) 3 + nI 1) := wr_same _ _ _
  have hfs : Fs b I (wr I (b + 28 + 2 * t) (sN (I (b + 28 + 2 * t)) 3 (I (b + 28 + 2 * t) 3 + nI 1))) L L P P := fun y hy => ⟨ei y (by omega), rfl, rfl⟩
  generalize wr I (b + 28 + 2 * t) (sN (I (b + 28 + 2 * t)) 3 (I (b + 28 + 2 * t) 3 + nI 1)) = I1 at *
  have eb : I1 b = I b := ei b (by omega)
  have hls : LiS M b n I1 := by
    intro l hln
    obtain ⟨m, hr⟩ := hl l hln
    by_cases e : l = t
    · subst e
      obtain ⟨q0, l0, l1, l2, l3, l5, lm, l6, lb⟩ := hr
      refine ⟨m, q0, ?_, ?_, ?_, ?_, ?_, ?_, ?_, ?_⟩
      · rw [j0, sN_ne (by omega), eM _ (by omega) (by omega)]; exact l0
      · rw [j0, sN_ne (by omega), eM _ (by omega) (by omega)]; exact l1
      · rw [j0, sN_ne (by omega), eM _ (by omega) (by omega)]; exact l2
      · rw [j0, sN_eq, me, l3]
      · rw [j0, sN_ne (by omega)]; exact l5
      · rw [eM _ (by omega) (by omega)]; exact lm
      · rw [j0, sN_ne (by omega), eM _ (by omega) (by omega)]; exact l6
      · intro i hi
        rw [ei _ (by omega), eM _ (by omega) (by omega)]; exact lb i hi
    · exact ⟨m, LR_N hr (fun y g1 g2 => eM y (by omega) (by omega)) (ei _ (by omega)) (ei _ (by omega))⟩
  have hol : OL M n := by
    intro l hl6
    by_cases e : l = t
    · subst e
      obtain ⟨q1, q2, m', p, q3, q4, q5, q6, q7⟩ := ho l hl6
      rw [eM (327 + 22 * l + 1) (by omega) (by omega), eM (327 + 22 * l + 4) (by omega) (by omega), eM (327 + 22 * l + 3) (by omega) (by omega), eM (327 + 22 * l + 2) (by omega) (by omega)]
      exact ⟨q1, q2, m', p, q3, q4, q5, q6, fun y => by omega⟩
    · rw [eM (327 + 22 * l + 1) (by omega) (by omega), eM (327 + 22 * l + 4) (by omega) (by omega), eM (327 + 22 * l + 3) (by omega) (by omega), eM (327 + 22 * l + 2) (by omega) (by omega), eM (327 + 22 * l + 5) (by omega) (by omega)]
      exact ho l hl6
  obtain ⟨md, hbc⟩ := BC_holds (N := M) (M := M) (t := t) (h := h - 1) (I := I1) (J := I1) (L := L) (P := P) (b := b) (R := I b) hk0 hk (by rw [eM 1 (by omega) (by omega)]; exact h1) i1 hn (by rw [eM 2 (by omega) (by omega)]; exact h2) i3 (by rw [eM 3 (by omega) (by omega)]; exact i4) (by rw [m5]; exact i7) (by rw [eM 8 (by omega) (by omega)]; exact i8) hq (CS_5 hs (fun y g1 g2 => eM y (by omega) (by omega)) (fun y g1 g2 => ei y (by omega))) hls (fun l g1 g2 => by rw [ei _ (by omega)]; exact hu l g1 g2) (IV_N hi m5 (fun y g1 g2 => eM y (by omega) (by omega))) hol (by rw [m5]; exact h5) (BF_N hbf m5 (eM 7 (by omega) (by omega)) (eM 8 (by omega) (by omega)) (eM 14 (by omega) (by omega)) (fun y g1 g2 => eM y (by omega) (by omega))) (by rw [eM 14 (by omega) (by omega)]; exact r9) (by rw [eM 7 (by omega) (by omega)]; exact r12) (by omega)
  exact ⟨_, P, md, rfl, hbc, Fs_trans hfs Fs_wr⟩
