/-! slots: a bit of a byte of a read -/
theorem rcK_3 {N : Nat → Int32} {k : Nat} (hk0 : 0 < k) (hk : k ≤ 3) (hco : ∀ c, c < 3 → conB N (nI c) → c < k) : rcK N k = rc1 (rc1 (rc1 N 0) 1) 2 := by
  have con : ∀ (M : Nat → Int32) c x, conB (rc1 M c) x ↔ conB M x := fun M c x => by unfold conB; rw [rc1_out (by omega)]
  unfold rcK
  rcases (show k = 1 ∨ k = 2 ∨ k = 3 by omega) with rfl | rfl | rfl
  · simp only [if_true]
    have n1 : ¬ conB (rc1 N 0) (nI 1) := fun q => absurd (hco 1 (by omega) ((con _ _ _).mp q)) (by omega)
    rw [rc1_no n1]
    exact (rc1_no (fun q => absurd (hco 2 (by omega) ((con _ _ _).mp q)) (by omega))).symm
  · simp only [if_true, show ¬ (2 = 1) by decide, if_false]
    exact (rc1_no (fun q => absurd (hco 2 (by omega) ((con _ _ _).mp ((con _ _ _).mp q))) (by omega))).symm
  · rfl
theorem rc1_ne {M : Nat → Int32} {c x : Nat} (h : x ≠ 213 + 40 * c ∧ x ≠ 214 + 40 * c) : rc1 M c x = M x := by
  unfold rc1; split
  · rw [sN_ne h.2, sN_ne h.1]
  · rfl
theorem st_5 {w : Wd} {N : Nat → Int32} {P : MP} {b k n : Nat} {I : MI} {L : ML} (ht : BT w b) (h : BC b N I L P k n 5) : SG w b N I L P k n := by
  have t0 := ht.1
  obtain ⟨⟨hk0, hk, h1, i1⟩, ⟨hn, h2, i3⟩, i4, h4, i7, i8, hq, hs, hl, hu, hi, ho, r6, h5, hbf, h14, r9, r12, r11, j, hj, h6, r10⟩ := h
  have c4 := cl_of h4 (by omega)
  have hbf' := hbf
  obtain ⟨⟨t, htn, h8⟩, g14, d, hd4, h7, hc⟩ := hbf'
  have ht6 : t < 6 := by omega
  have tl := ht.2.2.2.2.2.2 t ht6
  obtain ⟨m, hr⟩ := hl t htn
  have hr' := hr
  obtain ⟨hm16, l0, l1, l2, l3, l5, lm, l6, lb⟩ := hr'
  obtain ⟨q1, q2, m', p, q3, q4, q5, q6, q7⟩ := ho t ht6
  rw [lm, nI_eq (by omega) (by omega)] at q4
  subst q4
  have c8 := cl_of h8 (by omega)
  have cm : cl N (327 + 22 * t + 2) = m := cl_of lm (by omega)
  have est : stepN N = rbN N t m := by unfold stepN; rw [c4, c8, cm]; rfl
  have esv : stepV N = rbV N t m := by unfold stepV; rw [c4, c8, cm]; rfl
  have ek : slotKind N = nI 4 := by
    unfold slotKind
    rw [if_neg (by rw [h4]; decide), c4]; rfl
  unfold SG
  rw [esv, ek, est, Bus_passSlot_0 _ _ _ _ _ _ _ t0, r6, if_pos (by decide), Bus_passSlot_19 _ _ _ _ _ _ _ t0, r6, Bus_passSlot_27_k4, Bus_passSlot_96 _ _ _ _ _ _ _ t0, r9, if_neg (by decide), Bus_passSlot_104 _ _ _ _ _ _ _ _ t0, cl_readBit ht hq hn htn (show p < 16 by omega) I L i3 (i8.trans h8) (r10.trans h6.symm) hr q5 (by omega)]
  simp only [kC_ret, Option.toList, List.cons_append, List.nil_append, fix1_int, fix1_ref, fix1_unk, fix1_null, fix1_long]
  rw [Bus_passSlot_108, Bus_passSlot_115 _ _ _ _ _ _ _ _ _ t0, cl_takeBit0 ht, r10]
  unfold rbN
  rw [h6]
  have e13 : rb2 N t m 13 = nI 2 * N 13 + rbV N t m := by unfold rb2; rw [sN_ne (by omega), sN_eq]
  have e6 : rb2 N t m 6 = nI (j + 1) := by unfold rb2; rw [sN_eq, h6, nI_add]
  have eM : ∀ y, y ≠ 6 → y ≠ 13 → rb2 N t m y = N y := fun y g1 g2 => by unfold rb2; rw [sN_ne g1, sN_ne g2]
  have tk11 : tkB (I b) (rbV N t m) 11 = nI 2 * N 13 + rbV N t m := by unfold tkB; rw [sN_ne (by omega), sN_eq, r11]
  have tk10 : tkB (I b) (rbV N t m) 10 = nI (j + 1) := by unfold tkB; rw [sN_eq, r10, nI_add]
  have tk : ∀ y, y ≠ 10 → y ≠ 11 → tkB (I b) (rbV N t m) y = I b y := fun y g1 g2 => by unfold tkB; rw [sN_ne g1, sN_ne g2]
  rw [nI_add]
  by_cases h77 : j = 7
  · subst h77
    rw [if_neg (by simp), if_neg (by simp), Bus_takeBit_31 _ _ _ _ _ _ t0, cl_endBitsR ht _ _ (by rw [wr_same, tk 6 (by omega) (by omega)]; exact r6) (by rw [wr_same, tk 9 (by omega) (by omega)]; exact r9), wr_same, wr_wr, tk 12 (by omega) (by omega), r12, h7, nI_add, Bus_receiveLevels_E, Bus_receiveLevels_0 _ _ _ _ _ _ _ _ t0]
    generalize hR : sN (sN (tkB (I b) (rbV N t m)) 6 (nI 5)) 12 (nI (d + 1)) = R
    have R6 : R 6 = nI 5 := by rw [← hR, sN_ne (by omega), sN_eq]
    have R12 : R 12 = nI (d + 1) := by rw [← hR, sN_eq]
    have R11 : R 11 = nI 2 * N 13 + rbV N t m := by rw [← hR, sN_ne (by omega), sN_ne (by omega), tk11]
    have Rx : ∀ y, y ≠ 6 → y ≠ 10 → y ≠ 11 → y ≠ 12 → R y = I b y := fun y g1 g2 g3 g4 => by rw [← hR, sN_ne g4, sN_ne g1, tk y g2 g3]
    rw [wr_same, Rx 8 (by omega) (by omega) (by omega) (by omega), i8, h8, cl_listenerAt ht hq hn htn _ L (by rw [wr_same, Rx 3 (by omega) (by omega) (by omega) (by omega)]; exact i3)]
    simp only [kC_ret, Option.toList, List.cons_append, List.nil_append, fix1_int, fix1_ref, fix1_unk, fix1_null, fix1_long]
    rw [Bus_receiveLevels_8_1, fix1_ref, Bus_receiveLevels_13 _ _ _ _ _ _ _ _ tl.1, cl_move tl.1]
    simp only [kC_ret, Option.toList, List.cons_append, List.nil_append, fix1_int, fix1_ref, fix1_unk, fix1_null, fix1_long]
    rw [Bus_receiveLevels_17, fix1_ref]
    have ep : ∀ X : Int32 → Int32 → Int32, X (wr I b R (b + 28 + 2 * t) 6) (wr I b R (b + 28 + 2 * t) 5) = X (nI p) (nI m) := by
      intro X
      rw [wr_ne _ _ (show b + 28 + 2 * t ≠ b by omega), l6, q5, l5]
    have ep' := ep (fun a c => if a + nI 1 < c then a + nI 1 else nI 0)
    rw [ep', wr_ne _ _ (show b + 28 + 2 * t ≠ b by omega), nI_add]
    have e3p : (if nI (p + 1) < nI m then nI (p + 1) else nI 0) = nI (if p + 1 < m then p + 1 else 0) := by
      by_cases z : p + 1 < m
      · rw [if_pos z, if_pos (nI_lt z (by omega))]
      · rw [if_neg z, if_neg (nI_nlt (by omega) (by omega))]
    rw [e3p]
    have m3p : rb3 N t m (327 + 22 * t + 3) = nI (if p + 1 < m then p + 1 else 0) := by
      unfold rb3
      rw [sN_eq, q5, nI_add]
      by_cases z : p + 1 < m
      · rw [if_pos z, if_neg (nI_ge z (by omega))]
      · rw [if_neg z, if_pos (nI_le (by omega) (by omega))]
    have m13 : rb3 N t m 13 = nI 2 * N 13 + rbV N t m := by unfold rb3; rw [sN_ne (by omega), e13]
    have mx : ∀ y, y ≠ 6 → y ≠ 13 → y ≠ 327 + 22 * t + 3 → rb3 N t m y = N y := fun y g1 g2 g3 => by unfold rb3; rw [sN_ne g3, eM y g1 g2]
    generalize rb3 N t m = M at *
    have ei : ∀ y, y ≠ b → y ≠ b + 28 + 2 * t → (wr (wr I b R) (b + 28 + 2 * t) (sN (I (b + 28 + 2 * t)) 6 (nI (if p + 1 < m then p + 1 else 0)))) y = I y := fun y g1 g2 => by rw [wr_ne _ _ g2, wr_ne _ _ g1]
    have eb : (wr (wr I b R) (b + 28 + 2 * t) (sN (I (b + 28 + 2 * t)) 6 (nI (if p + 1 < m then p + 1 else 0)))) b = R := by rw [wr_ne _ _ (by omega), wr_same]
    have el : (wr (wr I b R) (b + 28 + 2 * t) (sN (I (b + 28 + 2 * t)) 6 (nI (if p + 1 < m then p + 1 else 0)))) (b + 28 + 2 * t) = sN (I (b + 28 + 2 * t)) 6 (nI (if p + 1 < m then p + 1 else 0)) := wr_same _ _ _
    have hfs : Fs b I (wr (wr I b R) (b + 28 + 2 * t) (sN (I (b + 28 + 2 * t)) 6 (nI (if p + 1 < m then p + 1 else 0)))) L L P P := fun y hy => ⟨ei y (by omega) (by omega), rfl, rfl⟩
    generalize wr (wr I b R) (b + 28 + 2 * t) (sN (I (b + 28 + 2 * t)) 6 (nI (if p + 1 < m then p + 1 else 0))) = I1 at *
    have m5 : M 5 = N 5 := mx 5 (by omega) (by omega) (by omega)
    have hiv : IV M k := IV_N hi m5 (fun y g1 g2 => mx y (by omega) (by omega) (by omega))
    have hcs : CS M b I1 L P := CS_5 hs (fun y g1 g2 => mx y (by omega) (by omega) (by omega)) (fun y g1 g2 => ei y (by omega) (by omega))
    obtain ⟨J, a1, a2, a3⟩ := cl_recv ht hq hk0 hk I1 L (by rw [eb, Rx 1 (by omega) (by omega) (by omega) (by omega)]; exact i1) (by rw [eb, Rx 7 (by omega) (by omega) (by omega) (by omega), m5]; exact i7) (by rw [eb, R11, m13]) hcs (b + 28 + 2 * t) unk
    rw [a1]
    simp only [kC_ret, Option.toList, List.cons_append, List.nil_append, fix1_int, fix1_ref, fix1_unk, fix1_null, fix1_long]
    rw [Bus_endBits_40]
    simp only [kC_ret, Option.toList, List.cons_append, List.nil_append, fix1_int, fix1_ref, fix1_unk, fix1_null, fix1_long]
    rw [Bus_takeBit_35]
    simp only [kC_ret, Option.toList, List.cons_append, List.nil_append, fix1_int, fix1_ref, fix1_unk, fix1_null, fix1_long]
    rw [Bus_passSlot_118]
    simp only [kC_ret, Option.toList, List.cons_append, List.nil_append, fix1_int, fix1_ref, fix1_unk, fix1_null, fix1_long]
    rw [rcK_3 hk0 hk (fun c hc3 q => (hiv.2.1 c hc3 q).1)] at a2
    have ejb : J b = R := ((a3 b (by omega)).1).trans eb
    have ej : ∀ y, (y < b + 7 ∨ b + 28 ≤ y) → J y = I1 y := fun y g => (a3 y g).1
    have nx : ∀ y, (∀ c, c < 3 → y ≠ 213 + 40 * c ∧ y ≠ 214 + 40 * c) → rc1 (rc1 (rc1 M 0) 1) 2 y = M y := fun y g => by rw [rc1_ne (g 2 (by omega)), rc1_ne (g 1 (by omega)), rc1_ne (g 0 (by omega))]
    generalize rc1 (rc1 (rc1 M 0) 1) 2 = M2 at *
    have n5 : M2 5 = N 5 := (nx 5 (fun c hc3 => by omega)).trans m5
    have nn : ∀ y, y < 207 ∨ 327 ≤ y → y ≠ 4 → y ≠ 6 → y ≠ 13 → y ≠ 327 + 22 * t + 3 → sN M2 4 (nI 6) y = N y := fun y g g1 g2 g3 g4 => by rw [sN_ne g1, nx y (fun c hc3 => by omega), mx y g2 g3 g4]
    have hls : LiS (sN M2 4 (nI 6)) b n J := by
      intro l hln
      obtain ⟨mm, hrr⟩ := hl l hln
      by_cases e : l = t
      · subst e
        refine ⟨m, hm16, ?_, ?_, ?_, ?_, ?_, ?_, ?_, ?_⟩
        · rw [ej _ (by omega), el, sN_ne (by omega), nn _ (by omega) (by omega) (by omega) (by omega) (by omega)]; exact l0
        · rw [ej _ (by omega), el, sN_ne (by omega), nn _ (by omega) (by omega) (by omega) (by omega) (by omega)]; exact l1
        · rw [ej _ (by omega), el, sN_ne (by omega), nn _ (by omega) (by omega) (by omega) (by omega) (by omega)]; exact l2
        · rw [ej _ (by omega), el, sN_ne (by omega), nn _ (by omega) (by omega) (by omega) (by omega) (by omega)]; exact l3
        · rw [ej _ (by omega), el, sN_ne (by omega)]; exact l5
        · rw [nn _ (by omega) (by omega) (by omega) (by omega) (by omega)]; exact lm
        · rw [ej _ (by omega), el, sN_eq, sN_ne (by omega), nx _ (fun c hc3 => by omega), m3p]
        · intro i hi
          rw [ej _ (by omega), ei _ (by omega) (by omega), nn _ (by omega) (by omega) (by omega) (by omega) (by omega)]; exact lb i hi
      · exact ⟨mm, LR_N hrr (fun y g1 g2 => nn y (by omega) (by omega) (by omega) (by omega) (by omega)) (by rw [ej _ (by omega), ei _ (by omega) (by omega)]) (by rw [ej _ (by omega), ei _ (by omega) (by omega)])⟩
    have hol : OL (sN M2 4 (nI 6)) n := by
      intro l hl6
      rw [nn (327 + 22 * l + 1) (by omega) (by omega) (by omega) (by omega) (by omega), nn (327 + 22 * l + 4) (by omega) (by omega) (by omega) (by omega) (by omega), nn (327 + 22 * l + 2) (by omega) (by omega) (by omega) (by omega) (by omega), nn (327 + 22 * l + 5) (by omega) (by omega) (by omega) (by omega) (by omega)]
      by_cases e : l = t
      · subst e
        rw [sN_ne (show 327 + 22 * l + 3 ≠ 4 by omega), nx (327 + 22 * l + 3) (fun c hc3 => by omega), m3p]
        refine ⟨q1, q2, m, _, hm16, lm, rfl, ?_, fun y => by omega⟩
        by_cases z : p + 1 < m
        · rw [if_pos z]; exact Or.inl z
        · rw [if_neg z]; exact Or.inr rfl
      · rw [nn (327 + 22 * l + 3) (by omega) (by omega) (by omega) (by omega) (by omega)]
        exact ho l hl6
    have hiv2 : IV (sN M2 4 (nI 6)) k := by
      refine ⟨?_, ?_, ?_⟩
      · intro c hc3
        exact OC_2 (hiv.1 c hc3) (by rw [sN_ne (by omega), nx _ (fun c' hc' => by omega)]) (fun y g1 g2 _ => by rw [sN_ne (by omega), nx _ (fun c' hc' => by omega)])
      · intro c hc3 hcon
        obtain ⟨z1, s, z2, z3⟩ := hi.2.1 c hc3 ((con_N (by rw [sN_ne (by omega)]; exact n5)).mp hcon)
        exact ⟨z1, s, z2, by rw [sN_ne (by omega), nx _ (fun c' hc' => by omega), mx _ (by omega) (by omega) (by omega)]; exact z3⟩
      · obtain ⟨s, z1, z2⟩ := hi.2.2
        exact ⟨s, z1, by rw [sN_ne (by omega), n5]; exact z2⟩
    have hbf2 : BF (sN M2 4 (nI 6)) n := by
      refine ⟨⟨t, htn, by rw [nn 8 (by omega) (by omega) (by omega) (by omega) (by omega)]; exact h8⟩, by rw [nn 14 (by omega) (by omega) (by omega) (by omega) (by omega)]; exact g14, d, hd4, by rw [nn 7 (by omega) (by omega) (by omega) (by omega) (by omega)]; exact h7, ?_⟩
      intro c hc3 hcon
      have hcon' : conB N (nI c) := (con_N (by rw [sN_ne (by omega)]; exact n5)).mp hcon
      rw [sN_ne (show 216 + 40 * c ≠ 4 by omega), sN_ne (show 217 + 40 * c ≠ 4 by omega), nx (216 + 40 * c) (fun c' hc' => by omega), nx (217 + 40 * c) (fun c' hc' => by omega), mx (216 + 40 * c) (by omega) (by omega) (by omega), mx (217 + 40 * c) (by omega) (by omega) (by omega), nn 14 (by omega) (by omega) (by omega) (by omega) (by omega)]
      exact hc c hc3 hcon'
    refine ⟨J, P, 6, rfl, ?_, Fs_trans hfs (Fs_Fr a3)⟩
    refine ⟨⟨hk0, hk, by rw [nn 1 (by omega) (by omega) (by omega) (by omega) (by omega)]; exact h1, ?_⟩, ⟨hn, by rw [nn 2 (by omega) (by omega) (by omega) (by omega) (by omega)]; exact h2, ?_⟩, ?_, by rw [sN_eq], ?_, ?_, hq, CS_N a2 (fun y g1 g2 => sN_ne (by omega)), hls, (fun l g1 g2 => by rw [ej _ (by omega), ei _ (by omega) (by omega)]; exact hu l g1 g2), hiv2, hol, ?_, ?_, hbf2, ?_, ?_, ?_⟩
    · rw [ejb, Rx 1 (by omega) (by omega) (by omega) (by omega)]; exact i1
    · rw [ejb, Rx 3 (by omega) (by omega) (by omega) (by omega)]; exact i3
    · rw [ejb, Rx 4 (by omega) (by omega) (by omega) (by omega), nn 3 (by omega) (by omega) (by omega) (by omega) (by omega)]; exact i4
    · rw [ejb, Rx 7 (by omega) (by omega) (by omega) (by omega), sN_ne (by omega), n5]; exact i7
    · rw [ejb, Rx 8 (by omega) (by omega) (by omega) (by omega), nn 8 (by omega) (by omega) (by omega) (by omega) (by omega)]; exact i8
    · rw [ejb, R6]
    · rw [sN_ne (by omega), n5]; exact h5
    · rw [nn 14 (by omega) (by omega) (by omega) (by omega) (by omega)]; exact h14
    · rw [ejb, Rx 9 (by omega) (by omega) (by omega) (by omega)]; exact r9
    · rw [ejb, R12, nn 7 (by omega) (by omega) (by omega) (by omega) (by omega), h7, nI_add]
  · have hne : nI (j + 1) ≠ nI 8 := fun q => by rw [nI_eq (by omega) (by omega)] at q; omega
    rw [if_pos hne, if_pos hne]
    simp only [kC_ret, Option.toList, List.cons_append, List.nil_append, fix1_int, fix1_ref, fix1_unk, fix1_null, fix1_long]
    rw [Bus_passSlot_118]
    simp only [kC_ret, Option.toList, List.cons_append, List.nil_append, fix1_int, fix1_ref, fix1_unk, fix1_null, fix1_long]
    generalize rb2 N t m = M at *
    have m5 : M 5 = N 5 := eM 5 (by omega) (by omega)
    refine ⟨_, P, 5, rfl, ?_, Fs_wr⟩
    refine ⟨⟨hk0, hk, by rw [eM 1 (by omega) (by omega)]; exact h1, ?_⟩, ⟨hn, by rw [eM 2 (by omega) (by omega)]; exact h2, ?_⟩, ?_, by rw [eM 4 (by omega) (by omega)]; exact h4, ?_, ?_, hq, CS_5 hs (fun y g1 g2 => eM y (by omega) (by omega)) (fun y g1 g2 => wr_ne _ _ (by omega)), LiS_N hn hl (fun y g1 g2 => eM y (by omega) (by omega)) (fun y g1 g2 => wr_ne _ _ (by omega)), LU_I hu (fun y g1 g2 => wr_ne _ _ (by omega)), IV_N hi m5 (fun y g1 g2 => eM y (by omega) (by omega)), OL_N ho (fun y g1 g2 => eM y (by omega) (by omega)), ?_, by rw [m5]; exact h5, BF_N hbf m5 (eM 7 (by omega) (by omega)) (eM 8 (by omega) (by omega)) (eM 14 (by omega) (by omega)) (fun y g1 g2 => eM y (by omega) (by omega)), by rw [eM 14 (by omega) (by omega)]; exact h14, ?_, ?_, ?_, j + 1, by omega, e6, ?_⟩
    · rw [wr_same, tk 1 (by omega) (by omega)]; exact i1
    · rw [wr_same, tk 3 (by omega) (by omega)]; exact i3
    · rw [wr_same, tk 4 (by omega) (by omega), eM 3 (by omega) (by omega)]; exact i4
    · rw [wr_same, tk 7 (by omega) (by omega), m5]; exact i7
    · rw [wr_same, tk 8 (by omega) (by omega), eM 8 (by omega) (by omega)]; exact i8
    · rw [wr_same, tk 6 (by omega) (by omega)]; exact r6
    · rw [wr_same, tk 9 (by omega) (by omega)]; exact r9
    · rw [wr_same, tk 12 (by omega) (by omega), eM 7 (by omega) (by omega)]; exact r12
    · rw [wr_same, tk11, e13]
    · rw [wr_same, tk10]
