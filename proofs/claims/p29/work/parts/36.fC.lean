/-! wins answers 1 -/
theorem svK_2 (st : Nat) (hst : st ≤ 4) (Ks : Nat → Nat → Int32) (A C : Nat → Int32) : ∃ s, svS (svS st) = s + 2 ∧ svK (svS st) (svK st Ks A) C (s + 1) = C ∧ svK (svS st) (svK st Ks A) C s = A := by
  rcases (show st = 0 ∨ st = 1 ∨ st = 2 ∨ st = 3 ∨ st = 4 by omega) with rfl | rfl | rfl | rfl | rfl
  · exact ⟨0, rfl, rfl, rfl⟩
  · exact ⟨1, rfl, rfl, rfl⟩
  · exact ⟨2, rfl, rfl, rfl⟩
  · exact ⟨2, rfl, rfl, rfl⟩
  · exact ⟨2, rfl, rfl, rfl⟩
section
variable {B : Nat} {w : Wd} {I : MI} {L : ML} {P : MP} {N : Nat → Int32} {st : Nat} {Ks : Nat → Nat → Int32} {len : Nat} {tx : Nat → Nat} {T : Nat}
theorem ln_ok {c k : Nat} (h : WI B w I L P N st Ks len tx T) (hT : T < 2145000000) (hk1 : N 1 = nI k) (hk3 : k ≤ 3) (hck : c < k) : ∃ J K Q st' Ks', call 142 [.ref B, .int (nI c)] w I L P = some (.inl (some (.int (nI 1))), w, J, K, Q) ∧ WI B w J K Q N st' Ks' len tx (T + 8000) ∧ Fr B (B + 284) I J L K P Q := by
  have hc3 : c < 3 := by omega
  have t0 := WI_t0 h
  obtain ⟨q, k', n, hk⟩ := CW_KN h.1 (by omega)
  have hk' := hk
  obtain ⟨hq, h0, hk0, hk3', h1, hn, h2, hi, hol, h4, hmb, h12, hg⟩ := hk'
  have ek : k' = k := by
    rw [h1, nI_eq (by omega) (by omega)] at hk1
    exact hk1
  subst ek
  obtain ⟨-, z0, z1, z2, ez⟩ := OC_sum hi.1
  have z4 : zc N c ≤ 4 := by rcases (show c = 0 ∨ c = 1 ∨ c = 2 by omega) with rfl | rfl | rfl <;> assumption
  have hkz : ∀ c, c < 3 → k' ≤ c → zc N c = 0 := fun c hc hkc => by
    obtain ⟨s, s4, e, e2, -⟩ := hi.1 c hc
    have : zc N c = s := cl_of e (by omega)
    rw [this]
    exact e2 hkc
  obtain ⟨r, hr, er, r0, -⟩ := wins_eq (M := N) (p := 0) hi.1 hk3 hkz
  have e1 := cv_winners h.1 hk1 hk3
  rw [er] at e1
  have e2 := lq_queued h.1 (by omega) hk
  have zq : qz N < 100 := by unfold qz; omega
  have val := fun (v : Nat) (hv : v < 10) => lr_value t0 (cv_value h.1 (by omega) hv)
  have n0 : ¬ nI 1 = 0 := by decide
  have s1 : call 142 [.ref B, .int (nI c)] w I L P = go 142 40 [.ref B, .int (nI c), .int (nI r), .int (nI 1), unk, unk] [.int (numV N 4)] w I L P := by
    by_cases z : r = 0
    · have zz := r0.mp z
      rw [zz] at e2
      rw [Law_wins_E, Law_wins_0 _ _ _ _ _ _ _ _ _ _ t0, e1]
      simp only [kC_ret, Option.toList, List.cons_append, List.nil_append, fix1_int, fix1_ref, fix1_unk, fix1_null, fix1_long]
      rw [Law_wins_4, if_neg (by rw [z]; decide)]
      simp only [fix1_int, fix1_ref, fix1_unk, fix1_null, fix1_long]
      rw [Law_wins_9, Law_wins_14_1, e2]
      simp only [kC_ret, Option.toList, List.cons_append, List.nil_append, fix1_int, fix1_ref, fix1_unk, fix1_null, fix1_long]
      rw [Law_wins_18, if_neg (by decide), Law_wins_21, Law_wins_26, if_neg (by simp), Law_wins_29, Law_wins_34_1, (val 4 (by omega))]
      simp only [kC_ret, Option.toList, List.cons_append, List.nil_append, fix1_int, fix1_ref, fix1_unk, fix1_null, fix1_long]
    · have zz : qz N ≠ 0 := fun y => z (r0.mpr y)
      rw [Law_wins_E, Law_wins_0 _ _ _ _ _ _ _ _ _ _ t0, e1]
      simp only [kC_ret, Option.toList, List.cons_append, List.nil_append, fix1_int, fix1_ref, fix1_unk, fix1_null, fix1_long]
      rw [Law_wins_4, if_pos (nI_ne0 (by omega) (by omega))]
      simp only [fix1_int, fix1_ref, fix1_unk, fix1_null, fix1_long]
      rw [Law_wins_13, Law_wins_14_1, e2]
      simp only [kC_ret, Option.toList, List.cons_append, List.nil_append, fix1_int, fix1_ref, fix1_unk, fix1_null, fix1_long]
      rw [Law_wins_18, if_pos (nI_ne0 (by omega) (by omega)), Law_wins_25, Law_wins_26, if_neg (by simp), Law_wins_29, Law_wins_34_1, (val 4 (by omega))]
      simp only [kC_ret, Option.toList, List.cons_append, List.nil_append, fix1_int, fix1_ref, fix1_unk, fix1_null, fix1_long]
  rw [s1]
  by_cases z4' : N 4 = 0
  · have u4 : numV N 4 = nI 1 := by
      show (if N 4 = 0 then nI 1 else nI 0) = _
      rw [if_pos z4']
    rw [u4]
    by_cases zr : r = 0
    · refine ⟨I, L, P, st, Ks, ?_, WI_T h (by omega), Fr_refl⟩
      rw [Law_wins_40, if_neg (by simp), Law_wins_44, if_pos (by rw [zr]; decide), Law_wins_174 _ _ _ _ _ _ _ _ _ _ b11]
    · have zz : qz N ≠ 0 := fun y => zr (r0.mpr y)
      have hN : ∀ c, c < 3 → 0 < zc N c → hdr N c = nI (hx N c) ∧ hx N c < 256 := fun c hc h => hx_ok (hi.1 c hc) h
      -- the calls
      have e3 := lr_alone t0 (cv_alone h.1 hk1 hk3 hck h2 hn (ez c hc3) z4)
      obtain ⟨a, ea⟩ : ∃ a, a = (if zc N c = 0 then -1 else aloV N c n) := ⟨_, rfl⟩
      rw [← ea] at e3
      have e4 := lr_caller t0 (cv_caller h.1 hk1 hk3 hck (show 0 < 9 by omega))
      have e40 : calV N c 0 = nI (zc N c) := by
        unfold calV
        rw [if_pos (by omega), Nat.add_zero]
        exact ez c hc3
      obtain ⟨J1, K1, Q1, e5, w1, f1⟩ := wi_pass h (by omega) (f := 1) (by omega) (by omega)
      have g1 := GN_slots hg 1 (by omega)
      have hr64 : q % 64 < 64 := Nat.mod_lt _ (by omega)
      have u50 : slotsN N 1 0 = nI (q + 1) := (GN_ok g1).2
      have hkp : 0 < kept (q + 1) := by unfold kept; split <;> omega
      have e6 := lr_log t0 (cv_log w1.1 (by omega) u50 (by omega) hkp (show 2 < 3 by omega))
      have kd1 : slotsN N 1 (15 + 3 * ((q + 1 - 1 - 0) % 64) + 2) = nI 1 := by
        obtain ⟨-, -, -, kk⟩ := HB_start hg (by omega) z4' zz
        rw [← kk, show 15 + 3 * ((q + 1 - 1 - 0) % 64) + 2 = 17 + 3 * (q % 64) from by rw [Nat.add_sub_cancel, Nat.sub_zero]; omega]
        exact (slotN_at (GN_ok hg).1 h0 (by omega)).2.2.2.2.2
      rw [kd1] at e6
      obtain ⟨J2, K2, Q2, e7, w2, f2⟩ := wi_pass w1 (by omega) (f := 8) (by omega) (by omega)
      have e9 : slotsN (slotsN N 1) 8 = slotsN N 9 := (slots_add N 1 8).symm
      rw [e9] at e7 w2
      have g9 := GN_slots hg 9 (by omega)
      have u90 : slotsN N 9 0 = nI (q + 9) := (GN_ok g9).2
      have val2 := fun (v : Nat) (hv : v < 10) => lr_value t0 (cv_value w2.1 (by omega) hv)
      have hkp9 : 0 < kept (q + 9) := by unfold kept; split <;> omega
      have e10 := lr_log t0 (cv_log w2.1 (by omega) u90 (by omega) hkp9 (show 2 < 3 by omega))
      have kd9 : slotsN N 9 (15 + 3 * ((q + 9 - 1 - 0) % 64) + 2) = nI 2 := by
        obtain ⟨-, m4, -⟩ := HB_all hg (by omega) z4' zz hN 7 (by omega)
        rw [if_neg (by omega)] at m4
        have g8 := GN_slots hg 8 (by omega)
        have kk := kind_md m4 (by omega) (by omega)
        have kk2 : slotKind (slotsN N 8) = nI 2 := kk
        rw [← kk2, show 15 + 3 * ((q + 9 - 1 - 0) % 64) + 2 = 17 + 3 * ((q + 8) % 64) from by rw [show q + 9 - 1 - 0 = q + 8 from by omega]; omega]
        exact (slotN_at (GN_ok g8).1 (GN_ok g8).2 (by omega)).2.2.2.2.2
      rw [kd9] at e10
      have u95 : numV (slotsN N 9) 5 = nI r := by
        obtain ⟨⟨p, hp⟩, -, -⟩ := HB_all hg (by omega) z4' zz hN 8 (by omega)
        obtain ⟨r', hr', er', -, r5⟩ := wins_eq (M := slotsN N 9) (p := p) hi.1 hk3 hkz
        have : r' = r := by
          rw [er, nI_eq (by omega) (by omega)] at er'
          exact er'.symm
        rw [← this]
        exact r5 hp
      obtain ⟨s, es, ks1, ks2⟩ := svK_2 st (WI_st h) Ks N (slotsN N 1)
      obtain ⟨J3, K3, Q3, e11, w3, f3⟩ := wi_undo w2 es ks1
      obtain ⟨J4, K4, Q4, e12, w4, f4⟩ := wi_undo w3 rfl ks2
      have s4 := WI_st w2
      have s2 : go 142 40 [.ref B, .int (nI c), .int (nI r), .int (nI 1), unk, unk] [.int (nI 1)] w I L P = go 142 78 [.ref B, .int (nI c), .int (nI r), .int (nI 1), .int a, unk] [.int (if qz N = 1 ∧ zc N c = 1 then nI 1 else nI 0)] w I L P := by
        by_cases y1 : qz N = 1
        · by_cases y2 : zc N c = 1
          · rw [if_pos ⟨y1, y2⟩]
            rw [Law_wins_40, if_neg (by simp), Law_wins_44, if_neg (by rw [← nI_0]; exact nI_ge (by omega) (by omega)), Law_wins_48_1, e3]
            simp only [kC_ret, Option.toList, List.cons_append, List.nil_append, fix1_int, fix1_ref, fix1_unk, fix1_null, fix1_long]
            rw [Law_wins_53_1, e2]
            simp only [kC_ret, Option.toList, List.cons_append, List.nil_append, fix1_int, fix1_ref, fix1_unk, fix1_null, fix1_long]
            rw [Law_wins_59, if_neg (by rw [y1]; simp), Law_wins_63_1, e4, e40]
            simp only [kC_ret, Option.toList, List.cons_append, List.nil_append, fix1_int, fix1_ref, fix1_unk, fix1_null, fix1_long]
            rw [Law_wins_69, if_neg (by rw [y2]; simp), Law_wins_73]
          · rw [if_neg (fun y => y2 y.2)]
            rw [Law_wins_40, if_neg (by simp), Law_wins_44, if_neg (by rw [← nI_0]; exact nI_ge (by omega) (by omega)), Law_wins_48_1, e3]
            simp only [kC_ret, Option.toList, List.cons_append, List.nil_append, fix1_int, fix1_ref, fix1_unk, fix1_null, fix1_long]
            rw [Law_wins_53_1, e2]
            simp only [kC_ret, Option.toList, List.cons_append, List.nil_append, fix1_int, fix1_ref, fix1_unk, fix1_null, fix1_long]
            rw [Law_wins_59, if_neg (by rw [y1]; simp), Law_wins_63_1, e4, e40]
            simp only [kC_ret, Option.toList, List.cons_append, List.nil_append, fix1_int, fix1_ref, fix1_unk, fix1_null, fix1_long]
            rw [Law_wins_69, if_pos (by rw [Ne, nI_eq (by omega) (by omega)]; exact y2), Law_wins_77]
        · rw [if_neg (fun y => y1 y.1)]
          rw [Law_wins_40, if_neg (by simp), Law_wins_44, if_neg (by rw [← nI_0]; exact nI_ge (by omega) (by omega)), Law_wins_48_1, e3]
          simp only [kC_ret, Option.toList, List.cons_append, List.nil_append, fix1_int, fix1_ref, fix1_unk, fix1_null, fix1_long]
          rw [Law_wins_53_1, e2]
          simp only [kC_ret, Option.toList, List.cons_append, List.nil_append, fix1_int, fix1_ref, fix1_unk, fix1_null, fix1_long]
          rw [Law_wins_59, if_pos (by rw [Ne, nI_eq (by omega) (by omega)]; exact y1), Law_wins_77]
      rw [s2]
      have s3 : ∀ b, go 142 78 [.ref B, .int (nI c), .int (nI r), .int (nI 1), .int a, unk] [.int b] w I L P = go 142 154 [.ref B, .int (nI c), .int (nI r), .int (nI 1), .int a, .int b] [] w J4 K4 Q4 := by
        intro b
        rw [Law_wins_78, if_neg n0]
        simp only [fix1_int, fix1_ref, fix1_unk, fix1_null, fix1_long]
        rw [Law_wins_84_1, e5]
        simp only [kC_ret, Option.toList, List.cons_append, List.nil_append, fix1_int, fix1_ref, fix1_unk, fix1_null, fix1_long]
        rw [Law_wins_89, if_neg (by rw [u50, ← nI_0]; exact nI_ge (by omega) (by omega)), Law_wins_92_1, e6]
        simp only [kC_ret, Option.toList, List.cons_append, List.nil_append, fix1_int, fix1_ref, fix1_unk, fix1_null, fix1_long]
        rw [Law_wins_98, if_neg (by simp), Law_wins_102_1, e7]
        simp only [kC_ret, Option.toList, List.cons_append, List.nil_append, fix1_int, fix1_ref, fix1_unk, fix1_null, fix1_long]
        rw [Law_wins_108, if_neg (by rw [u90, ← nI_0]; exact nI_ge (by omega) (by omega)), Law_wins_111_1, (val2 5 (by omega)), u95]
        simp only [kC_ret, Option.toList, List.cons_append, List.nil_append, fix1_int, fix1_ref, fix1_unk, fix1_null, fix1_long]
        rw [Law_wins_116, if_neg (by simp), Law_wins_120_1, e10]
        simp only [kC_ret, Option.toList, List.cons_append, List.nil_append, fix1_int, fix1_ref, fix1_unk, fix1_null, fix1_long]
        rw [Law_wins_126, if_neg (by simp), Law_wins_130_1, e11]
        simp only [kC_ret, Option.toList, List.cons_append, List.nil_append, fix1_int, fix1_ref, fix1_unk, fix1_null, fix1_long]
        rw [Law_wins_134, if_neg (nI_pos (by omega)), Law_wins_137_1, e12]
        simp only [kC_ret, Option.toList, List.cons_append, List.nil_append, fix1_int, fix1_ref, fix1_unk, fix1_null, fix1_long]
        rw [Law_wins_141, if_neg (nI_pos (by omega)), Law_wins_144, Law_wins_149, if_neg n0]
        simp only [fix1_int, fix1_ref, fix1_unk, fix1_null, fix1_long]
      rw [s3]
      by_cases y : qz N = 1 ∧ zc N c = 1
      · rw [if_pos y]
        obtain ⟨s', hs', e1', -, e3'⟩ := hi.1 c hc3
        have hom := e3' 0 (by
          have : zc N c = s' := cl_of e1' (by omega)
          omega)
        rw [Nat.mul_zero, Nat.add_zero] at hom
        obtain ⟨an, han, ean⟩ : ∃ an, an < 2147483648 ∧ aloV N c n = nI an := by
          rcases aloV_eq hn hol hom with ⟨-, y2⟩ | ⟨t, m, h', cnt, -, -, -, -, -, y6, -, -, y9, y10⟩
          · exact ⟨11, by omega, y2⟩
          · refine ⟨_, ?_, y10⟩
            have b : (if N (216 + 40 * c) = nI 0 then (if 17 - m < cnt then 17 - m else cnt) else cnt) ≤ 4 := by
              split
              · split <;> omega
              · exact y9
            have := Nat.mul_le_mul b (show h' + 9 ≤ 18 by omega)
            omega
        have ea2 : a = nI an := by rw [ea, if_neg (by omega), ean]
        have hfn := alone_FN hg (by omega) z4' hi.1 hol hn h2 hc3 y.1 y.2 ean han
        obtain ⟨J5, K5, Q5, e13, w5, f5⟩ := wi_stf w4 (by omega) hfn
        refine ⟨J5, K5, Q5, _, _, ?_, WI_T w5 (by omega), Fr_trans (Fr_trans (Fr_trans (Fr_trans f1 f2) f3) f4) f5⟩
        rw [Law_wins_154, if_neg n0, Law_wins_159 _ _ _ _ _ _ _ _ _ _ t0, e13]
        simp only [kC_ret, Option.toList, List.cons_append, List.nil_append, fix1_int, fix1_ref, fix1_unk, fix1_null, fix1_long]
        rw [Law_wins_163, if_neg (by rw [ea2]; simp), Law_wins_168, Law_wins_173]
        simp only [fix1_int, fix1_ref, fix1_unk, fix1_null, fix1_long]
        rw [Law_wins_174 _ _ _ _ _ _ _ _ _ _ b11]
      · rw [if_neg y]
        refine ⟨J4, K4, Q4, _, _, ?_, WI_T w4 (by omega), Fr_trans (Fr_trans (Fr_trans f1 f2) f3) f4⟩
        rw [Law_wins_154, if_pos (by decide), Law_wins_168, Law_wins_173]
        simp only [fix1_int, fix1_ref, fix1_unk, fix1_null, fix1_long]
        rw [Law_wins_174 _ _ _ _ _ _ _ _ _ _ b11]
  · have u4 : numV N 4 = nI 0 := by
      show (if N 4 = 0 then nI 1 else nI 0) = _
      rw [if_neg z4']
    rw [u4]
    refine ⟨I, L, P, st, Ks, ?_, WI_T h (by omega), Fr_refl⟩
    rw [Law_wins_40, if_pos (by decide), Law_wins_174 _ _ _ _ _ _ _ _ _ _ b11]
end
