/-! refuses answers 1 -/
theorem lg_self (x : Int64) : lg_cmp x x = 0 := by unfold lg_cmp; simp
def thrs : Nat → Wd → Wd
  | 0, w => w
  | n + 1, w => thrT (thrs n w)
theorem TH_thrs (w : Wd) : ∀ n, TH n w (thrs n w) := by
  intro n
  induction n with
  | zero => exact TH_refl
  | succ n ih => exact TH_trans ih TH_thr
section
variable {B : Nat} {w : Wd} {I : MI} {L : ML} {P : MP} {N : Nat → Int32} {st : Nat} {Ks : Nat → Nat → Int32} {len : Nat} {tx : Nat → Nat} {T : Nat}
theorem rf_1 (h : CW B w I L P N st Ks len tx T) (hT : T < 2147000000) {q k n : Nat} (hk : KN N T q k n) (x1 : Int64) (x2 x4 x5 : Value) : ∃ w1, go 144 16 [.ref B, .long x1, x2, .int (nI k), x4, x5] [.int (nI n)] w I L P = go 144 420 [.ref B, .long x1, x2, .int (nI k), .int (nI n), .int (nI 1)] [] w1 I L P ∧ TH 40 w w1 := by
  obtain ⟨hq, h0, hk0, hk3, h1, hn, h2, hi, hol, h4, hmb, h12, hg⟩ := hk
  have cw : ∀ w' : Wd, w'.1 = w.1 → CW B w' I L P N st Ks len tx T := fun w' e => CW_w h e
  obtain ⟨s, hs4, e0, -⟩ := hi.1 0 (by omega)
  have n0 : ¬ nI 1 = 0 := by decide
  have kl : nI k ≤ nI k := nI_le (Nat.le_refl _) (by omega)
  have nl : nI n ≤ nI n := nI_le (Nat.le_refl _) (by omega)
  obtain ⟨kq1, kq2⟩ := kept_le q
  have r1 : ∀ w' : Wd, w'.1 = w.1 → _ := fun w' e => lt_begin0 (cw w' e).1.1 (ce_begin (B := B) (w := w') (I := I) (L := L) (P := P) (x := nI 0) (by decide))
  have r2 : ∀ w' : Wd, w'.1 = w.1 → _ := fun w' e => lt_begin0 (cw w' e).1.1 (ce_begin (B := B) (w := w') (I := I) (L := L) (P := P) (x := nI 4) (by decide))
  have r3 : ∀ w' : Wd, w'.1 = w.1 → _ := fun w' e => lt_addListener0 (cw w' e).1.1 (ce_addListener0 (B := B) (w := w') (I := I) (L := L) (P := P) (x := nI 128) (y := nI 0) (by decide))
  have r4 : ∀ w' : Wd, w'.1 = w.1 → _ := fun w' e => lt_addListener0 (cw w' e).1.1 (ce_addListener0 (B := B) (w := w') (I := I) (L := L) (P := P) (x := nI 0) (y := nI 10) (by decide))
  have r5 : ∀ w' : Wd, w'.1 = w.1 → _ := fun w' e => lt_turn2 (cw w' e).1.1 (ce_turn (cw w' e) (x := nI n) (v := nI 1) h2 hn (Or.inr nl))
  have r6 : ∀ w' : Wd, w'.1 = w.1 → _ := fun w' e => lt_empty2 (cw w' e).1.1 (ce_empty (cw w' e) (x := -1) h2 hn (Or.inl (by decide)))
  have r7 : ∀ w' : Wd, w'.1 = w.1 → _ := fun w' e => lt_setLimit0 (cw w' e).1.1 (ce_setLimit (B := B) (w := w') (I := I) (L := L) (P := P) (x := nI 0) (by decide))
  have r8 : ∀ w' : Wd, w'.1 = w.1 → _ := fun w' e => lt_setLimit0 (cw w' e).1.1 (ce_setLimit (B := B) (w := w') (I := I) (L := L) (P := P) (x := nI 10) (by decide))
  have r9 : ∀ w' : Wd, w'.1 = w.1 → _ := fun w' e => lt_write2 (cw w' e).1.1 (ce_write2 (cw w' e) h1 hk3 (x := nI k) (y := nI 0) (z := nI 1) (b := 0) (Or.inr kl))
  have r10 : ∀ w' : Wd, w'.1 = w.1 → _ := fun w' e => lt_write0 (cw w' e).1.1 (ce_write0 (cw w' e) h1 hk3 hk0 (y := nI 128) (z := nI 1) (b := 0) (by decide))
  have r11 : ∀ w' : Wd, w'.1 = w.1 → _ := fun w' e => lt_write0 (cw w' e).1.1 (ce_write0 (cw w' e) h1 hk3 hk0 (y := nI 0) (z := nI 5) (b := 0) (by decide))
  have r12 : ∀ w' : Wd, w'.1 = w.1 → _ := fun w' e => lt_write0 (cw w' e).1.1 (ce_write0 (cw w' e) h1 hk3 hk0 (y := nI 0) (z := nI 1) (b := 256) (by decide))
  have r13 : ∀ w' : Wd, w'.1 = w.1 → _ := fun w' e => lt_write0 (cw w' e).1.1 (ce_write0 (cw w' e) h1 hk3 hk0 (y := nI 0) (z := nI 4) (b := 4294967296) (by decide))
  have r14 : ∀ w' : Wd, w'.1 = w.1 → _ := fun w' e => lt_write0 (cw w' e).1.1 (ce_write0 (cw w' e) h1 hk3 hk0 (y := nI 0) (z := nI 4) (b := -1) (by decide))
  have r15 : ∀ w' : Wd, w'.1 = w.1 → _ := fun w' e => lt_read2 (cw w' e).1.1 (ce_read2 (cw w' e) h1 hk3 (x := -1) (y := nI 0) (z := nI 1) (Or.inl (by decide)))
  have r16 : ∀ w' : Wd, w'.1 = w.1 → _ := fun w' e => lt_read0 (cw w' e).1.1 (ce_read0 (cw w' e) h1 hk3 hk0 (y := -1) (z := nI 1) (by decide))
  have r17 : ∀ w' : Wd, w'.1 = w.1 → _ := fun w' e => lt_read0 (cw w' e).1.1 (ce_read0 (cw w' e) h1 hk3 hk0 (y := nI 0) (z := nI 0) (by decide))
  have r18 : ∀ w' : Wd, w'.1 = w.1 → _ := fun w' e => lt_cancel2 (cw w' e).1.1 (ce_cancel (cw w' e) h1 hk3 (x := nI k) (Or.inr kl))
  have r19 : ∀ w' : Wd, w'.1 = w.1 → _ := fun w' e => lt_pass0 (cw w' e).1.1 (ce_pass (B := B) (w := w') (I := I) (L := L) (P := P) (x := nI 0) (by decide))
  have r20 : ∀ w' : Wd, w'.1 = w.1 → _ := fun w' e => lt_pass0 (cw w' e).1.1 (ce_pass (B := B) (w := w') (I := I) (L := L) (P := P) (x := nI 201) (by decide))
  have r21 : ∀ w' : Wd, w'.1 = w.1 → _ := fun w' e => lt_caller2 (cw w' e).1.1 (ce_caller2 (cw w' e) h1 hk3 (x := nI k) (y := nI 0) (Or.inr kl))
  have r22 : ∀ w' : Wd, w'.1 = w.1 → _ := fun w' e => lt_caller0 (cw w' e).1.1 (ce_caller0 (cw w' e) h1 hk3 hk0 (y := nI 9) (by decide))
  have r23 : ∀ w' : Wd, w'.1 = w.1 → _ := fun w' e => lt_message2 (cw w' e).1.1 (ce_message3 (cw w' e) h1 hk3 hk0 e0 hs4 (z := -1) (y := nI 9) (Or.inl (by decide)))
  have r24 : ∀ w' : Wd, w'.1 = w.1 → _ := fun w' e => lt_listener2 (cw w' e).1.1 (ce_listener2 (cw w' e) h2 hn (x := nI n) (y := nI 0) (Or.inr nl))
  have r25 : ∀ w' : Wd, w'.1 = w.1 → _ := fun w' e => lt_memory2 (cw w' e).1.1 (ce_memory2 (cw w' e) h2 hn (x := nI n) (y := nI 0) (Or.inr nl))
  have r26 : ∀ w' : Wd, w'.1 = w.1 → _ := fun w' e => lt_value0 (cw w' e).1.1 (ce_value (B := B) (w := w') (I := I) (L := L) (P := P) (x := nI 10) (by decide))
  have r27 : ∀ w' : Wd, w'.1 = w.1 → _ := fun w' e => lt_log2 (cw w' e).1.1 (ce_log (cw w' e) hT h0 (by omega) (x := nI 64) (y := nI 0) (Or.inr (nI_le kq1 (by omega))))
  have r28 : ∀ w' : Wd, w'.1 = w.1 → _ := fun w' e => lt_log2 (cw w' e).1.1 (ce_log (cw w' e) hT h0 (by omega) (x := -1) (y := nI 3) (Or.inl (by decide)))
  have r29 : ∀ w' : Wd, w'.1 = w.1 → _ := fun w' e => lt_alone2 (cw w' e).1.1 (ce_alone (cw w' e) h1 hk3 (x := nI 3) (Or.inr (nI_le hk3 (by omega))))
  have r30 : ∀ w' : Wd, w'.1 = w.1 → _ := fun w' e => lt_delivers2 (cw w' e).1.1 (ce_delivers (cw w' e) h1 hk3 (x := -1) (Or.inl (by decide)))
  have r31 : ∀ w' : Wd, w'.1 = w.1 → _ := fun w' e => lt_append0 (cw w' e).1.1 (ce_append0 (B := B) (w := w') (I := I) (L := L) (P := P) (x := -1) (by decide))
  have r32 : ∀ w' : Wd, w'.1 = w.1 → _ := fun w' e => lt_append0 (cw w' e).1.1 (ce_append0 (B := B) (w := w') (I := I) (L := L) (P := P) (x := nI 128) (by decide))
  have s : (-11 : Int32) ≠ -11 ↔ False := by simp
  refine ⟨thrs 32 w, ?_, TH_le (TH_thrs w 32) (by omega)⟩
  · rw [Law_refuses_16_1, r1]
    simp only [kC_ret, Option.toList, List.cons_append, List.nil_append, fix1_int, fix1_ref, fix1_unk, fix1_null, fix1_long]
    rw [Law_refuses_23, if_neg (by simp), Law_refuses_28_1, r2]
    simp only [kC_ret, Option.toList, List.cons_append, List.nil_append, fix1_int, fix1_ref, fix1_unk, fix1_null, fix1_long]
    rw [Law_refuses_33, if_neg (by simp), Law_refuses_38_1, r3]
    simp only [kC_ret, Option.toList, List.cons_append, List.nil_append, fix1_int, fix1_ref, fix1_unk, fix1_null, fix1_long]
    rw [Law_refuses_46, if_neg (by simp), Law_refuses_51_1, r4]
    simp only [kC_ret, Option.toList, List.cons_append, List.nil_append, fix1_int, fix1_ref, fix1_unk, fix1_null, fix1_long]
    rw [Law_refuses_58, if_neg (by simp), Law_refuses_63_1, r5]
    simp only [kC_ret, Option.toList, List.cons_append, List.nil_append, fix1_int, fix1_ref, fix1_unk, fix1_null, fix1_long]
    rw [Law_refuses_70, if_neg (by simp), Law_refuses_75_1, r6]
    simp only [kC_ret, Option.toList, List.cons_append, List.nil_append, fix1_int, fix1_ref, fix1_unk, fix1_null, fix1_long]
    rw [Law_refuses_80, if_neg (by simp), Law_refuses_85_1, r7]
    simp only [kC_ret, Option.toList, List.cons_append, List.nil_append, fix1_int, fix1_ref, fix1_unk, fix1_null, fix1_long]
    rw [Law_refuses_90, if_neg (by simp), Law_refuses_95_1, r8]
    simp only [kC_ret, Option.toList, List.cons_append, List.nil_append, fix1_int, fix1_ref, fix1_unk, fix1_null, fix1_long]
    rw [Law_refuses_101, if_neg (by simp), Law_refuses_106_1, r9]
    simp only [kC_ret, Option.toList, List.cons_append, List.nil_append, fix1_int, fix1_ref, fix1_unk, fix1_null, fix1_long]
    rw [Law_refuses_114, if_neg (by simp), Law_refuses_119_1, r10]
    simp only [kC_ret, Option.toList, List.cons_append, List.nil_append, fix1_int, fix1_ref, fix1_unk, fix1_null, fix1_long]
    rw [Law_refuses_129, if_neg (by simp), Law_refuses_134_1, r11]
    simp only [kC_ret, Option.toList, List.cons_append, List.nil_append, fix1_int, fix1_ref, fix1_unk, fix1_null, fix1_long]
    rw [Law_refuses_142, if_neg (by simp), Law_refuses_147_1, r12]
    simp only [kC_ret, Option.toList, List.cons_append, List.nil_append, fix1_int, fix1_ref, fix1_unk, fix1_null, fix1_long]
    rw [Law_refuses_157, if_neg (by simp), Law_refuses_162_1, r13]
    simp only [kC_ret, Option.toList, List.cons_append, List.nil_append, fix1_int, fix1_ref, fix1_unk, fix1_null, fix1_long]
    rw [Law_refuses_172, if_neg (by simp), Law_refuses_177_1, r14]
    simp only [kC_ret, Option.toList, List.cons_append, List.nil_append, fix1_int, fix1_ref, fix1_unk, fix1_null, fix1_long]
    rw [Law_refuses_187, if_neg (by simp), Law_refuses_192, Law_refuses_197, if_neg n0]
    simp only [fix1_int, fix1_ref, fix1_unk, fix1_null, fix1_long]
    rw [Law_refuses_204_1, r15]
    simp only [kC_ret, Option.toList, List.cons_append, List.nil_append, fix1_int, fix1_ref, fix1_unk, fix1_null, fix1_long]
    rw [Law_refuses_211, if_neg (by simp), Law_refuses_216_1, r16]
    simp only [kC_ret, Option.toList, List.cons_append, List.nil_append, fix1_int, fix1_ref, fix1_unk, fix1_null, fix1_long]
    rw [Law_refuses_223, if_neg (by simp), Law_refuses_228_1, r17]
    simp only [kC_ret, Option.toList, List.cons_append, List.nil_append, fix1_int, fix1_ref, fix1_unk, fix1_null, fix1_long]
    rw [Law_refuses_235, if_neg (by simp), Law_refuses_240_1, r18]
    simp only [kC_ret, Option.toList, List.cons_append, List.nil_append, fix1_int, fix1_ref, fix1_unk, fix1_null, fix1_long]
    rw [Law_refuses_245, if_neg (by simp), Law_refuses_250_1, r19]
    simp only [kC_ret, Option.toList, List.cons_append, List.nil_append, fix1_int, fix1_ref, fix1_unk, fix1_null, fix1_long]
    rw [Law_refuses_255, if_neg (by simp), Law_refuses_260_1, r20]
    simp only [kC_ret, Option.toList, List.cons_append, List.nil_append, fix1_int, fix1_ref, fix1_unk, fix1_null, fix1_long]
    rw [Law_refuses_267, if_neg (by simp), Law_refuses_272_1, r21]
    simp only [kC_ret, Option.toList, List.cons_append, List.nil_append, fix1_int, fix1_ref, fix1_unk, fix1_null, fix1_long]
    rw [Law_refuses_278, if_neg (by simp), Law_refuses_283_1, r22]
    simp only [kC_ret, Option.toList, List.cons_append, List.nil_append, fix1_int, fix1_ref, fix1_unk, fix1_null, fix1_long]
    rw [Law_refuses_290, if_neg (by simp), Law_refuses_295_1, r23]
    simp only [kC_ret, Option.toList, List.cons_append, List.nil_append, fix1_int, fix1_ref, fix1_unk, fix1_null, fix1_long]
    rw [Law_refuses_303, if_neg (by simp), Law_refuses_308_1, r24]
    simp only [kC_ret, Option.toList, List.cons_append, List.nil_append, fix1_int, fix1_ref, fix1_unk, fix1_null, fix1_long]
    rw [Law_refuses_315, if_neg (by simp), Law_refuses_320_1, r25]
    simp only [kC_ret, Option.toList, List.cons_append, List.nil_append, fix1_int, fix1_ref, fix1_unk, fix1_null, fix1_long]
    rw [Law_refuses_327, if_neg (by simp), Law_refuses_332_1, r26]
    simp only [kC_ret, Option.toList, List.cons_append, List.nil_append, fix1_int, fix1_ref, fix1_unk, fix1_null, fix1_long]
    rw [Law_refuses_338, if_neg (by simp), Law_refuses_343_1, r27]
    simp only [kC_ret, Option.toList, List.cons_append, List.nil_append, fix1_int, fix1_ref, fix1_unk, fix1_null, fix1_long]
    rw [Law_refuses_350, if_neg (by simp), Law_refuses_355_1, r28]
    simp only [kC_ret, Option.toList, List.cons_append, List.nil_append, fix1_int, fix1_ref, fix1_unk, fix1_null, fix1_long]
    rw [Law_refuses_361, if_neg (by simp), Law_refuses_366, Law_refuses_371, if_neg n0]
    simp only [fix1_int, fix1_ref, fix1_unk, fix1_null, fix1_long]
    rw [Law_refuses_378_1, r29]
    simp only [kC_ret, Option.toList, List.cons_append, List.nil_append, fix1_int, fix1_ref, fix1_unk, fix1_null, fix1_long]
    rw [Law_refuses_383, if_neg (by simp), Law_refuses_388_1, r30]
    simp only [kC_ret, Option.toList, List.cons_append, List.nil_append, fix1_int, fix1_ref, fix1_unk, fix1_null, fix1_long]
    rw [Law_refuses_393, if_neg (by simp), Law_refuses_398_1, r31]
    simp only [kC_ret, Option.toList, List.cons_append, List.nil_append, fix1_int, fix1_ref, fix1_unk, fix1_null, fix1_long]
    rw [Law_refuses_403, if_neg (by simp), Law_refuses_408_1, r32]
    simp only [kC_ret, Option.toList, List.cons_append, List.nil_append, fix1_int, fix1_ref, fix1_unk, fix1_null, fix1_long]
    rw [Law_refuses_415, if_neg (by simp)]
    simp only [thrs]
    all_goals simp only [thrT_1]
theorem rf_2 (h : CW B w I L P N st Ks len tx T) (hT : T < 2147000000) {q k n : Nat} (hk : KN N T q k n) (hsa : SA N) (x1 : Int64) (x2 x3 : Value) : ∃ w1, go 144 420 [.ref B, .long x1, x2, x3, .int (nI n), .int (nI 1)] [] w I L P = go 144 509 [.ref B, .long x1, x2, x3, .int (nI n), .int (nI 1)] [] w1 I L P ∧ TH 10 w w1 := by
  obtain ⟨hq, h0, hk0, hk3, h1, hn, h2, hi, hol, h4, hmb, h12, hg⟩ := hk
  have cw : ∀ w' : Wd, w'.1 = w.1 → CW B w' I L P N st Ks len tx T := fun w' e => CW_w h e
  obtain ⟨s, hs4, e0, -⟩ := hi.1 0 (by omega)
  have n0 : ¬ nI 1 = 0 := by decide
  have cal := lr_caller h.1.1 (cv_caller h h1 hk3 hk0 (show 0 < 9 by omega))
  have e00 : calV N 0 0 = nI s := e0
  have p1 : ∃ w1, go 144 420 [.ref B, .long x1, x2, x3, .int (nI n), .int (nI 1)] [] w I L P = go 144 439 [.ref B, .long x1, x2, x3, .int (nI n), .int (nI 1)] [] w1 I L P ∧ TH 1 w w1 := by
    by_cases z : s = 0
    · refine ⟨thrT w, ?_, TH_thr⟩
      have r := lt_cancel1 h.1.1 ((cc_cancel h h1 hk3 hk0 e0 hs4).1 (Or.inl z))
      rw [Law_refuses_420_1, cal, e00]
      simp only [kC_ret, Option.toList, List.cons_append, List.nil_append, fix1_int, fix1_ref, fix1_unk, fix1_null, fix1_long]
      rw [Law_refuses_426, if_neg (by rw [z]; decide), Law_refuses_429_1, r]
      simp only [kC_ret, Option.toList, List.cons_append, List.nil_append, fix1_int, fix1_ref, fix1_unk, fix1_null, fix1_long]
      rw [Law_refuses_434, if_neg (by simp)]
    · refine ⟨w, ?_, TH_le TH_refl (by omega)⟩
      rw [Law_refuses_420_1, cal, e00]
      simp only [kC_ret, Option.toList, List.cons_append, List.nil_append, fix1_int, fix1_ref, fix1_unk, fix1_null, fix1_long]
      rw [Law_refuses_426, if_pos (by rw [← nI_0]; exact nI_lt (by omega) (by omega))]
  obtain ⟨w1, s1, t1⟩ := p1
  have h' := CW_th h t1
  have cw1 : ∀ w' : Wd, w'.1 = w1.1 → CW B w' I L P N st Ks len tx T := fun w' e => CW_w h' e
  rw [s1]
  by_cases z : n = 0
  · refine ⟨w1, ?_, TH_le t1 (by omega)⟩
    rw [Law_refuses_439, if_pos (by rw [z]; decide), Law_refuses_497, Law_refuses_502, if_neg n0]
    simp only [fix1_int, fix1_ref, fix1_unk, fix1_null, fix1_long]
  · have hln : 0 < n := by omega
    obtain ⟨a, ha, ea⟩ := hsa n 0 h2 hn hln
    have lis := fun (w' : Wd) (e : w'.1 = w1.1) (v : Nat) (hv : v < 6) => lr_listener (cw1 w' e).1.1 (cv_listener (cw1 w' e) h2 hn hln hv)
    have hon := (hol 0 (by omega)).2.1
    have r1 : ∀ (w' : Wd), w'.1 = w1.1 → call 122 [.ref B, .int (nI 0), .int (N (327 + 22 * 0 + 4))] w' I L P = some (.inl (some (.int (-12))), thrT w', I, L, P) := fun w' e => lt_turn1 (cw1 w' e).1.1 ((cc_turn (cw1 w' e) h2 hn hln hon).1 rfl)
    have hw : wFrom N (nI a) 0 n ≠ -1 := by
      obtain ⟨f, rfl⟩ : ∃ f, n = f + 1 := ⟨n - 1, by omega⟩
      unfold wFrom
      rw [if_pos ea]
      decide
    have r2 : ∀ (w' : Wd), w'.1 = w1.1 → call 121 [.ref B, .int (nI a), .int (nI 1)] w' I L P = some (.inl (some (.int (-12))), thrT w', I, L, P) := fun w' e => lt_addListener1 (cw1 w' e).1.1 (ce_addListener1 (cw1 w' e) h2 hn ha (show 1 ≤ 9 by omega) (Or.inr hw))
    have r3 : ∀ (w' : Wd), w'.1 = w1.1 → call 131 [.ref B, .int (nI 0), .int (nI 6)] w' I L P = some (.inl (some (.int (-12))), thrT w', I, L, P) := fun w' e => lt_listener0 (cw1 w' e).1.1 (ce_listener0 (cw1 w' e) h2 hn hln (by decide))
    refine ⟨thrs 3 w1, ?_, TH_le (TH_trans t1 (TH_thrs w1 3)) (by omega)⟩
    have s2 : go 144 439 [.ref B, .long x1, x2, x3, .int (nI n), .int (nI 1)] [] w1 I L P = go 144 461 [.ref B, .long x1, x2, x3, .int (nI n), .int (nI 1)] [.int (N (327 + 22 * 0 + 4)), .int (nI 0), .ref B] w1 I L P := by
      rcases hon with y | y
      · rw [y]
        rw [Law_refuses_439, if_neg (fun y => by rw [← nI_0, nI_eq (by omega) (by omega)] at y; exact z y), Law_refuses_444_1, (lis _ rfl 4 (by omega)), y]
        simp only [kC_ret, Option.toList, List.cons_append, List.nil_append, fix1_int, fix1_ref, fix1_unk, fix1_null, fix1_long]
        rw [Law_refuses_452, if_pos (by decide), Law_refuses_460]
      · rw [y]
        rw [Law_refuses_439, if_neg (fun y => by rw [← nI_0, nI_eq (by omega) (by omega)] at y; exact z y), Law_refuses_444_1, (lis _ rfl 4 (by omega)), y]
        simp only [kC_ret, Option.toList, List.cons_append, List.nil_append, fix1_int, fix1_ref, fix1_unk, fix1_null, fix1_long]
        rw [Law_refuses_452, if_neg (by simp), Law_refuses_456]
    have ea' : N (327 + 22 * 0 + 0) = nI a := ea
    rw [s2]
    rw [Law_refuses_461_1, (r1 _ rfl)]
    simp only [kC_ret, Option.toList, List.cons_append, List.nil_append, fix1_int, fix1_ref, fix1_unk, fix1_null, fix1_long]
    rw [Law_refuses_464, if_neg (by simp), Law_refuses_469_1, (lis (thrT w1) rfl 0 (by omega)), ea']
    simp only [kC_ret, Option.toList, List.cons_append, List.nil_append, fix1_int, fix1_ref, fix1_unk, fix1_null, fix1_long]
    rw [Law_refuses_476_1, (r2 (thrT w1) rfl)]
    simp only [kC_ret, Option.toList, List.cons_append, List.nil_append, fix1_int, fix1_ref, fix1_unk, fix1_null, fix1_long]
    rw [Law_refuses_480, if_neg (by simp), Law_refuses_485_1, (r3 (thrT (thrT w1)) rfl)]
    simp only [kC_ret, Option.toList, List.cons_append, List.nil_append, fix1_int, fix1_ref, fix1_unk, fix1_null, fix1_long]
    rw [Law_refuses_492, if_neg (by simp), Law_refuses_497, Law_refuses_502, if_neg n0]
    simp only [fix1_int, fix1_ref, fix1_unk, fix1_null, fix1_long]
    simp only [thrs]
theorem rf_ok (h : WI B w I L P N st Ks len tx T) (hT : T < 2147000000) : ∃ w' J K Q, call 144 [.ref B] w I L P = some (.inl (some (.int (nI 1))), w', J, K, Q) ∧ RS B 50 w w' I J L K P Q := by
  have t0 := WI_t0 h
  obtain ⟨q, k, n, hk⟩ := CW_KN h.1 hT
  have hk' := hk
  obtain ⟨hq, h0, hk0, hk3, h1, hn, h2, hi, hol, h4, hmb, h12, hg⟩ := hk'
  obtain ⟨f, hf⟩ := FN_ex hg (by omega)
  obtain ⟨J1, K1, Q1, e1, c1, f1⟩ := cc_digest h.1 hT h1 hk3 h2 hn h0 (by omega) hf.1 hf.2.1 hf.2.2
  have val := fun (v : Nat) (hv : v < 10) => lr_value t0 (cv_value c1 hT hv)
  have u1 : numV N 1 = nI k := h1
  have u2 : numV N 2 = nI n := h2
  obtain ⟨dg, edg⟩ : ∃ dg, dg = dgA N len k n q f st := ⟨_, rfl⟩
  rw [← edg] at e1
  obtain ⟨w2, s2, t2⟩ := rf_1 c1 hT hk dg unk unk unk
  have c2 := CW_th c1 t2
  obtain ⟨w3, s3, t3⟩ := rf_2 c2 hT hk h.2.1.2 dg unk (.int (nI k))
  have c3 := CW_th c2 t3
  obtain ⟨J4, K4, Q4, e4, c4, f4⟩ := cc_digest c3 hT h1 hk3 h2 hn h0 (by omega) hf.1 hf.2.1 hf.2.2
  rw [← edg] at e4
  refine ⟨w3, J4, K4, Q4, ?_, TH_trans t2 t3, Fr_trans f1 f4⟩
  rw [Law_refuses_E, Law_refuses_0 _ _ _ _ _ _ _ _ _ _ t0, e1]
  simp only [kC_ret, Option.toList, List.cons_append, List.nil_append, fix1_int, fix1_ref, fix1_unk, fix1_null, fix1_long]
  rw [Law_refuses_4_1, (val 1 (by omega)), u1]
  simp only [kC_ret, Option.toList, List.cons_append, List.nil_append, fix1_int, fix1_ref, fix1_unk, fix1_null, fix1_long]
  rw [Law_refuses_10_1, (val 2 (by omega)), u2]
  simp only [kC_ret, Option.toList, List.cons_append, List.nil_append, fix1_int, fix1_ref, fix1_unk, fix1_null, fix1_long]
  rw [s2, s3]
  have t3' : w3.1 B = some (6, 0) := c3.1.1
  rw [Law_refuses_509 _ _ _ _ _ _ _ _ _ _ t3', e4]
  simp only [kC_ret, Option.toList, List.cons_append, List.nil_append, fix1_int, fix1_ref, fix1_unk, fix1_null, fix1_long]
  rw [Law_refuses_513, if_neg (by rw [lg_self]; simp), Law_refuses_518, Law_refuses_523 _ _ _ _ _ _ _ _ _ _ _ b11]
end
