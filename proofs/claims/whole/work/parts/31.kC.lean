/-! the law: busy, digest, and what is no call; its loop -/
theorem and31 (x : Int32) : ∃ k, k < 32 ∧ x &&& nI 31 = nI k := by
  refine ⟨(x.toBitVec &&& 31#32).toNat, ?_, ?_⟩
  · rw [BitVec.toNat_and]
    have : x.toBitVec.toNat &&& (31#32).toNat ≤ (31#32).toNat := Nat.and_le_right
    have e : (31#32).toNat = 31 := rfl
    omega
  · apply Int32.toBitVec_inj.mp
    rw [Int32.toBitVec_and]
    show _ = (Int32.ofNat _).toBitVec
    rw [Int32.toBitVec_ofNat', BitVec.ofNat_toNat, BitVec.setWidth_eq]
    rfl
section
variable {b B Lw i : Nat} {xs : Nat → Int32} {w : Wd} {I : MI} {L : ML} {P : MP}
theorem lw_c20 (hl : LI b B Lw xs i w I L P) (hi : 6 * i + 6 ≤ Lw) (hL : Lw ≤ 3072) : LwS b B Lw xs i 1355 w I L P := by
  obtain ⟨hb, N, st, Ks, len, tx, hc, hm, hw1, hw9, hI, hk1, hk2⟩ := hl
  intro x5 x6 x7 x8
  have t0 := hc.1.1
  have w71 := hm.1.1
  obtain ⟨v, a1, a2⟩ := sc_busy hc (by omega)
  obtain ⟨J, b1, b2, b3⟩ := a2 w I L P hm
  refine ⟨.double v, unk, .double v, unk, w, J, L, P, ?_, hb, N, st, Ks, len, tx, CW_T (CW_Fr hc b3) (by omega), b2, hw1, hw9, fun k => by rw [(b3 b (by omega)).1]; exact hI k, by omega, by omega⟩
  rw [Law_law_1355 _ _ _ _ _ _ _ _ _ _ _ _ _ t0, a1]
  simp only [kC_ret, Option.toList, List.cons_append, List.nil_append, fix1_int, fix1_ref, fix1_unk, fix1_null, fix1_long]
  rw [Law_law_1359 _ _ _ _ _ _ _ _ _ _ _ _ _ _ w71, b1]
  simp only [kC_ret, Option.toList, List.cons_append, List.nil_append, fix1_int, fix1_ref, fix1_unk, fix1_null, fix1_long]
  rw [Law_law_1365, fix1_unk]
  by_cases z : (Op.cmpValue (FP.dcmp v v) .l) = 0
  · rw [if_pos z, Law_law_1393]
  · rw [if_neg z, Law_law_1375, if_neg z, Law_law_1383, if_pos z, Law_law_1393]
theorem lw_c25 (hl : LI b B Lw xs i w I L P) (hi : 6 * i + 6 ≤ Lw) (hL : Lw ≤ 3072) : LwS b B Lw xs i 1522 w I L P := by
  obtain ⟨hb, N, st, Ks, len, tx, hc, hm, hw1, hw9, hI, hk1, hk2⟩ := hl
  intro x5 x6 x7 x8
  have t0 := hc.1.1
  have w71 := hm.1.1
  obtain ⟨v, ⟨J, K, Q, a1, a2, a3⟩, a4⟩ := sc_digest hc (by omega)
  obtain ⟨M, J2, K2, b1, b2, b3, b4⟩ := a4 w J K Q (MW_Fr hm a3)
  refine ⟨x5, x6, x7, x8, w, J2, K2, Q, ?_, hb, M, st, Ks, len, tx, CW_T (CW_N (CW_Fr a2 b4) b2) (by omega), b3, hw1, hw9, fun k => by rw [(b4 b (by omega)).1, (a3 b (by omega)).1]; exact hI k, by omega, by omega⟩
  rw [Law_law_1522 _ _ _ _ _ _ _ _ _ _ _ _ _ t0, a1]
  simp only [kC_ret, Option.toList, List.cons_append, List.nil_append, fix1_int, fix1_ref, fix1_unk, fix1_null, fix1_long]
  rw [Law_law_1526 _ _ _ _ _ _ _ _ _ _ _ _ _ _ w71, b1]
  simp only [kC_ret, Option.toList, List.cons_append, List.nil_append, fix1_int, fix1_ref, fix1_unk, fix1_null, fix1_long]
  rw [Law_law_1530, lg_self, if_pos rfl]
theorem lw_no (hl : LI b B Lw xs i w I L P) (hi : 6 * i + 6 ≤ Lw) (hL : Lw ≤ 3072) : LwS b B Lw xs i 1536 w I L P := by
  obtain ⟨hb, N, st, Ks, len, tx, hc, hm, hw1, hw9, hI, hk1, hk2⟩ := hl
  intro x5 x6 x7 x8
  exact ⟨x5, x6, x7, x8, w, I, L, P, rfl, hb, N, st, Ks, len, tx, CW_T hc (by omega), hm, hw1, hw9, hI, by omega, by omega⟩
theorem lw_step (hl : LI b B Lw xs i w I L P) (hi : 6 * i + 6 ≤ Lw) (hL : Lw ≤ 3072) : LwS b B Lw xs i 33 w I L P := by
  have hl' := hl
  obtain ⟨hb, N, st, Ks, len, tx, hc, hm, hw1, hw9, hI, hk1, hk2⟩ := hl'
  intro x5 x6 x7 x8
  obtain ⟨k, hk, e⟩ := and31 (xs (6 * i))
  have beg : go 225 33 [.ref b, .ref B, .ref (B + 284), .ref (B + 289), .int (nI (6 * i)), x5, x6, x7, x8] [] w I L P = go 225 40 [.ref b, .ref B, .ref (B + 284), .ref (B + 289), .int (nI (6 * i)), x5, x6, x7, x8] [.int (nI k)] w I L P := by
    rw [Law_law_33 _ _ _ _ _ _ _ _ _ _ _ _ _ (inA_nI hw1 (by omega) (by omega)), cl_nI (by omega), hI, e]
  rw [beg]
  rcases (show k = 0 ∨ k = 1 ∨ k = 2 ∨ k = 3 ∨ k = 4 ∨ k = 5 ∨ k = 6 ∨ k = 7 ∨ k = 8 ∨ k = 9 ∨ k = 10 ∨ k = 11 ∨ k = 12 ∨ k = 13 ∨ k = 14 ∨ k = 15 ∨ k = 16 ∨ k = 17 ∨ k = 18 ∨ k = 19 ∨ k = 20 ∨ k = 21 ∨ k = 22 ∨ k = 23 ∨ k = 24 ∨ k = 25 ∨ 25 < k by omega) with rfl | rfl | rfl | rfl | rfl | rfl | rfl | rfl | rfl | rfl | rfl | rfl | rfl | rfl | rfl | rfl | rfl | rfl | rfl | rfl | rfl | rfl | rfl | rfl | rfl | rfl | hk2
  · rw [Law_law_40_k0]; exact lw_c0 hl hi hL x5 x6 x7 x8
  · rw [Law_law_40_k1]; exact lw_c1 hl hi hL x5 x6 x7 x8
  · rw [Law_law_40_k2]; exact lw_c2 hl hi hL x5 x6 x7 x8
  · rw [Law_law_40_k3]; exact lw_c3 hl hi hL x5 x6 x7 x8
  · rw [Law_law_40_k4]; exact lw_c4 hl hi hL x5 x6 x7 x8
  · rw [Law_law_40_k5]; exact lw_c5 hl hi hL x5 x6 x7 x8
  · rw [Law_law_40_k6]; exact lw_c6 hl hi hL x5 x6 x7 x8
  · rw [Law_law_40_k7]; exact lw_c7 hl hi hL x5 x6 x7 x8
  · rw [Law_law_40_k8]; exact lw_c8 hl hi hL x5 x6 x7 x8
  · rw [Law_law_40_k9]; exact lw_c9 hl hi hL x5 x6 x7 x8
  · rw [Law_law_40_k10]; exact lw_c10 hl hi hL x5 x6 x7 x8
  · rw [Law_law_40_k11]; exact lw_c11 hl hi hL x5 x6 x7 x8
  · rw [Law_law_40_k12]; exact lw_c12 hl hi hL x5 x6 x7 x8
  · rw [Law_law_40_k13]; exact lw_c13 hl hi hL x5 x6 x7 x8
  · rw [Law_law_40_k14]; exact lw_c14 hl hi hL x5 x6 x7 x8
  · rw [Law_law_40_k15]; exact lw_c15 hl hi hL x5 x6 x7 x8
  · rw [Law_law_40_k16]; exact lw_c16 hl hi hL x5 x6 x7 x8
  · rw [Law_law_40_k17]; exact lw_c17 hl hi hL x5 x6 x7 x8
  · rw [Law_law_40_k18]; exact lw_c18 hl hi hL x5 x6 x7 x8
  · rw [Law_law_40_k19]; exact lw_c19 hl hi hL x5 x6 x7 x8
  · rw [Law_law_40_k20]; exact lw_c20 hl hi hL x5 x6 x7 x8
  · rw [Law_law_40_k21]; exact lw_c21 hl hi hL x5 x6 x7 x8
  · rw [Law_law_40_k22]; exact lw_c22 hl hi hL x5 x6 x7 x8
  · rw [Law_law_40_k23]; exact lw_c23 hl hi hL x5 x6 x7 x8
  · rw [Law_law_40_k24]; exact lw_c24 hl hi hL x5 x6 x7 x8
  · rw [Law_law_40_k25]; exact lw_c25 hl hi hL x5 x6 x7 x8
  · rw [Law_law_40_kd _ _ _ _ _ _ _ _ _ _ _ _ _ _ (Or.inr (by rw [nI_toInt (by omega)]; omega))]; exact lw_no hl hi hL x5 x6 x7 x8
theorem lw_loop (hL : Lw ≤ 3072) : ∀ f i, i + f = Lw / 6 → ∀ (w : Wd) (I : MI) (L : ML) (P : MP), LI b B Lw xs i w I L P → ∀ x5 x6 x7 x8, ∃ w2 I2 L2 P2, go 225 23 [.ref b, .ref B, .ref (B + 284), .ref (B + 289), .int (nI (6 * i)), x5, x6, x7, x8] [] w I L P = some (.inl (some (.int (nI 1))), w2, I2, L2, P2) ∧ w2.2.2.1 ≤ 290 + Lw / 6 ∧ w2.2.2.2 ≤ 6239 + 6 * (Lw / 6) := by
  have hlt : ∀ i, 6 * i < 3100 → ((nI Lw - nI 6) < nI (6 * i) ↔ Lw < 6 * i + 6) := by
    intro i h
    rw [Int32.lt_iff_toInt_lt, pk_sub_toInt (by omega) (by omega), nI_toInt (by omega)]
    omega
  intro f
  induction f with
  | zero =>
    intro i hi w I L P hl x5 x6 x7 x8
    obtain ⟨hb, N, st, Ks, len, tx, hc, hm, hw1, hw9, hI, hk1, hk2⟩ := hl
    refine ⟨w, I, L, P, ?_, by omega, by omega⟩
    rw [Law_law_23 _ _ _ _ _ _ _ _ _ _ _ _ _ (isAr_of hw1), alen_of hw1, if_pos ((hlt i (by omega)).mpr (by omega)), Law_law_1542 _ _ _ _ _ _ _ _ _ _ _ _ _ b11]
  | succ f ih =>
    intro i hi w I L P hl x5 x6 x7 x8
    have hw1 : w.1 b = some (14, Lw) := by
      obtain ⟨hb, N, st, Ks, len, tx, hc, hm, hw1, hw9, hI, hk1, hk2⟩ := hl
      exact hw1
    obtain ⟨l5, l6, l7, l8, w2, I2, L2, P2, g1, g2⟩ := lw_step hl (by omega) hL x5 x6 x7 x8
    obtain ⟨w3, I3, L3, P3, g3, g4, g5⟩ := ih (i + 1) (by omega) w2 I2 L2 P2 g2 l5 l6 l7 l8
    refine ⟨w3, I3, L3, P3, ?_, g4, g5⟩
    rw [Law_law_23 _ _ _ _ _ _ _ _ _ _ _ _ _ (isAr_of hw1), alen_of hw1, if_neg (fun h => by have := (hlt i (by omega)).mp h; omega), g1, Law_law_1536, fix1_ref, nI_add]
    exact g3
end
theorem BT_T2 {w w2 : Wd} {b : Nat} (h : BT w b) (e : ∀ x, b ≤ x → x < b + 40 → w2.1 x = w.1 x) : BT w2 b := BT_w (w := (w2.1, some 0, 0, 0)) (BT_T (T := w.1) (BT_w h rfl) e) rfl
theorem CW_tag {B : Nat} {w w2 : Wd} {I : MI} {L : ML} {P : MP} {N : Nat → Int32} {st : Nat} {Ks : Nat → Nat → Int32} {len : Nat} {tx : Nat → Nat} {T : Nat} (h : CW B w I L P N st Ks len tx T) (e : ∀ x, B ≤ x → x < B + 284 → w2.1 x = w.1 x) : CW B w2 I L P N st Ks len tx T := by
  obtain ⟨⟨h1, h2, h3, h4, h5, h6⟩, h7⟩ := h
  exact ⟨⟨(e _ (by omega) (by omega)).trans h1, fun i hi => BT_T2 (h2 i hi) (fun x x1 x2 => e x (by omega) (by omega)), fun i hi => BT_T2 (h3 i hi) (fun x x1 x2 => e x (by omega) (by omega)), (e _ (by omega) (by omega)).trans h4, (e _ (by omega) (by omega)).trans h5, (e _ (by omega) (by omega)).trans h6⟩, h7⟩
theorem MW_tag {B : Nat} {w w2 : Wd} {I : MI} {P : MP} {N : Nat → Int32} {st : Nat} {Ks : Nat → Nat → Int32} {len : Nat} {tx : Nat → Nat} (h : MW B w I P N st Ks len tx) (e : ∀ x, B + 284 ≤ x → x < B + 289 → w2.1 x = w.1 x) : MW B w2 I P N st Ks len tx := by
  obtain ⟨⟨h1, h2, h3, h4, h5⟩, h7⟩ := h
  exact ⟨⟨(e _ (by omega) (by omega)).trans h1, (e _ (by omega) (by omega)).trans h2, (e _ (by omega) (by omega)).trans h3, (e _ (by omega) (by omega)).trans h4, (e _ (by omega) (by omega)).trans h5⟩, h7⟩
/-- the law answers 1, and makes so much and no more -/
theorem lw_all {b B Lw : Nat} {xs : Nat → Int32} (hb : b < B) (hL : Lw ≤ 3072) : ∃ w2 I2 L2 P2, call 225 [.ref b] (w00 b Lw B) (I00 b xs) L00 P00 = some (.inl (some (.int (nI 1))), w2, I2, L2, P2) ∧ w2.2.2.1 ≤ 290 + Lw / 6 ∧ w2.2.2.2 ≤ 6239 + 6 * (Lw / 6) := by
  obtain ⟨T0, eT0⟩ : ∃ T0 : Nat → Option (Nat × Nat), T0 = fun a => if a = b then some (14, Lw) else none := ⟨_, rfl⟩
  have tb : T0 b = some (14, Lw) := by rw [eT0]; exact if_pos rfl
  obtain ⟨T1, I1, L1, P1, a1, a2, a3⟩ := two_new (B := B) (tagU T0 B 6 0) (0 + 1) (0 + 6) (rowI (I00 b xs) B) (rowL L00 B) (rowP P00 B) tg_e
  obtain ⟨T2, J, Q, M, b1, b2, b3, b4, b5⟩ := mod_new (B := B) (tagU T1 (B + 284) 7 0) (0 + 1 + 283 + 1) (0 + 6 + 3362 + 16) (rowI I1 (B + 284)) (rowL L1 (B + 284)) (rowP P1 (B + 284)) tg_e (by rw [rI_e, nI_0]) (by rw [rI_e, nI_0])
  obtain ⟨w, ew⟩ : ∃ w : Wd, w = (tagU T2 (B + 289) 9 (Int32.toNatClampNeg (nI 1)), some (B + 289 + 1), 0 + 1 + 283 + 1 + 4 + 1, 0 + 6 + 3362 + 16 + 2854 + Int32.toNatClampNeg (nI 1)) := ⟨_, rfl⟩
  have e1 : w.1 = tagU T2 (B + 289) 9 (Int32.toNatClampNeg (nI 1)) := by rw [ew]
  have inv : LI b B Lw xs 0 w J (rowL (rowL L1 (B + 284)) (B + 289)) Q := by
    have hm := MW_tag (w2 := w) (b5 (T2, some 0, 0, 0) (fun _ _ => nI 0) (fun _ => 0) rfl) (fun x x1 x2 => by rw [e1]; exact tg_n (by omega))
    have hc := CW_tag (w2 := w) (a3 (T1, some 0, 0, 0) (fun _ _ => nI 0) (fun _ => 0) rfl) (fun x x1 x2 => by rw [e1, tg_n (by omega), (b2 x (by omega)).1]; exact tg_n (by omega))
    have hc2 : CW B w J (rowL (rowL L1 (B + 284)) (B + 289)) Q (frN 2) 0 (fun _ _ => nI 0) 0 (fun _ => 0) (4000 * 0) := CW_fr hc (fun x x1 x2 => by
      obtain ⟨y1, y2, y3⟩ := b2 x (by omega)
      exact ⟨by rw [y2, rI_o (by omega)], by rw [rL_o (by omega), rL_o (by omega)], by rw [y3, rP_o (by omega)]⟩)
    refine ⟨hb, M, 0, _, 0, _, CW_N hc2 b3, hm, ?_, ?_, ?_, ?_, ?_⟩
    · rw [e1, tg_n (by omega), (b2 b (by omega)).1, tg_n (by omega), (a2 b (by omega)).1, tg_n (by omega)]; exact tb
    · rw [e1, tg_e, cl_nI (by omega)]
    · intro k
      rw [(b2 b (by omega)).2.1, rI_o (by omega), (a2 b (by omega)).2.1, rI_o (by omega)]
      unfold I00; rw [if_pos rfl]
    · rw [ew]; show 0 + 1 + 283 + 1 + 4 + 1 ≤ _; omega
    · rw [ew]; show 0 + 6 + 3362 + 16 + 2854 + Int32.toNatClampNeg (nI 1) ≤ _; rw [cl_nI (by omega)]; omega
  obtain ⟨w2, I2, L2, P2, g1, g2, g3⟩ := lw_loop hL (Lw / 6) 0 (by omega) w J (rowL (rowL L1 (B + 284)) (B + 289)) Q inv unk unk unk unk
  refine ⟨w2, I2, L2, P2, ?_, g2, g3⟩
  have s0 : call 225 [.ref b] (w00 b Lw B) (I00 b xs) L00 P00 = go 225 0 [.ref b, unk, unk, unk, unk, unk, unk, unk, unk] [] (T0, some B, 0, 0) (I00 b xs) L00 P00 := by rw [eT0]; rfl
  rw [s0, Law_law_0, a1]
  simp only [kC_ret, Option.toList, List.cons_append, List.nil_append, fix1_int, fix1_ref, fix1_unk, fix1_null, fix1_long]
  rw [Law_law_7_1, show B + 284 + 1 = B + 285 from rfl, b1]
  simp only [kC_ret, Option.toList, List.cons_append, List.nil_append, fix1_int, fix1_ref, fix1_unk, fix1_null, fix1_long]
  rw [Law_law_15_1 _ _ _ _ _ _ _ _ _ _ _ _ _ _ _ _ _ (ar_ok (by omega)), ← ew]
  exact g1
/-- out of the plain machine's walk -/
theorem lw_exec {b B Lw : Nat} {xs : Nat → Int32} (hb : b < B) (hL : Lw ≤ 3072) : ∃ n w2 I2 L2 P2, exec n 225 0 (ent [.ref b] 9) [] (w00 b Lw B) (I00 b xs) L00 P00 = some (.inl (some (.int 1)), w2, I2, L2, P2) ∧ w2.2.2.1 ≤ 601024 ∧ w2.2.2.2 ≤ 7293033 := by
  obtain ⟨w2, I2, L2, P2, g1, g2, g3⟩ := lw_all (xs := xs) hb hL
  obtain ⟨n, hn⟩ := go_to (show go 225 0 (ent [.ref b] 9) [] (w00 b Lw B) (I00 b xs) L00 P00 = some (.inl (some (.int (nI 1))), w2, I2, L2, P2) from g1)
  exact ⟨n, w2, I2, L2, P2, hn, by omega, by omega⟩
theorem whole_start {p : Program} {e : Env} {s : State} {m : MethodId} {below : List Frame} {meth : Method} {c : Code} (l : Launch) (hflags : l.flags = flags0) {b L : Nat} {xs : Nat → Int32} (hL : L ≤ 3072) (C0 : lw_At p s m meth c b L xs) : W p l e room_1 s m #[Value.ref b] below meth c s.heap [] 0 0 (lw_Z below #[Value.ref b] s) (entryFrame m ([Value.ref b] : List Value).toArray 9) := by
  have hbl : b < s.heap.size := C0.2.2.2.2.2.2.2.1
  obtain ⟨n, w2, I2, L2, P2, h, h1, h2⟩ := lw_exec (xs := xs) hbl hL
  exact law_of l hflags hL C0 h h1 h2
