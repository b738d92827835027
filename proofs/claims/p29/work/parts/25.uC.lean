/-! a slot of the class is a slot of the model: the cases -/
theorem cl_sendBits {w : Wd} {N : Nat → Int32} {P : MP} {b : Nat} (ht : BT w b) (hq : BQ P b) {k : Nat} (hk0 : 0 < k) (hk : k ≤ 3) (I : MI) (L : ML) (h1 : I b 1 = nI k) (h4 : I b 4 = N 3) (h7 : I b 7 = N 5) (hs : CS N b I L P) (hi : IV N k) (h : Int32) (hp : BitPh N I b h) (hd : h = 0 → dnOk N) : ∃ J Q, call 47 [.ref b] w I L P = some (.inl (some (.int (lvl N h))), w, J, L, Q) ∧ CS (loseAll N h (lvl N h)) b J L Q ∧ BQ Q b ∧ J b = sN (I b) 7 (loseAll N h (lvl N h) 5) ∧ Fr (b + 7) (b + 28) (wr I b (J b)) J L L P Q := by
  have t0 := ht.1
  have hco := CO_of hi
  have hco' : ∀ c, c < 3 → conB N (nI c) → c < k := fun c hc q => (hi.2.1 c hc q).1
  have h8 := hi.2.2
  have h8' := h8
  obtain ⟨s, hs8, h5⟩ := h8'
  rw [cl_sendBits_2 ht hq hk0 hk I L h1 h7 hs hco h hp]
  have hol := ones_lvl (h := h) hk0 hk hco' hs8 h5
  have e3 : onesK N h k = onesK N h 3 := onesK_3 hk0 hk hco'
  rcases lvl_01 N h with e | e
  · have hne : onesK N h k ≠ N 5 := fun q => by
      rw [hol.mp q] at e
      exact absurd e (by decide)
    have ho : ∀ c, c < 3 → conB' (onesK N h k) (nI c) → conB N (nI c) := by
      rw [e3, onesK_set]
      obtain ⟨b0, b1, b2⟩ := set3_bit (decide (conB N (nI 0) ∧ sbt N h 0 = nI 1)) (decide (conB N (nI 1) ∧ sbt N h 1 = nI 1)) (decide (conB N (nI 2) ∧ sbt N h 2 = nI 1))
      intro c hc q
      rcases (show c = 0 ∨ c = 1 ∨ c = 2 by omega) with rfl | rfl | rfl
      · exact (of_decide_eq_true (b0.mp q)).1
      · exact (of_decide_eq_true (b1.mp q)).1
      · exact (of_decide_eq_true (b2.mp q)).1
    have e5 : loseAll N h (nI 0) 5 = N 5 &&& (onesK N h 3 ^^^ (-1)) := by rw [loseAll_lo h8 hd, onesK_set, loK_5 h8]
    have eK : loK N (onesK N h k) k = loseAll N h (nI 0) := by rw [loK_3 hk0 hk (fun c hc q => hco' c hc (ho c hc q)), e3, ← loseAll_lo h8 hd]
    obtain ⟨J, Q, a1, a2, a3, a4, a5⟩ := cl_loseBits ht hq hk0 hk I L h1 h4 hs (onesK N h k) (fun c hc q => (hi.2.1 c (by omega) (ho c (by omega) q)).2)
    rw [eK] at a2
    rw [h7, e3, ← e5] at a4 a5
    rw [if_pos hne, Bus_sendBits_55 _ _ _ _ _ _ _ t0, a1]
    simp only [kC_ret, Option.toList, List.cons_append, List.nil_append, fix1_int, fix1_ref, fix1_unk, fix1_null, fix1_long]
    rw [Bus_sendBits_60, e]
    refine ⟨J, Q, rfl, a2, a3, a4, ?_⟩
    rw [a4]; exact a5
  · rw [if_neg (by simpa using hol.mpr e), e, loseAll_1 e, ← h7, sN_id]
    exact ⟨I, P, rfl, hs, hq, rfl, by rw [wr_id]; exact Fr_refl⟩
theorem set3_lt (p q r : Bool) : ∃ s, s < 8 ∧ set3 p q r = nI s := by
  refine ⟨_, ?_, rfl⟩
  cases p <;> cases q <;> cases r <;> decide
theorem set3_beg : ∀ p q r : Bool, ((nI 0 ||| (if p = true then nI 0 else nI 1 <<< (nI 0 &&& 31))) ||| (if q = true then nI 0 else nI 1 <<< (nI 1 &&& 31))) ||| (if r = true then nI 0 else nI 1 <<< (nI 2 &&& 31)) = set3 (!p) (!q) (!r) := by decide +kernel
theorem begS_con {N : Nat → Int32} {k : Nat} (hk0 : 0 < k) (hk : k ≤ 3) (hi : ∀ c, c < 3 → OC N k c) : (∃ s, s < 8 ∧ begS N k = nI s) ∧ ∀ c, c < 3 → (conB' (begS N k) (nI c) ↔ ¬ N (207 + 40 * c) ≤ 0) := by
  have hz : ∀ c, c < 3 → k ≤ c → N (207 + 40 * c) ≤ 0 := by
    intro c hc hkc
    obtain ⟨s, _, h1, h2, _⟩ := hi c hc
    rw [h1, h2 hkc]; decide
  have no : ∀ c s, N (207 + 40 * c) ≤ 0 → beg1 N s c = s := fun c s q => by unfold beg1; rw [if_pos q, or0]
  have e3 : begS N k = begS N 3 := by
    unfold begS
    rcases (show k = 1 ∨ k = 2 ∨ k = 3 by omega) with rfl | rfl | rfl
    · simp only [if_true, show ¬ (3 = 1) by decide, show ¬ (3 = 2) by decide, if_false]
      rw [no 2 _ (hz 2 (by omega) (by omega)), no 1 _ (hz 1 (by omega) (by omega))]
    · simp only [if_true, show ¬ (2 = 1) by decide, show ¬ (3 = 1) by decide, show ¬ (3 = 2) by decide, if_false]
      rw [no 2 _ (hz 2 (by omega) (by omega))]
    · rfl
  have es : begS N k = set3 (!(decide (N (207 + 40 * 0) ≤ 0))) (!(decide (N (207 + 40 * 1) ≤ 0))) (!(decide (N (207 + 40 * 2) ≤ 0))) := by
    rw [e3, ← set3_beg]
    unfold begS beg1
    simp only [decide_eq_true_eq, show ¬ (3 = 1) by decide, show ¬ (3 = 2) by decide, if_false]
  rw [es]
  refine ⟨set3_lt _ _ _, ?_⟩
  obtain ⟨b0, b1, b2⟩ := set3_bit (!(decide (N (207 + 40 * 0) ≤ 0))) (!(decide (N (207 + 40 * 1) ≤ 0))) (!(decide (N (207 + 40 * 2) ≤ 0)))
  intro c hc
  rcases (show c = 0 ∨ c = 1 ∨ c = 2 by omega) with rfl | rfl | rfl
  · rw [b0]; simp
  · rw [b1]; simp
  · rw [b2]; simp
theorem begN_out {N : Nat → Int32} {k x : Nat} (g : x ≠ 4 ∧ x ≠ 5 ∧ x ≠ 6) : begN N k x = N x := by
  unfold begN
  rw [sN_ne (by omega), sN_ne (by omega), sN_ne (by omega)]
/-- what a slot is to show: the class has come to its log, with what the model says -/
def SG (w : Wd) (b : Nat) (N : Nat → Int32) (I : MI) (L : ML) (P : MP) (k n : Nat) : Prop := ∃ J Q md, go 44 0 [.ref b, unk, unk] [] w I L P = go 44 159 [.ref b, .int (slotKind N), .int (stepV N)] [] w J L Q ∧ BC b (stepN N) J L Q k n md ∧ Fs b I J L L P Q
theorem st_0 {w : Wd} {N : Nat → Int32} {P : MP} {b k n : Nat} {I : MI} {L : ML} (ht : BT w b) (h : BC b N I L P k n 0) : SG w b N I L P k n := by
  have t0 := ht.1
  obtain ⟨⟨hk0, hk, h1, i1⟩, ⟨hn, h2, i3⟩, i4, h4, i7, i8, hq, hs, hl, hu, hi, ho, r6, h5, h8⟩ := h
  have c4 := cl_of h4 (by omega)
  have c1 := cl_of h1 (by omega)
  have est : stepN N = begN N k := by unfold stepN; rw [c4, c1]; rfl
  have esv : stepV N = begV N k := by unfold stepV; rw [c4, c1]; rfl
  have e4 : begN N k 4 = if begS N k = 0 then nI 0 else nI 1 := by unfold begN; rw [sN_ne (by omega), sN_eq]
  have e5 : begN N k 5 = begS N k := by unfold begN; rw [sN_ne (by omega), sN_ne (by omega), sN_eq]
  have e6 : begN N k 6 = nI 0 := by unfold begN; rw [sN_eq]
  obtain ⟨⟨s, hs8, hsb⟩, hcon⟩ := begS_con hk0 hk hi.1
  have hiv : IV (begN N k) k := by
    refine ⟨fun c hc => OC_N (hi.1 c hc) (fun x g1 g2 => begN_out (by omega)), ?_, s, hs8, e5.trans hsb⟩
    intro c hc q
    have q' : conB' (begS N k) (nI c) := by
      have : conB' (begN N k 5) (nI c) := q
      rw [e5] at this
      exact this
    obtain ⟨z, hz4, z1, z2, _⟩ := hi.1 c hc
    have := (hcon c hc).mp q'
    rw [z1] at this
    have hz : z ≠ 0 := fun y => by
      rw [y] at this
      exact this (by decide)
    refine ⟨Nat.lt_of_not_le (fun y => hz (z2 y)), z - 1, by omega, ?_⟩
    rw [begN_out (by omega), z1, show z - 1 + 1 = z from by omega]
  have hol : OL (begN N k) n := OL_N ho (fun x g1 g2 => begN_out (by omega))
  unfold SG
  rw [est, esv, Bus_passSlot_0 _ _ _ _ _ _ _ t0, r6, if_neg (by decide), Bus_passSlot_7 _ _ _ _ _ _ _ t0, cl_cwm ht hq hk0 hk I L i1 hs]
  simp only [kC_ret, Option.toList, List.cons_append, List.nil_append, fix1_int, fix1_ref, fix1_unk, fix1_null, fix1_long]
  rw [Bus_passSlot_11]
  by_cases hz : begS N k = 0
  · have hz' : begS N k = nI 0 := hz.trans nI_0.symm
    have ek : slotKind N = nI 0 := by
      unfold slotKind
      rw [if_pos (h4.trans nI_0), est, e4, if_pos hz, if_pos nI_0]
    refine ⟨I, P, 0, ?_, ?_, Fs_refl⟩
    · rw [if_pos hz, Bus_passSlot_19 _ _ _ _ _ _ _ t0, r6, Bus_passSlot_27_kd _ _ _ _ _ _ _ _ (Or.inl (by decide)), ek]
      unfold begV
      rw [if_pos hz]
    · refine ⟨⟨hk0, hk, by rw [begN_out (by omega)]; exact h1, i1⟩, ⟨hn, by rw [begN_out (by omega)]; exact h2, i3⟩, by rw [begN_out (by omega)]; exact i4, by rw [e4, if_pos hz], by rw [e5, hz', i7, h5], by rw [begN_out (by omega)]; exact i8, hq, CS_N hs (fun x g1 g2 => begN_out (by omega)), LiS_N hn hl (fun x g1 g2 => begN_out (by omega)) (fun _ _ _ => rfl), hu, hiv, hol, r6, e5.trans hz', by rw [begN_out (by omega)]; exact h8⟩
  · have ek : slotKind N = nI 1 := by
      unfold slotKind
      rw [if_pos (h4.trans nI_0), est, e4, if_neg hz, if_neg n10]
    have hs' : CS N b (updI I b 6 (nI 1)) L P := by
      rw [updI_wr]
      exact CS_5 hs (fun _ _ _ => rfl) (fun x g1 g2 => wr_ne _ _ (by omega))
    rw [if_neg hz, Bus_passSlot_14 _ _ _ _ _ _ _ t0, Bus_passSlot_19 _ _ _ _ _ _ _ t0, show updI I b 6 (nI 1) b 6 = nI 1 from by rw [updI_wr, wr_same, sN_eq], Bus_passSlot_27_k1, Bus_passSlot_68 _ _ _ _ _ _ _ t0, cl_start ht hq hk0 hk _ L (by rw [updI_wr, wr_same, sN_ne (by omega)]; exact i1) hs']
    simp only [kC_ret, Option.toList, List.cons_append, List.nil_append, fix1_int, fix1_ref, fix1_unk, fix1_null, fix1_long]
    rw [Bus_passSlot_72, ek]
    simp only [kC_ret, Option.toList, List.cons_append, List.nil_append, fix1_int, fix1_ref, fix1_unk, fix1_null, fix1_long]
    simp only [updI_wr, wr_wr, wr_same]
    unfold begV
    rw [if_neg hz]
    refine ⟨_, P, 1, rfl, ?_, Fs_wr⟩
    have f : ∀ x, x ≠ 6 → x ≠ 7 → x ≠ 10 → x ≠ 11 → x ≠ 12 → exB (sN (sN (sN (I b) 6 (nI 1)) 7 (begS N k)) 12 (nI 0)) (nI 2) x = I b x := by
      intro x g1 g2 g3 g4 g5
      unfold exB
      rw [sN_ne g4, sN_ne g3, sN_ne g1, sN_ne g5, sN_ne g2, sN_ne g1]
    refine ⟨⟨hk0, hk, by rw [begN_out (by omega)]; exact h1, ?_⟩, ⟨hn, by rw [begN_out (by omega)]; exact h2, ?_⟩, ?_, by rw [e4, if_neg hz], ?_, ?_, hq, CS_5 hs (fun x g1 g2 => begN_out (by omega)) (fun x g1 g2 => wr_ne _ _ (by omega)), LiS_N hn hl (fun x g1 g2 => begN_out (by omega)) (fun x g1 g2 => wr_ne _ _ (by omega)), LU_I hu (fun x g1 g2 => wr_ne _ _ (by omega)), hiv, hol, ?_, ?_, ?_, ?_, 0, 0, by omega, e6, ?_, ?_, ?_⟩
    · rw [wr_same, f 1 (by omega) (by omega) (by omega) (by omega) (by omega)]; exact i1
    · rw [wr_same, f 3 (by omega) (by omega) (by omega) (by omega) (by omega)]; exact i3
    · rw [wr_same, f 4 (by omega) (by omega) (by omega) (by omega) (by omega), begN_out (by omega)]; exact i4
    · rw [wr_same, e5]; unfold exB; rw [sN_ne (by omega), sN_ne (by omega), sN_ne (by omega), sN_ne (by omega), sN_eq]
    · rw [wr_same, f 8 (by omega) (by omega) (by omega) (by omega) (by omega), begN_out (by omega)]; exact i8
    · rw [wr_same]; unfold exB; rw [sN_ne (by omega), sN_ne (by omega), sN_eq]
    · rw [e5]; exact fun q => hz (q.trans nI_0)
    · rw [begN_out (by omega)]; exact h8
    · rw [wr_same]; unfold exB; rw [sN_ne (by omega), sN_ne (by omega), sN_ne (by omega), sN_eq]
    · rw [wr_same]; unfold exB; rw [sN_ne (by omega), sN_eq]
    · rw [wr_same]; unfold exB; rw [sN_eq]
    · intro c hc q
      obtain ⟨x, hx, ex, _⟩ := hdr_256 hc hiv q
      exact ⟨x, hx, by unfold snt; rw [if_neg n10]; exact ex, by omega⟩
/-- a bit of a header -/
theorem st_1 {w : Wd} {N : Nat → Int32} {P : MP} {b k n : Nat} {I : MI} {L : ML} (ht : BT w b) (h : BC b N I L P k n 1) : SG w b N I L P k n := by
  have t0 := ht.1
  obtain ⟨⟨hk0, hk, h1, i1⟩, ⟨hn, h2, i3⟩, i4, h4, i7, i8, hq, hs, hl, hu, hi, ho, r6, h5, h8, r12, j, lv, hj, h6, r10, r11, hv⟩ := h
  have c4 := cl_of h4 (by omega)
  have hd : nI 1 = 0 → dnOk N := fun q => absurd q n10
  obtain ⟨J, Q, a1, a2, a3, a4, a5⟩ := cl_sendBits ht hq hk0 hk I L i1 i4 i7 hs hi (nI 1) ⟨r10.trans h6.symm, Or.inl ⟨rfl, r6⟩⟩ hd
  have hlv : ∃ bt, bt < 2 ∧ lvl N (nI 1) = nI bt := by
    rcases lvl_01 N (nI 1) with e | e
    · exact ⟨0, by omega, e⟩
    · exact ⟨1, by omega, e⟩
  obtain ⟨bt, hbt, hb⟩ := hlv
  have j6 : J b 6 = nI 2 := by rw [a4, sN_ne (by omega)]; exact r6
  have j10 : J b 10 = nI j := by rw [a4, sN_ne (by omega)]; exact r10
  have j11 : J b 11 = nI lv := by rw [a4, sN_ne (by omega)]; exact r11
  have est : stepN N = sN (sN (loseAll N (nI 1) (lvl N (nI 1))) 6 (nI (j + 1))) 4 (if nI (j + 1) ≠ nI 8 then nI 1 else nI 2) := by
    unfold stepN; rw [c4]
    change sN (bitOfN N (nI 1)) 4 (if bitOfN N (nI 1) 6 ≠ nI 8 then nI 1 else nI 2) = _
    rw [show bitOfN N (nI 1) = sN (loseAll N (nI 1) (lvl N (nI 1))) 6 (loseAll N (nI 1) (lvl N (nI 1)) 6 + nI 1) from rfl, sN_eq, loseAll_out (by omega) (by omega), h6, nI_add]
  have esv : stepV N = lvl N (nI 1) := by unfold stepV; rw [c4]; rfl
  have ek : slotKind N = nI 2 := by
    unfold slotKind
    rw [if_neg (by rw [h4]; exact n10), c4]; rfl
  have eM : ∀ x, x ≠ 4 → x ≠ 6 → stepN N x = loseAll N (nI 1) (lvl N (nI 1)) x := fun x g1 g2 => by rw [est, sN_ne g1, sN_ne g2]
  have eN : ∀ x, x < 207 ∨ 327 ≤ x → x ≠ 4 → x ≠ 5 → x ≠ 6 → stepN N x = N x := fun x g g1 g2 g3 => by rw [eM x g1 g3, loseAll_out g g2]
  have hiv : IV (stepN N) k := IV_N (IV_loseAll (h := nI 1) (lv := lvl N (nI 1)) hi) (eM 5 (by omega) (by omega)) (fun x g1 g2 => eM x (by omega) (by omega))
  have hvv := LV_bit hi hd hj h6 hv hb hbt eM
  have e5 : stepN N 5 ≠ nI 0 := by rw [eM 5 (by omega) (by omega)]; exact loseAll_5 hi hd h5
  have hfs : Fs b I J L L P Q := Fs_trans (Fs_wr (X := J b)) (Fs_Fr a5)
  have ej : ∀ x, (x < b + 7 ∨ b + 28 ≤ x) → x ≠ b → J x = I x := fun x g g2 => by rw [(a5 x g).1, wr_ne _ _ g2]
  unfold SG
  rw [esv, ek, Bus_passSlot_0 _ _ _ _ _ _ _ t0, r6, if_pos (by decide), Bus_passSlot_19 _ _ _ _ _ _ _ t0, r6, Bus_passSlot_27_k2, Bus_passSlot_76 _ _ _ _ _ _ _ t0, a1]
  simp only [kC_ret, Option.toList, List.cons_append, List.nil_append, fix1_int, fix1_ref, fix1_unk, fix1_null, fix1_long]
  rw [Bus_passSlot_81 _ _ _ _ _ _ _ _ _ t0, cl_takeBitH ht _ _ _ j6]
  simp only [kC_ret, Option.toList, List.cons_append, List.nil_append, fix1_int, fix1_ref, fix1_unk, fix1_null, fix1_long]
  rw [Bus_passSlot_84]
  simp only [kC_ret, Option.toList, List.cons_append, List.nil_append, fix1_int, fix1_ref, fix1_unk, fix1_null, fix1_long]
  have hcs : ∀ X, CS (stepN N) b (wr J b X) L Q := fun X => CS_5 a2 (fun x g1 g2 => eM x (by omega) (by omega)) (fun x g1 g2 => wr_ne _ _ (by omega))
  have hli : ∀ X, LiS (stepN N) b n (wr J b X) := fun X => LiS_N hn hl (fun x g1 g2 => eN x (by omega) (by omega) (by omega) (by omega)) (fun x g1 g2 => by rw [wr_ne _ _ (by omega)]; exact ej x (by omega) (by omega))
  have hlu : ∀ X, LU b n (wr J b X) := fun X => LU_I hu (fun x g1 g2 => by rw [wr_ne _ _ (by omega)]; exact ej x (by omega) (by omega))
  have hol : OL (stepN N) n := OL_N ho (fun x g1 g2 => eN x (by omega) (by omega) (by omega) (by omega))
  have t11 : tkB (J b) (lvl N (nI 1)) 11 = nI (2 * lv + bt) := by unfold tkB; rw [sN_ne (by omega), sN_eq, j11, hb, pk_mul, nI_add]
  have t10 : tkB (J b) (lvl N (nI 1)) 10 = nI (j + 1) := by unfold tkB; rw [sN_eq, j10, nI_add]
  have tx : ∀ x, x ≠ 10 → x ≠ 11 → x ≠ 7 → tkB (J b) (lvl N (nI 1)) x = I b x := fun x g1 g2 g3 => by unfold tkB; rw [sN_ne g1, sN_ne g2, a4, sN_ne g3]
  have t7 : tkB (J b) (lvl N (nI 1)) 7 = stepN N 5 := by unfold tkB; rw [sN_ne (by omega), sN_ne (by omega), a4, sN_eq, eM 5 (by omega) (by omega)]
  rw [j10, nI_add]
  by_cases h7 : j = 7
  · subst h7
    rw [if_neg (by simp)]
    refine ⟨_, Q, 2, rfl, ?_, Fs_trans hfs Fs_wr⟩
    refine ⟨⟨hk0, hk, by rw [eN 1 (by omega) (by omega) (by omega) (by omega)]; exact h1, ?_⟩, ⟨hn, by rw [eN 2 (by omega) (by omega) (by omega) (by omega)]; exact h2, ?_⟩, ?_, by rw [est, sN_eq]; rfl, ?_, ?_, a3, hcs _, hli _, hlu _, hiv, hol, ?_, e5, ?_, ?_, 2 * lv + bt, ?_, hvv⟩
    · rw [wr_same, sN_ne (by omega), tx 1 (by omega) (by omega) (by omega)]; exact i1
    · rw [wr_same, sN_ne (by omega), tx 3 (by omega) (by omega) (by omega)]; exact i3
    · rw [wr_same, sN_ne (by omega), tx 4 (by omega) (by omega) (by omega), eN 3 (by omega) (by omega) (by omega) (by omega)]; exact i4
    · rw [wr_same, sN_ne (by omega), t7]
    · rw [wr_same, sN_ne (by omega), tx 8 (by omega) (by omega) (by omega), eN 8 (by omega) (by omega) (by omega) (by omega)]; exact i8
    · rw [wr_same, sN_eq]
    · rw [eN 8 (by omega) (by omega) (by omega) (by omega)]; exact h8
    · rw [wr_same, sN_ne (by omega), tx 12 (by omega) (by omega) (by omega)]; exact r12
    · rw [wr_same, sN_ne (by omega), t11]
  · have hne : nI (j + 1) ≠ nI 8 := fun q => by rw [nI_eq (by omega) (by omega)] at q; omega
    rw [if_pos hne]
    refine ⟨_, Q, 1, rfl, ?_, Fs_trans hfs Fs_wr⟩
    refine ⟨⟨hk0, hk, by rw [eN 1 (by omega) (by omega) (by omega) (by omega)]; exact h1, ?_⟩, ⟨hn, by rw [eN 2 (by omega) (by omega) (by omega) (by omega)]; exact h2, ?_⟩, ?_, by rw [est, sN_eq, if_pos hne], ?_, ?_, a3, hcs _, hli _, hlu _, hiv, hol, ?_, e5, ?_, ?_, j + 1, 2 * lv + bt, by omega, ?_, ?_, ?_, hvv⟩
    · rw [wr_same, tx 1 (by omega) (by omega) (by omega)]; exact i1
    · rw [wr_same, tx 3 (by omega) (by omega) (by omega)]; exact i3
    · rw [wr_same, tx 4 (by omega) (by omega) (by omega), eN 3 (by omega) (by omega) (by omega) (by omega)]; exact i4
    · rw [wr_same, t7]
    · rw [wr_same, tx 8 (by omega) (by omega) (by omega), eN 8 (by omega) (by omega) (by omega) (by omega)]; exact i8
    · rw [wr_same, tx 6 (by omega) (by omega) (by omega)]; exact r6
    · rw [eN 8 (by omega) (by omega) (by omega) (by omega)]; exact h8
    · rw [wr_same, tx 12 (by omega) (by omega) (by omega)]; exact r12
    · rw [est, sN_ne (by omega), sN_eq]
    · rw [wr_same, t10]
    · rw [wr_same, t11]
/-- a bit of a byte of a write -/
theorem st_3 {w : Wd} {N : Nat → Int32} {P : MP} {b k n : Nat} {I : MI} {L : ML} (ht : BT w b) (h : BC b N I L P k n 3) : SG w b N I L P k n := by
  have t0 := ht.1
  obtain ⟨⟨hk0, hk, h1, i1⟩, ⟨hn, h2, i3⟩, i4, h4, i7, i8, hq, hs, hl, hu, hi, ho, r6, h5, hbf, h14, r9, r12, j, lv, hj, h6, r10, r11, hv⟩ := h
  have c4 := cl_of h4 (by omega)
  have hdn := BF_dn hbf
  have hd : nI 0 = 0 → dnOk N := fun _ => hdn
  obtain ⟨dn, hdn4, hdn7⟩ := hdn
  obtain ⟨J, Q, a1, a2, a3, a4, a5⟩ := cl_sendBits ht hq hk0 hk I L i1 i4 i7 hs hi (nI 0) ⟨r10.trans h6.symm, Or.inr ⟨rfl, r6, dn, hdn4, r12.trans hdn7, hdn7⟩⟩ hd
  have hlv : ∃ bt, bt < 2 ∧ lvl N (nI 0) = nI bt := by
    rcases lvl_01 N (nI 0) with e | e
    · exact ⟨0, by omega, e⟩
    · exact ⟨1, by omega, e⟩
  obtain ⟨bt, hbt, hb⟩ := hlv
  have j6 : J b 6 = nI 4 := by rw [a4, sN_ne (by omega)]; exact r6
  have j9 : J b 9 = nI 0 := by rw [a4, sN_ne (by omega)]; exact r9
  have j10 : J b 10 = nI j := by rw [a4, sN_ne (by omega)]; exact r10
  have j11 : J b 11 = nI lv := by rw [a4, sN_ne (by omega)]; exact r11
  have j12 : J b 12 = N 7 := by rw [a4, sN_ne (by omega)]; exact r12
  have est : stepN N = sN (sN (loseAll N (nI 0) (lvl N (nI 0))) 6 (nI (j + 1))) 4 (if nI (j + 1) ≠ nI 8 then nI 3 else nI 4) := by
    unfold stepN; rw [c4]
    change sN (bitOfN N (nI 0)) 4 (if bitOfN N (nI 0) 6 ≠ nI 8 then nI 3 else nI 4) = _
    rw [show bitOfN N (nI 0) = sN (loseAll N (nI 0) (lvl N (nI 0))) 6 (loseAll N (nI 0) (lvl N (nI 0)) 6 + nI 1) from rfl, sN_eq, loseAll_out (by omega) (by omega), h6, nI_add]
  have esv : stepV N = lvl N (nI 0) := by unfold stepV; rw [c4]; rfl
  have ek : slotKind N = nI 4 := by
    unfold slotKind
    rw [if_neg (by rw [h4]; decide), c4]; rfl
  have eM : ∀ x, x ≠ 4 → x ≠ 6 → stepN N x = loseAll N (nI 0) (lvl N (nI 0)) x := fun x g1 g2 => by rw [est, sN_ne g1, sN_ne g2]
  have eN : ∀ x, x < 207 ∨ 327 ≤ x → x ≠ 4 → x ≠ 5 → x ≠ 6 → stepN N x = N x := fun x g g1 g2 g3 => by rw [eM x g1 g3, loseAll_out g g2]
  have hiv : IV (stepN N) k := IV_N (IV_loseAll (h := nI 0) (lv := lvl N (nI 0)) hi) (eM 5 (by omega) (by omega)) (fun x g1 g2 => eM x (by omega) (by omega))
  have hvv := LV_bit hi hd hj h6 hv hb hbt eM
  have e5 : stepN N 5 ≠ nI 0 := by rw [eM 5 (by omega) (by omega)]; exact loseAll_5 hi hd h5
  have e7 : stepN N 7 = N 7 := eN 7 (by omega) (by omega) (by omega) (by omega)
  have e14 : stepN N 14 = N 14 := eN 14 (by omega) (by omega) (by omega) (by omega)
  have hbf' : BF (stepN N) n := by
    obtain ⟨⟨t, ht, h8⟩, g14, d, hd4, g7, hc⟩ := hbf
    refine ⟨⟨t, ht, by rw [eN 8 (by omega) (by omega) (by omega) (by omega)]; exact h8⟩, by rw [e14]; exact g14, d, hd4, e7.trans g7, ?_⟩
    intro c hc3 hcon
    have hcon' : conB (loseAll N (nI 0) (lvl N (nI 0))) (nI c) := (con_N (eM 5 (by omega) (by omega))).mp hcon
    have er := reg_loseAll hc3 hi.2.2 hcon'
    rw [eM (216 + 40 * c) (by omega) (by omega), eM (217 + 40 * c) (by omega) (by omega), er (216 + 40 * c) (by omega) (by omega), er (217 + 40 * c) (by omega) (by omega), e14]
    exact hc c hc3 ((con_loseAll hc3 hi.2.2 hd).mp hcon').1
  have hfs : Fs b I J L L P Q := Fs_trans (Fs_wr (X := J b)) (Fs_Fr a5)
  have ej : ∀ x, (x < b + 7 ∨ b + 28 ≤ x) → x ≠ b → J x = I x := fun x g g2 => by rw [(a5 x g).1, wr_ne _ _ g2]
  unfold SG
  rw [esv, ek, Bus_passSlot_0 _ _ _ _ _ _ _ t0, r6, if_pos (by decide), Bus_passSlot_19 _ _ _ _ _ _ _ t0, r6, Bus_passSlot_27_k4, Bus_passSlot_96 _ _ _ _ _ _ _ t0, r9, if_pos (by decide), Bus_passSlot_111 _ _ _ _ _ _ _ _ t0, a1]
  simp only [kC_ret, Option.toList, List.cons_append, List.nil_append, fix1_int, fix1_ref, fix1_unk, fix1_null, fix1_long]
  rw [Bus_passSlot_115 _ _ _ _ _ _ _ _ _ t0, cl_takeBitW ht _ _ _ j6 j9]
  simp only [kC_ret, Option.toList, List.cons_append, List.nil_append, fix1_int, fix1_ref, fix1_unk, fix1_null, fix1_long]
  rw [Bus_passSlot_118]
  simp only [kC_ret, Option.toList, List.cons_append, List.nil_append, fix1_int, fix1_ref, fix1_unk, fix1_null, fix1_long]
  have hcs : ∀ X, CS (stepN N) b (wr J b X) L Q := fun X => CS_5 a2 (fun x g1 g2 => eM x (by omega) (by omega)) (fun x g1 g2 => wr_ne _ _ (by omega))
  have hli : ∀ X, LiS (stepN N) b n (wr J b X) := fun X => LiS_N hn hl (fun x g1 g2 => eN x (by omega) (by omega) (by omega) (by omega)) (fun x g1 g2 => by rw [wr_ne _ _ (by omega)]; exact ej x (by omega) (by omega))
  have hlu : ∀ X, LU b n (wr J b X) := fun X => LU_I hu (fun x g1 g2 => by rw [wr_ne _ _ (by omega)]; exact ej x (by omega) (by omega))
  have hol : OL (stepN N) n := OL_N ho (fun x g1 g2 => eN x (by omega) (by omega) (by omega) (by omega))
  have t11 : tkB (J b) (lvl N (nI 0)) 11 = nI (2 * lv + bt) := by unfold tkB; rw [sN_ne (by omega), sN_eq, j11, hb, pk_mul, nI_add]
  have t10 : tkB (J b) (lvl N (nI 0)) 10 = nI (j + 1) := by unfold tkB; rw [sN_eq, j10, nI_add]
  have tx : ∀ x, x ≠ 10 → x ≠ 11 → x ≠ 7 → tkB (J b) (lvl N (nI 0)) x = I b x := fun x g1 g2 g3 => by unfold tkB; rw [sN_ne g1, sN_ne g2, a4, sN_ne g3]
  have t7 : tkB (J b) (lvl N (nI 0)) 7 = stepN N 5 := by unfold tkB; rw [sN_ne (by omega), sN_ne (by omega), a4, sN_eq, eM 5 (by omega) (by omega)]
  rw [j10, nI_add, j12]
  by_cases h7 : j = 7
  · subst h7
    rw [if_neg (by simp)]
    refine ⟨_, Q, 4, rfl, ?_, Fs_trans hfs Fs_wr⟩
    refine ⟨⟨hk0, hk, by rw [eN 1 (by omega) (by omega) (by omega) (by omega)]; exact h1, ?_⟩, ⟨hn, by rw [eN 2 (by omega) (by omega) (by omega) (by omega)]; exact h2, ?_⟩, ?_, by rw [est, sN_eq]; rfl, ?_, ?_, a3, hcs _, hli _, hlu _, hiv, hol, ?_, e5, hbf', e14.trans h14, ?_, ?_, 2 * lv + bt, ?_, hvv⟩
    · rw [wr_same, sN_ne (by omega), sN_ne (by omega), tx 1 (by omega) (by omega) (by omega)]; exact i1
    · rw [wr_same, sN_ne (by omega), sN_ne (by omega), tx 3 (by omega) (by omega) (by omega)]; exact i3
    · rw [wr_same, sN_ne (by omega), sN_ne (by omega), tx 4 (by omega) (by omega) (by omega), eN 3 (by omega) (by omega) (by omega) (by omega)]; exact i4
    · rw [wr_same, sN_ne (by omega), sN_ne (by omega), t7]
    · rw [wr_same, sN_ne (by omega), sN_ne (by omega), tx 8 (by omega) (by omega) (by omega), eN 8 (by omega) (by omega) (by omega) (by omega)]; exact i8
    · rw [wr_same, sN_ne (by omega), sN_eq]
    · rw [wr_same, sN_ne (by omega), sN_ne (by omega), tx 9 (by omega) (by omega) (by omega)]; exact r9
    · rw [wr_same, sN_eq, e7]
    · rw [wr_same, sN_ne (by omega), sN_ne (by omega), t11]
  · have hne : nI (j + 1) ≠ nI 8 := fun q => by rw [nI_eq (by omega) (by omega)] at q; omega
    rw [if_pos hne]
    refine ⟨_, Q, 3, rfl, ?_, Fs_trans hfs Fs_wr⟩
    refine ⟨⟨hk0, hk, by rw [eN 1 (by omega) (by omega) (by omega) (by omega)]; exact h1, ?_⟩, ⟨hn, by rw [eN 2 (by omega) (by omega) (by omega) (by omega)]; exact h2, ?_⟩, ?_, by rw [est, sN_eq, if_pos hne], ?_, ?_, a3, hcs _, hli _, hlu _, hiv, hol, ?_, e5, hbf', e14.trans h14, ?_, ?_, j + 1, 2 * lv + bt, by omega, ?_, ?_, ?_, hvv⟩
    · rw [wr_same, tx 1 (by omega) (by omega) (by omega)]; exact i1
    · rw [wr_same, tx 3 (by omega) (by omega) (by omega)]; exact i3
    · rw [wr_same, tx 4 (by omega) (by omega) (by omega), eN 3 (by omega) (by omega) (by omega) (by omega)]; exact i4
    · rw [wr_same, t7]
    · rw [wr_same, tx 8 (by omega) (by omega) (by omega), eN 8 (by omega) (by omega) (by omega) (by omega)]; exact i8
    · rw [wr_same, tx 6 (by omega) (by omega) (by omega)]; exact r6
    · rw [wr_same, tx 9 (by omega) (by omega) (by omega)]; exact r9
    · rw [wr_same, tx 12 (by omega) (by omega) (by omega), e7]; exact r12
    · rw [est, sN_ne (by omega), sN_eq]
    · rw [wr_same, t10]
    · rw [wr_same, t11]
