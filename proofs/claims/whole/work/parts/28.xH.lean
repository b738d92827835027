/-! calls: finish, slotsToFinish, delivers -/
theorem GN_1 {N : Nat → Int32} {q : Nat} (h : GN N q) (hq : q < 2147483648) : slotN N 1 = N 1 := by
  have h' := h
  obtain ⟨ho, h0⟩ := GN_ok h
  obtain ⟨w, b, I, L, P, ht, ⟨k, n, md, hbc⟩, -⟩ := h'
  obtain ⟨J, Q, md', -, a2, -⟩ := st_all ht hbc
  rw [slotN_out ho h0 hq (by omega) (by omega), a2.1.2.2.1, hbc.1.2.2.1]
theorem GN_1s {N : Nat → Int32} {q : Nat} (h : GN N q) : ∀ f, q + f < 2147483648 → slotsN N f 1 = N 1 := by
  intro f
  induction f with
  | zero => intro _; rfl
  | succ f ih =>
    intro hf
    rw [← ih (by omega)]
    exact GN_1 (GN_slots h f (by omega)) (by omega)
section
variable {B : Nat} {w : Wd} {I : MI} {L : ML} {P : MP} {N : Nat → Int32} {st : Nat} {Ks : Nat → Nat → Int32} {len : Nat} {tx : Nat → Nat} {T : Nat}
/-- the trial bus alone has changed -/
theorem CW_tri {J : MI} {K : ML} {Q : MP} (h : CW B w I L P N st Ks len tx T) (f : Fr (B + 41) (B + 81) I J L K P Q) (hs : BS (B + 41) Q) : CW B w J K Q N st Ks len tx T := by
  obtain ⟨h1, ⟨r, ⟨p0, p1, p2, p3, p5, p6, p7, p8, p9⟩, h2, h3⟩, h4, ⟨q, h5, h6⟩, -, h8, h9, h10, h11, h12⟩ := h
  refine ⟨h1, ⟨r, ⟨?_, ?_, ?_, ?_, ?_, ?_, ?_, p8, p9⟩, ?_, ?_⟩, h4, ⟨q, h5, BR_fr h6 (fun x g1 g2 => f x (by omega))⟩, hs, BR_fr h8 (fun x g1 g2 => f x (by omega)), fun i hi => BS_fr (h9 i hi) (fun x g1 g2 => (f x (by omega)).2.2), h10, ?_, ?_⟩
  · rw [(f B (by omega)).2.2]; exact p0
  · rw [(f B (by omega)).2.2]; exact p1
  · rw [(f B (by omega)).2.2]; exact p2
  · rw [(f B (by omega)).2.2]; exact p3
  · rw [(f B (by omega)).2.2]; exact p5
  · rw [(f (B + 122) (by omega)).2.2]; exact p6
  · intro i hi; rw [(f (B + 121) (by omega)).2.2]; exact p7 i hi
  · rw [(f B (by omega)).1]; exact h2
  · intro i hi
    obtain ⟨q, g1, g2⟩ := h3 i hi
    exact ⟨q, g1, BR_fr g2 (fun x z1 z2 => f x (by omega))⟩
  · rw [(f (B + 122) (by omega)).1]; exact h11
  · intro j hj; rw [(f (B + 123) (by omega)).1]; exact h12 j hj
theorem cl_trial (h : CW B w I L P N st Ks len tx T) (hT : T < 2147000000) {q f : Nat} (h0 : N 0 = nI q) (hq : q + f < 2147483647) (hf9 : f < 1000000) (hf : doneN (slotsN N f)) (hn : ∀ j, j < f → ¬ doneN (slotsN N j)) : ∃ J K Q, call 115 [.ref B] w I L P = some (.inl (some (.int (nI f))), w, J, K, Q) ∧ CW B w J K Q N st Ks len tx T ∧ BR (B + 41) (slotsN N f) J K Q (q + f) ∧ Fr (B + 41) (B + 81) I J L K P Q := by
  have h' := h
  obtain ⟨hw, ⟨r, hp, -⟩, -, ⟨q', hq', hbr⟩, hbs, -⟩ := h'
  have t0 := hw.1
  have tt : BT w (B + 41) := hw.2.1 1 (by omega)
  have tb : BT w (B + 1) := hw.2.1 0 (by omega)
  have eq : q' = q := by
    have := hbr.2.1
    rw [h0, nI_eq (by omega) (by omega)] at this
    exact this.symm
  subst eq
  obtain ⟨J, K, c1, c2, c3⟩ := cl_copyB tb tt (by omega) hbs hbr
  obtain ⟨J2, Q2, d1, d2, d3⟩ := cl_rest tt c2 hq hf9 hf hn
  have fr : Fr (B + 41) (B + 81) I J2 L K P Q2 := Fr_trans c3 d3
  refine ⟨J2, K, Q2, ?_, CW_tri h fr (BR_BS d2), d2, fr⟩
  rw [Two_runTrial_E, Two_runTrial_0 _ _ _ _ _ t0, hp.2.1, rf_some, Two_runTrial_4 _ _ _ _ _ _ t0, hp.1, rf_some, Two_runTrial_8_1 _ _ _ _ _ _ _ tt.1, c1]
  simp only [kC_ret, Option.toList, List.cons_append, List.nil_append, fix1_int, fix1_ref, fix1_unk, fix1_null, fix1_long]
  rw [Two_runTrial_11 _ _ _ _ _ t0, hp.2.1, rf_some, Two_runTrial_15 _ _ _ _ _ _ tt.1, d1]
  simp only [kC_ret, Option.toList, List.cons_append, List.nil_append, fix1_int, fix1_ref, fix1_unk, fix1_null, fix1_long]
  rw [Two_runTrial_18]
theorem sc_finish (h : CW B w I L P N st Ks len tx T) (hT : T < 2147000000) : SC B w I L P N st Ks len tx (T + 4000) (fun _ => 0) (call 89 [.ref B] w I L P) (fun w1 J K Q => call 173 [.ref (B + 284)] w1 J K Q) := by
  obtain ⟨hw, p0, tb, hst, -⟩ := CW_bc h
  obtain ⟨q, hqT, hg, h0⟩ := CW_GN h
  obtain ⟨f, hf1, hf2, hf3⟩ := fin_ex hg (by omega)
  have t0 := hw.1
  left
  refine ⟨nI f, slotsN N f, svS st, svK st Ks N, len, tx, ?_, ?_⟩
  · obtain ⟨J, K, Q, a1, a2, a3⟩ := cl_save h
    have a2' := a2
    obtain ⟨-, ⟨r, hp', -⟩, -, ⟨q', hq', hbr'⟩, -⟩ := a2'
    have eq : q' = q := by
      have := hbr'.2.1
      rw [h0, nI_eq (by omega) (by omega)] at this
      exact this.symm
    subst eq
    obtain ⟨J2, Q2, b1, b2, b3⟩ := cl_rest tb hbr' (by omega) (by omega) hf2 hf3
    have f2 : Fr (B + 1) (B + 41) J J2 K K Q Q2 := b3
    refine ⟨J2, K, Q2, ?_, CW_bus a2 f2 (by omega) (by omega) b2, Fr_trans (FvS_Fr a3) (Fr_B f2)⟩
    rw [Two_finish_E, Two_finish_0 _ _ _ _ _ t0, a1]
    simp only [kC_ret, Option.toList, List.cons_append, List.nil_append, fix1_int, fix1_ref, fix1_unk, fix1_null, fix1_long]
    rw [Two_finish_4 _ _ _ _ _ t0, hp'.1, rf_some, Two_finish_8 _ _ _ _ _ _ tb.1, b1]
    simp only [kC_ret, Option.toList, List.cons_append, List.nil_append, fix1_int, fix1_ref, fix1_unk, fix1_null, fix1_long]
    rw [Two_finish_11]
  · intro w1 J K Q hm
    obtain ⟨J1, J2, c1, c2, c3, c4⟩ := mw_as (L := K) hm hst
    obtain ⟨⟨w71, wd1, -⟩, ⟨p01, -⟩, m3, -⟩ := hm
    have e85 : J2 (B + 285) = N := c3.2.2.1
    have e := mo_fin w71 wd1 p01 (q := q) (f := f) J2 K (by rw [e85]; exact hg) (by omega) (by rw [e85]; exact hf2) (by rw [e85]; exact hf3)
    rw [e85] at e
    have c5 := MW_now c3 (slotsN N f)
    obtain ⟨J3, K3, d1, d2, d3, d4⟩ := mw_well (L := K) c5 (nI f)
    refine ⟨_, fun _ _ => rfl, J3, K3, ?_, d2, d3, Fr_trans (Fr_trans c4 Fr_now) d4⟩
    dsimp only
    rw [Model_finish_E, Model_finish_0 _ _ _ _ _ w71, c1]
    simp only [kC_ret, Option.toList, List.cons_append, List.nil_append, fix1_int, fix1_ref, fix1_unk, fix1_null, fix1_long]
    rw [Model_finish_4 _ _ _ _ _ w71, c2]
    simp only [kC_ret, Option.toList, List.cons_append, List.nil_append, fix1_int, fix1_ref, fix1_unk, fix1_null, fix1_long]
    rw [Model_finish_8 _ _ _ _ _ w71, e]
    simp only [kC_ret, Option.toList, List.cons_append, List.nil_append, fix1_int, fix1_ref, fix1_unk, fix1_null, fix1_long]
    rw [Model_finish_13 _ _ _ _ _ _ _ w71, d1]
    simp only [kC_ret, Option.toList, List.cons_append, List.nil_append, fix1_int, fix1_ref, fix1_unk, fix1_null, fix1_long]
    rw [Model_finish_16]
/-- what would be: the model lays its row back -/
theorem mw_would (hm : MW B w I P N st Ks len tx) {q f : Nat} (hg : GN N q) (hq : q + f < 2147483647) (hf : doneN (slotsN N f)) (hn : ∀ j, j < f → ¬ doneN (slotsN N j)) : ∃ J1 J2 M, call 134 [.ref (B + 284)] w I L P = some (.inl none, w, J1, L, P) ∧ J1 (B + 285) = N ∧ call 159 [.ref (B + 284)] w J1 L P = some (.inl (some (.int (nI f))), w, wr J1 (B + 285) (slotsN N f), L, P) ∧ call 135 [.ref (B + 284)] w (wr J1 (B + 285) (slotsN N f)) L P = some (.inl none, w, J2, L, P) ∧ MW B w J2 P M st Ks len tx ∧ (∀ j, j < 459 → M j = N j) ∧ Fr (B + 284) (B + 289) I J2 L L P P := by
  obtain ⟨J1, c1, c2, c3, c4, c5⟩ := mw_asides (L := L) hm
  have c2' := c2
  obtain ⟨⟨w71, wd1, -⟩, ⟨p01, -⟩, m3, -⟩ := c2'
  have e := mo_fin w71 wd1 p01 (q := q) (f := f) J1 L (by rw [m3]; exact hg) hq (by rw [m3]; exact hf) (by rw [m3]; exact hn)
  rw [m3] at e
  obtain ⟨J2, M, d1, d2, d3, d4, d5⟩ := mw_backs (L := L) (A := N) (MW_now c2 (slotsN N f)) (fun j hj => by rw [wr_ne _ _ (by omega)]; exact c3 j hj)
  exact ⟨J1, J2, M, c1, m3, e, d1, d2, d3, Fr_trans (Fr_trans c5 Fr_now) d5⟩
theorem mo_would (hm : MW B w I P N st Ks len tx) {q f : Nat} (hg : GN N q) (hq : q + f < 2147483647) (hf : doneN (slotsN N f)) (hn : ∀ j, j < f → ¬ doneN (slotsN N j)) : ∃ J2 M, call 184 [.ref (B + 284)] w I L P = some (.inl (some (.int (nI f))), w, J2, L, P) ∧ MW B w J2 P M st Ks len tx ∧ (∀ j, j < 459 → M j = N j) ∧ Fr (B + 284) (B + 289) I J2 L L P P := by
  obtain ⟨J1, J2, M, c1, -, c2, c3, c4, c5, c6⟩ := mw_would (L := L) hm hg hq hf hn
  have w71 := hm.1.1
  refine ⟨J2, M, ?_, c4, c5, c6⟩
  rw [Model_wouldTake_E, Model_wouldTake_0 _ _ _ _ _ _ w71, c1]
  simp only [kC_ret, Option.toList, List.cons_append, List.nil_append, fix1_int, fix1_ref, fix1_unk, fix1_null, fix1_long]
  rw [Model_wouldTake_4 _ _ _ _ _ _ w71, c2]
  simp only [kC_ret, Option.toList, List.cons_append, List.nil_append, fix1_int, fix1_ref, fix1_unk, fix1_null, fix1_long]
  rw [Model_wouldTake_8 _ _ _ _ _ _ _ w71, c3]
  simp only [kC_ret, Option.toList, List.cons_append, List.nil_append, fix1_int, fix1_ref, fix1_unk, fix1_null, fix1_long]
  rw [Model_wouldTake_13]
theorem sc_slotsToFinish (h : CW B w I L P N st Ks len tx T) (hT : T < 2147000000) : SC B w I L P N st Ks len tx T (fun _ => 0) (call 96 [.ref B] w I L P) (fun w1 J K Q => call 185 [.ref (B + 284)] w1 J K Q) := by
  obtain ⟨hw, p0, tb, hst, -⟩ := CW_bc h
  obtain ⟨q, hqT, hg, h0⟩ := CW_GN h
  obtain ⟨f, hf1, hf2, hf3⟩ := fin_ex hg (by omega)
  have t0 := hw.1
  left
  refine ⟨nI f, N, st, Ks, len, tx, ?_, ?_⟩
  · obtain ⟨J, K, Q, a1, a2, -, a4⟩ := cl_trial h hT h0 (by omega) (by omega) hf2 hf3
    refine ⟨J, K, Q, ?_, a2, Fr_mono a4 (by omega) (by omega)⟩
    rw [Two_slotsToFinish_E, Two_slotsToFinish_0 _ _ _ _ _ t0, a1]
    simp only [kC_ret, Option.toList, List.cons_append, List.nil_append, fix1_int, fix1_ref, fix1_unk, fix1_null, fix1_long]
    rw [Two_slotsToFinish_4]
  · intro w1 J K Q hm
    obtain ⟨J2, M, c1, c2, c3, c4⟩ := mo_would (L := K) hm hg (by omega) hf2 hf3
    obtain ⟨J3, K3, d1, d2, d3, d4⟩ := mw_well (L := K) c2 (nI f)
    refine ⟨M, c3, J3, K3, ?_, d2, d3, Fr_trans c4 d4⟩
    dsimp only
    rw [Model_slotsToFinish_E, Model_slotsToFinish_0 _ _ _ _ _ hm.1.1, c1]
    simp only [kC_ret, Option.toList, List.cons_append, List.nil_append, fix1_int, fix1_ref, fix1_unk, fix1_null, fix1_long]
    rw [Model_slotsToFinish_5 _ _ _ _ _ _ _ hm.1.1, d1]
    simp only [kC_ret, Option.toList, List.cons_append, List.nil_append, fix1_int, fix1_ref, fix1_unk, fix1_null, fix1_long]
    rw [Model_slotsToFinish_8]
theorem sc_delivers (h : CW B w I L P N st Ks len tx T) (hT : T < 2147000000) (x : Int32) : SC B w I L P N st Ks len tx T (fun e => if e = 2 then 1 else 0) (call 99 [.ref B, .int x] w I L P) (fun w1 J K Q => call 189 [.ref (B + 284), .int x] w1 J K Q) := by
  obtain ⟨hw, p0, tb, hst, q0, k, n, md, hq, hbc, hlg⟩ := CW_bc h
  obtain ⟨q, hqT, hg, h0⟩ := CW_GN h
  obtain ⟨f, hf1, hf2, hf3⟩ := fin_ex hg (by omega)
  have t0 := hw.1
  have tt : BT w (B + 41) := hw.2.1 1 (by omega)
  have hbc' := hbc
  obtain ⟨⟨hk0, hk, h1, i1⟩, -, -, -, i7, -, hbq, -⟩ := hbc'
  obtain ⟨co1, co2⟩ := cl_cOT hw p0 hbq hk I L i1
  rcases cl_ix x (n := k) (by omega) with ⟨c, hck, rfl⟩ | ⟨hx, hx2⟩
  · have tc := (tb.2.2.2.2.2.1 c (by omega)).1
    have tc2 := (tt.2.2.2.2.2.1 c (by omega)).1
    left
    refine ⟨slotsN N f (207 + 40 * c + 1) - N (207 + 40 * c + 1), N, st, Ks, len, tx, ?_, ?_⟩
    · obtain ⟨J, K, Q, a1, a2, a3, a4⟩ := cl_trial h hT h0 (by omega) (by omega) hf2 hf3
      obtain ⟨⟨k', n', md', hbc2⟩, -⟩ := a3
      have hbc2' := hbc2
      obtain ⟨⟨-, hk', h1', i1'⟩, -, -, -, -, -, hbq', -⟩ := hbc2'
      have ek : k' = k := by
        rw [GN_1s hg f (by omega), h1, nI_eq (by omega) (by omega)] at h1'
        exact h1'.symm
      subst ek
      have pT : Q B 1 = some (B + 41) := by
        obtain ⟨-, ⟨r, hp', -⟩, -⟩ := a2
        exact hp'.2.1
      refine ⟨J, K, Q, ?_, a2, Fr_mono a4 (by omega) (by omega)⟩
      rw [Two_delivers_E, Two_delivers_0 _ _ _ _ _ _ _ _ t0, co1 c hck]
      simp only [kC_ret, Option.toList, List.cons_append, List.nil_append, fix1_int, fix1_ref, fix1_unk, fix1_null, fix1_long]
      rw [Two_delivers_5 _ _ _ _ _ _ _ _ _ tc, cl_ctell tb hbc (by omega) (v := 1) (by omega)]
      simp only [kC_ret, Option.toList, List.cons_append, List.nil_append, fix1_int, fix1_ref, fix1_unk, fix1_null, fix1_long]
      rw [Two_delivers_9 _ _ _ _ _ _ _ _ _ t0, a1]
      simp only [kC_ret, Option.toList, List.cons_append, List.nil_append, fix1_int, fix1_ref, fix1_unk, fix1_null, fix1_long]
      rw [Two_delivers_14 _ _ _ _ _ _ _ _ _ t0, pT, rf_some, Two_delivers_19 _ _ _ _ _ _ _ _ _ tt.1]
      simp only [kC_ret, Option.toList, List.cons_append, List.nil_append, fix1_int, fix1_ref, fix1_unk, fix1_null, fix1_long]
      rw [cl_callerAt tt hbq' hk' hck J K i1']
      simp only [kC_ret, Option.toList, List.cons_append, List.nil_append, fix1_int, fix1_ref, fix1_unk, fix1_null, fix1_long]
      rw [Two_delivers_23_1, fix1_int, Two_delivers_32 _ _ _ _ _ _ _ _ tc2, cl_ctell tt hbc2 (by omega) (v := 1) (by omega)]
      simp only [kC_ret, Option.toList, List.cons_append, List.nil_append, fix1_int, fix1_ref, fix1_unk, fix1_null, fix1_long]
      rw [Two_delivers_37, Two_delivers_39]
    · intro w1 J K Q hm
      obtain ⟨J1, J2, M, c1, c0, c2, c3, c4, c5, c6⟩ := mw_would (L := K) hm hg (by omega) hf2 hf3
      obtain ⟨J3, K3, d1, d2, d3, d4⟩ := mw_well (L := K) c4 (slotsN N f (207 + 40 * c + 1) - N (207 + 40 * c + 1))
      obtain ⟨⟨w71, wd1, -⟩, ⟨p01, -⟩, m3, -⟩ := hm
      refine ⟨M, c5, J3, K3, ?_, d2, d3, Fr_trans c6 d4⟩
      dsimp only
      rw [Model_delivers_E, Model_delivers_0 _ _ _ _ _ _ _ _ w71, mo_isCaller w71 wd1 p01, m3, h1, if_pos ((mo_ix (by omega)).mpr ⟨c, hck, rfl⟩)]
      simp only [kC_ret, Option.toList, List.cons_append, List.nil_append, fix1_int, fix1_ref, fix1_unk, fix1_null, fix1_long]
      rw [Model_delivers_5, if_pos n10, Model_delivers_14 _ _ _ _ _ _ _ _ w71, c1]
      simp only [kC_ret, Option.toList, List.cons_append, List.nil_append, fix1_int, fix1_ref, fix1_unk, fix1_null, fix1_long]
      rw [Model_delivers_18 _ _ _ _ _ _ _ _ w71, mo_of w71 wd1 p01 (c := c) (k := 1) (by omega), c0]
      simp only [kC_ret, Option.toList, List.cons_append, List.nil_append, fix1_int, fix1_ref, fix1_unk, fix1_null, fix1_long]
      rw [Model_delivers_24 _ _ _ _ _ _ _ _ _ w71, c2]
      simp only [kC_ret, Option.toList, List.cons_append, List.nil_append, fix1_int, fix1_ref, fix1_unk, fix1_null, fix1_long]
      rw [Model_delivers_29 _ _ _ _ _ _ _ _ _ w71, mo_of w71 wd1 p01 (c := c) (k := 1) (by omega), wr_same]
      simp only [kC_ret, Option.toList, List.cons_append, List.nil_append, fix1_int, fix1_ref, fix1_unk, fix1_null, fix1_long]
      rw [Model_delivers_36 _ _ _ _ _ _ _ _ _ w71, c3]
      simp only [kC_ret, Option.toList, List.cons_append, List.nil_append, fix1_int, fix1_ref, fix1_unk, fix1_null, fix1_long]
      rw [Model_delivers_41 _ _ _ _ _ _ _ _ w71, d1]
      simp only [kC_ret, Option.toList, List.cons_append, List.nil_append, fix1_int, fix1_ref, fix1_unk, fix1_null, fix1_long]
      rw [Model_delivers_48]
  · refine SC_fail (e := 2) (c := 1) ?_ rfl (by omega) (by omega) ?_
    · rw [Two_delivers_E, Two_delivers_0 _ _ _ _ _ _ _ _ t0, co2 x hx2, kC_thr]
    · intro w1 J K Q hm
      obtain ⟨J3, K3, d1⟩ := mw_failsE (L := K) hm 1
      obtain ⟨⟨w71, wd1, -⟩, ⟨p01, -⟩, m3, -⟩ := hm
      rw [Model_delivers_E, Model_delivers_0 _ _ _ _ _ _ _ _ w71, mo_isCaller w71 wd1 p01, m3, h1, if_neg (fun z => hx ((mo_ix (by omega)).mp z))]
      simp only [kC_ret, Option.toList, List.cons_append, List.nil_append, fix1_int, fix1_ref, fix1_unk, fix1_null, fix1_long]
      rw [Model_delivers_5, if_neg (by simp [n00]), Model_delivers_8 _ _ _ _ _ _ _ _ w71, d1]
      simp only [kC_ret, Option.toList, List.cons_append, List.nil_append, fix1_int, fix1_ref, fix1_unk, fix1_null, fix1_long]
      rw [Model_delivers_13]
end
