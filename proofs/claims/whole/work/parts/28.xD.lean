/-! calls: cancel, pass, finish -/
theorem mo_passesF (x : Int32) (hx : ¬ RG x 1 200) (mo : Nat) (w : Wd) (I : MI) (L : ML) (P : MP) : call 162 [.ref mo, .int x] w I L P = some (.inl (some (.int (nI 1))), w, I, L, P) := by
  rw [Model_passes_E, Model_passes_0, mo_rg x 1 200 1 200 l1_i l200_i, if_neg hx]
  simp only [kC_ret, Option.toList, List.cons_append, List.nil_append, fix1_int, fix1_ref, fix1_unk, fix1_null, fix1_long]
  rw [Model_passes_9, if_neg (by simp [n00]), Model_passes_12]
theorem mo_slotG {w : Wd} {P : MP} {mo d : Nat} (h7 : w.1 mo = some (7, 0)) (hd : w.1 d = some (8, 459)) (p0 : P mo 0 = some d) {q : Nat} (I : MI) (L : ML) (h : GN (I d) q) (hq : q < 2147483648) : call 157 [.ref mo] w I L P = some (.inl none, w, wr I d (slotN (I d)), L, P) := by
  obtain ⟨ho, h0⟩ := GN_ok h
  exact mo_slot h7 hd p0 I L ho hq (by rw [step_out ho (by omega), if_neg (by omega)]; exact h0)
theorem mo_passes {w : Wd} {P : MP} {mo d : Nat} (h7 : w.1 mo = some (7, 0)) (hd : w.1 d = some (8, 459)) (p0 : P mo 0 = some d) {q f : Nat} (hmd : mo ≠ d) (I : MI) (L : ML) (h : GN (I d) q) (hq : q + f < 2147483647) (hf1 : 1 ≤ f) (hf2 : f ≤ 200) : call 162 [.ref mo, .int (nI f)] w I L P = some (.inl (some (.int (nI 0))), w, wr (wr I d (slotsN (I d) f)) mo (sN (I mo) 7 (slotsN (I d) f 0)), L, P) := by
  have loop : ∀ g j, j + g = f → go 162 16 [.ref mo, .int (nI f), .int (nI j)] [] w (wr I d (slotsN (I d) j)) L P = go 162 31 [.ref mo, .int (nI f), .int (nI f)] [] w (wr I d (slotsN (I d) f)) L P := by
    intro g
    induction g with
    | zero =>
      intro j hj
      have : j = f := by omega
      subst this
      rw [Model_passes_16, if_pos (nI_le (by omega) (by omega))]
    | succ g ih =>
      intro j hj
      rw [Model_passes_16, if_neg (nI_ge (by omega) (by omega)), Model_passes_21 _ _ _ _ _ _ _ h7, mo_slotG h7 hd p0 (q := q + j) _ L (by rw [wr_same]; exact GN_slots h j (by omega)) (by omega)]
      simp only [kC_ret, Option.toList, List.cons_append, List.nil_append, fix1_int, fix1_ref, fix1_unk, fix1_null, fix1_long]
      rw [Model_passes_25, nI_add, wr_wr, wr_same, fix1_int]
      exact ih (j + 1) (by omega)
  have l0 := loop f 0 (by omega)
  rw [show slotsN (I d) 0 = I d from rfl, wr_id] at l0
  rw [Model_passes_E, Model_passes_0, mo_rg (nI f) 1 200 1 200 l1_i l200_i, if_pos ⟨nI_le hf1 (by omega), nI_le hf2 (by omega)⟩]
  simp only [kC_ret, Option.toList, List.cons_append, List.nil_append, fix1_int, fix1_ref, fix1_unk, fix1_null, fix1_long]
  rw [Model_passes_9, if_pos n10, Model_passes_14, fix1_int, l0, Model_passes_31 _ _ _ _ _ _ _ h7, p0, rf_some, Model_passes_36 _ _ _ _ _ _ _ _ _ (inA_nI hd (by omega) (by omega)) h7, cl_nI (by omega), updI_wr, wr_same, wr_ne _ _ hmd]
section
variable {B : Nat} {w : Wd} {I : MI} {L : ML} {P : MP} {N : Nat → Int32} {st : Nat} {Ks : Nat → Nat → Int32} {len : Nat} {tx : Nat → Nat} {T : Nat}
theorem CW_GN (h : CW B w I L P N st Ks len tx T) : ∃ q, q ≤ T ∧ GN N q ∧ N 0 = nI q := by
  obtain ⟨hw, -, -, ⟨q, hq, hb⟩, -⟩ := h
  exact ⟨q, hq, ⟨w, B + 1, I, L, P, hw.2.1 0 (by omega), hb⟩, hb.2.1⟩
theorem sc_pass (h : CW B w I L P N st Ks len tx T) (hT : T < 2147000000) (x : Int32) : SC B w I L P N st Ks len tx (T + 4000) (fun e => if e = 0 then 1 else 0) (call 88 [.ref B, .int x] w I L P) (fun w1 J K Q => call 172 [.ref (B + 284), .int x] w1 J K Q) := by
  obtain ⟨hw, p0, tb, hst, -⟩ := CW_bc h
  obtain ⟨q, hqT, hg, h0⟩ := CW_GN h
  have t0 := hw.1
  by_cases hx : RG x 1 200
  · left
    obtain ⟨f, hf1, hf2, rfl⟩ := RG_ex (by omega) (by omega) hx
    obtain ⟨hgo, hgq⟩ := GN_ok (GN_slots hg f (by omega))
    refine ⟨slotsN N f 0, slotsN N f, svS st, svK st Ks N, len, tx, ?_, ?_⟩
    · obtain ⟨J, K, Q, a1, a2, a3⟩ := cl_save h
      have a2' := a2
      obtain ⟨-, ⟨r, hp', -⟩, -, ⟨q', hq', hbr'⟩, -⟩ := a2'
      have eq : q' = q := by
        have := hbr'.2.1
        rw [h0, nI_eq (by omega) (by omega)] at this
        exact this.symm
      subst eq
      obtain ⟨J2, Q2, b1, b2, b3⟩ := cl_slots (f := f) tb hbr' (by omega)
      have hbq2 := BR_BS b2
      have f2 : Fr (B + 1) (B + 41) J J2 K K Q Q2 := b3
      have hB : Q2 B 0 = some (B + 1) := by rw [(b3 B (by omega)).2.2]; exact hp'.1
      refine ⟨J2, K, Q2, ?_, CW_bus a2 f2 (by omega) (by omega) b2, Fr_trans (FvS_Fr a3) (Fr_B f2)⟩
      rw [Two_pass_E, Two_pass_0, cl_range, if_pos hx]
      simp only [kC_ret, Option.toList, List.cons_append, List.nil_append, fix1_int, fix1_ref, fix1_unk, fix1_null, fix1_long]
      rw [Two_pass_8 _ _ _ _ _ _ t0, a1]
      simp only [kC_ret, Option.toList, List.cons_append, List.nil_append, fix1_int, fix1_ref, fix1_unk, fix1_null, fix1_long]
      rw [Two_pass_12 _ _ _ _ _ _ t0, hp'.1, rf_some, Two_pass_16 _ _ _ _ _ _ _ tb.1, b1]
      simp only [kC_ret, Option.toList, List.cons_append, List.nil_append, fix1_int, fix1_ref, fix1_unk, fix1_null, fix1_long]
      rw [Two_pass_20 _ _ _ _ _ _ t0, hB, rf_some, Two_pass_24 _ _ _ _ _ _ _ tb.1, hbq2.1.2.2.1, rf_some, Two_pass_27 _ _ _ _ _ _ _ tb.2.2.2.1, b2.2.2.1, ← b2.2.1]
    · intro w1 J K Q hm
      obtain ⟨J1, c1, c2, c3, c4, c5⟩ := mw_asides (L := K) hm
      have c2' := c2
      obtain ⟨⟨w71, wd1, -⟩, ⟨p01, -⟩, m3, -⟩ := c2'
      have e := mo_passes w71 wd1 p01 (q := q) (f := f) (by omega) J1 K (by rw [m3]; exact hg) (by omega) hf1 hf2
      rw [m3] at e
      have hm3 : MW B w1 (wr (wr J1 (B + 285) (slotsN N f)) (B + 284) (sN (J1 (B + 284)) 7 (slotsN N f 0))) Q (slotsN N f) st Ks len tx := by
        have := MW_set (MW_now c2 (slotsN N f)) (k := 7) (by omega) (slotsN N f 0)
        rw [wr_ne _ _ (show B + 284 ≠ B + 285 by omega)] at this
        exact this
      obtain ⟨J3, K3, g1, g2, g3, g4⟩ := mw_endsS (L := K) (A := N) (v := slotsN N f 0) hm3 hst (fun j hj => by rw [wr_ne _ _ (by omega), wr_ne _ _ (by omega)]; exact c3 j hj) (by rw [wr_same, sN_eq])
      refine ⟨_, fun _ _ => rfl, J3, K3, ?_, g2, g3, Fr_trans (Fr_trans c5 (fun v hv => ⟨by rw [wr_ne _ _ (by omega), wr_ne _ _ (by omega)], rfl, rfl⟩)) g4⟩
      dsimp only
      rw [Model_pass_E, Model_pass_0 _ _ _ _ _ _ w71, c1]
      simp only [kC_ret, Option.toList, List.cons_append, List.nil_append, fix1_int, fix1_ref, fix1_unk, fix1_null, fix1_long]
      rw [Model_pass_4 _ _ _ _ _ _ w71, e]
      simp only [kC_ret, Option.toList, List.cons_append, List.nil_append, fix1_int, fix1_ref, fix1_unk, fix1_null, fix1_long]
      rw [Model_pass_10 _ _ _ _ _ _ _ _ w71, g1]
      simp only [kC_ret, Option.toList, List.cons_append, List.nil_append, fix1_int, fix1_ref, fix1_unk, fix1_null, fix1_long]
      rw [Model_pass_13]
  · right
    refine ⟨0, nI 0, ?_, by decide, by decide, ?_⟩
    · rw [Two_pass_E, Two_pass_0, cl_range, if_neg hx, kC_thr]
    · intro w1 J K Q hm
      obtain ⟨J1, c1, c2, c3, c4, c5⟩ := mw_asides (L := K) hm
      obtain ⟨J3, K3, g1, g2, g3, g4⟩ := mw_endsF (L := K) c2 (c := 1) (by omega) (by omega)
      refine ⟨N, fun _ _ => rfl, J3, K3, ?_, g2, g3, Fr_trans c5 g4⟩
      dsimp only
      rw [Model_pass_E, Model_pass_0 _ _ _ _ _ _ hm.1.1, c1]
      simp only [kC_ret, Option.toList, List.cons_append, List.nil_append, fix1_int, fix1_ref, fix1_unk, fix1_null, fix1_long]
      rw [Model_pass_4 _ _ _ _ _ _ hm.1.1, mo_passesF x hx]
      simp only [kC_ret, Option.toList, List.cons_append, List.nil_append, fix1_int, fix1_ref, fix1_unk, fix1_null, fix1_long]
      rw [Model_pass_10 _ _ _ _ _ _ _ _ hm.1.1, g1]
      simp only [kC_ret, Option.toList, List.cons_append, List.nil_append, fix1_int, fix1_ref, fix1_unk, fix1_null, fix1_long]
      rw [Model_pass_13]
theorem sc_cancel (h : CW B w I L P N st Ks len tx T) (x : Int32) : SC B w I L P N st Ks len tx T (fun e => if e = 1 then 2 else if e = 2 then 1 else 0) (call 87 [.ref B, .int x] w I L P) (fun w1 J K Q => call 171 [.ref (B + 284), .int x] w1 J K Q) := by
  obtain ⟨hw, p0, tb, hst, q, k, n, md, hq, hbc, hlg⟩ := CW_bc h
  have t0 := hw.1
  have hbc' := hbc
  obtain ⟨⟨hk0, hk, h1, i1⟩, -, -, -, i7, -, hbq, hcs, -, -, hi, -⟩ := hbc'
  obtain ⟨co1, co2⟩ := cl_cOT hw p0 hbq hk I L i1
  rcases cl_ix x (n := k) (by omega) with ⟨c, hck, rfl⟩ | ⟨hx, hx2⟩
  · have hc3 : c < 3 := by omega
    have tc := tb.2.2.2.2.2.1 c hc3
    obtain ⟨s, hs4, e0, -⟩ := hi.1 c hc3
    obtain ⟨qq, s', hp, g1, g2, g3, -⟩ := hcs c hc3
    have es : s' = s := by
      rw [e0, nI_eq (by omega) (by omega)] at g2
      exact g2.symm
    subst es
    -- how far both come
    have cc : call 87 [.ref B, .int (nI c)] w I L P = if s' = 0 ∨ (s' = 1 ∧ conB N (nI c)) then some (.inr 1, thrT w, I, L, P) else go 87 52 [.ref B, .int (nI c), .ref (B + 1 + 7 + 7 * c)] [] w I L P := by
      rw [Two_cancel_E, Two_cancel_0 _ _ _ _ _ _ _ t0, co1 c hck]
      simp only [kC_ret, Option.toList, List.cons_append, List.nil_append, fix1_int, fix1_ref, fix1_unk, fix1_null, fix1_long]
      rw [Two_cancel_5 _ _ _ _ _ _ _ _ tc.1, g3, fix1_int]
      by_cases z : s' = 0
      · rw [z, if_neg (by simp [n00]), Two_cancel_13, if_pos (Or.inl rfl)]
      · rw [if_pos (nI_ne0 (by omega) (by omega)), Two_cancel_23 _ _ _ _ _ _ _ tc.1, g3]
        by_cases z1 : s' = 1
        · rw [z1, if_neg (by simp), Two_cancel_31 _ _ _ _ _ _ _ t0, p0, rf_some, Two_cancel_35 _ _ _ _ _ _ _ _ tb.1, cl_contends tb, i7]
          simp only [kC_ret, Option.toList, List.cons_append, List.nil_append, fix1_int, fix1_ref, fix1_unk, fix1_null, fix1_long]
          rw [Two_cancel_39]
          by_cases z2 : conB N (nI c)
          · rw [if_pos (show conB' (N 5) (nI c) from z2), if_neg n10, Two_cancel_42, if_pos (Or.inr ⟨by first | trivial | rfl, z2⟩)]
          · rw [if_neg (show ¬ conB' (N 5) (nI c) from z2), if_pos n00, if_neg (by rintro (g | g); exact absurd g (by omega); exact z2 g.2)]
        · rw [if_pos (fun g => by rw [nI_eq (by omega) (by omega)] at g; exact z1 g), if_neg (by rintro (g | g); exact z g; exact z1 g.1)]
    have mc : ∀ w1 J K Q, MW B w1 J Q N st Ks len tx → call 171 [.ref (B + 284), .int (nI c)] w1 J K Q = if s' = 0 ∨ (s' = 1 ∧ conB N (nI c)) then go 171 38 [.ref (B + 284), .int (nI c), .int (nI s')] [] w1 J K Q else go 171 44 [.ref (B + 284), .int (nI c), .int (nI s')] [] w1 J K Q := by
      intro w1 J K Q hm
      obtain ⟨⟨w71, wd1, -⟩, ⟨p01, -⟩, m3, -⟩ := hm
      rw [Model_cancel_E, Model_cancel_0 _ _ _ _ _ _ _ w71, mo_isCaller w71 wd1 p01, m3, h1, if_pos ((mo_ix (by omega)).mpr ⟨c, hck, rfl⟩)]
      simp only [kC_ret, Option.toList, List.cons_append, List.nil_append, fix1_int, fix1_ref, fix1_unk, fix1_null, fix1_long]
      rw [Model_cancel_5, if_pos n10, Model_cancel_14 _ _ _ _ _ _ _ w71, mo_of w71 wd1 p01 (c := c) (k := 0) (by omega), Nat.add_zero (207 + 40 * c), m3, e0]
      simp only [kC_ret, Option.toList, List.cons_append, List.nil_append, fix1_int, fix1_ref, fix1_unk, fix1_null, fix1_long]
      rw [Model_cancel_20, fix1_int]
      by_cases z : s' = 0
      · rw [z, if_pos n00, if_pos (Or.inl rfl)]
      · rw [if_neg (nI_ne0 (by omega) (by omega)), Model_cancel_25]
        by_cases z1 : s' = 1
        · rw [z1, if_neg (by simp), Model_cancel_30 _ _ _ _ _ _ _ w71]
          by_cases z2 : conB N (nI c)
          · rw [mo_isContender1 w71 wd1 p01 _ _ _ (by rw [m3]; exact z2)]
            simp only [kC_ret, Option.toList, List.cons_append, List.nil_append, fix1_int, fix1_ref, fix1_unk, fix1_null, fix1_long]
            rw [Model_cancel_35, if_neg n10, if_pos (Or.inr ⟨by first | trivial | rfl, z2⟩)]
          · rw [mo_isContender0 w71 wd1 p01 _ _ _ (by rw [m3]; exact z2)]
            simp only [kC_ret, Option.toList, List.cons_append, List.nil_append, fix1_int, fix1_ref, fix1_unk, fix1_null, fix1_long]
            rw [Model_cancel_35, if_pos n00, if_neg (by rintro (g | g); exact absurd g (by omega); exact z2 g.2)]
        · rw [if_pos (fun g => by rw [nI_eq (by omega) (by omega)] at g; exact z1 g), if_neg (by rintro (g | g); exact z g; exact z1 g.1)]
    by_cases hf : s' = 0 ∨ (s' = 1 ∧ conB N (nI c))
    · right
      refine ⟨1, nI 0, by rw [cc, if_pos hf], by decide, by decide, ?_⟩
      intro w1 J K Q hm
      obtain ⟨J3, K3, d1, d2, d3, d4⟩ := mw_fails (L := K) hm 2
      refine ⟨N, fun _ _ => rfl, J3, K3, ?_, d2, d3, d4⟩
      dsimp only
      rw [mc w1 J K Q hm, if_pos hf, Model_cancel_38 _ _ _ _ _ _ _ hm.1.1, d1]
      simp only [kC_ret, Option.toList, List.cons_append, List.nil_append, fix1_int, fix1_ref, fix1_unk, fix1_null, fix1_long]
      rw [Model_cancel_43]
    · left
      obtain ⟨s, rfl⟩ : ∃ s, s' = s + 1 := ⟨s' - 1, by have : s' ≠ 0 := fun z => hf (Or.inl z); omega⟩
      refine ⟨N (215 + 40 * c + 8 * s), sN N (207 + 40 * c) (nI s), svS st, svK st Ks N, len, tx, ?_, ?_⟩
      · obtain ⟨J, K, Q, a1, a2, a3⟩ := cl_save h
        obtain ⟨-, p0', -, -, q', k', n', md', hq', hbc', hlg'⟩ := CW_bc a2
        have hbc'' := hbc'
        obtain ⟨⟨-, hk', h1', -⟩, -, -, -, -, -, -, hcs', -, -, hi', -⟩ := hbc''
        have ek : k' = k := by
          rw [h1, nI_eq (by omega) (by omega)] at h1'
          exact h1'.symm
        subst ek
        obtain ⟨qq', s2, hp', u1, u2, u3, u4, u5, u6, u7, u8⟩ := hcs' c hc3
        have es2 : s2 = s + 1 := by
          rw [e0, nI_eq (by omega) (by omega)] at u2
          exact u2.symm
        subst es2
        have hqs := hp'.2.2.2.1 s (by omega)
        have tm := tc.2.2.2 _ hqs
        have f : Fr (B + 1 + 7 + 7 * c) (B + 1 + 7 + 7 * c + 7) J (wr J (B + 1 + 7 + 7 * c) (sN (J (B + 1 + 7 + 7 * c)) 1 (nI s))) K K Q Q := fun z hz => ⟨wr_ne _ _ (by omega), rfl, rfl⟩
        have hbr : BR (B + 1) (sN N (207 + 40 * c) (nI s)) (wr J (B + 1 + 7 + 7 * c) (sN (J (B + 1 + 7 + 7 * c)) 1 (nI s))) K Q q' := by
          refine BR_cal hbc' hlg' hc3 (fun z hz => sN_ne (by omega)) f ⟨qq', s, hp', by omega, sN_eq, by rw [wr_same, sN_eq], ?_, ?_, ?_, ?_, ?_⟩ ?_ ?_
          · intro i hi0 hi5
            rw [wr_ne _ _ (by omega), sN_ne (by omega)]; exact u4 i hi0 hi5
          · rw [wr_same, sN_ne (by omega), sN_ne (by omega)]; exact u5
          · rw [wr_same, sN_ne (by omega), sN_ne (by omega)]; exact u6
          · rw [wr_same, sN_ne (by omega), sN_ne (by omega)]; exact u7
          · intro i hi'
            have := hp'.2.2.2.1 i (by omega)
            exact MR_N (MR_I (u8 i (by omega)) (wr_ne _ _ (by omega)) rfl) (fun z z1 z2 => sN_ne (by omega))
          · obtain ⟨s3, z1, z2, z3, z4⟩ := hi'.1 c hc3
            have es3 : s3 = s + 1 := by
              rw [e0, nI_eq (by omega) (by omega)] at z2
              exact z2.symm
            subst es3
            exact ⟨s, by omega, sN_eq, fun y => by have := z3 y; omega, fun i hi => OM_S (z4 i (by omega)) (fun z y1 y2 => sN_ne (by omega))⟩
          · intro hcon
            have hs1 : s ≠ 0 := fun z => hf (Or.inr ⟨by omega, hcon⟩)
            exact ⟨⟨s - 1, by omega, by rw [sN_eq, show s - 1 + 1 = s from by omega]⟩, fun z z1 z2 => sN_ne (by omega)⟩
        have f2 : Fr (B + 1) (B + 41) J (wr J (B + 1 + 7 + 7 * c) (sN (J (B + 1 + 7 + 7 * c)) 1 (nI s))) K K Q Q := Fr_mono f (by omega) (by omega)
        refine ⟨_, K, Q, ?_, CW_bus a2 f2 (Nat.le_refl T) hq' hbr, Fr_trans (FvS_Fr a3) (Fr_B f2)⟩
        rw [cc, if_neg hf, Two_cancel_52 _ _ _ _ _ _ _ t0, a1]
        simp only [kC_ret, Option.toList, List.cons_append, List.nil_append, fix1_int, fix1_ref, fix1_unk, fix1_null, fix1_long]
        rw [Two_cancel_56 _ _ _ _ _ _ _ tc.1, Caller_takeBack_E, Caller_takeBack_0 _ _ _ _ _ _ tc.1, u3, pk_sub (by omega), Nat.add_sub_cancel, cl_messageAt tc hp' u1 (show s < s + 1 by omega) J K u3]
        simp only [kC_ret, Option.toList, List.cons_append, List.nil_append, fix1_int, fix1_ref, fix1_unk, fix1_null, fix1_long]
        rw [Caller_takeBack_10_1, fix1_ref, Caller_takeBack_17 _ _ _ _ _ _ tc.1 tm, updI_wr, wr_ne _ _ (show B + 1 + 7 + 7 * c + 3 + qq' s ≠ B + 1 + 7 + 7 * c by omega), u3, pk_sub (by omega), Nat.add_sub_cancel, (u8 s (by omega)).2.1, show 207 + 40 * c + 8 + 8 * s = 215 + 40 * c + 8 * s from by omega]
        simp only [kC_ret, Option.toList, List.cons_append, List.nil_append, fix1_int, fix1_ref, fix1_unk, fix1_null, fix1_long]
        rw [Two_cancel_60]
      · intro w1 J K Q hm
        obtain ⟨J1, J2, c1, c2, c3, c4⟩ := mw_as (L := K) hm hst
        have mc' := mc w1 J K Q hm
        obtain ⟨⟨w71, wd1, -⟩, ⟨p01, -⟩, m3, -⟩ := hm
        have e85 : J2 (B + 285) = N := c3.2.2.1
        have c5 := MW_now c3 (sN N (207 + 40 * c) (nI s))
        obtain ⟨J3, K3, d1, d2, d3, d4⟩ := mw_well (L := K) c5 (N (215 + 40 * c + 8 * s))
        refine ⟨_, fun _ _ => rfl, J3, K3, ?_, d2, d3, Fr_trans (Fr_trans c4 Fr_now) d4⟩
        dsimp only
        rw [mc', if_neg hf, Model_cancel_44 _ _ _ _ _ _ _ w71, c1]
        simp only [kC_ret, Option.toList, List.cons_append, List.nil_append, fix1_int, fix1_ref, fix1_unk, fix1_null, fix1_long]
        rw [Model_cancel_48 _ _ _ _ _ _ _ w71, c2]
        simp only [kC_ret, Option.toList, List.cons_append, List.nil_append, fix1_int, fix1_ref, fix1_unk, fix1_null, fix1_long]
        rw [Model_cancel_52 _ _ _ _ _ _ _ w71, mo_adds w71 wd1 p01 (c := c) (k := 0) (by omega), Nat.add_zero (207 + 40 * c), e85, e0, pk_m1]
        simp only [kC_ret, Option.toList, List.cons_append, List.nil_append, fix1_int, fix1_ref, fix1_unk, fix1_null, fix1_long]
        rw [Model_cancel_59 _ _ _ _ _ _ _ w71, pk_sub (by omega), Nat.add_sub_cancel, mo_told w71 wd1 p01 (c := c) (p := s) (k := 0) (by omega), wr_same, show 207 + 40 * c + 8 + 8 * s + 0 = 215 + 40 * c + 8 * s from by omega, sN_ne (show 215 + 40 * c + 8 * s ≠ 207 + 40 * c by omega)]
        simp only [kC_ret, Option.toList, List.cons_append, List.nil_append, fix1_int, fix1_ref, fix1_unk, fix1_null, fix1_long]
        rw [Model_cancel_69 _ _ _ _ _ _ _ _ _ w71, d1]
        simp only [kC_ret, Option.toList, List.cons_append, List.nil_append, fix1_int, fix1_ref, fix1_unk, fix1_null, fix1_long]
        rw [Model_cancel_72]
  · right
    refine ⟨2, nI 0, ?_, by decide, by decide, ?_⟩
    · rw [Two_cancel_E, Two_cancel_0 _ _ _ _ _ _ _ t0, co2 x hx2, kC_thr]
    · intro w1 J K Q hm
      obtain ⟨J3, K3, d1, d2, d3, d4⟩ := mw_fails (L := K) hm 1
      obtain ⟨⟨w71, wd1, -⟩, ⟨p01, -⟩, m3, -⟩ := hm
      refine ⟨N, fun _ _ => rfl, J3, K3, ?_, d2, d3, d4⟩
      dsimp only
      rw [Model_cancel_E, Model_cancel_0 _ _ _ _ _ _ _ w71, mo_isCaller w71 wd1 p01, m3, h1, if_neg (fun z => hx ((mo_ix (by omega)).mp z))]
      simp only [kC_ret, Option.toList, List.cons_append, List.nil_append, fix1_int, fix1_ref, fix1_unk, fix1_null, fix1_long]
      rw [Model_cancel_5, if_neg (by simp [n00]), Model_cancel_8 _ _ _ _ _ _ _ w71, d1]
      simp only [kC_ret, Option.toList, List.cons_append, List.nil_append, fix1_int, fix1_ref, fix1_unk, fix1_null, fix1_long]
      rw [Model_cancel_13]
end
