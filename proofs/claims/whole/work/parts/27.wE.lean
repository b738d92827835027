/-! calls: begin, setLimit, undo -/
theorem PH_S {N R S : Nat → Int32} {n n' md : Nat} (h : PH N R n md) (hn : n ≤ n') (e : ∀ x, 6 ≤ x → S x = R x) : PH N S n' md := by
  have bf : BF N n → BF N n' := by
    rintro ⟨⟨t, ht, h8⟩, hr⟩
    exact ⟨⟨t, by omega, h8⟩, hr⟩
  unfold PH at h ⊢
  rw [e 6 (by omega), e 9 (by omega), e 10 (by omega), e 11 (by omega), e 12 (by omega), e 13 (by omega)]
  split at h
  · exact h
  · exact h
  · exact h
  · exact ⟨h.1, h.2.1, bf h.2.2.1, h.2.2.2⟩
  · exact ⟨h.1, h.2.1, bf h.2.2.1, h.2.2.2⟩
  · exact ⟨h.1, h.2.1, bf h.2.2.1, h.2.2.2⟩
  · exact ⟨h.1, h.2.1, bf h.2.2.1, h.2.2.2⟩
  · exact ⟨h.1, h.2.1, bf h.2.2.1, h.2.2.2⟩
  · exact h
  · exact h
theorem BC_upd {N M : Nat → Int32} {b k n n' md : Nat} {I J : MI} {L : ML} {P : MP} (h : BC b N I L P k n md) (eM : ∀ x, ((4 ≤ x ∧ x ≤ 9) ∨ x = 13 ∨ x = 14 ∨ (207 ≤ x ∧ x < 327)) → M x = N x) (eb : ∀ x, 5 ≤ x → J b x = I b x) (ec : ∀ x, b + 7 ≤ x → x < b + 28 → J x = I x) (m1 : M 1 = N 1) (j1 : J b 1 = I b 1) (hn : n ≤ n') (hn6 : n' ≤ 6) (m2 : M 2 = nI n') (j3 : J b 3 = nI n') (j4 : J b 4 = M 3) (hl : LiS M b n' J) (hu : LU b n' J) (ho : OL M n') : BC b M J L P k n' md := by
  obtain ⟨⟨hk0, hk, h1, i1⟩, -, -, h4, i7, i8, hq, hs, -, -, hi, -, hp⟩ := h
  refine ⟨⟨hk0, hk, m1.trans h1, j1.trans i1⟩, ⟨hn6, m2, j3⟩, j4, by rw [eM 4 (by omega)]; exact h4, by rw [eb 7 (by omega), eM 5 (by omega)]; exact i7, by rw [eb 8 (by omega), eM 8 (by omega)]; exact i8, hq, CS_5 hs (fun x g1 g2 => eM x (by omega)) ec, hl, hu, IV_N hi (eM 5 (by omega)) (fun x g1 g2 => eM x (by omega)), ho, ?_⟩
  exact PH_S (PH_N hp (eM 5 (by omega)) (eM 6 (by omega)) (eM 7 (by omega)) (eM 8 (by omega)) (eM 9 (by omega)) (eM 13 (by omega)) (eM 14 (by omega)) (fun x g1 g2 => eM x (by omega))) hn (fun x g => eb x (by omega))
theorem BR_limit {N : Nat → Int32} {b q : Nat} {I : MI} {L : ML} {P : MP} (h : BR b N I L P q) (v : Int32) : BR b (sN N 3 v) (wr I b (sN (I b) 4 v)) L P q := by
  obtain ⟨⟨k, n, md, hbc⟩, hlg⟩ := h
  have hbc' := hbc
  obtain ⟨-, ⟨hn, h2, i3⟩, -, -, -, -, -, -, hl, hu, -, ho, -⟩ := hbc'
  refine ⟨⟨k, n, md, BC_upd hbc (fun x g => sN_ne (by omega)) (fun x g => by rw [wr_same, sN_ne (by omega)]) (fun x g1 g2 => wr_ne _ _ (by omega)) (sN_ne (by omega)) (by rw [wr_same, sN_ne (by omega)]) (Nat.le_refl n) hn (by rw [sN_ne (by omega)]; exact h2) (by rw [wr_same, sN_ne (by omega)]; exact i3) (by rw [wr_same, sN_eq, sN_eq]) (LiS_N hn hl (fun x g1 g2 => sN_ne (by omega)) (fun x g1 g2 => wr_ne _ _ (by omega))) (LU_I hu (fun x g1 g2 => wr_ne _ _ (by omega))) (OL_N ho (fun x g1 g2 => sN_ne (by omega)))⟩, LG_N hlg (fun x g => sN_ne (by omega)) (fun x g1 g2 => wr_ne _ _ (by omega))⟩
theorem BR_begin {b k : Nat} {I : MI} {L : ML} {P : MP} (h : BR b (frN 2) I L P 0) (hk0 : 0 < k) (hk : k ≤ 3) : BR b (frN k) (wr I b (sN (I b) 1 (nI k))) L P 0 := by
  obtain ⟨⟨k', n, md, ⟨⟨-, -, -, -⟩, ⟨hn, h2, i3⟩, i4, h4, i7, i8, hq, hs, hl, hu, hi, ho, hp⟩⟩, hlg⟩ := h
  have e : ∀ x, x ≠ 1 → frN k x = frN 2 x := by
    intro x g
    unfold frN
    rw [if_neg g, if_neg g]
  have e5 : frN 2 5 = nI 0 := rfl
  refine ⟨⟨k, n, md, ⟨hk0, hk, rfl, by rw [wr_same, sN_eq]⟩, ⟨hn, by rw [e 2 (by omega)]; exact h2, by rw [wr_same, sN_ne (by omega)]; exact i3⟩, by rw [wr_same, sN_ne (by omega), e 3 (by omega)]; exact i4, by rw [e 4 (by omega)]; exact h4, by rw [wr_same, sN_ne (by omega), e 5 (by omega)]; exact i7, by rw [wr_same, sN_ne (by omega), e 8 (by omega)]; exact i8, hq, CS_5 hs (fun x g1 g2 => e x (by omega)) (fun x g1 g2 => wr_ne _ _ (by omega)), LiS_N hn hl (fun x g1 g2 => e x (by omega)) (fun x g1 g2 => wr_ne _ _ (by omega)), LU_I hu (fun x g1 g2 => wr_ne _ _ (by omega)), ?_, OL_N ho (fun x g1 g2 => e x (by omega)), ?_⟩, LG_N hlg (fun x g => e x (by omega)) (fun x g1 g2 => wr_ne _ _ (by omega))⟩
  · refine IV_0 (N := frN k) (fun c hc => ⟨0, by omega, ?_, fun _ => rfl, fun i hi => absurd hi (by omega)⟩) e5 (fun _ _ _ => rfl)
    rcases (show c = 0 ∨ c = 1 ∨ c = 2 by omega) with rfl | rfl | rfl <;> rfl
  · rw [wr_same]
    exact PH_S (PH_N hp (e 5 (by omega)) (e 6 (by omega)) (e 7 (by omega)) (e 8 (by omega)) (e 9 (by omega)) (e 13 (by omega)) (e 14 (by omega)) (fun x g1 g2 => e x (by omega))) (Nat.le_refl n) (fun x g => sN_ne (by omega))
/-- a row of zeros and what stands in a fresh one -/
theorem mo_fresh {w : Wd} {P : MP} {mo d : Nat} (h7 : w.1 mo = some (7, 0)) (hd : w.1 d = some (8, 459)) (p0 : P mo 0 = some d) (I : MI) (L : ML) (k : Nat) : ∃ X, call 125 [.ref mo, .int (nI k)] w I L P = some (.inl none, w, wr I d X, L, P) ∧ ∀ j, j < 459 → X j = frN k j := by
  have loop : ∀ f i, i + f = 459 → go 125 2 [.ref mo, .int (nI k), .int (nI i)] [] w (wr I d (fun j => if j < i then nI 0 else I d j)) L P = go 125 22 [.ref mo, .int (nI k), .int (nI 459)] [] w (wr I d (fun j => if j < 459 then nI 0 else I d j)) L P := by
    intro f
    induction f with
    | zero =>
      intro i hi
      have : i = 459 := by omega
      subst this
      rw [Model_fresh_2, if_pos (nI_le (by omega) (by omega))]
    | succ f ih =>
      intro i hi
      rw [Model_fresh_2, if_neg (nI_ge (by omega) (by omega)), Model_fresh_9 _ _ _ _ _ _ _ h7, p0, rf_some, Model_fresh_13 _ _ _ _ _ _ _ _ (inA_nI hd (by omega) (by omega)), fix1_int, nI_add, cl_nI (by omega), updI_wr, wr_wr, wr_same]
      rw [← ih (i + 1) (by omega)]
      congr 2
      funext j
      unfold sN
      dsimp only
      by_cases e : j = i
      · rw [if_pos e, if_pos (by omega)]
      · rw [if_neg e]
        by_cases z : j < i
        · rw [if_pos z, if_pos (by omega)]
        · rw [if_neg z, if_neg (by omega)]
  have e0 : wr I d (fun j => if j < 0 then nI 0 else I d j) = I := by
    have : (fun j => if j < 0 then nI 0 else I d j) = I d := by funext j; rw [if_neg (by omega)]
    rw [this, wr_id]
  have lp := loop 459 0 (by omega)
  rw [e0] at lp
  generalize hZ : (fun j => if j < 459 then nI 0 else I d j) = Z at lp
  have l2 : ∀ (X : Nat → Int32) c, c < 3 → go 125 54 [.ref mo, .int (nI k), .int (nI c)] [] w (wr I d X) L P = go 125 54 [.ref mo, .int (nI k), .int (nI (c + 1))] [] w (wr I d (sN X (214 + 40 * c) (-1))) L P := by
    intro X c hc
    rw [Model_fresh_54, if_neg (nI_ge hc (by omega)), Model_fresh_59 _ _ _ _ _ _ _ h7, p0, rf_some, Model_fresh_63 _ _ _ _ _ _ _ _ (by rw [pk_mul, nI_add, nI_add]; exact inA_nI hd (by omega) (by omega)), fix1_int, nI_add, pk_mul, nI_add, nI_add, cl_nI (by omega), updI_wr, wr_wr, wr_same, show 207 + 40 * c + 7 = 214 + 40 * c from by omega]
  refine ⟨sN (sN (sN (sN (sN (sN (sN Z 1 (nI k)) 3 (nI 4)) 8 (-1)) 12 (nI 1)) (214 + 40 * 0) (-1)) (214 + 40 * 1) (-1)) (214 + 40 * 2) (-1), ?_, ?_⟩
  · rw [Model_fresh_E, Model_fresh_0, fix1_int, lp, Model_fresh_22 _ _ _ _ _ _ _ h7, p0, rf_some, Model_fresh_26 _ _ _ _ _ _ _ _ (inA_nI hd (by omega) (by omega)) h7, p0, rf_some, Model_fresh_33 _ _ _ _ _ _ _ _ (inA_nI hd (by omega) (by omega)) h7, p0, rf_some, Model_fresh_40 _ _ _ _ _ _ _ _ (inA_nI hd (by omega) (by omega)) h7, p0, rf_some, Model_fresh_48 _ _ _ _ _ _ _ _ (inA_nI hd (by omega) (by omega)), fix1_int, cl_nI (by omega), cl_nI (by omega), cl_nI (by omega), cl_nI (by omega)]
    simp only [updI_wr, wr_wr, wr_same]
    rw [l2 _ 0 (by omega), l2 _ 1 (by omega), l2 _ 2 (by omega), Model_fresh_54, if_pos (nI_le (by omega) (by omega)), Model_fresh_82]
  · intro j hj
    rw [← hZ]
    unfold frN sN
    dsimp only
    by_cases a1 : j = 1
    · subst a1; rfl
    · by_cases a3 : j = 3
      · subst a3; rfl
      · by_cases a8 : j = 8
        · subst a8; rfl
        · by_cases a12 : j = 12
          · subst a12; rfl
          · by_cases b0 : j = 214
            · subst b0; rfl
            · by_cases b1 : j = 254
              · subst b1; rfl
              · by_cases b2 : j = 294
                · subst b2; rfl
                · simp only [a1, a3, a8, a12, b0, b1, b2, hj, if_true, if_false, or_self]
section
variable {B : Nat} {w : Wd} {I : MI} {L : ML} {P : MP} {N : Nat → Int32} {st : Nat} {Ks : Nat → Nat → Int32} {len : Nat} {tx : Nat → Nat} {T : Nat}
theorem CW_bc (h : CW B w I L P N st Ks len tx T) : WT w B ∧ P B 0 = some (B + 1) ∧ BT w (B + 1) ∧ st ≤ 4 ∧ ∃ q k n md, q ≤ T ∧ BC (B + 1) N I L P k n md ∧ LG (B + 1) N I q := by
  obtain ⟨h1, ⟨r, hp, -⟩, h3, ⟨q, hq, ⟨k, n, md, hb⟩, hl⟩, -⟩ := h
  exact ⟨h1, hp.1, h1.2.1 0 (by omega), h3, q, k, n, md, hq, hb, hl⟩
theorem Fr_bus {b : Nat} {X : Nat → Int32} : Fr b (b + 40) I (wr I b X) L L P P := fun x hx => ⟨wr_ne _ _ (by omega), rfl, rfl⟩
theorem Fr_B {J : MI} {K : ML} {Q : MP} (f : Fr (B + 1) (B + 41) I J L K P Q) : Fr B (B + 284) I J L K P Q := Fr_mono f (by omega) (by omega)
theorem sc_setLimit (h : CW B w I L P N st Ks len tx T) (x : Int32) : SC B w I L P N st Ks len tx T (fun e => if e = 0 then 1 else 0) (call 84 [.ref B, .int x] w I L P) (fun w1 J K Q => call 168 [.ref (B + 284), .int x] w1 J K Q) := by
  obtain ⟨hw, p0, tb, hst, q, k, n, md, hq, hbc, hlg⟩ := CW_bc h
  have t0 := hw.1
  by_cases hx : RG x 1 9
  · left
    refine ⟨N 3, sN N 3 x, svS st, svK st Ks N, len, tx, ?_, ?_⟩
    · obtain ⟨J, K, Q, a1, a2, a3⟩ := cl_save h
      obtain ⟨-, p0', -, -, q', k', n', md', hq', hbc', hlg'⟩ := CW_bc a2
      refine ⟨wr J (B + 1) (sN (J (B + 1)) 4 x), K, Q, ?_, CW_bus a2 Fr_bus (Nat.le_refl T) hq' (BR_limit ⟨⟨k', n', md', hbc'⟩, hlg'⟩ x), Fr_trans (FvS_Fr a3) (Fr_B Fr_bus)⟩
      rw [Two_setLimit_E, Two_setLimit_0, cl_range, if_pos hx]
      simp only [kC_ret, Option.toList, List.cons_append, List.nil_append, fix1_int, fix1_ref, fix1_unk, fix1_null, fix1_long]
      rw [Two_setLimit_7 _ _ _ _ _ _ _ t0, p0, rf_some, Two_setLimit_11 _ _ _ _ _ _ _ _ tb.1 t0, a1]
      simp only [kC_ret, Option.toList, List.cons_append, List.nil_append, fix1_int, fix1_ref, fix1_unk, fix1_null, fix1_long]
      rw [Two_setLimit_19 _ _ _ _ _ _ _ t0, p0', rf_some, Two_setLimit_23 _ _ _ _ _ _ _ _ tb.1, updI_wr, hbc.2.2.1]
    · intro w1 J K Q hm
      obtain ⟨J1, J2, c1, c2, c3, c4⟩ := mw_as (L := K) hm hst
      obtain ⟨⟨w71, wd1, -⟩, ⟨p01, -⟩, m3, -⟩ := hm
      have e85 : J2 (B + 285) = N := c3.2.2.1
      have p02 := p01
      have c5 : MW B w1 (wr J2 (B + 285) (sN N 3 x)) Q (sN N 3 x) (svS st) (svK st Ks N) len tx := by
        obtain ⟨g1, g2, -, g4, g5, g6, g7⟩ := c3
        exact ⟨g1, g2, wr_same _ _ _, by rw [wr_ne _ _ (by omega)]; exact g4, fun i hi j hj => by rw [wr_ne _ _ (by omega)]; exact g5 i hi j hj, by rw [wr_ne _ _ (by omega)]; exact g6, fun j hj => by rw [wr_ne _ _ (by omega)]; exact g7 j hj⟩
      obtain ⟨J3, K3, d1, d2, d3, d4⟩ := mw_well (L := K) c5 (N 3)
      refine ⟨sN N 3 x, fun _ _ => rfl, J3, K3, ?_, d2, d3, Fr_trans (Fr_trans c4 (fun y hy => ⟨wr_ne _ _ (by omega), rfl, rfl⟩)) d4⟩
      dsimp only
      rw [Model_setLimit_E, Model_setLimit_0, mo_rg x 1 9 1 9 l1_i l9_i, if_pos hx]
      simp only [kC_ret, Option.toList, List.cons_append, List.nil_append, fix1_int, fix1_ref, fix1_unk, fix1_null, fix1_long]
      rw [Model_setLimit_9, if_pos n10, Model_setLimit_18 _ _ _ _ _ _ _ w71, c1]
      simp only [kC_ret, Option.toList, List.cons_append, List.nil_append, fix1_int, fix1_ref, fix1_unk, fix1_null, fix1_long]
      rw [Model_setLimit_22 _ _ _ _ _ _ _ w71, c2]
      simp only [kC_ret, Option.toList, List.cons_append, List.nil_append, fix1_int, fix1_ref, fix1_unk, fix1_null, fix1_long]
      rw [Model_setLimit_26 _ _ _ _ _ _ _ w71, p01, rf_some, Model_setLimit_30 _ _ _ _ _ _ _ _ (inA_nI wd1 (by omega) (by omega)) w71, p01, rf_some, cl_nI (by omega), fix1_int, Model_setLimit_37 _ _ _ _ _ _ _ _ (inA_nI wd1 (by omega) (by omega)) w71, cl_nI (by omega), updI_wr, e85, d1]
      simp only [kC_ret, Option.toList, List.cons_append, List.nil_append, fix1_int, fix1_ref, fix1_unk, fix1_null, fix1_long]
      rw [Model_setLimit_45]
  · right
    refine ⟨0, nI 0, ?_, by decide, by decide, ?_⟩
    · rw [Two_setLimit_E, Two_setLimit_0, cl_range, if_neg hx, kC_thr]
    · intro w1 J K Q hm
      obtain ⟨J3, K3, d1, d2, d3, d4⟩ := mw_fails (L := K) hm 1
      refine ⟨N, fun _ _ => rfl, J3, K3, ?_, d2, d3, d4⟩
      dsimp only
      rw [Model_setLimit_E, Model_setLimit_0, mo_rg x 1 9 1 9 l1_i l9_i, if_neg hx]
      simp only [kC_ret, Option.toList, List.cons_append, List.nil_append, fix1_int, fix1_ref, fix1_unk, fix1_null, fix1_long]
      rw [Model_setLimit_9, if_neg (by simp [n00]), Model_setLimit_12 _ _ _ _ _ _ _ hm.1.1, d1]
      simp only [kC_ret, Option.toList, List.cons_append, List.nil_append, fix1_int, fix1_ref, fix1_unk, fix1_null, fix1_long]
      rw [Model_setLimit_17]
end
