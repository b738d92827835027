/-! calls: begin, addListener, turn, empty, undo -/
section
variable {B : Nat} {w : Wd} {I : MI} {L : ML} {P : MP} {N : Nat → Int32} {st : Nat} {Ks : Nat → Nat → Int32} {len : Nat} {tx : Nat → Nat} {T : Nat}
theorem MW_now (h : MW B w I P N st Ks len tx) (M : Nat → Int32) : MW B w (wr I (B + 285) M) P M st Ks len tx := by
  obtain ⟨g1, g2, -, g4, g5, g6, g7⟩ := h
  exact ⟨g1, g2, wr_same _ _ _, by rw [wr_ne _ _ (by omega)]; exact g4, fun i hi j hj => by rw [wr_ne _ _ (by omega)]; exact g5 i hi j hj, by rw [wr_ne _ _ (by omega)]; exact g6, fun j hj => by rw [wr_ne _ _ (by omega)]; exact g7 j hj⟩
theorem Fr_now {X : Nat → Int32} : Fr (B + 284) (B + 289) I (wr I (B + 285) X) L L P P := fun x hx => ⟨wr_ne _ _ (by omega), rfl, rfl⟩
theorem sc_begin (h : CW B w I L P N st Ks len tx T) (x : Int32) : SC B w I L P N st Ks len tx T (fun e => if e = 0 then 1 else 0) (call 80 [.ref B, .int x] w I L P) (fun w1 J K Q => call 163 [.ref (B + 284), .int x] w1 J K Q) := by
  obtain ⟨hw, p0, tb, hst, q, k, n, md, hq, hbc, hlg⟩ := CW_bc h
  have t0 := hw.1
  by_cases hx : RG x 1 3
  · left
    obtain ⟨c, hc1, hc3, rfl⟩ := RG_ex (by omega) (by omega) hx
    refine ⟨N 0, frN c, svS st, svK st Ks N, len, tx, ?_, ?_⟩
    · obtain ⟨J, K, Q, a1, a2, a3⟩ := cl_save h
      have a2' := a2
      obtain ⟨-, ⟨r, hp', -⟩, -, ⟨q', hq', hbr'⟩, -, hfr, -⟩ := a2'
      obtain ⟨J2, K2, b1, b2, b3⟩ := cl_copyB (hw.2.1 2 (by omega)) tb (by omega) (BR_BS hbr') hfr
      have f1 : Fr (B + 1) (B + 41) J J2 K K2 Q Q := b3
      have f2 : Fr (B + 1) (B + 41) J (wr J2 (B + 1) (sN (J2 (B + 1)) 1 (nI c))) K K2 Q Q := Fr_trans f1 Fr_bus
      refine ⟨_, K2, Q, ?_, CW_bus a2 f2 (Nat.le_refl T) (Nat.zero_le T) (BR_begin b2 (by omega) hc3), Fr_trans (FvS_Fr a3) (Fr_B f2)⟩
      rw [Two_begin_E, Two_begin_0, cl_range, if_pos hx]
      simp only [kC_ret, Option.toList, List.cons_append, List.nil_append, fix1_int, fix1_ref, fix1_unk, fix1_null, fix1_long]
      rw [Two_begin_6 _ _ _ _ _ _ _ t0, p0, rf_some, Two_begin_10 _ _ _ _ _ _ _ _ tb.1, hbc.2.2.2.2.2.2.1.2.2.1, rf_some, Two_begin_13 _ _ _ _ _ _ _ _ tb.2.2.2.1 t0, a1, hlg.2.1, ← hlg.1]
      simp only [kC_ret, Option.toList, List.cons_append, List.nil_append, fix1_int, fix1_ref, fix1_unk, fix1_null, fix1_long]
      rw [Two_begin_21 _ _ _ _ _ _ _ t0, hp'.1, rf_some, Two_begin_25 _ _ _ _ _ _ _ _ t0, hp'.2.2.1, rf_some, Two_begin_29_1 _ _ _ _ _ _ _ _ _ tb.1, show B + 81 = B + 1 + 40 * 2 from rfl, b1]
      simp only [kC_ret, Option.toList, List.cons_append, List.nil_append, fix1_int, fix1_ref, fix1_unk, fix1_null, fix1_long]
      rw [Two_begin_32 _ _ _ _ _ _ _ t0, hp'.1, rf_some, Two_begin_36 _ _ _ _ _ _ _ _ tb.1, updI_wr]
    · intro w1 J K Q hm
      obtain ⟨J1, J2, c1, c2, c3, c4⟩ := mw_as (L := K) hm hst
      obtain ⟨⟨w71, wd1, -⟩, ⟨p01, -⟩, m3, -⟩ := hm
      have e85 : J2 (B + 285) = N := c3.2.2.1
      obtain ⟨X, x1, x2⟩ := mo_fresh w71 wd1 p01 J2 K c
      have c5 := MW_now c3 X
      obtain ⟨J3, K3, d1, d2, d3, d4⟩ := mw_well (L := K) c5 (N 0)
      refine ⟨X, x2, J3, K3, ?_, d2, d3, Fr_trans (Fr_trans c4 Fr_now) d4⟩
      dsimp only
      rw [Model_begin_E, Model_begin_0, mo_rg (nI c) 1 3 1 3 l1_i l3_i, if_pos hx]
      simp only [kC_ret, Option.toList, List.cons_append, List.nil_append, fix1_int, fix1_ref, fix1_unk, fix1_null, fix1_long]
      rw [Model_begin_9, if_pos n10, Model_begin_18 _ _ _ _ _ _ _ w71, c1]
      simp only [kC_ret, Option.toList, List.cons_append, List.nil_append, fix1_int, fix1_ref, fix1_unk, fix1_null, fix1_long]
      rw [Model_begin_22 _ _ _ _ _ _ _ w71, c2]
      simp only [kC_ret, Option.toList, List.cons_append, List.nil_append, fix1_int, fix1_ref, fix1_unk, fix1_null, fix1_long]
      rw [Model_begin_26 _ _ _ _ _ _ _ w71, p01, rf_some, Model_begin_30 _ _ _ _ _ _ _ _ (inA_nI wd1 (by omega) (by omega)) w71, cl_nI (by omega), e85, x1]
      simp only [kC_ret, Option.toList, List.cons_append, List.nil_append, fix1_int, fix1_ref, fix1_unk, fix1_null, fix1_long]
      rw [Model_begin_38 _ _ _ _ _ _ _ w71, d1]
      simp only [kC_ret, Option.toList, List.cons_append, List.nil_append, fix1_int, fix1_ref, fix1_unk, fix1_null, fix1_long]
      rw [Model_begin_43]
  · right
    refine ⟨0, nI 0, ?_, by decide, by decide, ?_⟩
    · rw [Two_begin_E, Two_begin_0, cl_range, if_neg hx, kC_thr]
    · intro w1 J K Q hm
      obtain ⟨J3, K3, d1, d2, d3, d4⟩ := mw_fails (L := K) hm 1
      refine ⟨N, fun _ _ => rfl, J3, K3, ?_, d2, d3, d4⟩
      dsimp only
      rw [Model_begin_E, Model_begin_0, mo_rg x 1 3 1 3 l1_i l3_i, if_neg hx]
      simp only [kC_ret, Option.toList, List.cons_append, List.nil_append, fix1_int, fix1_ref, fix1_unk, fix1_null, fix1_long]
      rw [Model_begin_9, if_neg (by simp [n00]), Model_begin_12 _ _ _ _ _ _ _ hm.1.1, d1]
      simp only [kC_ret, Option.toList, List.cons_append, List.nil_append, fix1_int, fix1_ref, fix1_unk, fix1_null, fix1_long]
      rw [Model_begin_17]
theorem sc_undo (h : CW B w I L P N st Ks len tx T) : SC B w I L P N st Ks len tx T (fun e => if e = 1 then 1 else 0) (call 104 [.ref B] w I L P) (fun w1 J K Q => call 138 [.ref (B + 284)] w1 J K Q) := by
  obtain ⟨hw, p0, tb, hst, -⟩ := CW_bc h
  have t0 := hw.1
  have h' := h
  obtain ⟨-, ⟨r, hp, hs4, hsv⟩, -, ⟨q', hq', hbr⟩, h7, h8, h9, h10, h11, h12⟩ := h'
  by_cases hz : st = 0
  · subst hz
    right
    refine ⟨1, nI 0, ?_, by decide, by decide, ?_⟩
    · rw [Two_undo_E, Two_undo_0 _ _ _ _ _ _ t0, hs4, cl_savedAtN (by decide)]
      simp only [kC_ret, Option.toList, List.cons_append, List.nil_append, fix1_int, fix1_ref, fix1_unk, fix1_null, fix1_long]
      rw [Two_undo_10_0, Two_undo_15]
    · intro w1 J K Q hm
      obtain ⟨J3, K3, d1, d2, d3, d4⟩ := mw_fails (L := K) hm 1
      refine ⟨N, fun _ _ => rfl, J3, K3, ?_, d2, d3, d4⟩
      dsimp only
      rw [Model_undo_E, Model_undo_0 _ _ _ _ _ _ hm.1.1, hm.2.2.2.1, if_neg (by simp [n00]), Model_undo_7 _ _ _ _ _ _ hm.1.1, d1]
      simp only [kC_ret, Option.toList, List.cons_append, List.nil_append, fix1_int, fix1_ref, fix1_unk, fix1_null, fix1_long]
      rw [Model_undo_12]
  · left
    obtain ⟨s, rfl⟩ : ∃ s, st = s + 1 := ⟨st - 1, by omega⟩
    refine ⟨nI s, Ks s, s, Ks, len, tx, ?_, ?_⟩
    · obtain ⟨q2, hq2, hb2⟩ := hsv s (by omega)
      have hr := hp.2.2.2.2.2.2.2.1 s (by omega)
      obtain ⟨J, K, b1, b2, b3⟩ := cl_copyB (hw.2.2.1 _ hr) tb (by omega) (BR_BS hbr) hb2
      have c1 := CW_bus h b3 (Nat.le_refl T) hq2 b2
      have eB : J B = I B := (b3 B (by omega)).1
      refine ⟨wr J B (sN (J B) 4 (nI s)), K, P, ?_, ?_, ?_⟩
      · rw [Two_undo_E, Two_undo_0 _ _ _ _ _ _ t0, hs4, pk_sub (by omega), Nat.add_sub_cancel, cl_savedAt hw hp (by omega)]
        simp only [kC_ret, Option.toList, List.cons_append, List.nil_append, fix1_int, fix1_ref, fix1_unk, fix1_null, fix1_long]
        rw [Two_undo_10_1, fix1_ref, Two_undo_25 _ _ _ _ _ _ t0, p0, rf_some, Two_undo_29_1 _ _ _ _ _ _ _ tb.1, b1]
        simp only [kC_ret, Option.toList, List.cons_append, List.nil_append, fix1_int, fix1_ref, fix1_unk, fix1_null, fix1_long]
        rw [Two_undo_33 _ _ _ _ _ _ t0, updI_wr, eB, hs4, pk_sub (by omega), Nat.add_sub_cancel, wr_same, sN_eq]
      · obtain ⟨k1, ⟨r', k2, k3, k4⟩, k5, ⟨q3, k6, k7⟩, k8, k9, k10, k11, k12, k13⟩ := c1
        have f : ∀ y, y ≠ B → wr J B (sN (J B) 4 (nI s)) y = J y := fun y g => wr_ne _ _ g
        refine ⟨k1, ⟨r', k2, by rw [wr_same, sN_eq], ?_⟩, by omega, ⟨q3, k6, BR_fr k7 (fun y g1 g2 => ⟨f y (by omega), rfl, rfl⟩)⟩, k8, BR_fr k9 (fun y g1 g2 => ⟨f y (by omega), rfl, rfl⟩), k10, k11, by rw [f _ (by omega)]; exact k12, fun j hj => by rw [f _ (by omega)]; exact k13 j hj⟩
        intro i hi
        obtain ⟨q4, g1, g2⟩ := k4 i (by omega)
        exact ⟨q4, g1, BR_fr g2 (fun y z1 z2 => ⟨f y (by omega), rfl, rfl⟩)⟩
      · exact Fr_trans (Fr_B b3) (fun y hy => ⟨wr_ne _ _ (by omega), rfl, rfl⟩)
    · intro w1 J K Q hm
      have hm' := hm
      obtain ⟨⟨w71, wd1, wk1, -⟩, ⟨p01, p11, -⟩, m3, m4, m5, m6, m7⟩ := hm'
      have loop : ∀ (I1 : MI), I1 (B + 284) 2 = nI s → ∀ f k, k + f = 459 → go 138 25 [.ref (B + 284), .int (nI k)] [] w1 (wr I1 (B + 285) (fun j => if j < k then I1 (B + 286) (459 * s + j) else I1 (B + 285) j)) K Q = go 138 59 [.ref (B + 284), .int (nI 459)] [] w1 (wr I1 (B + 285) (fun j => if j < 459 then I1 (B + 286) (459 * s + j) else I1 (B + 285) j)) K Q := by
        intro I1 e2 f
        induction f with
        | zero =>
          intro k hk
          have : k = 459 := by omega
          subst this
          rw [Model_undo_25, if_pos (nI_le (by omega) (by omega))]
        | succ f ih =>
          intro k hk
          have eix : nI 459 * (wr I1 (B + 285) (fun j => if j < k then I1 (B + 286) (459 * s + j) else I1 (B + 285) j)) (B + 284) 2 + nI k = nI (459 * s + k) := by
            rw [wr_ne _ _ (by omega), e2, pk_mul, nI_add]
          rw [Model_undo_25, if_neg (nI_ge (by omega) (by omega)), Model_undo_32 _ _ _ _ _ _ w71, p01, rf_some, Model_undo_36 _ _ _ _ _ _ _ w71, p11, rf_some, Model_undo_41 _ _ _ _ _ _ _ _ _ w71 (by rw [eix]; exact inA_nI wk1 (by omega) (by omega)) (inA_nI wd1 (by omega) (by omega)), eix, nI_add, cl_nI (by omega), cl_nI (by omega), updI_wr, wr_wr, wr_same, wr_ne _ _ (show B + 286 ≠ B + 285 by omega)]
          rw [← ih (k + 1) (by omega)]
          congr 2
          funext j
          unfold sN
          dsimp only
          by_cases e : j = k
          · rw [if_pos e, if_pos (by omega), e]
          · rw [if_neg e]
            by_cases z : j < k
            · rw [if_pos z, if_pos (by omega)]
            · rw [if_neg z, if_neg (by omega)]
      have c1 := loop (wr J (B + 284) (sN (J (B + 284)) 2 (nI s))) (by rw [wr_same, sN_eq]) 459 0 (by omega)
      have e0 : ∀ (I1 : MI), wr I1 (B + 285) (fun j => if j < 0 then I1 (B + 286) (459 * s + j) else I1 (B + 285) j) = I1 := by
        intro I1
        have : (fun j => if j < 0 then I1 (B + 286) (459 * s + j) else I1 (B + 285) j) = I1 (B + 285) := by funext j; rw [if_neg (by omega)]
        rw [this, wr_id]
      rw [e0] at c1
      generalize hX : (fun j => if j < 459 then (wr J (B + 284) (sN (J (B + 284)) 2 (nI s))) (B + 286) (459 * s + j) else (wr J (B + 284) (sN (J (B + 284)) 2 (nI s))) (B + 285) j) = X at c1
      have hm2 : MW B w1 (wr (wr J (B + 284) (sN (J (B + 284)) 2 (nI s))) (B + 285) X) Q X s Ks len tx := by
        have : MW B w1 (wr J (B + 284) (sN (J (B + 284)) 2 (nI s))) Q N s Ks len tx := by
          refine ⟨hm.1, hm.2.1, by rw [wr_ne _ _ (by omega)]; exact m3, by rw [wr_same, sN_eq], fun i hi j hj => by rw [wr_ne _ _ (by omega)]; exact m5 i (by omega) j hj, by rw [wr_same, sN_ne (by omega)]; exact m6, fun j hj => by rw [wr_ne _ _ (by omega)]; exact m7 j hj⟩
        exact MW_now this X
      obtain ⟨J3, K3, d1, d2, d3, d4⟩ := mw_well (L := K) hm2 (nI s)
      refine ⟨X, ?_, J3, K3, ?_, d2, d3, Fr_trans (Fr_trans Fr_mo Fr_now) d4⟩
      · intro j hj
        rw [← hX]
        dsimp only
        rw [if_pos hj, wr_ne _ _ (by omega)]
        exact m5 s (by omega) j hj
      · dsimp only
        rw [Model_undo_E, Model_undo_0 _ _ _ _ _ _ w71, m4, if_pos (nI_ne0 (by omega) (by omega)), Model_undo_13 _ _ _ _ _ _ w71, updI_wr, m4, pk_sub (by omega), Nat.add_sub_cancel, c1, Model_undo_59 _ _ _ _ _ _ w71, wr_ne _ _ (show B + 284 ≠ B + 285 by omega), wr_same, sN_eq, d1]
        simp only [kC_ret, Option.toList, List.cons_append, List.nil_append, fix1_int, fix1_ref, fix1_unk, fix1_null, fix1_long]
        rw [Model_undo_67]
end
