/-! the text: carryOut, both -/
section
variable {B : Nat} {w : Wd} {I : MI} {L : ML} {P : MP} {N : Nat → Int32} {st : Nat} {Ks : Nat → Nat → Int32} {len : Nat} {tx : Nat → Nat} {T : Nat}
theorem CW_TXT (h : CW B w I L P N st Ks len tx T) : TXT w P (B + 122) (B + 123) len tx I := by
  obtain ⟨u1, u2, u3, u4, u5, u6, u7⟩ := CW_tb h
  exact ⟨u1, u2, u4, by omega, u5, u6, u7⟩
theorem CW_txt (h : CW B w I L P N st Ks len tx T) {X : Nat → Int32} {K : ML} (e : X 1 = I (B + 122) 1) (eK : ∀ x, x ≠ B + 122 → K x = L x) : CW B w (wr I (B + 122) X) K P N st Ks len tx T := by
  obtain ⟨u1, u2, u3, u4, u5, u6, u7⟩ := CW_tb h
  refine CW_set h (fun x g1 g2 => ⟨wr_ne _ _ g1, eK x g1⟩) u5 (by rw [wr_same, e]; exact u6) (fun j hj => ⟨(u7 j hj).1, by rw [wr_ne _ _ (by omega)]; exact (u7 j hj).2⟩)
theorem MW_MXT (hm : MW B w I P N st Ks len tx) (hl : len ≤ 100) (hx : ∀ j, j < len → tx j < 128) : MXT w P (B + 284) (B + 288) len tx I := by
  obtain ⟨⟨w71, wd1, ws1, wa1, wt1⟩, ⟨p0, p1, p3, p4⟩, m3, m4, m5, m6, m7⟩ := hm
  exact ⟨w71, wt1, p4, by omega, hl, m6, fun j hj => ⟨hx j hj, m7 j hj⟩⟩
theorem MW_fd (h : MW B w I P N st Ks len tx) {X : Nat → Int32} (e2 : X 2 = I (B + 284) 2) (e5 : X 5 = I (B + 284) 5) : MW B w (wr I (B + 284) X) P N st Ks len tx := by
  obtain ⟨h1, h2, h3, h4, h5, h6, h7⟩ := h
  refine ⟨h1, h2, ?_, ?_, ?_, ?_, ?_⟩
  · rw [wr_ne _ _ (by omega)]; exact h3
  · rw [wr_same, e2]; exact h4
  · intro i hi j hj; rw [wr_ne _ _ (by omega)]; exact h5 i hi j hj
  · rw [wr_same, e5]; exact h6
  · intro j hj; rw [wr_ne _ _ (by omega)]; exact h7 j hj
theorem sc_cl (hT : T < 2147000000) : ∀ f p c, len ≤ p + f → 3 * c ≤ p → p ≤ 100 → erN len tx f p = none → ∀ (I : MI) (L : ML) (P : MP) (N : Nat → Int32) (v : Value), CW B w I L P N st Ks len tx (T + 40 * p) → I (B + 122) 2 = nI p → ∃ n M, (∃ J K Q, go 103 31 [.ref B, v, .int (nI c)] [] w I L P = some (.inl (some (.int (nI n))), w, J, K, Q) ∧ CW B w J K Q M st Ks len tx (T + 4000) ∧ Fr B (B + 284) I J L K P Q) ∧ ∀ w1 J K Q, MW B w1 J Q N st Ks len tx → J (B + 284) 8 = nI p → J (B + 284) 9 = -1 → ∃ x J' K', go 203 52 [.ref (B + 284), .int (nI c), .int (if p < len then nI 1 else nI 0)] [] w1 J K Q = go 203 109 [.ref (B + 284), .int (nI n), x] [] w1 J' K' Q ∧ MW B w1 J' Q M st Ks len tx ∧ Fr (B + 284) (B + 289) J J' K K' Q Q := by
  intro f
  have stop : ∀ p c, len ≤ p → 3 * c ≤ p → p ≤ 100 → ∀ (I : MI) (L : ML) (P : MP) (N : Nat → Int32) (v : Value), CW B w I L P N st Ks len tx (T + 40 * p) → I (B + 122) 2 = nI p → ∃ n M, (∃ J K Q, go 103 31 [.ref B, v, .int (nI c)] [] w I L P = some (.inl (some (.int (nI n))), w, J, K, Q) ∧ CW B w J K Q M st Ks len tx (T + 4000) ∧ Fr B (B + 284) I J L K P Q) ∧ ∀ w1 J K Q, MW B w1 J Q N st Ks len tx → J (B + 284) 8 = nI p → J (B + 284) 9 = -1 → ∃ x J' K', go 203 52 [.ref (B + 284), .int (nI c), .int (if p < len then nI 1 else nI 0)] [] w1 J K Q = go 203 109 [.ref (B + 284), .int (nI n), x] [] w1 J' K' Q ∧ MW B w1 J' Q M st Ks len tx ∧ Fr (B + 284) (B + 289) J J' K K' Q Q := by
    intro p c hlp hc hp I L P N v h h2
    have t0 := h.1.1
    have ht := CW_TXT h
    refine ⟨c, N, ⟨I, L, P, ?_, CW_T h (by omega), Fr_refl⟩, ?_⟩
    · rw [Two_carryOut_31, if_neg (nI_ge (by omega) (by omega)), Two_carryOut_37 _ _ _ _ _ _ _ t0, (CW_tb h).2.2.1, rf_some, Two_carryOut_41 _ _ _ _ _ _ _ _ ht.1, cl_nO0 ht hlp (by omega) h2]
      simp only [kC_ret, Option.toList, List.cons_append, List.nil_append, fix1_int, fix1_ref, fix1_unk, fix1_null, fix1_long]
      rw [Two_carryOut_44, if_pos n00, Two_carryOut_60]
    · intro w1 J K Q hm e8 e9
      refine ⟨.int (nI 0), J, K, ?_, hm, Fr_refl⟩
      rw [if_neg (by omega), Model_carryOut_52, if_pos n00]
  induction f with
  | zero =>
    intro p c hlp hc hp _ I L P N v h h2
    exact stop p c (by omega) hc hp I L P N v h h2
  | succ f ih =>
    intro p c hlp hc hp he I L P N v h h2
    by_cases g : p < len
    · obtain ⟨hf, he2⟩ := erN_st he g
      obtain ⟨o1, o2, o3⟩ := flt_ok hf
      have t0 := h.1.1
      have ht := CW_TXT h
      have hl := ht.2.2.2.2.1
      have hx := TXT_x ht
      obtain ⟨X, K, a1, a2, a3, a4, -⟩ := cl_nO (L := L) ht g h2
      obtain ⟨b2, b3, b5, b8, b6⟩ := a4 hf
      have h1 : CW B w (wr I (B + 122) X) K P N st Ks len tx (T + 40 * p) := CW_txt h a2 a3
      have way : go 103 31 [.ref B, v, .int (nI c)] [] w I L P = kC (call 114 [.ref B] w (wr I (B + 122) X) K P) (fun u w1 I1 L1 P1 => go 103 51 [.ref B, v, .int (nI c)] (u.toList ++ []) w1 I1 L1 P1) := by
        rw [Two_carryOut_31, if_neg (nI_ge (by omega) (by omega)), Two_carryOut_37 _ _ _ _ _ _ _ t0, (CW_tb h).2.2.1, rf_some, Two_carryOut_41 _ _ _ _ _ _ _ _ ht.1, a1, if_pos hf]
        simp only [kC_ret, Option.toList, List.cons_append, List.nil_append, fix1_int, fix1_ref, fix1_unk, fix1_null, fix1_long]
        rw [Two_carryOut_44, if_neg n10, Two_carryOut_47 _ _ _ _ _ _ _ t0]
        rfl
      have fX : Fr B (B + 284) I (wr I (B + 122) X) L K P P := fun x hx => ⟨wr_ne _ _ (by omega), a3 x (by omega), rfl⟩
      -- the model reads the order
      have mrd : ∀ w1 J K Q, MW B w1 J Q N st Ks len tx → J (B + 284) 8 = nI p → J (B + 284) 9 = -1 → ∃ X K2, MW B w1 (wr J (B + 284) X) Q N st Ks len tx ∧ FM len tx p X (K2 (B + 284) 14) ∧ X 8 = nI (nxN len tx p) ∧ X 9 = -1 ∧ (∀ x, x ≠ B + 284 → K2 x = K x) ∧ go 203 52 [.ref (B + 284), .int (nI c), .int (if p < len then nI 1 else nI 0)] [] w1 J K Q = kC (call 202 [.ref (B + 284)] w1 (wr J (B + 284) X) K2 Q) (fun u w1 I1 L1 P1 => go 203 64 [.ref (B + 284), .int (nI c), .int (nI 1)] (u.toList ++ []) w1 I1 L1 P1) := by
        intro w1 J K Q hm e8 e9
        obtain ⟨X, K2, d1, d2, d3, d4, -⟩ := mo_rds (L := K) (MW_MXT hm hl hx) g e8 e9
        obtain ⟨f8, f9, f10, f13, f11⟩ := d4 hf
        refine ⟨X, K2, MW_fd hm (d2 2 (by omega)) (d2 5 (by omega)), ⟨f10, f13, f11⟩, f8, f9, d3, ?_⟩
        rw [if_pos g, Model_carryOut_52, if_neg n10, Model_carryOut_56 _ _ _ _ _ _ _ hm.1.1, d1]
        simp only [kC_ret, Option.toList, List.cons_append, List.nil_append, fix1_int, fix1_ref, fix1_unk, fix1_null, fix1_long]
        rw [Model_carryOut_60 _ _ _ _ _ _ _ hm.1.1]
        rfl
      rcases sc_order (T' := T + 40 * nxN len tx p) h1 hf (by omega) (by omega) (by rw [wr_same]; exact ⟨b5, b8, b6⟩) (hx p g) with ⟨M, J, K1, Q, r1, r2, r3, r4⟩ | ⟨r1, r4⟩
      · obtain ⟨n, M', ⟨J', K', Q', s1, s2, s3⟩, s4⟩ := ih (nxN len tx p) (c + 1) (by omega) (by omega) (by omega) he2 J K1 Q M (fix1 v) r2 (by rw [(r3 (B + 122) (by omega)).1, wr_same]; exact b2)
        refine ⟨n, M', ⟨J', K', Q', ?_, s2, Fr_trans (Fr_trans fX (Fr_B r3)) s3⟩, ?_⟩
        · rw [way, r1]
          simp only [kC_ret, Option.toList, List.cons_append, List.nil_append, fix1_int, fix1_ref, fix1_unk, fix1_null, fix1_long]
          rw [Two_carryOut_51, if_neg n10, Two_carryOut_54, nI_add]
          exact s1
        · intro w1 J2 K2 Q2 hm e8 e9
          obtain ⟨X2, K3, c1, c2, c8, c9, c4, c3⟩ := mrd w1 J2 K2 Q2 hm e8 e9
          obtain ⟨J3, d1, d2, d3, d4⟩ := r4 w1 (wr J2 (B + 284) X2) K3 Q2 c1 (by rw [wr_same]; exact c2)
          have e8' : J3 (B + 284) 8 = nI (nxN len tx p) := by rw [d3 8 (by omega), wr_same]; exact c8
          have e9' : J3 (B + 284) 9 = -1 := by rw [d3 9 (by omega), wr_same]; exact c9
          obtain ⟨x, J4, K4, y1, y2, y3⟩ := s4 w1 J3 K3 Q2 d2 e8' e9'
          refine ⟨x, J4, K4, ?_, y2, Fr_trans (fun x hx => ⟨by rw [d4 x (by omega) (by omega), wr_ne _ _ (by omega)], c4 x (by omega), rfl⟩) y3⟩
          have w71 := hm.1.1
          have e5 : J3 (B + 284) 5 = nI len := d2.2.2.2.2.2.1
          rw [c3, d1]
          simp only [kC_ret, Option.toList, List.cons_append, List.nil_append, fix1_int, fix1_ref, fix1_unk, fix1_null, fix1_long]
          rw [Model_carryOut_64, if_neg (by decide), Model_carryOut_67, Model_carryOut_72, if_neg n10, Model_carryOut_78, Model_carryOut_83, if_neg n10, nI_add, fix1_ref, Model_carryOut_89 _ _ _ _ _ _ _ w71, e5, e8']
          by_cases z : nxN len tx p < len
          · rw [if_neg (nI_ge z (by omega)), Model_carryOut_100, Model_carryOut_105, fix1_int]
            rw [if_pos z] at y1
            exact y1
          · rw [if_pos (nI_le (by omega) (by omega)), Model_carryOut_104, Model_carryOut_105, fix1_int]
            rw [if_neg z] at y1
            exact y1
      · refine ⟨c, N, ⟨_, K, P, ?_, CW_T h1 (by omega), fX⟩, ?_⟩
        · rw [way, r1]
          simp only [kC_ret, Option.toList, List.cons_append, List.nil_append, fix1_int, fix1_ref, fix1_unk, fix1_null, fix1_long]
          rw [Two_carryOut_51, if_pos n00, Two_carryOut_60]
        · intro w1 J2 K2 Q2 hm e8 e9
          obtain ⟨X2, K3, c1, c2, c8, c9, c4, c3⟩ := mrd w1 J2 K2 Q2 hm e8 e9
          obtain ⟨u, u0, d1⟩ := r4 w1 (wr J2 (B + 284) X2) K3 Q2 c1 (by rw [wr_same]; exact c2)
          refine ⟨.int (nI 0), _, K3, ?_, c1, fun x hx => ⟨wr_ne _ _ (by omega), c4 x (by omega), rfl⟩⟩
          rw [c3, d1]
          simp only [kC_ret, Option.toList, List.cons_append, List.nil_append, fix1_int, fix1_ref, fix1_unk, fix1_null, fix1_long]
          rw [Model_carryOut_64, if_pos u0, Model_carryOut_71, Model_carryOut_72, if_pos n00, Model_carryOut_82, Model_carryOut_83, if_pos n00, nI_add, Nat.add_zero c, fix1_ref, Model_carryOut_104, Model_carryOut_105, fix1_int, Model_carryOut_52, if_pos n00]
    · exact stop p c (by omega) hc hp I L P N v h h2
theorem sc_carryOut (h : CW B w I L P N st Ks len tx T) (hT : T < 2147000000) : SC B w I L P N st Ks len tx (T + 4000) (fun _ => 0) (call 103 [.ref B] w I L P) (fun w1 J K Q => call 203 [.ref (B + 284)] w1 J K Q) := by
  obtain ⟨u1, u2, u3, u4, u5, u6, u7⟩ := CW_tb h
  have t0 := h.1.1
  have hst := (CW_bc h).2.2.2.1
  have ht := CW_TXT h
  have hl := ht.2.2.2.2.1
  have hx := TXT_x ht
  obtain ⟨X, K, a1, a2, a3⟩ := cl_fE (L := L) ht
  have h1 : CW B w (wr I (B + 122) X) K P N st Ks len tx T := CW_txt h a2 a3
  have fX : Fr B (B + 284) I (wr I (B + 122) X) L K P P := fun x hx => ⟨wr_ne _ _ (by omega), a3 x (by omega), rfl⟩
  -- the model's first pass
  have mp : ∀ w1 J K Q, MW B w1 J Q N st Ks len tx → ∃ X K2, call 201 [.ref (B + 284)] w1 J K Q = some (.inl (some (.int (foN (-1) (erN len tx 100 0)))), w1, wr J (B + 284) X, K2, Q) ∧ MW B w1 (wr J (B + 284) X) Q N st Ks len tx ∧ X 9 = foN (-1) (erN len tx 100 0) ∧ ∀ x, x ≠ B + 284 → K2 x = K x := by
    intro w1 J K Q hm
    obtain ⟨X, K2, d1, d2, d3, d4⟩ := mo_fO (L := K) (MW_MXT hm hl hx)
    exact ⟨X, K2, d1, MW_fd hm (d2 2 (by omega)) (d2 5 (by omega)), d3, d4⟩
  left
  by_cases g : erN len tx 100 0 = none
  · -- no fault
    obtain ⟨J1, K1, Q1, b1, b2, b3⟩ := cl_save h1
    obtain ⟨v1, v2, v3, v4, v5, v6, v7⟩ := CW_tb b2
    have h2 : CW B w (wr J1 (B + 122) (sN (sN (J1 (B + 122)) 2 (nI 0)) 3 (-1))) K1 Q1 N (svS st) (svK st Ks N) len tx (T + 40 * 0) := CW_txt b2 (by rw [sN_ne (by omega), sN_ne (by omega)]) (fun _ _ => rfl)
    obtain ⟨n, M, ⟨J2, K2, Q2, c1, c2, c3⟩, c4⟩ := sc_cl hT 100 0 0 (by omega) (by omega) (by omega) g _ K1 Q1 N (fix1 (.int (-1))) h2 (by rw [wr_same, sN_ne (by omega), sN_eq])
    refine ⟨nI n, M, svS st, svK st Ks N, len, tx, ⟨J2, K2, Q2, ?_, c2, Fr_trans (Fr_trans (Fr_trans fX (FvS_Fr b3)) (fun x hx => ⟨wr_ne _ _ (by omega), rfl, rfl⟩)) c3⟩, ?_⟩
    · rw [Two_carryOut_E, Two_carryOut_0 _ _ _ _ _ _ _ t0, u3, rf_some, Two_carryOut_4 _ _ _ _ _ _ _ _ u1, a1, g, foN_n]
      simp only [kC_ret, Option.toList, List.cons_append, List.nil_append, fix1_int, fix1_ref, fix1_unk, fix1_null, fix1_long]
      rw [Two_carryOut_7, if_pos rfl, fix1_ref, Two_carryOut_18 _ _ _ _ _ _ _ t0, b1]
      simp only [kC_ret, Option.toList, List.cons_append, List.nil_append, fix1_int, fix1_ref, fix1_unk, fix1_null, fix1_long]
      rw [Two_carryOut_22 _ _ _ _ _ _ _ t0, v3, rf_some, Two_carryOut_26 _ _ _ _ _ _ _ _ v1, Text_rewind_E, Text_rewind_0 _ _ _ _ _ v1, updI_wr, updI_wr, wr_wr, wr_same]
      simp only [kC_ret, Option.toList, List.cons_append, List.nil_append, fix1_int, fix1_ref, fix1_unk, fix1_null, fix1_long]
      rw [Two_carryOut_29]
      exact c1
    · intro w1 J K Q hm
      obtain ⟨X2, K3, d1, d2, d3, d4⟩ := mp w1 J K Q hm
      obtain ⟨J3, e1, e2, e3, e4, e5⟩ := mw_asides (L := K3) d2
      obtain ⟨J4, f1, f2, f3, f4, f5⟩ := mw_saves (L := K3) (A := N) e2 hst e3
      have w71 := hm.1.1
      have m9 : J4 (B + 284) 9 = -1 := by rw [f4 9 (by omega), e4 _ (by omega), wr_same, d3, g, foN_n]
      have m5 : J4 (B + 284) 5 = nI len := f2.2.2.2.2.2.1
      have h3 : MW B w1 (wr J4 (B + 284) (sN (J4 (B + 284)) 8 (nI 0))) Q N (svS st) (svK st Ks N) len tx := MW_fd f2 (by rw [sN_ne (by omega)]) (by rw [sN_ne (by omega)])
      obtain ⟨x, J5, K5, y1, y2, y3⟩ := c4 w1 _ K3 Q h3 (by rw [wr_same, sN_eq]) (by rw [wr_same, sN_ne (by omega)]; exact m9)
      obtain ⟨J6, K6, z1, z2, z3, z4⟩ := mw_well (L := K5) y2 (nI n)
      refine ⟨M, fun _ _ => rfl, J6, K6, ?_, z2, z3, Fr_trans (Fr_trans (Fr_trans (Fr_trans (Fr_trans (fun x hx => ⟨wr_ne _ _ (by omega), d4 x (by omega), rfl⟩) e5) f5) (fun x hx => ⟨wr_ne _ _ (by omega), rfl, rfl⟩)) y3) z4⟩
      dsimp only
      have tail : go 203 52 [.ref (B + 284), .int (nI 0), .int (if 0 < len then nI 1 else nI 0)] [] w1 (wr J4 (B + 284) (sN (J4 (B + 284)) 8 (nI 0))) K3 Q = some (.inl (some (.int (nI n))), w1, J6, K6, Q) := by
        rw [y1, Model_carryOut_109 _ _ _ _ _ _ _ w71, z1]
        simp only [kC_ret, Option.toList, List.cons_append, List.nil_append, fix1_int, fix1_ref, fix1_unk, fix1_null, fix1_long]
        rw [Model_carryOut_114]
      rw [Model_carryOut_E, Model_carryOut_0 _ _ _ _ _ _ _ w71, d1, g, foN_n]
      simp only [kC_ret, Option.toList, List.cons_append, List.nil_append, fix1_int, fix1_ref, fix1_unk, fix1_null, fix1_long]
      rw [Model_carryOut_4, if_pos rfl, Model_carryOut_20 _ _ _ _ _ _ _ w71, e1]
      simp only [kC_ret, Option.toList, List.cons_append, List.nil_append, fix1_int, fix1_ref, fix1_unk, fix1_null, fix1_long]
      rw [Model_carryOut_24 _ _ _ _ _ _ _ w71, f1]
      simp only [kC_ret, Option.toList, List.cons_append, List.nil_append, fix1_int, fix1_ref, fix1_unk, fix1_null, fix1_long]
      rw [Model_carryOut_28 _ _ _ _ _ _ _ w71, updI_wr, wr_same, sN_ne (show (5 : Nat) ≠ 8 by omega), m5, sN_eq]
      by_cases z : 0 < len
      · rw [if_neg (nI_ge z (by omega)), Model_carryOut_46, Model_carryOut_51, fix1_int]
        rw [if_pos z] at tail
        exact tail
      · rw [if_pos (nI_le (by omega) (by omega)), Model_carryOut_50, Model_carryOut_51, fix1_int]
        rw [if_neg z] at tail
        exact tail
  · obtain ⟨e, he⟩ := Option.ne_none_iff_exists'.mp g
    have hb := erN_b _ _ he
    refine ⟨-10 - nI e, N, st, Ks, len, tx, ⟨_, K, P, ?_, CW_T h1 (by omega), fX⟩, ?_⟩
    · rw [Two_carryOut_E, Two_carryOut_0 _ _ _ _ _ _ _ t0, u3, rf_some, Two_carryOut_4 _ _ _ _ _ _ _ _ u1, a1, he, foN_1]
      simp only [kC_ret, Option.toList, List.cons_append, List.nil_append, fix1_int, fix1_ref, fix1_unk, fix1_null, fix1_long]
      rw [Two_carryOut_7, if_neg (nI_m1 (by omega)), Two_carryOut_13]
    · intro w1 J K Q hm
      obtain ⟨X2, K3, d1, d2, d3, d4⟩ := mp w1 J K Q hm
      obtain ⟨J6, K6, z1, z2, z3, z4⟩ := mw_well (L := K3) d2 (-10 - nI e)
      refine ⟨N, fun _ _ => rfl, J6, K6, ?_, z2, z3, Fr_trans (fun x hx => ⟨wr_ne _ _ (by omega), d4 x (by omega), rfl⟩) z4⟩
      dsimp only
      rw [Model_carryOut_E, Model_carryOut_0 _ _ _ _ _ _ _ hm.1.1, d1, he, foN_1]
      simp only [kC_ret, Option.toList, List.cons_append, List.nil_append, fix1_int, fix1_ref, fix1_unk, fix1_null, fix1_long]
      rw [Model_carryOut_4, if_neg (nI_m1 (by omega)), Model_carryOut_8 _ _ _ _ _ _ _ hm.1.1, wr_same, d3, he, foN_1, z1]
      simp only [kC_ret, Option.toList, List.cons_append, List.nil_append, fix1_int, fix1_ref, fix1_unk, fix1_null, fix1_long]
      rw [Model_carryOut_19]
end
