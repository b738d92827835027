/-! the class's calls: carryOut -/
/-- what an order at p does to the row; none: its call would throw -/
def ordN (len : Nat) (tx : Nat → Nat) (k p : Nat) (N : Nat → Int32) : Option (Nat → Int32) :=
  if tx p = 115 then some (slotsN N (cnN len tx p)) else if whN tx p < k then (if cl N (207 + 40 * whN tx p) = 4 then none else some (queN N (whN tx p) (cl N (207 + 40 * whN tx p)) (nI (adN len tx p)) (if tx p = 119 then nI 0 else nI 1) (nI (cnN len tx p)) (Int64.ofNat (btN len tx p)))) else none
def carN (len : Nat) (tx : Nat → Nat) (k : Nat) : Nat → Nat → (Nat → Int32) → Nat → Nat × (Nat → Int32)
  | 0, _, N, c => (c, N)
  | f + 1, p, N, c => if p < len then (match ordN len tx k p N with | some M => carN len tx k f (nxN len tx p) M (c + 1) | none => (c, N)) else (c, N)
section
variable {B : Nat} {w : Wd} {I : MI} {L : ML} {P : MP} {N : Nat → Int32} {st : Nat} {Ks : Nat → Nat → Int32} {len : Nat} {tx : Nat → Nat} {T : Nat}
theorem cc_order (h : CW B w I L P N st Ks len tx T) {k0 p T' : Nat} (hk1 : N 1 = nI k0) (hk3 : k0 ≤ 3) (hf : fltN len tx p = none) (hT : T + 40 * (nxN len tx p - p) ≤ T') (hT2 : T' < 2147400000) (fc : FC len tx p (I (B + 122)) (L (B + 122) 9)) (htx : tx p < 128) : (∀ M, ordN len tx k0 p N = some M → ∃ J K Q, call 114 [.ref B] w I L P = some (.inl (some (.int (nI 1))), w, J, K, Q) ∧ CW B w J K Q M st Ks len tx T' ∧ Fr (B + 1) (B + 41) I J L K P Q ∧ M 1 = nI k0) ∧ (ordN len tx k0 p N = none → call 114 [.ref B] w I L P = some (.inl (some (.int (nI 0))), w, I, L, P)) := by
  obtain ⟨hw, p0, tb, hst, q, k, n, md, hq, hbc, hlg⟩ := CW_bc h
  obtain ⟨q', hqT, hg, h0⟩ := CW_GN h
  have eq : q' = q := by
    have := hlg.1
    rw [h0, nI_eq (by omega) (by omega)] at this
    exact this
  subst eq
  obtain ⟨u1, u2, u3, u4, u5, u6, u7⟩ := CW_tb h
  have t0 := hw.1
  have hbc' := hbc
  obtain ⟨⟨hk0, hk, h1, i1⟩, -, -, -, i7, -, hbq, hcs, -, -, hi, -⟩ := hbc'
  have ek0 : k = k0 := by
    rw [h1, nI_eq (by omega) (by omega)] at hk1
    exact hk1
  subst ek0
  obtain ⟨f5, f8, f6⟩ := fc
  unfold ordN
  obtain ⟨o1, o2, o3 | ⟨k3, o4, o5, o6⟩⟩ := flt_ok hf
  · obtain ⟨kk, k3, w2, a7, c1, c4, hb⟩ := o3
    obtain ⟨g6, g7, g9⟩ := f6 k3
    have n115 : nI (tx p) ≠ nI 115 := fun z => k3 (by rw [nI_eq (by omega) (by omega)] at z; exact z)
    rw [if_neg k3]
    have c28 : call 114 [.ref B] w I L P = kC (call 30 [.ref (B + 1), .int (nI (whN tx p))] w I L P) (fun v w1 I1 L1 P1 => go 114 42 [.ref B, unk] (v.toList ++ []) w1 I1 L1 P1) := by
      rw [Two_obeyOrder_E, Two_obeyOrder_0 _ _ _ _ _ _ t0, u3, rf_some, Two_obeyOrder_4 _ _ _ _ _ _ _ u1, f5, if_pos n115, Two_obeyOrder_28 _ _ _ _ _ _ t0, p0, rf_some, Two_obeyOrder_32 _ _ _ _ _ _ _ t0, u3, rf_some, Two_obeyOrder_36 _ _ _ _ _ _ _ _ u1 tb.1, g6]
    by_cases hwk : whN tx p < k
    · rw [if_pos hwk]
      obtain ⟨s, hs4, e0, -, -⟩ := hi.1 (whN tx p) (by omega)
      have tc := tb.2.2.2.2.2.1 (whN tx p) (by omega)
      obtain ⟨qq, s', hp, z1, z2, z3, -⟩ := hcs (whN tx p) (by omega)
      have es : s' = s := by
        rw [e0, nI_eq (by omega) (by omega)] at z2
        exact z2.symm
      subst es
      rw [cl_of e0 (by omega)]
      have c83 : call 114 [.ref B] w I L P = kC (call 8 [.ref (B + 1 + 7 + 7 * whN tx p), .int (if tx p = 119 then nI 0 else nI 1), .int (nI (adN len tx p)), .int (nI (cnN len tx p)), .long (Int64.ofNat (btN len tx p))] w I L P) (fun v w1 I1 L1 P1 => go 114 89 [.ref B, .ref (B + 1 + 7 + 7 * whN tx p)] (v.toList ++ []) w1 I1 L1 P1) := by
        rcases kk with k1 | k2
        · rw [if_pos k1]
          rw [c28, cl_callerAt tb hbq hk hwk I L i1]
          simp only [kC_ret, Option.toList, List.cons_append, List.nil_append, fix1_int, fix1_ref, fix1_unk, fix1_null, fix1_long]
          rw [Two_obeyOrder_42_1, fix1_ref, Two_obeyOrder_47_1 _ _ _ _ _ _ t0, u3, rf_some, Two_obeyOrder_52 _ _ _ _ _ _ _ _ u1, f5, if_pos (fun z => by rw [nI_eq (by omega) (by omega)] at z; omega), Two_obeyOrder_64, Two_obeyOrder_65 _ _ _ _ _ _ _ _ t0, u3, rf_some, Two_obeyOrder_69 _ _ _ _ _ _ _ _ _ u1 t0, u3, rf_some, g7, Two_obeyOrder_76 _ _ _ _ _ _ _ _ _ _ u1 t0, u3, rf_some, f8, Two_obeyOrder_83 _ _ _ _ _ _ _ _ _ _ _ u1 tc.1, g9]
          rfl
        · rw [if_neg (show ¬ tx p = 119 by omega)]
          rw [c28, cl_callerAt tb hbq hk hwk I L i1]
          simp only [kC_ret, Option.toList, List.cons_append, List.nil_append, fix1_int, fix1_ref, fix1_unk, fix1_null, fix1_long]
          rw [Two_obeyOrder_42_1, fix1_ref, Two_obeyOrder_47_1 _ _ _ _ _ _ t0, u3, rf_some, Two_obeyOrder_52 _ _ _ _ _ _ _ _ u1, f5, if_neg (by rw [k2]; simp), Two_obeyOrder_60, Two_obeyOrder_65 _ _ _ _ _ _ _ _ t0, u3, rf_some, Two_obeyOrder_69 _ _ _ _ _ _ _ _ _ u1 t0, u3, rf_some, g7, Two_obeyOrder_76 _ _ _ _ _ _ _ _ _ _ u1 t0, u3, rf_some, f8, Two_obeyOrder_83 _ _ _ _ _ _ _ _ _ _ _ u1 tc.1, g9]
          rfl
      have hrd2 : (if tx p = 119 then nI 0 else nI 1) = nI 0 ∨ (if tx p = 119 then nI 0 else nI 1) = nI 1 := by
        by_cases z : tx p = 119
        · rw [if_pos z]; exact Or.inl rfl
        · rw [if_neg z]; exact Or.inr rfl
      by_cases hs : s' = 4
      · rw [if_pos hs]
        refine ⟨fun M hM => (nomatch hM), fun _ => ?_⟩
        subst hs
        rw [c83, cl_enqF tc hp I L z3]
        simp only [kC_ret, Option.toList, List.cons_append, List.nil_append, fix1_int, fix1_ref, fix1_unk, fix1_null, fix1_long]
        rw [Two_obeyOrder_89, if_pos n00, Two_obeyOrder_96, Two_obeyOrder_97 _ _ _ _ _ _ _ b01]
      · rw [if_neg hs]
        refine ⟨fun M hM => ?_, fun y => nomatch y⟩
        obtain ⟨J, K, r1, r2, r3, r4⟩ := BR_enq (bt := Int64.ofNat (btN len tx p)) tb hbc hlg hwk (show s' < 4 by omega) e0 (show adN len tx p < 128 by omega) hrd2 (show 0 < cnN len tx p by omega) c4
        have f2 : Fr (B + 1) (B + 41) I J L K P P := Fr_mono r4 (by omega) (by omega)
        injection hM with hM
        subst hM
        refine ⟨J, K, P, ?_, CW_bus h f2 (by omega) (by omega) r2, f2, ?_⟩
        · rw [c83, r1]
          simp only [kC_ret, Option.toList, List.cons_append, List.nil_append, fix1_int, fix1_ref, fix1_unk, fix1_null, fix1_long]
          rw [Two_obeyOrder_89, if_neg n10, Two_obeyOrder_92, Two_obeyOrder_97 _ _ _ _ _ _ _ b11]
        · rw [queN_out (by omega) (by omega)]; exact h1
    · rw [if_neg hwk]
      refine ⟨fun M hM => (nomatch hM), fun _ => ?_⟩
      rw [c28, cl_callerAtN tb I L (Or.inr (by rw [i1]; exact nI_le (by omega) (by omega)))]
      simp only [kC_ret, Option.toList, List.cons_append, List.nil_append, fix1_int, fix1_ref, fix1_unk, fix1_null, fix1_long]
      rw [Two_obeyOrder_42_0, Two_obeyOrder_96, Two_obeyOrder_97 _ _ _ _ _ _ _ b01]
  · rw [if_pos k3]
    refine ⟨fun M hM => ?_, fun y => nomatch y⟩
    have e115 : nI (tx p) = nI 115 := by rw [k3]
    obtain ⟨J2, Q2, b1, b2, b3⟩ := cl_slots (f := cnN len tx p) tb ⟨⟨k, n, md, hbc⟩, hlg⟩ (by omega)
    have f2 : Fr (B + 1) (B + 41) I J2 L L P Q2 := b3
    injection hM with hM
    subst hM
    refine ⟨J2, L, Q2, ?_, CW_bus h f2 (by omega) (by omega) b2, f2, ?_⟩
    · rw [Two_obeyOrder_E, Two_obeyOrder_0 _ _ _ _ _ _ t0, u3, rf_some, Two_obeyOrder_4 _ _ _ _ _ _ _ u1, f5, if_neg (fun z => z e115), Two_obeyOrder_12 _ _ _ _ _ _ t0, p0, rf_some, Two_obeyOrder_16 _ _ _ _ _ _ _ t0, u3, rf_some, Two_obeyOrder_20 _ _ _ _ _ _ _ _ u1 tb.1, f8, b1]
      simp only [kC_ret, Option.toList, List.cons_append, List.nil_append, fix1_int, fix1_ref, fix1_unk, fix1_null, fix1_long]
      rw [Two_obeyOrder_26 _ _ _ _ _ _ b11]
    · rw [GN_1s hg _ (by omega)]; exact h1
theorem cc_cl (hT : T < 2147000000) {k0 : Nat} (hk3 : k0 ≤ 3) : ∀ f p c, len ≤ p + f → 3 * c ≤ p → p ≤ 100 → erN len tx f p = none → ∀ (I : MI) (L : ML) (P : MP) (N : Nat → Int32) (v : Value), N 1 = nI k0 → CW B w I L P N st Ks len tx (T + 40 * p) → I (B + 122) 2 = nI p → ∃ J K Q, go 103 31 [.ref B, v, .int (nI c)] [] w I L P = some (.inl (some (.int (nI (carN len tx k0 f p N c).1))), w, J, K, Q) ∧ CW B w J K Q (carN len tx k0 f p N c).2 st Ks len tx (T + 4000) ∧ Fr B (B + 284) I J L K P Q := by
  have stop : ∀ p c, len ≤ p → 3 * c ≤ p → p ≤ 100 → ∀ (I : MI) (L : ML) (P : MP) (N : Nat → Int32) (v : Value), CW B w I L P N st Ks len tx (T + 40 * p) → I (B + 122) 2 = nI p → ∃ J K Q, go 103 31 [.ref B, v, .int (nI c)] [] w I L P = some (.inl (some (.int (nI c))), w, J, K, Q) ∧ CW B w J K Q N st Ks len tx (T + 4000) ∧ Fr B (B + 284) I J L K P Q := by
    intro p c hlp hc hp I L P N v h h2
    refine ⟨I, L, P, ?_, CW_T h (by omega), Fr_refl⟩
    have ht := CW_TXT h
    rw [Two_carryOut_31, if_neg (nI_ge (by omega) (by omega)), Two_carryOut_37 _ _ _ _ _ _ _ h.1.1, (CW_tb h).2.2.1, rf_some, Two_carryOut_41 _ _ _ _ _ _ _ _ ht.1, cl_nO0 ht hlp (by omega) h2]
    simp only [kC_ret, Option.toList, List.cons_append, List.nil_append, fix1_int, fix1_ref, fix1_unk, fix1_null, fix1_long]
    rw [Two_carryOut_44, if_pos n00, Two_carryOut_60]
  intro f
  induction f with
  | zero =>
    intro p c hlp hc hp _ I L P N v _ h h2
    exact stop p c (by omega) hc hp I L P N v h h2
  | succ f ih =>
    intro p c hlp hc hp he I L P N v hk1 h h2
    unfold carN
    by_cases g : p < len
    · rw [if_pos g]
      obtain ⟨hf, he2⟩ := erN_st he g
      obtain ⟨o1, o2, o3⟩ := flt_ok hf
      have t0 := h.1.1
      have ht := CW_TXT h
      have hl := ht.2.2.2.2.1
      have hx := TXT_x ht
      obtain ⟨X, K, a1, a2, a3, a4, -⟩ := cl_nO (L := L) ht g h2
      obtain ⟨b2, b3, b5, b8, b6⟩ := a4 hf
      have h1 : CW B w (wr I (B + 122) X) K P N st Ks len tx (T + 40 * p) := CW_txt h a2 a3
      have way : go 103 31 [.ref B, v, .int (nI c)] [] w I L P = kC (call 114 [.ref B] w (wr I (B + 122) X) K P) (fun u w1 I1 L1 P1 => go 103 51 [.ref B, v, .int (nI c)] (u.toList ++ []) w1 I1 L1 P1) := by
        rw [Two_carryOut_31, if_neg (nI_ge (by omega) (by omega)), Two_carryOut_37 _ _ _ _ _ _ _ t0, (CW_tb h).2.2.1, rf_some, Two_carryOut_41 _ _ _ _ _ _ _ _ ht.1, a1, if_pos hf]
        simp only [kC_ret, Option.toList, List.cons_append, List.nil_append, fix1_int, fix1_ref, fix1_unk, fix1_null, fix1_long]
        rw [Two_carryOut_44, if_neg n10, Two_carryOut_47 _ _ _ _ _ _ _ t0]
        rfl
      have fX : Fr B (B + 284) I (wr I (B + 122) X) L K P P := fun x hx => ⟨wr_ne _ _ (by omega), a3 x (by omega), rfl⟩
      obtain ⟨y1, y2⟩ := cc_order (T' := T + 40 * nxN len tx p) h1 hk1 hk3 hf (by omega) (by omega) (by rw [wr_same]; exact ⟨b5, b8, b6⟩) (hx p g)
      cases hO : ordN len tx k0 p N with
      | some M =>
        obtain ⟨J, K1, Q, r1, r2, r3, r4⟩ := y1 M hO
        obtain ⟨J', K', Q', s1, s2, s3⟩ := ih (nxN len tx p) (c + 1) (by omega) (by omega) (by omega) he2 J K1 Q M (fix1 v) r4 r2 (by rw [(r3 (B + 122) (by omega)).1, wr_same]; exact b2)
        refine ⟨J', K', Q', ?_, s2, Fr_trans (Fr_trans fX (Fr_B r3)) s3⟩
        rw [way, r1]
        simp only [kC_ret, Option.toList, List.cons_append, List.nil_append, fix1_int, fix1_ref, fix1_unk, fix1_null, fix1_long]
        rw [Two_carryOut_51, if_neg n10, Two_carryOut_54, nI_add]
        exact s1
      | none =>
        refine ⟨_, K, P, ?_, CW_T h1 (by omega), fX⟩
        rw [way, y2 hO]
        simp only [kC_ret, Option.toList, List.cons_append, List.nil_append, fix1_int, fix1_ref, fix1_unk, fix1_null, fix1_long]
        rw [Two_carryOut_51, if_pos n00, Two_carryOut_60]
    · rw [if_neg g]
      exact stop p c (by omega) hc hp I L P N v h h2
theorem cc_carryOut (h : CW B w I L P N st Ks len tx T) (hT : T < 2147000000) {k0 : Nat} (hk1 : N 1 = nI k0) (hk3 : k0 ≤ 3) : (erN len tx 100 0 = none → Cok B w I L P (.int (nI (carN len tx k0 100 0 N 0).1)) (carN len tx k0 100 0 N 0).2 (svS st) (svK st Ks N) len tx (T + 4000) (call 103 [.ref B] w I L P)) ∧ (∀ e, erN len tx 100 0 = some e → Cok B w I L P (.int (-10 - nI e)) N st Ks len tx T (call 103 [.ref B] w I L P)) := by
  obtain ⟨u1, u2, u3, u4, u5, u6, u7⟩ := CW_tb h
  have t0 := h.1.1
  have hst := (CW_bc h).2.2.2.1
  have ht := CW_TXT h
  have hl := ht.2.2.2.2.1
  have hx := TXT_x ht
  obtain ⟨X, K, a1, a2, a3⟩ := cl_fE (L := L) ht
  have h1 : CW B w (wr I (B + 122) X) K P N st Ks len tx T := CW_txt h a2 a3
  have fX : Fr B (B + 284) I (wr I (B + 122) X) L K P P := fun x hx => ⟨wr_ne _ _ (by omega), a3 x (by omega), rfl⟩
  refine ⟨fun g => ?_, fun e he => ?_⟩
  · obtain ⟨J1, K1, Q1, b1, b2, b3⟩ := cl_save h1
    obtain ⟨v1, v2, v3, v4, v5, v6, v7⟩ := CW_tb b2
    have h2 : CW B w (wr J1 (B + 122) (sN (sN (J1 (B + 122)) 2 (nI 0)) 3 (-1))) K1 Q1 N (svS st) (svK st Ks N) len tx (T + 40 * 0) := CW_txt b2 (by rw [sN_ne (by omega), sN_ne (by omega)]) (fun _ _ => rfl)
    obtain ⟨J2, K2, Q2, c1, c2, c3⟩ := cc_cl hT hk3 100 0 0 (by omega) (by omega) (by omega) g _ K1 Q1 N (fix1 (.int (-1))) hk1 h2 (by rw [wr_same, sN_ne (by omega), sN_eq])
    refine ⟨J2, K2, Q2, ?_, c2, Fr_trans (Fr_trans (Fr_trans fX (FvS_Fr b3)) (fun x hx => ⟨wr_ne _ _ (by omega), rfl, rfl⟩)) c3⟩
    rw [Two_carryOut_E, Two_carryOut_0 _ _ _ _ _ _ _ t0, u3, rf_some, Two_carryOut_4 _ _ _ _ _ _ _ _ u1, a1, g, foN_n]
    simp only [kC_ret, Option.toList, List.cons_append, List.nil_append, fix1_int, fix1_ref, fix1_unk, fix1_null, fix1_long]
    rw [Two_carryOut_7, if_pos rfl, fix1_ref, Two_carryOut_18 _ _ _ _ _ _ _ t0, b1]
    simp only [kC_ret, Option.toList, List.cons_append, List.nil_append, fix1_int, fix1_ref, fix1_unk, fix1_null, fix1_long]
    rw [Two_carryOut_22 _ _ _ _ _ _ _ t0, v3, rf_some, Two_carryOut_26 _ _ _ _ _ _ _ _ v1, Text_rewind_E, Text_rewind_0 _ _ _ _ _ v1, updI_wr, updI_wr, wr_wr, wr_same]
    simp only [kC_ret, Option.toList, List.cons_append, List.nil_append, fix1_int, fix1_ref, fix1_unk, fix1_null, fix1_long]
    rw [Two_carryOut_29]
    exact c1
  · have hb := erN_b _ _ he
    refine ⟨_, K, P, ?_, h1, fX⟩
    rw [Two_carryOut_E, Two_carryOut_0 _ _ _ _ _ _ _ t0, u3, rf_some, Two_carryOut_4 _ _ _ _ _ _ _ _ u1, a1, he, foN_1]
    simp only [kC_ret, Option.toList, List.cons_append, List.nil_append, fix1_int, fix1_ref, fix1_unk, fix1_null, fix1_long]
    rw [Two_carryOut_7, if_neg (nI_m1 (by omega)), Two_carryOut_13]
end
