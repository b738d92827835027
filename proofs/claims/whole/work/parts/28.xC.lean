/-! calls: write, read, cancel -/
section
variable {B : Nat} {w : Wd} {I : MI} {L : ML} {P : MP} {N : Nat → Int32} {st : Nat} {Ks : Nat → Nat → Int32} {len : Nat} {tx : Nat → Nat} {T : Nat}
/-- behind a(n accepted or refused) message the model ends its call -/
theorem mw_qu {x y rd z : Int32} {b : Int64} (hm : MW B w I P N st Ks len tx) (hst : st ≤ 4) {k : Nat} (h1 : N 1 = nI k) (hk : k ≤ 3) (hsz : ∀ c, c < 3 → ∃ s, s ≤ 4 ∧ N (207 + 40 * c) = nI s) : ∃ J1, call 134 [.ref (B + 284)] w I L P = some (.inl none, w, J1, L, P) ∧ ((¬ ∃ c, c < k ∧ x = nI c) → ∃ r, call 161 [.ref (B + 284), .int x, .int y, .int rd, .int z, .long b] w J1 L P = some (.inl (some (.int (nI 1))), w, J1, L, P) ∧ call 137 [.ref (B + 284), .int (nI 1)] w J1 L P = r ∧ Mok B w I L P (.int (nI 0)) 1 N st Ks len tx r) ∧ (∀ c, c < k → x = nI c → ¬ qOk y z b → ∃ r, call 161 [.ref (B + 284), .int x, .int y, .int rd, .int z, .long b] w J1 L P = some (.inl (some (.int (nI 2))), w, J1, L, P) ∧ call 137 [.ref (B + 284), .int (nI 2)] w J1 L P = r ∧ Mok B w I L P (.int (nI 0)) 2 N st Ks len tx r) ∧ (∀ c, c < k → x = nI c → qOk y z b → N (207 + 40 * c) = nI 4 → ∃ r, call 161 [.ref (B + 284), .int x, .int y, .int rd, .int z, .long b] w J1 L P = some (.inl (some (.int (nI 3))), w, J1, L, P) ∧ call 137 [.ref (B + 284), .int (nI 3)] w J1 L P = r ∧ Mok B w I L P (.int (nI 0)) 3 N st Ks len tx r) ∧ (∀ c s, c < k → x = nI c → qOk y z b → s < 4 → N (207 + 40 * c) = nI s → ∃ J2 r, call 161 [.ref (B + 284), .int x, .int y, .int rd, .int z, .long b] w J1 L P = some (.inl (some (.int (nI 0))), w, J2, L, P) ∧ call 137 [.ref (B + 284), .int (nI 0)] w J2 L P = r ∧ Mok B w I L P (.int (nI (s + 1))) 0 (queN N c s y rd z b) (svS st) (svK st Ks N) len tx r) := by
  obtain ⟨J1, a1, a2, a3, a4, a5⟩ := mw_asides (L := L) hm
  have hm2 := a2
  obtain ⟨⟨w71, wd1, -⟩, ⟨p01, -⟩, m3, -⟩ := hm2
  have fr : ∀ {o : Value} {cd N' st' Ks' len' tx' r}, Mok B w J1 L P o cd N' st' Ks' len' tx' r → Mok B w I L P o cd N' st' Ks' len' tx' r := by
    rintro o cd N' st' Ks' len' tx' r ⟨J, K, e1, e2, e3, e4⟩
    exact ⟨J, K, e1, e2, e3, Fr_trans a5 e4⟩
  refine ⟨J1, a1, ?_, ?_, ?_, ?_⟩
  · intro hx
    exact ⟨_, mo_queues1 w71 wd1 p01 J1 L (by rw [m3]; exact h1) hk x y rd z b hx, rfl, fr (mw_endsF a2 (by omega) (by omega))⟩
  · rintro c hc rfl hn
    exact ⟨_, (mo_queues2 w71 wd1 p01 J1 L (by rw [m3]; exact h1) hk hc y rd z b).1 hn, rfl, fr (mw_endsF a2 (by omega) (by omega))⟩
  · rintro c hc rfl ho h4
    exact ⟨_, ((mo_queues2 w71 wd1 p01 J1 L (by rw [m3]; exact h1) hk hc y rd z b).2 ho).trans (mo_queues3 w71 wd1 p01 J1 L (by omega) (by rw [m3]; exact h4) y rd z b), rfl, fr (mw_endsF a2 (by omega) (by omega))⟩
  · rintro c s hc rfl ho hs h4
    have e := ((mo_queues2 w71 wd1 p01 J1 L (by rw [m3]; exact h1) hk hc y rd z b).2 ho).trans (mo_queues4 w71 wd1 p01 (by omega) J1 L (by omega) hs (by rw [m3]; exact h4) y rd z b)
    rw [m3] at e
    have hm3 : MW B w (wr (wr J1 (B + 285) (queN N c s y rd z b)) (B + 284) (sN (J1 (B + 284)) 7 (nI (s + 1)))) P (queN N c s y rd z b) st Ks len tx := by
      have := MW_set (MW_now a2 (queN N c s y rd z b)) (k := 7) (by omega) (nI (s + 1))
      rw [wr_ne _ _ (show B + 284 ≠ B + 285 by omega)] at this
      exact this
    refine ⟨_, _, e, rfl, ?_⟩
    obtain ⟨J, K, g1, g2, g3, g4⟩ := mw_endsS (L := L) (A := N) (v := nI (s + 1)) hm3 hst (fun j hj => by rw [wr_ne _ _ (by omega), wr_ne _ _ (by omega)]; exact a3 j hj) (by rw [wr_same, sN_eq])
    exact ⟨J, K, g1, g2, g3, Fr_trans (Fr_trans a5 (fun v hv => ⟨by rw [wr_ne _ _ (by omega), wr_ne _ _ (by omega)], rfl, rfl⟩)) g4⟩
theorem sc_write (h : CW B w I L P N st Ks len tx T) (x y z : Int32) (b : Int64) : SC B w I L P N st Ks len tx T (fun e => if e = 2 then 1 else if e < 2 then e + 2 else 0) (call 85 [.ref B, .int x, .int y, .int z, .long b] w I L P) (fun w1 J K Q => call 169 [.ref (B + 284), .int x, .int y, .int z, .long b] w1 J K Q) := by
  obtain ⟨hw, p0, tb, hst, q, k, n, md, hq, hbc, hlg⟩ := CW_bc h
  have t0 := hw.1
  have hbc' := hbc
  obtain ⟨⟨hk0, hk, h1, i1⟩, -, -, -, -, -, hbq, -, -, -, hi, -⟩ := hbc'
  have hsz : ∀ c, c < 3 → ∃ s, s ≤ 4 ∧ N (207 + 40 * c) = nI s := fun c hc => by obtain ⟨s, z1, z2, -⟩ := hi.1 c hc; exact ⟨s, z1, z2⟩
  obtain ⟨co1, co2⟩ := cl_cOT hw p0 hbq hk I L i1
  rcases cl_ix x (n := k) (by omega) with ⟨c, hck, rfl⟩ | ⟨hx, hx2⟩
  · have tc := (tb.2.2.2.2.2.1 c (by omega)).1
    have c5 : call 85 [.ref B, .int (nI c), .int y, .int z, .long b] w I L P = if qOk y z b then go 85 49 [.ref B, .int (nI c), .int y, .int z, .long b, unk, .ref (B + 1 + 7 + 7 * c)] [] w I L P else some (.inr 0, thrT w, I, L, P) := by
      rw [Two_write_E, Two_write_0 _ _ _ _ _ _ _ _ _ _ _ t0, co1 c hck]
      simp only [kC_ret, Option.toList, List.cons_append, List.nil_append, fix1_int, fix1_ref, fix1_unk, fix1_null, fix1_long]
      rw [Two_write_5_1, cl_range, fix1_unk]
      by_cases g1 : RG y 0 127
      · rw [if_pos g1]
        simp only [kC_ret, Option.toList, List.cons_append, List.nil_append, fix1_int, fix1_ref, fix1_unk, fix1_null, fix1_long]
        rw [Two_write_14, cl_range]
        by_cases g2 : RG z 1 4
        · rw [if_pos g2]
          simp only [kC_ret, Option.toList, List.cons_append, List.nil_append, fix1_int, fix1_ref, fix1_unk, fix1_null, fix1_long]
          obtain ⟨cnt, hc1, hc4, rfl⟩ := RG_ex (by omega) (by omega) g2
          have bo := by_ok (by omega) hc4 b
          rw [Two_write_20]
          by_cases g3 : lg_cmp b 0 < 0
          · rw [if_pos g3, Two_write_39, if_neg (fun g => (bo.mpr g.2.2).1 g3)]
          · rw [if_neg g3, Two_write_27]
            by_cases g4 : lg_cmp b (1 <<< (Int32.toInt64 ((nI 8) * nI cnt) &&& 63)) < 0
            · rw [if_pos g4, if_pos ⟨g1, g2, bo.mp ⟨g3, g4⟩⟩]
            · rw [if_neg g4, Two_write_39, if_neg (fun g => g4 (bo.mpr g.2.2).2)]
        · rw [if_neg g2, kC_thr, if_neg (fun g => g2 g.2.1)]
      · rw [if_neg g1, kC_thr, if_neg (fun g => g1 g.1)]
    by_cases hok : qOk y z b
    · rw [if_pos hok] at c5
      obtain ⟨a, -, ha, rfl⟩ := RG_ex (by omega) (by omega) hok.1
      obtain ⟨cnt, hc1, hc4, rfl⟩ := RG_ex (by omega) (by omega) hok.2.1
      obtain ⟨s, hs4, e0⟩ := hsz c (by omega)
      obtain ⟨q1, q2⟩ := cl_queue (b := b) h hbc hck e0 hs4 (show a < 128 by omega) (Or.inl rfl : nI 0 = nI 0 ∨ nI 0 = nI 1) hc1 hc4
      by_cases hs : s = 4
      · right
        refine ⟨1, nI 0, ?_, by decide, by decide, ?_⟩
        · rw [c5, Two_write_49_1 _ _ _ _ _ _ _ _ _ _ _ t0, q1 hs, kC_thr]
        · intro w1 J K Q hm
          obtain ⟨J1, m1, -, -, m4, -⟩ := mw_qu (L := K) (x := nI c) (y := nI a) (rd := nI 0) (z := nI cnt) (b := b) hm hst h1 hk hsz
          obtain ⟨r, g1, g2, g3⟩ := m4 c hck rfl hok (by rw [e0, hs])
          refine ⟨N, fun _ _ => rfl, ?_⟩
          dsimp only
          obtain ⟨J3, K3, f1, f2⟩ := g3
          refine ⟨J3, K3, ?_, f2⟩
          rw [Model_write_E, Model_write_0 _ _ _ _ _ _ _ _ _ _ hm.1.1, m1]
          simp only [kC_ret, Option.toList, List.cons_append, List.nil_append, fix1_int, fix1_ref, fix1_unk, fix1_null, fix1_long]
          rw [Model_write_4 _ _ _ _ _ _ _ _ _ _ hm.1.1, g1]
          simp only [kC_ret, Option.toList, List.cons_append, List.nil_append, fix1_int, fix1_ref, fix1_unk, fix1_null, fix1_long]
          rw [Model_write_15 _ _ _ _ _ _ _ _ _ _ _ _ hm.1.1, g2, f1]
          simp only [kC_ret, Option.toList, List.cons_append, List.nil_append, fix1_int, fix1_ref, fix1_unk, fix1_null, fix1_long]
          rw [Model_write_18]
      · left
        obtain ⟨J, K, Q, r1, r2, r3⟩ := q2 (by omega)
        refine ⟨nI (s + 1), queN N c s (nI a) (nI 0) (nI cnt) b, svS st, svK st Ks N, len, tx, ⟨J, K, Q, ?_, r2, r3⟩, ?_⟩
        · rw [c5, Two_write_49_1 _ _ _ _ _ _ _ _ _ _ _ t0, r1]
          simp only [kC_ret, Option.toList, List.cons_append, List.nil_append, fix1_int, fix1_ref, fix1_unk, fix1_null, fix1_long]
          rw [Two_write_60]
        · intro w1 J K Q hm
          obtain ⟨J1, m1, -, -, -, m5⟩ := mw_qu (L := K) (x := nI c) (y := nI a) (rd := nI 0) (z := nI cnt) (b := b) hm hst h1 hk hsz
          obtain ⟨J2, r, g1, g2, g3⟩ := m5 c s hck rfl hok (by omega) e0
          refine ⟨_, fun _ _ => rfl, ?_⟩
          dsimp only
          obtain ⟨J3, K3, f1, f2⟩ := g3
          refine ⟨J3, K3, ?_, f2⟩
          rw [Model_write_E, Model_write_0 _ _ _ _ _ _ _ _ _ _ hm.1.1, m1]
          simp only [kC_ret, Option.toList, List.cons_append, List.nil_append, fix1_int, fix1_ref, fix1_unk, fix1_null, fix1_long]
          rw [Model_write_4 _ _ _ _ _ _ _ _ _ _ hm.1.1, g1]
          simp only [kC_ret, Option.toList, List.cons_append, List.nil_append, fix1_int, fix1_ref, fix1_unk, fix1_null, fix1_long]
          rw [Model_write_15 _ _ _ _ _ _ _ _ _ _ _ _ hm.1.1, g2, f1]
          simp only [kC_ret, Option.toList, List.cons_append, List.nil_append, fix1_int, fix1_ref, fix1_unk, fix1_null, fix1_long]
          rw [Model_write_18]
    · right
      rw [if_neg hok] at c5
      refine ⟨0, nI 0, c5, by decide, by decide, ?_⟩
      intro w1 J K Q hm
      obtain ⟨J1, m1, -, m3, -, -⟩ := mw_qu (L := K) (x := nI c) (y := y) (rd := nI 0) (z := z) (b := b) hm hst h1 hk hsz
      obtain ⟨r, g1, g2, g3⟩ := m3 c hck rfl hok
      refine ⟨N, fun _ _ => rfl, ?_⟩
      dsimp only
      obtain ⟨J3, K3, f1, f2⟩ := g3
      refine ⟨J3, K3, ?_, f2⟩
      rw [Model_write_E, Model_write_0 _ _ _ _ _ _ _ _ _ _ hm.1.1, m1]
      simp only [kC_ret, Option.toList, List.cons_append, List.nil_append, fix1_int, fix1_ref, fix1_unk, fix1_null, fix1_long]
      rw [Model_write_4 _ _ _ _ _ _ _ _ _ _ hm.1.1, g1]
      simp only [kC_ret, Option.toList, List.cons_append, List.nil_append, fix1_int, fix1_ref, fix1_unk, fix1_null, fix1_long]
      rw [Model_write_15 _ _ _ _ _ _ _ _ _ _ _ _ hm.1.1, g2, f1]
      simp only [kC_ret, Option.toList, List.cons_append, List.nil_append, fix1_int, fix1_ref, fix1_unk, fix1_null, fix1_long]
      rw [Model_write_18]
  · right
    refine ⟨2, nI 0, ?_, by decide, by decide, ?_⟩
    · rw [Two_write_E, Two_write_0 _ _ _ _ _ _ _ _ _ _ _ t0, co2 x hx2, kC_thr]
    · intro w1 J K Q hm
      obtain ⟨J1, m1, m2, -⟩ := mw_qu (L := K) (x := x) (y := y) (rd := nI 0) (z := z) (b := b) hm hst h1 hk hsz
      obtain ⟨r, g1, g2, g3⟩ := m2 hx
      refine ⟨N, fun _ _ => rfl, ?_⟩
      dsimp only
      obtain ⟨J3, K3, f1, f2⟩ := g3
      refine ⟨J3, K3, ?_, f2⟩
      rw [Model_write_E, Model_write_0 _ _ _ _ _ _ _ _ _ _ hm.1.1, m1]
      simp only [kC_ret, Option.toList, List.cons_append, List.nil_append, fix1_int, fix1_ref, fix1_unk, fix1_null, fix1_long]
      rw [Model_write_4 _ _ _ _ _ _ _ _ _ _ hm.1.1, g1]
      simp only [kC_ret, Option.toList, List.cons_append, List.nil_append, fix1_int, fix1_ref, fix1_unk, fix1_null, fix1_long]
      rw [Model_write_15 _ _ _ _ _ _ _ _ _ _ _ _ hm.1.1, g2, f1]
      simp only [kC_ret, Option.toList, List.cons_append, List.nil_append, fix1_int, fix1_ref, fix1_unk, fix1_null, fix1_long]
      rw [Model_write_18]
theorem sc_read (h : CW B w I L P N st Ks len tx T) (x y z : Int32) : SC B w I L P N st Ks len tx T (fun e => if e = 2 then 1 else if e < 2 then e + 2 else 0) (call 86 [.ref B, .int x, .int y, .int z] w I L P) (fun w1 J K Q => call 170 [.ref (B + 284), .int x, .int y, .int z] w1 J K Q) := by
  obtain ⟨hw, p0, tb, hst, q, k, n, md, hq, hbc, hlg⟩ := CW_bc h
  have t0 := hw.1
  have hbc' := hbc
  obtain ⟨⟨hk0, hk, h1, i1⟩, -, -, -, -, -, hbq, -, -, -, hi, -⟩ := hbc'
  have hsz : ∀ c, c < 3 → ∃ s, s ≤ 4 ∧ N (207 + 40 * c) = nI s := fun c hc => by obtain ⟨s, z1, z2, -⟩ := hi.1 c hc; exact ⟨s, z1, z2⟩
  obtain ⟨co1, co2⟩ := cl_cOT hw p0 hbq hk I L i1
  rcases cl_ix x (n := k) (by omega) with ⟨c, hck, rfl⟩ | ⟨hx, hx2⟩
  · have tc := (tb.2.2.2.2.2.1 c (by omega)).1
    have c5 : call 86 [.ref B, .int (nI c), .int y, .int z] w I L P = if qOk y z 0 then go 86 20 [.ref B, .int (nI c), .int y, .int z, .ref (B + 1 + 7 + 7 * c)] [] w I L P else some (.inr 0, thrT w, I, L, P) := by
      rw [Two_read_E, Two_read_0 _ _ _ _ _ _ _ _ _ t0, co1 c hck]
      simp only [kC_ret, Option.toList, List.cons_append, List.nil_append, fix1_int, fix1_ref, fix1_unk, fix1_null, fix1_long]
      rw [Two_read_5_1, cl_range, fix1_int]
      by_cases g1 : RG y 0 127
      · rw [if_pos g1]
        simp only [kC_ret, Option.toList, List.cons_append, List.nil_append, fix1_int, fix1_ref, fix1_unk, fix1_null, fix1_long]
        rw [Two_read_14, cl_range]
        by_cases g2 : RG z 1 4
        · rw [if_pos g2]
          simp only [kC_ret, Option.toList, List.cons_append, List.nil_append, fix1_int, fix1_ref, fix1_unk, fix1_null, fix1_long]
          obtain ⟨cnt, hc1, hc4, rfl⟩ := RG_ex (by omega) (by omega) g2
          have l0 : (0 : Int64) ≤ 0 ∧ (0 : Int64) ≤ mostV (nI cnt) := by
            rcases (show cnt = 1 ∨ cnt = 2 ∨ cnt = 3 ∨ cnt = 4 by omega) with rfl | rfl | rfl | rfl <;> decide
          rw [if_pos ⟨g1, g2, l0⟩]
        · rw [if_neg g2, kC_thr, if_neg (fun g => g2 g.2.1)]
      · rw [if_neg g1, kC_thr, if_neg (fun g => g1 g.1)]
    by_cases hok : qOk y z 0
    · rw [if_pos hok] at c5
      obtain ⟨a, -, ha, rfl⟩ := RG_ex (by omega) (by omega) hok.1
      obtain ⟨cnt, hc1, hc4, rfl⟩ := RG_ex (by omega) (by omega) hok.2.1
      obtain ⟨s, hs4, e0⟩ := hsz c (by omega)
      obtain ⟨q1, q2⟩ := cl_queue (b := 0) h hbc hck e0 hs4 (show a < 128 by omega) (Or.inr rfl : nI 1 = nI 0 ∨ nI 1 = nI 1) hc1 hc4
      by_cases hs : s = 4
      · right
        refine ⟨1, nI 0, ?_, by decide, by decide, ?_⟩
        · rw [c5, Two_read_20_1 _ _ _ _ _ _ _ _ _ t0, q1 hs, kC_thr]
        · intro w1 J K Q hm
          obtain ⟨J1, m1, -, -, m4, -⟩ := mw_qu (L := K) (x := nI c) (y := nI a) (rd := nI 1) (z := nI cnt) (b := 0) hm hst h1 hk hsz
          obtain ⟨r, g1, g2, g3⟩ := m4 c hck rfl hok (by rw [e0, hs])
          refine ⟨N, fun _ _ => rfl, ?_⟩
          dsimp only
          obtain ⟨J3, K3, f1, f2⟩ := g3
          refine ⟨J3, K3, ?_, f2⟩
          rw [Model_read_E, Model_read_0 _ _ _ _ _ _ _ _ hm.1.1, m1]
          simp only [kC_ret, Option.toList, List.cons_append, List.nil_append, fix1_int, fix1_ref, fix1_unk, fix1_null, fix1_long]
          rw [Model_read_4 _ _ _ _ _ _ _ _ hm.1.1, g1]
          simp only [kC_ret, Option.toList, List.cons_append, List.nil_append, fix1_int, fix1_ref, fix1_unk, fix1_null, fix1_long]
          rw [Model_read_14 _ _ _ _ _ _ _ _ _ _ hm.1.1, g2, f1]
          simp only [kC_ret, Option.toList, List.cons_append, List.nil_append, fix1_int, fix1_ref, fix1_unk, fix1_null, fix1_long]
          rw [Model_read_17]
      · left
        obtain ⟨J, K, Q, r1, r2, r3⟩ := q2 (by omega)
        refine ⟨nI (s + 1), queN N c s (nI a) (nI 1) (nI cnt) 0, svS st, svK st Ks N, len, tx, ⟨J, K, Q, ?_, r2, r3⟩, ?_⟩
        · rw [c5, Two_read_20_1 _ _ _ _ _ _ _ _ _ t0, r1]
          simp only [kC_ret, Option.toList, List.cons_append, List.nil_append, fix1_int, fix1_ref, fix1_unk, fix1_null, fix1_long]
          rw [Two_read_30]
        · intro w1 J K Q hm
          obtain ⟨J1, m1, -, -, -, m5⟩ := mw_qu (L := K) (x := nI c) (y := nI a) (rd := nI 1) (z := nI cnt) (b := 0) hm hst h1 hk hsz
          obtain ⟨J2, r, g1, g2, g3⟩ := m5 c s hck rfl hok (by omega) e0
          refine ⟨_, fun _ _ => rfl, ?_⟩
          dsimp only
          obtain ⟨J3, K3, f1, f2⟩ := g3
          refine ⟨J3, K3, ?_, f2⟩
          rw [Model_read_E, Model_read_0 _ _ _ _ _ _ _ _ hm.1.1, m1]
          simp only [kC_ret, Option.toList, List.cons_append, List.nil_append, fix1_int, fix1_ref, fix1_unk, fix1_null, fix1_long]
          rw [Model_read_4 _ _ _ _ _ _ _ _ hm.1.1, g1]
          simp only [kC_ret, Option.toList, List.cons_append, List.nil_append, fix1_int, fix1_ref, fix1_unk, fix1_null, fix1_long]
          rw [Model_read_14 _ _ _ _ _ _ _ _ _ _ hm.1.1, g2, f1]
          simp only [kC_ret, Option.toList, List.cons_append, List.nil_append, fix1_int, fix1_ref, fix1_unk, fix1_null, fix1_long]
          rw [Model_read_17]
    · right
      rw [if_neg hok] at c5
      refine ⟨0, nI 0, c5, by decide, by decide, ?_⟩
      intro w1 J K Q hm
      obtain ⟨J1, m1, -, m3, -, -⟩ := mw_qu (L := K) (x := nI c) (y := y) (rd := nI 1) (z := z) (b := 0) hm hst h1 hk hsz
      obtain ⟨r, g1, g2, g3⟩ := m3 c hck rfl hok
      refine ⟨N, fun _ _ => rfl, ?_⟩
      dsimp only
      obtain ⟨J3, K3, f1, f2⟩ := g3
      refine ⟨J3, K3, ?_, f2⟩
      rw [Model_read_E, Model_read_0 _ _ _ _ _ _ _ _ hm.1.1, m1]
      simp only [kC_ret, Option.toList, List.cons_append, List.nil_append, fix1_int, fix1_ref, fix1_unk, fix1_null, fix1_long]
      rw [Model_read_4 _ _ _ _ _ _ _ _ hm.1.1, g1]
      simp only [kC_ret, Option.toList, List.cons_append, List.nil_append, fix1_int, fix1_ref, fix1_unk, fix1_null, fix1_long]
      rw [Model_read_14 _ _ _ _ _ _ _ _ _ _ hm.1.1, g2, f1]
      simp only [kC_ret, Option.toList, List.cons_append, List.nil_append, fix1_int, fix1_ref, fix1_unk, fix1_null, fix1_long]
      rw [Model_read_17]
  · right
    refine ⟨2, nI 0, ?_, by decide, by decide, ?_⟩
    · rw [Two_read_E, Two_read_0 _ _ _ _ _ _ _ _ _ t0, co2 x hx2, kC_thr]
    · intro w1 J K Q hm
      obtain ⟨J1, m1, m2, -⟩ := mw_qu (L := K) (x := x) (y := y) (rd := nI 1) (z := z) (b := 0) hm hst h1 hk hsz
      obtain ⟨r, g1, g2, g3⟩ := m2 hx
      refine ⟨N, fun _ _ => rfl, ?_⟩
      dsimp only
      obtain ⟨J3, K3, f1, f2⟩ := g3
      refine ⟨J3, K3, ?_, f2⟩
      rw [Model_read_E, Model_read_0 _ _ _ _ _ _ _ _ hm.1.1, m1]
      simp only [kC_ret, Option.toList, List.cons_append, List.nil_append, fix1_int, fix1_ref, fix1_unk, fix1_null, fix1_long]
      rw [Model_read_4 _ _ _ _ _ _ _ _ hm.1.1, g1]
      simp only [kC_ret, Option.toList, List.cons_append, List.nil_append, fix1_int, fix1_ref, fix1_unk, fix1_null, fix1_long]
      rw [Model_read_14 _ _ _ _ _ _ _ _ _ _ hm.1.1, g2, f1]
      simp only [kC_ret, Option.toList, List.cons_append, List.nil_append, fix1_int, fix1_ref, fix1_unk, fix1_null, fix1_long]
      rw [Model_read_17]
end
