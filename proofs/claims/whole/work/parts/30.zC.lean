/-! digest: both -/
section
variable {B : Nat} {w : Wd} {I : MI} {L : ML} {P : MP} {N : Nat → Int32} {st : Nat} {Ks : Nat → Nat → Int32} {len : Nat} {tx : Nat → Nat} {T : Nat}
theorem sc_digest (h : CW B w I L P N st Ks len tx T) (hT : T < 2147000000) : ∃ v, (∃ J K Q, call 105 [.ref B] w I L P = some (.inl (some (.long v)), w, J, K, Q) ∧ CW B w J K Q N st Ks len tx T ∧ Fr B (B + 284) I J L K P Q) ∧ ∀ w1 J K Q, MW B w1 J Q N st Ks len tx → ∃ M J' K', call 205 [.ref (B + 284)] w1 J K Q = some (.inl (some (.long v)), w1, J', K', Q) ∧ (∀ j, j < 459 → M j = N j) ∧ MW B w1 J' Q M st Ks len tx ∧ Fr (B + 284) (B + 289) J J' K K' Q Q := by
  obtain ⟨hw, p0, tb, hst, q0, k, n, md, hq0, hbc, hlg⟩ := CW_bc h
  obtain ⟨q, hqT, hg, h0⟩ := CW_GN h
  have eq : q0 = q := by
    have := hlg.1
    rw [h0, nI_eq (by omega) (by omega)] at this
    exact this.symm
  subst eq
  obtain ⟨f, hf1, hf2, hf3⟩ := fin_ex hg (by omega)
  obtain ⟨u1, u2, u3, u4, u5, u6, u7⟩ := CW_tb h
  obtain ⟨-, ⟨r, -, s4, -⟩, -⟩ := id h
  have t0 := hw.1
  have t3 := tb.2.2.2.1
  have hbc' := hbc
  obtain ⟨⟨hk0, hk, h1, i1⟩, ⟨hn, h2, i3⟩, -, -, i7, -, hbq, hcs, hls, -, hi, hol, -⟩ := hbc'
  obtain ⟨kp1, kp2⟩ := kept_le q0
  refine ⟨dgA N len k n q0 f st, ?_, ?_⟩
  · obtain ⟨J, K, Q, a1, a2, -, a4⟩ := cl_trial h hT h0 (by omega) (by omega) hf2 hf3
    refine ⟨J, K, Q, ?_, a2, Fr_mono a4 (by omega) (by omega)⟩
    have l1 : ∀ g v, v + g = 10 → ∀ hh x4, go 105 16 [.ref B, .long hh, unk, .int (nI v), x4] [] w I L P = go 105 41 [.ref B, .long (fd2 (fun v h => mxN h (numV N v)) g v hh), unk, .int (nI 10), x4] [] w I L P := by
      intro g
      induction g with
      | zero =>
        intro v hv hh x4
        have : v = 10 := by omega
        subst this
        rw [Two_digest_16, if_pos (nI_lt (by omega) (by omega))]; rfl
      | succ g ih =>
        intro v hv hh x4
        rw [Two_digest_16, if_neg (nI_nlt (by omega) (by omega)), Two_digest_22 _ _ _ _ _ _ _ _ _ t0, p0, rf_some, Two_digest_27 _ _ _ _ _ _ _ _ _ _ _ tb.1, cl_btell tb hbc hlg (by omega) (show v < 10 by omega)]
        simp only [kC_ret, Option.toList, List.cons_append, List.nil_append, fix1_int, fix1_ref, fix1_unk, fix1_null, fix1_long]
        rw [Two_digest_31, cl_mix]
        simp only [kC_ret, Option.toList, List.cons_append, List.nil_append, fix1_int, fix1_ref, fix1_unk, fix1_null, fix1_long]
        rw [Two_digest_34, fix1_ref, nI_add, ih (v + 1) (by omega)]
        rfl
    have l2 : ∀ g c, c + g = k → ∀ hh x4, go 105 43 [.ref B, .long hh, unk, .int (nI c), x4] [] w I L P = go 105 67 [.ref B, .long (fd2 (fun c h => dgC N c h) g c hh), unk, .int (nI k), x4] [] w I L P := by
      intro g
      induction g with
      | zero =>
        intro c hc hh x4
        have : c = k := by omega
        subst this
        rw [Two_digest_43 _ _ _ _ _ _ _ _ _ t0, p0, rf_some, Two_digest_48 _ _ _ _ _ _ _ _ _ _ _ tb.1, i1, if_pos (nI_le (by omega) (by omega))]; rfl
      | succ g ih =>
        intro c hc hh x4
        rw [Two_digest_43 _ _ _ _ _ _ _ _ _ t0, p0, rf_some, Two_digest_48 _ _ _ _ _ _ _ _ _ _ _ tb.1, i1, if_neg (nI_ge (by omega) (by omega)), Two_digest_54 _ _ _ _ _ _ _ _ _ t0, cl_mixC t0 p0 tb hbc (show c < k by omega)]
        simp only [kC_ret, Option.toList, List.cons_append, List.nil_append, fix1_int, fix1_ref, fix1_unk, fix1_null, fix1_long]
        rw [Two_digest_60, fix1_ref, nI_add, ih (c + 1) (by omega)]
        rfl
    have l3 : ∀ g l, l + g = n → ∀ hh x4, go 105 69 [.ref B, .long hh, unk, .int (nI l), x4] [] w I L P = go 105 99 [.ref B, .long (fd2 (fun l h => dgL N l h) g l hh), unk, .int (nI n), x4] [] w I L P := by
      intro g
      induction g with
      | zero =>
        intro l hl hh x4
        have : l = n := by omega
        subst this
        rw [Two_digest_69 _ _ _ _ _ _ _ _ _ t0, p0, rf_some, Two_digest_74 _ _ _ _ _ _ _ _ _ _ _ tb.1, i3, if_pos (nI_le (by omega) (by omega))]; rfl
      | succ g ih =>
        intro l hl hh x4
        rw [Two_digest_69 _ _ _ _ _ _ _ _ _ t0, p0, rf_some, Two_digest_74 _ _ _ _ _ _ _ _ _ _ _ tb.1, i3, if_neg (nI_ge (by omega) (by omega)), Two_digest_80 _ _ _ _ _ _ _ _ _ t0, p0, rf_some, Two_digest_85 _ _ _ _ _ _ _ _ _ _ _ tb.1, cl_listenerAt tb hbq hn (show l < n by omega) I L i3]
        simp only [kC_ret, Option.toList, List.cons_append, List.nil_append, fix1_int, fix1_ref, fix1_unk, fix1_null, fix1_long]
        rw [Two_digest_89_1, cl_mixL tb hbc (show l < n by omega)]
        simp only [kC_ret, Option.toList, List.cons_append, List.nil_append, fix1_int, fix1_ref, fix1_unk, fix1_null, fix1_long]
        rw [Two_digest_92, fix1_ref, nI_add, ih (l + 1) (by omega)]
        rfl
    have l4 : ∀ g b, b + g = kept q0 → ∀ hh, go 105 113 [.ref B, .long hh, unk, .int (nI (kept q0)), .int (nI b)] [] w I L P = go 105 143 [.ref B, .long (fd2 (fun b h => mxN h (N (15 + 3 * ((q0 - 1 - b) % 64)))) g b hh), unk, .int (nI (kept q0)), .int (nI (kept q0))] [] w I L P := by
      intro g
      induction g with
      | zero =>
        intro b hb hh
        have : b = kept q0 := by omega
        subst this
        rw [Two_digest_113, if_pos (nI_le (by omega) (by omega))]; rfl
      | succ g ih =>
        intro b hb hh
        rw [Two_digest_113, if_neg (nI_ge (by omega) (by omega)), Two_digest_119 _ _ _ _ _ _ _ _ _ t0, p0, rf_some, Two_digest_124 _ _ _ _ _ _ _ _ _ _ _ tb.1, hbq.2.2.1, rf_some, Two_digest_127 _ _ _ _ _ _ _ _ _ _ _ t3, cl_gtell tb hbq hlg (by omega) (show b < q0 by omega) (show 0 < 3 by omega), Nat.add_zero]
        simp only [kC_ret, Option.toList, List.cons_append, List.nil_append, fix1_int, fix1_ref, fix1_unk, fix1_null, fix1_long]
        rw [Two_digest_133, cl_mix]
        simp only [kC_ret, Option.toList, List.cons_append, List.nil_append, fix1_int, fix1_ref, fix1_unk, fix1_null, fix1_long]
        rw [Two_digest_136, fix1_ref, fix1_int, nI_add, ih (b + 1) (by omega)]
        rfl
    rw [Two_digest_E, Two_digest_0 _ _ _ _ _ _ _ _ _ t0, u3, rf_some, Two_digest_7 _ _ _ _ _ _ _ _ _ _ _ u1, cl_mix, u6]
    simp only [kC_ret, Option.toList, List.cons_append, List.nil_append, fix1_int, fix1_ref, fix1_unk, fix1_null, fix1_long]
    rw [Two_digest_13, fix1_ref, l1 10 0 (by omega), Two_digest_41, fix1_unk, l2 k 0 (by omega), Two_digest_67, fix1_unk, l3 n 0 (by omega), Two_digest_99 _ _ _ _ _ _ _ _ _ t0, p0, rf_some, Two_digest_103 _ _ _ _ _ _ _ _ _ _ tb.1, hbq.2.2.1, rf_some, Two_digest_106 _ _ _ _ _ _ _ _ _ _ t3, cl_kept tb hlg (by omega)]
    simp only [kC_ret, Option.toList, List.cons_append, List.nil_append, fix1_int, fix1_ref, fix1_unk, fix1_null, fix1_long]
    rw [Two_digest_109, fix1_unk, l4 (kept q0) 0 (by omega), Two_digest_143 _ _ _ _ _ _ _ _ _ t0, a1]
    simp only [kC_ret, Option.toList, List.cons_append, List.nil_append, fix1_int, fix1_ref, fix1_unk, fix1_null, fix1_long]
    have e4 : J B 4 = nI st := by rw [(a4 B (by omega)).1]; exact s4
    rw [Two_digest_148, cl_mix]
    simp only [kC_ret, Option.toList, List.cons_append, List.nil_append, fix1_int, fix1_ref, fix1_unk, fix1_null, fix1_long]
    rw [Two_digest_151 _ _ _ _ _ _ _ _ _ _ t0, e4, cl_mix]
    simp only [kC_ret, Option.toList, List.cons_append, List.nil_append, fix1_int, fix1_ref, fix1_unk, fix1_null, fix1_long]
    rw [Two_digest_160]
    rfl
  · intro w1 J K Q hm
    have w71 := hm.1.1
    have hm6 := MW_set hm (k := 6) (by omega) (nI 0)
    obtain ⟨J2, M, c1, c2, c3, c4⟩ := mo_would (L := K) hm6 hg (by omega) hf2 hf3
    have c2' := c2
    obtain ⟨⟨-, wd1, -⟩, ⟨p01, -⟩, m3, m4, -, m6, -⟩ := c2'
    have e : ∀ j, j < 459 → J2 (B + 285) j = N j := fun j hj => by rw [m3]; exact c3 j hj
    refine ⟨M, J2, updL K (B + 284) 15 (dgA N len k n q0 f st), ?_, c3, c2, Fr_trans Fr_mo (fun x hx => ⟨(c4 x hx).1, updL_o (by omega), rfl⟩)⟩
    obtain ⟨y3, y4, b2⟩ := mo_dg2 w71 wd1 p01 J2 K e (nI f) hk h1 (fun c hc => by obtain ⟨s, z1, z2, -⟩ := hi.1 c hc; exact ⟨s, z1, z2⟩) k 0 (by omega) (fd2 (fun v h => mxN h (numV N v)) 10 0 (mxN 3803 (nI len))) unk unk
    obtain ⟨y5, b3⟩ := mo_dg3 w71 wd1 p01 J2 K e (nI f) hn h2 (fun l hl => by obtain ⟨-, -, m, p, z1, z2, -⟩ := hol l hl; exact ⟨m, z1, z2⟩) y4 n 0 (by omega) (fd2 (fun c h => dgC N c h) k 0 (fd2 (fun v h => mxN h (numV N v)) 10 0 (mxN 3803 (nI len)))) y3
    have b4 := mo_dg4 w71 wd1 p01 J2 K e (nI f) h0 (by omega) y5 y4 (kept q0) 0 (by omega) (fd2 (fun l h => dgL N l h) n 0 (fd2 (fun c h => dgC N c h) k 0 (fd2 (fun v h => mxN h (numV N v)) 10 0 (mxN 3803 (nI len)))))
    rw [Model_digest_E, Model_digest_0 _ _ _ _ _ _ _ _ _ w71, updI_wr, c1]
    simp only [kC_ret, Option.toList, List.cons_append, List.nil_append, fix1_int, fix1_ref, fix1_unk, fix1_null, fix1_long]
    rw [Model_digest_9 _ _ _ _ _ _ _ _ _ _ w71, m6, mo_hsh w71]
    simp only [kC_ret, Option.toList, List.cons_append, List.nil_append, fix1_int, fix1_ref, fix1_unk, fix1_null, fix1_long]
    rw [Model_digest_25, fix1_int, mo_dg1 w71 wd1 p01 J2 K e (nI f) _ _ 10 0 (by omega), Model_digest_48, fix1_int, b2, Model_digest_136, fix1_int, b3, Model_digest_209, fix1_int, b4, Model_digest_235 _ _ _ _ _ _ _ _ _ w71, mo_hsh w71]
    simp only [kC_ret, Option.toList, List.cons_append, List.nil_append, fix1_int, fix1_ref, fix1_unk, fix1_null, fix1_long]
    rw [Model_digest_240 _ _ _ _ _ _ _ _ _ w71, m4, mo_hsh w71]
    simp only [kC_ret, Option.toList, List.cons_append, List.nil_append, fix1_int, fix1_ref, fix1_unk, fix1_null, fix1_long]
    rw [Model_digest_248 _ _ _ _ _ _ _ _ _ w71, updL_s]
    rfl
end
