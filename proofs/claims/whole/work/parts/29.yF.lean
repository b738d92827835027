/-! the text: the model's orders -/
section
variable {w : Wd} {P : MP} {mo mt len : Nat} {tx : Nat → Nat} {I : MI} {L : ML}
theorem updL_o {K : ML} {m k x : Nat} {v : Int64} (h : x ≠ m) : updL K m k v x = K x := by
  funext j; unfold updL; rw [if_neg (fun z => h z.1)]
theorem updL_s {K : ML} {m k : Nat} {v : Int64} : updL K m k v m k = v := by unfold updL; rw [if_pos ⟨rfl, rfl⟩]
theorem mo_rBl (h : MXT w P mo mt len tx I) : ∀ f c q b, c + f = 4 → q + 5 * f < 900 → b < 256 ^ c → ∀ (X : Nat → Int32) (K : ML), X 5 = I mo 5 → X 8 = nI q → X 9 = -1 → X 13 = nI c → K mo 14 = Int64.ofNat b → ∃ Y M, go 199 18 [.ref mo] [] w (wr I mo X) K P = some (.inl none, w, wr I mo Y, M, P) ∧ (∀ k, k ≠ 8 → k ≠ 9 → k ≠ 13 → Y k = X k) ∧ (∀ x, x ≠ mo → M x = K x) ∧ ((if f ≠ 0 ∧ q < len ∧ tx q = 44 then rtN len tx f (q + 1) c b else (none, q, c, b)).1 = none → Y 8 = nI (if f ≠ 0 ∧ q < len ∧ tx q = 44 then rtN len tx f (q + 1) c b else (none, q, c, b)).2.1 ∧ Y 9 = -1 ∧ Y 13 = nI (if f ≠ 0 ∧ q < len ∧ tx q = 44 then rtN len tx f (q + 1) c b else (none, q, c, b)).2.2.1 ∧ M mo 14 = Int64.ofNat (if f ≠ 0 ∧ q < len ∧ tx q = 44 then rtN len tx f (q + 1) c b else (none, q, c, b)).2.2.2) ∧ ∀ e, (if f ≠ 0 ∧ q < len ∧ tx q = 44 then rtN len tx f (q + 1) c b else (none, q, c, b)).1 = some e → Y 9 = nI e ∧ ∃ q', q' < 1000 ∧ Y 8 = nI q' := by
  intro f
  induction f with
  | zero =>
    intro c q b hc hq hb X K e5 e8 e9 e13 e14
    rw [if_neg (fun z => z.1 rfl), Model_readBytes_18 _ _ _ _ _ h.1, wr_same, if_neg (fun z => z e9), Model_readBytes_26 _ _ _ _ _ h.1, wr_same, e13, if_pos (nI_le (by omega) (by omega)), Model_readBytes_88]
    exact ⟨X, K, rfl, fun _ _ _ _ => rfl, fun _ _ => rfl, fun _ => ⟨e8, e9, e13, e14⟩, fun e z => nomatch z⟩
  | succ f ih =>
    intro c q b hc hq hb X K e5 e8 e9 e13 e14
    rw [Model_readBytes_18 _ _ _ _ _ h.1, wr_same, if_neg (fun z => z e9), Model_readBytes_26 _ _ _ _ _ h.1, wr_same, e13, if_neg (nI_ge (by omega) (by omega)), Model_readBytes_34 _ _ _ _ _ h.1, mo_here (MXT_wr h e5) (show q < 2000 by omega) (by rw [wr_same]; exact e8)]
    simp only [kC_ret, Option.toList, List.cons_append, List.nil_append, fix1_int, fix1_ref, fix1_unk, fix1_null, fix1_long]
    rw [Model_readBytes_38]
    by_cases g : q < len ∧ tx q = 44
    · have hn := ndN_le len tx (q + 1)
      obtain ⟨Y, a1, a2, a3, a4⟩ := mo_nbr (L := K) (MXT_wr (X := sN X 8 (nI (q + 1))) h (by rw [sN_ne (by omega)]; exact e5)) (p := q + 1) (lo := 0) (hi := 255) (by omega) (by omega) (by omega) (by rw [wr_same, sN_eq])
      rw [wr_wr] at a1
      rw [wr_same] at a3 a4
      rw [sN_ne (show (9 : Nat) ≠ 8 by omega), e9] at a3
      rw [if_pos (show f + 1 ≠ 0 ∧ q < len ∧ tx q = 44 from ⟨by omega, g⟩), if_neg (fun z => z ((chN_eq (MXT_x h) (by omega)).mpr g)), Model_readBytes_43 _ _ _ _ _ h.1, updI_wr, wr_wr, wr_same, e8, nI_add, a1]
      simp only [kC_ret, Option.toList, List.cons_append, List.nil_append, fix1_int, fix1_ref, fix1_unk, fix1_null, fix1_long]
      have eY13 : Y 13 = nI c := by rw [a4 13 (by omega) (by omega), sN_ne (by omega)]; exact e13
      rw [Model_readBytes_70 _ _ _ _ _ _ _ _ h.1 h.1, updI_wr, wr_wr, wr_same, eY13, nI_add, e14]
      unfold rtN
      have eYk : ∀ k, k ≠ 8 → k ≠ 9 → k ≠ 13 → sN Y 13 (nI (c + 1)) k = X k := fun k z1 z2 z3 => by rw [sN_ne z3, a4 k z1 z2, sN_ne z1]
      by_cases g2 : nfN len tx (q + 1) 0 255 = none
      · obtain ⟨-, -, -, hv⟩ := nfN_none g2
        rw [g2, foN_n] at a3
        have hb2 : b < 16777216 := Nat.lt_of_lt_of_le hb (by
          have : (256 : Nat) ^ c ≤ 256 ^ 3 := Nat.pow_le_pow_right (by omega) (by omega)
          exact this)
        rw [if_pos g2, by8' hb2 (by omega)]
        obtain ⟨Z, M, c1, c2, c3, c4, c5⟩ := ih (c + 1) (q + 1 + ndN len tx (q + 1)) (256 * b + vvN tx (q + 1) (ndN len tx (q + 1))) (by omega) (by omega) (by rw [Nat.pow_succ]; omega) (sN Y 13 (nI (c + 1))) (updL K mo 14 (Int64.ofNat (256 * b + vvN tx (q + 1) (ndN len tx (q + 1))))) (by rw [eYk 5 (by omega) (by omega) (by omega)]; exact e5) (by rw [sN_ne (by omega)]; exact a2) (by rw [sN_ne (by omega)]; exact a3) (by rw [sN_eq]) updL_s
        exact ⟨Z, M, c1, fun k z1 z2 z3 => by rw [c2 k z1 z2 z3, eYk k z1 z2 z3], fun x z => by rw [c3 x z, updL_o z], c4, c5⟩
      · obtain ⟨e, he⟩ := Option.ne_none_iff_exists'.mp g2
        rw [he, foN_1] at a3
        have hee := nfN_b he
        rw [if_neg g2, Model_readBytes_18 _ _ _ _ _ h.1, wr_same, sN_ne (show (9 : Nat) ≠ 13 by omega), a3, if_pos (nI_m1 (by omega)), Model_readBytes_88]
        refine ⟨_, _, rfl, eYk, fun x z => updL_o z, fun z => absurd z g2, ?_⟩
        intro e' z
        have z' : nfN len tx (q + 1) 0 255 = some e' := z
        rw [he] at z'
        injection z' with z'
        rw [← z']
        exact ⟨by rw [sN_ne (by omega)]; exact a3, q + 1 + ndN len tx (q + 1), by omega, by rw [sN_ne (by omega)]; exact a2⟩
    · rw [if_neg (show ¬ (f + 1 ≠ 0 ∧ q < len ∧ tx q = 44) from fun z => g z.2), if_pos (fun z => g ((chN_eq (MXT_x h) (by omega)).mp z)), Model_readBytes_88]
      exact ⟨X, K, rfl, fun _ _ _ _ => rfl, fun _ _ => rfl, fun _ => ⟨e8, e9, e13, e14⟩, fun e z => nomatch z⟩
theorem mo_rB (h : MXT w P mo mt len tx I) {p : Nat} (hp : p < 500) (h8 : I mo 8 = nI p) : ∃ X K, call 199 [.ref mo] w I L P = some (.inl none, w, wr I mo X, K, P) ∧ (∀ k, k ≠ 8 → k ≠ 9 → k ≠ 13 → X k = I mo k) ∧ (∀ x, x ≠ mo → K x = L x) ∧ (I mo 9 = -1 → (rtN len tx 4 p 0 0).1 = none → X 8 = nI (rtN len tx 4 p 0 0).2.1 ∧ X 9 = -1 ∧ X 13 = nI (rtN len tx 4 p 0 0).2.2.1 ∧ K mo 14 = Int64.ofNat (rtN len tx 4 p 0 0).2.2.2) ∧ (I mo 9 = -1 → ∀ e, (rtN len tx 4 p 0 0).1 = some e → X 9 = nI e ∧ ∃ q', q' < 1000 ∧ X 8 = nI q') ∧ (I mo 9 ≠ -1 → X 9 = I mo 9 ∧ ∃ q', q' < 1000 ∧ X 8 = nI q') := by
  have hn := ndN_le len tx p
  have hv := vvN_nd len tx p
  obtain ⟨Y, a1, a2, a3, a4⟩ := mo_nbr (L := L) h (p := p) (lo := 0) (hi := 255) (by omega) (by omega) (by omega) h8
  rw [Model_readBytes_E, Model_readBytes_0 _ _ _ _ _ h.1, a1]
  simp only [kC_ret, Option.toList, List.cons_append, List.nil_append, fix1_int, fix1_ref, fix1_unk, fix1_null, fix1_long]
  rw [Model_readBytes_9 _ _ _ _ _ _ _ h.1 h.1, updI_wr, wr_wr, wr_same, i2l_nI (by omega)]
  have eYk : ∀ k, k ≠ 8 → k ≠ 9 → k ≠ 13 → sN Y 13 (nI 1) k = I mo k := fun k z1 z2 z3 => by rw [sN_ne z3, a4 k z1 z2]
  by_cases f9 : I mo 9 = -1
  · rw [f9] at a3
    have er : rtN len tx 4 p 0 0 = if nfN len tx p 0 255 = none then (if (3 : Nat) ≠ 0 ∧ p + ndN len tx p < len ∧ tx (p + ndN len tx p) = 44 then rtN len tx 3 (p + ndN len tx p + 1) 1 (vvN tx p (ndN len tx p)) else (none, p + ndN len tx p, 1, vvN tx p (ndN len tx p))) else (nfN len tx p 0 255, p + ndN len tx p, 0, 0) := by
      conv => lhs; unfold rtN
      rw [Nat.mul_zero, Nat.zero_add, Nat.zero_add]
    by_cases g2 : nfN len tx p 0 255 = none
    · obtain ⟨-, -, -, hv2⟩ := nfN_none g2
      rw [g2, foN_n] at a3
      rw [if_pos g2] at er
      obtain ⟨Z, M, c1, c2, c3, c4, c5⟩ := mo_rBl h 3 1 (p + ndN len tx p) (vvN tx p (ndN len tx p)) (by omega) (by omega) (by omega) (sN Y 13 (nI 1)) (updL L mo 14 (Int64.ofNat (vvN tx p (ndN len tx p)))) (by rw [eYk 5 (by omega) (by omega) (by omega)]) (by rw [sN_ne (by omega)]; exact a2) (by rw [sN_ne (by omega)]; exact a3) (by rw [sN_eq]) updL_s
      rw [← er] at c4 c5
      exact ⟨Z, M, c1, fun k z1 z2 z3 => by rw [c2 k z1 z2 z3, eYk k z1 z2 z3], fun x z => by rw [c3 x z, updL_o z], fun _ => c4, fun _ => c5, fun z => absurd f9 z⟩
    · obtain ⟨e, he⟩ := Option.ne_none_iff_exists'.mp g2
      rw [he, foN_1] at a3
      have hee := nfN_b he
      rw [if_neg g2] at er
      rw [Model_readBytes_18 _ _ _ _ _ h.1, wr_same, sN_ne (show (9 : Nat) ≠ 13 by omega), a3, if_pos (nI_m1 (by omega)), Model_readBytes_88]
      refine ⟨_, _, rfl, eYk, fun x z => updL_o z, fun _ z => ?_, fun _ => ?_, fun z => absurd f9 z⟩
      · rw [er] at z; exact absurd z g2
      · intro e' z
        rw [er] at z
        have z' : nfN len tx p 0 255 = some e' := z
        rw [he] at z'
        injection z' with z'
        rw [← z']
        exact ⟨by rw [sN_ne (by omega)]; exact a3, p + ndN len tx p, by omega, by rw [sN_ne (by omega)]; exact a2⟩
  · rw [foN_k f9] at a3
    rw [Model_readBytes_18 _ _ _ _ _ h.1, wr_same, sN_ne (show (9 : Nat) ≠ 13 by omega), a3, if_pos f9, Model_readBytes_88]
    exact ⟨_, _, rfl, eYk, fun x z => updL_o z, fun z => absurd z f9, fun z => absurd z f9, fun _ => ⟨by rw [sN_ne (by omega)]; exact a3, p + ndN len tx p, by omega, by rw [sN_ne (by omega)]; exact a2⟩⟩
theorem mo_rds (h : MXT w P mo mt len tx I) {p : Nat} (hp : p < len) (h8 : I mo 8 = nI p) (h9 : I mo 9 = -1) : ∃ X K, call 200 [.ref mo] w I L P = some (.inl none, w, wr I mo X, K, P) ∧ (∀ k, k < 8 ∨ 13 < k → X k = I mo k) ∧ (∀ x, x ≠ mo → K x = L x) ∧ (fltN len tx p = none → X 8 = nI (nxN len tx p) ∧ X 9 = -1 ∧ X 10 = nI (tx p) ∧ X 13 = nI (cnN len tx p) ∧ (tx p ≠ 115 → X 11 = nI (whN tx p) ∧ X 12 = nI (adN len tx p) ∧ (tx p = 119 → K mo 14 = Int64.ofNat (btN len tx p)))) ∧ ∀ e, fltN len tx p = some e → X 9 = nI e := by
  have hl := h.2.2.2.2.1
  have hx := MXT_x h p hp
  have hnd := ndN_le len tx (p + 3)
  have hnd1 := ndN_le len tx (p + 1)
  have hp4 : p4N len tx p ≤ p + 6 := by unfold p4N; omega
  have beg : call 200 [.ref mo] w I L P = go 200 22 [.ref mo] [.int (nI (tx p))] w (wr I mo (sN (sN (I mo) 10 (nI (tx p))) 8 (nI (p + 1)))) L P := by
    rw [Model_reads_E, Model_reads_0 _ _ _ _ _ h.1, mo_here h (show p < 2000 by omega) h8]
    simp only [kC_ret, Option.toList, List.cons_append, List.nil_append, fix1_int, fix1_ref, fix1_unk, fix1_null, fix1_long]
    rw [Model_reads_5 _ _ _ _ _ _ _ h.1 h.1, chN_lt hp, updI_wr, updI_wr, wr_wr, wr_same, wr_same, sN_ne (show (8 : Nat) ≠ 10 by omega), h8, nI_add, sN_ne (show (10 : Nat) ≠ 8 by omega), sN_eq]
  rw [beg]
  -- the last sign
  have lst : ∀ (X : Nat → Int32) (K : ML) q, X 5 = I mo 5 → q < 1000 → X 8 = nI q → ∃ Y, go 200 157 [.ref mo] [] w (wr I mo X) K P = some (.inl none, w, wr I mo Y, K, P) ∧ Y 8 = nI (q + 1) ∧ Y 9 = foN (X 9) (osN len tx q 59) ∧ ∀ k, k ≠ 8 → k ≠ 9 → Y k = X k := by
    intro X K q e5 hq e8
    obtain ⟨Y, a1, a2, a3, a4⟩ := mo_sgn (L := K) (MXT_wr h e5) (p := q) (c := 59) (by omega) (by omega) (by rw [wr_same]; exact e8)
    rw [wr_wr] at a1
    rw [wr_same] at a3 a4
    refine ⟨Y, ?_, a2, a3, a4⟩
    rw [Model_reads_157 _ _ _ _ _ h.1, a1]
    simp only [kC_ret, Option.toList, List.cons_append, List.nil_append, fix1_int, fix1_ref, fix1_unk, fix1_null, fix1_long]
    rw [Model_reads_163]
  have oB : ∀ {q c e : Nat}, q < 1000 → osN len tx q c = some e → e < 2147483648 := fun hq z => by have := osN_b z; omega
  have fin : ∀ (o : Option Nat), foN (-1) o = -1 → (∀ e, o = some e → e < 2147483648) → o = none := by
    intro o z z2
    cases o with
    | none => rfl
    | some e => rw [foN_1] at z; exact absurd z (nI_m1 (z2 e rfl))
  -- the target
  have tgt : ∃ Y, go 200 56 [.ref mo] [] w (wr I mo (sN (sN (I mo) 10 (nI (tx p))) 8 (nI (p + 1)))) L P = go 200 80 [.ref mo] [.int (nI (adN len tx p)), .ref mo] w (wr I mo Y) L P ∧ Y 8 = nI (p4N len tx p) ∧ Y 9 = foN (-1) (tgF len tx (p + 1)) ∧ Y 10 = nI (tx p) ∧ (tgF len tx (p + 1) = none → Y 11 = nI (whN tx p)) ∧ ∀ k, k < 8 ∨ 13 < k → Y k = I mo k := by
    obtain ⟨X, a1, a2, a3, a4⟩ := mo_dgt (L := L) (MXT_wr (X := sN (sN (I mo) 10 (nI (tx p))) 8 (nI (p + 1))) h (by rw [sN_ne (by omega), sN_ne (by omega)])) (p := p + 1) (a := 0) (b := 2) (by omega) (by omega) (by omega) (by rw [wr_same, sN_eq])
    rw [wr_wr] at a1
    rw [wr_same] at a3 a4
    obtain ⟨Y, b1, b2, b3, b4⟩ := mo_sgn (L := L) (MXT_wr (X := sN X 11 (chN len tx (p + 1) - nI 48)) h (by rw [sN_ne (by omega), a4 5 (by omega) (by omega), sN_ne (by omega), sN_ne (by omega)])) (p := p + 1 + 1) (c := 58) (by omega) (by omega) (by rw [wr_same, sN_ne (by omega)]; exact a2)
    rw [wr_wr] at b1
    rw [wr_same] at b3 b4
    obtain ⟨Z, c1, c2, c3, c4⟩ := mo_nbr (L := L) (MXT_wr (X := Y) h (by rw [b4 5 (by omega) (by omega), sN_ne (by omega), a4 5 (by omega) (by omega), sN_ne (by omega), sN_ne (by omega)])) (p := p + 3) (lo := 0) (hi := 127) (by omega) (by omega) (by omega) (by rw [wr_same]; exact b2)
    rw [wr_wr] at c1
    rw [wr_same] at c3 c4
    refine ⟨Z, ?_, c2, ?_, ?_, ?_, ?_⟩
    · rw [Model_reads_56 _ _ _ _ _ h.1, a1]
      simp only [kC_ret, Option.toList, List.cons_append, List.nil_append, fix1_int, fix1_ref, fix1_unk, fix1_null, fix1_long]
      rw [Model_reads_63 _ _ _ _ _ _ _ h.1 h.1, updI_wr, wr_wr, wr_same, b1]
      simp only [kC_ret, Option.toList, List.cons_append, List.nil_append, fix1_int, fix1_ref, fix1_unk, fix1_null, fix1_long]
      rw [Model_reads_72 _ _ _ _ _ h.1, c1]
      simp only [kC_ret, Option.toList, List.cons_append, List.nil_append, fix1_int, fix1_ref, fix1_unk, fix1_null, fix1_long]
      rfl
    · rw [c3, b3, sN_ne (by omega), a3, sN_ne (by omega), sN_ne (by omega), h9, foN_o1, foN_o1]
      · rfl
      · intro e z
        have := odN_b z; omega
      · intro e z
        have := osN_b z; omega
    · rw [c4 10 (by omega) (by omega), b4 10 (by omega) (by omega), sN_ne (by omega), a4 10 (by omega) (by omega), sN_ne (by omega), sN_eq]
    · intro z
      rw [c4 11 (by omega) (by omega), b4 11 (by omega) (by omega), sN_eq]
      unfold tgF odN at z
      by_cases g : p + 1 < len ∧ 48 ≤ tx (p + 1) ∧ tx (p + 1) ≤ 50
      · rw [chN_lt g.1, pk_sub g.2.1]; rfl
      · rw [if_neg g, o1N_s] at z; exact absurd z sm_ne
    · intro k hk
      rw [c4 k (by omega) (by omega), b4 k (by omega) (by omega), sN_ne (by omega), a4 k (by omega) (by omega), sN_ne (by omega), sN_ne (by omega)]
  obtain ⟨Y, t1, t2, t3, t4, t5, t6⟩ := tgt
  have tB : ∀ e, tgF len tx (p + 1) = some e → e < 2147483648 := fun e z => by have := tgF_b z; omega
  unfold fltN
  by_cases k1 : tx p = 119
  · have sw : go 200 22 [.ref mo] [.int (nI (tx p))] w (wr I mo (sN (sN (I mo) 10 (nI (tx p))) 8 (nI (p + 1)))) L P = go 200 56 [.ref mo] [] w (wr I mo (sN (sN (I mo) 10 (nI (tx p))) 8 (nI (p + 1)))) L P := by rw [k1, Model_reads_22_k119]
    obtain ⟨S, s1, s2, s3, s4⟩ := mo_sgn (L := L) (MXT_wr (X := sN Y 12 (nI (adN len tx p))) h (by rw [sN_ne (by omega)]; exact t6 5 (by omega))) (p := p4N len tx p) (c := 61) (by omega) (by omega) (by rw [wr_same, sN_ne (by omega)]; exact t2)
    rw [wr_wr] at s1
    rw [wr_same, sN_ne (show (9 : Nat) ≠ 12 by omega), t3, foN_o1 tB] at s3
    rw [wr_same] at s4
    have eS10 : S 10 = nI (tx p) := by rw [s4 10 (by omega) (by omega), sN_ne (by omega)]; exact t4
    have eSk : ∀ k, k < 8 ∨ 13 < k → S k = I mo k := fun k hk => by rw [s4 k (by omega) (by omega), sN_ne (by omega)]; exact t6 k hk
    obtain ⟨R, M, r1, r2, r3, r4, r5, r6⟩ := mo_rB (L := L) (MXT_wr (X := S) h (eSk 5 (by omega))) (p := p4N len tx p + 1) (by omega) (by rw [wr_same]; exact s2)
    rw [wr_wr] at r1
    rw [wr_same] at r2 r4 r5 r6
    have eRk : ∀ k, k < 8 ∨ 13 < k → R k = I mo k := fun k hk => by rw [r2 k (by omega) (by omega) (by omega)]; exact eSk k hk
    have hrp := rtN_p len tx 4 (p4N len tx p + 1) 0 0
    have q8 : ∃ q, q < 1000 ∧ R 8 = nI q := by
      by_cases z : S 9 = -1
      · by_cases z2 : (rtN len tx 4 (p4N len tx p + 1) 0 0).1 = none
        · exact ⟨_, by omega, (r4 z z2).1⟩
        · obtain ⟨e, he⟩ := Option.ne_none_iff_exists'.mp z2
          exact (r5 z e he).2
      · exact (r6 z).2
    obtain ⟨q, hq, e8⟩ := q8
    obtain ⟨Z, z1, z2, z3, z4⟩ := lst R M q (eRk 5 (by omega)) hq e8
    have way : go 200 22 [.ref mo] [.int (nI (tx p))] w (wr I mo (sN (sN (I mo) 10 (nI (tx p))) 8 (nI (p + 1)))) L P = some (.inl none, w, wr I mo Z, M, P) := by
      rw [sw, t1, Model_reads_80 _ _ _ _ _ _ _ h.1 h.1, updI_wr, wr_wr, wr_same, sN_ne (show (10 : Nat) ≠ 12 by omega), wr_same, t4, if_neg (by rw [k1]; simp), Model_reads_93, Model_reads_100 _ _ _ _ _ _ _ h.1, s1]
      simp only [kC_ret, Option.toList, List.cons_append, List.nil_append, fix1_int, fix1_ref, fix1_unk, fix1_null, fix1_long]
      rw [Model_reads_103 _ _ _ _ _ h.1, wr_same, eS10, if_neg (by rw [k1]; simp), Model_reads_112 _ _ _ _ _ h.1, r1]
      simp only [kC_ret, Option.toList, List.cons_append, List.nil_append, fix1_int, fix1_ref, fix1_unk, fix1_null, fix1_long]
      rw [Model_reads_116, z1]
    rw [if_pos k1]
    refine ⟨Z, M, way, fun k hk => by rw [z4 k (by omega) (by omega)]; exact eRk k hk, r3, ?_, ?_⟩
    · intro g
      have g1 : tgF len tx (p + 1) = none := by
        cases hh : tgF len tx (p + 1) with
        | none => rfl
        | some e => rw [hh, o1N_s] at g; exact absurd g sm_ne
      rw [g1, o1N_n] at g s3
      have g2 : osN len tx (p4N len tx p) 61 = none := by
        cases hh : osN len tx (p4N len tx p) 61 with
        | none => rfl
        | some e => rw [hh, o1N_s] at g; exact absurd g sm_ne
      rw [g2, o1N_n] at g
      rw [g2, foN_n] at s3
      have g3 : (rtN len tx 4 (p4N len tx p + 1) 0 0).1 = none := by
        cases hh : (rtN len tx 4 (p4N len tx p + 1) 0 0).1 with
        | none => rfl
        | some e => rw [hh, o1N_s] at g; exact absurd g sm_ne
      rw [g3, o1N_n] at g
      obtain ⟨u8, u9, u13, u14⟩ := r4 s3 g3
      have eq : q = (rtN len tx 4 (p4N len tx p + 1) 0 0).2.1 := by
        rw [u8, nI_eq (by omega) (by omega)] at e8; exact e8.symm
      subst eq
      refine ⟨?_, ?_, ?_, ?_, fun _ => ⟨?_, ?_, fun _ => ?_⟩⟩
      · rw [z2]; unfold nxN; rw [if_pos k1]
      · rw [z3, u9, g, foN_n]
      · rw [z4 10 (by omega) (by omega), r2 10 (by omega) (by omega) (by omega), eS10]
      · rw [z4 13 (by omega) (by omega), u13]; unfold cnN; rw [if_pos k1]
      · rw [z4 11 (by omega) (by omega), r2 11 (by omega) (by omega) (by omega), s4 11 (by omega) (by omega), sN_ne (by omega)]; exact t5 g1
      · rw [z4 12 (by omega) (by omega), r2 12 (by omega) (by omega) (by omega), s4 12 (by omega) (by omega), sN_eq]
      · rw [u14]; unfold btN; rw [if_pos k1]
    · intro e g
      rw [z3]
      by_cases y1 : S 9 = -1
      · rw [y1] at s3
        have y2 := fin _ s3.symm (fun e z => by
          rcases o1N_b z with z | z
          · exact tB e z
          · exact oB (by omega) z)
        have g1 : tgF len tx (p + 1) = none := by
          cases hh : tgF len tx (p + 1) with
          | none => rfl
          | some e => rw [hh, o1N_s] at y2; exact absurd y2 sm_ne
        rw [g1, o1N_n] at y2 g
        rw [y2, o1N_n] at g
        by_cases y3 : (rtN len tx 4 (p4N len tx p + 1) 0 0).1 = none
        · rw [y3, o1N_n] at g
          obtain ⟨u8, u9, u13, u14⟩ := r4 y1 y3
          have eq : q = (rtN len tx 4 (p4N len tx p + 1) 0 0).2.1 := by
            rw [u8, nI_eq (by omega) (by omega)] at e8; exact e8.symm
          subst eq
          rw [u9, g, foN_1]
        · obtain ⟨e', he⟩ := Option.ne_none_iff_exists'.mp y3
          rw [he, o1N_s] at g
          injection g with g
          have hb := rtN_b _ _ _ _ he
          rw [(r5 y1 e' he).1, foN_k (nI_m1 (by omega)), g]
      · rw [(r6 y1).1, foN_k y1, s3]
        have : o1N (tgF len tx (p + 1)) (osN len tx (p4N len tx p) 61) = some e := by
          cases h1 : tgF len tx (p + 1) with
          | some e1 => rw [h1, o1N_s] at g; rw [o1N_s]; exact g
          | none =>
            rw [h1, o1N_n] at g
            rw [o1N_n]
            cases h2 : osN len tx (p4N len tx p) 61 with
            | some e1 => rw [h2, o1N_s] at g; exact g
            | none => rw [h1, o1N_n, h2, foN_n] at s3; exact absurd s3 y1
        rw [this, foN_1]
  · rw [if_neg k1]
    by_cases k2 : tx p = 114
    · have sw : go 200 22 [.ref mo] [.int (nI (tx p))] w (wr I mo (sN (sN (I mo) 10 (nI (tx p))) 8 (nI (p + 1)))) L P = go 200 56 [.ref mo] [] w (wr I mo (sN (sN (I mo) 10 (nI (tx p))) 8 (nI (p + 1)))) L P := by rw [k2, Model_reads_22_k114]
      have k119 : nI (tx p) ≠ nI 119 := fun z => k1 (by rw [nI_eq (by omega) (by omega)] at z; exact z)
      obtain ⟨S, s1, s2, s3, s4⟩ := mo_sgn (L := L) (MXT_wr (X := sN Y 12 (nI (adN len tx p))) h (by rw [sN_ne (by omega)]; exact t6 5 (by omega))) (p := p4N len tx p) (c := 42) (by omega) (by omega) (by rw [wr_same, sN_ne (by omega)]; exact t2)
      rw [wr_wr] at s1
      rw [wr_same, sN_ne (show (9 : Nat) ≠ 12 by omega), t3, foN_o1 tB] at s3
      rw [wr_same] at s4
      have eS10 : S 10 = nI (tx p) := by rw [s4 10 (by omega) (by omega), sN_ne (by omega)]; exact t4
      have eSk : ∀ k, k < 8 ∨ 13 < k → S k = I mo k := fun k hk => by rw [s4 k (by omega) (by omega), sN_ne (by omega)]; exact t6 k hk
      obtain ⟨R, r1, r2, r3, r4⟩ := mo_dgt (L := L) (MXT_wr (X := S) h (eSk 5 (by omega))) (p := p4N len tx p + 1) (a := 1) (b := 4) (by omega) (by omega) (by omega) (by rw [wr_same]; exact s2)
      rw [wr_wr] at r1
      rw [wr_same] at r3 r4
      rw [s3, foN_o1 (fun e z => by
        rcases o1N_b z with z | z
        · exact tB e z
        · exact oB (by omega) z)] at r3
      obtain ⟨Z, z1, z2, z3, z4⟩ := lst (sN R 13 (chN len tx (p4N len tx p + 1) - nI 48)) L (p4N len tx p + 2) (by rw [sN_ne (by omega), r4 5 (by omega) (by omega)]; exact eSk 5 (by omega)) (by omega) (by rw [sN_ne (by omega)]; exact r2)
      rw [sN_ne (by omega), r3, foN_o1 (fun e z => by
        rcases o1N_b z with z | z
        · rcases o1N_b z with z | z
          · exact tB e z
          · exact oB (by omega) z
        · have := odN_b z; omega)] at z3
      have way : go 200 22 [.ref mo] [.int (nI (tx p))] w (wr I mo (sN (sN (I mo) 10 (nI (tx p))) 8 (nI (p + 1)))) L P = some (.inl none, w, wr I mo Z, L, P) := by
        rw [sw, t1, Model_reads_80 _ _ _ _ _ _ _ h.1 h.1, updI_wr, wr_wr, wr_same, sN_ne (show (10 : Nat) ≠ 12 by omega), wr_same, t4, if_pos k119, Model_reads_98, Model_reads_100 _ _ _ _ _ _ _ h.1, s1]
        simp only [kC_ret, Option.toList, List.cons_append, List.nil_append, fix1_int, fix1_ref, fix1_unk, fix1_null, fix1_long]
        rw [Model_reads_103 _ _ _ _ _ h.1, wr_same, eS10, if_pos k119, Model_reads_119 _ _ _ _ _ h.1, r1]
        simp only [kC_ret, Option.toList, List.cons_append, List.nil_append, fix1_int, fix1_ref, fix1_unk, fix1_null, fix1_long]
        rw [Model_reads_126 _ _ _ _ _ _ _ h.1, updI_wr, wr_wr, wr_same, z1]
      have eo : o1N (o1N (o1N (tgF len tx (p + 1)) (osN len tx (p4N len tx p) 42)) (odN len tx (p4N len tx p + 1) 49 52)) (osN len tx (p4N len tx p + 2) 59) = o1N (tgF len tx (p + 1)) (o1N (osN len tx (p4N len tx p) 42) (o1N (odN len tx (p4N len tx p + 1) 49 52) (osN len tx (p4N len tx p + 2) 59))) := by
        cases tgF len tx (p + 1) with
        | some e => rw [o1N_s, o1N_s, o1N_s, o1N_s]
        | none =>
          rw [o1N_n, o1N_n]
          cases osN len tx (p4N len tx p) 42 with
          | some e => rw [o1N_s, o1N_s, o1N_s]
          | none => rw [o1N_n, o1N_n]
      rw [if_pos k2]
      refine ⟨Z, L, way, fun k hk => by rw [z4 k (by omega) (by omega), sN_ne (by omega), r4 k (by omega) (by omega)]; exact eSk k hk, fun _ _ => rfl, ?_, ?_⟩
      · intro g
        have g1 : tgF len tx (p + 1) = none := by
          cases hh : tgF len tx (p + 1) with
          | none => rfl
          | some e => rw [hh, o1N_s] at g; exact absurd g sm_ne
        have g3 : p4N len tx p + 1 < len ∧ 49 ≤ tx (p4N len tx p + 1) ∧ tx (p4N len tx p + 1) ≤ 52 := by
          rw [g1, o1N_n] at g
          cases hh : osN len tx (p4N len tx p) 42 with
          | some e => rw [hh, o1N_s] at g; exact absurd g sm_ne
          | none =>
            rw [hh, o1N_n] at g
            by_cases y : p4N len tx p + 1 < len ∧ 49 ≤ tx (p4N len tx p + 1) ∧ tx (p4N len tx p + 1) ≤ 52
            · exact y
            · rw [odN_f y, o1N_s] at g; exact absurd g sm_ne
        refine ⟨?_, ?_, ?_, ?_, fun _ => ⟨?_, ?_, fun z => absurd z k1⟩⟩
        · rw [z2]; unfold nxN; rw [if_neg k1, if_pos k2]
        · rw [z3, eo, g, foN_n]
        · rw [z4 10 (by omega) (by omega), sN_ne (by omega), r4 10 (by omega) (by omega), eS10]
        · rw [z4 13 (by omega) (by omega), sN_eq, chN_lt g3.1, pk_sub (by omega)]; unfold cnN; rw [if_neg k1, if_pos k2]
        · rw [z4 11 (by omega) (by omega), sN_ne (by omega), r4 11 (by omega) (by omega), s4 11 (by omega) (by omega), sN_ne (by omega)]; exact t5 g1
        · rw [z4 12 (by omega) (by omega), sN_ne (by omega), r4 12 (by omega) (by omega), s4 12 (by omega) (by omega), sN_eq]
      · intro e g
        rw [z3, eo, g, foN_1]
    · rw [if_neg k2]
      by_cases k3 : tx p = 115
      · have sw : go 200 22 [.ref mo] [.int (nI (tx p))] w (wr I mo (sN (sN (I mo) 10 (nI (tx p))) 8 (nI (p + 1)))) L P = go 200 132 [.ref mo] [] w (wr I mo (sN (sN (I mo) 10 (nI (tx p))) 8 (nI (p + 1)))) L P := by rw [k3, Model_reads_22_k115]
        obtain ⟨R, r1, r2, r3, r4⟩ := mo_nbr (L := L) (MXT_wr (X := sN (sN (I mo) 10 (nI (tx p))) 8 (nI (p + 1))) h (by rw [sN_ne (by omega), sN_ne (by omega)])) (p := p + 1) (lo := 1) (hi := 200) (by omega) (by omega) (by omega) (by rw [wr_same, sN_eq])
        rw [wr_wr] at r1
        rw [wr_same] at r3 r4
        rw [sN_ne (by omega), sN_ne (by omega), h9] at r3
        have nB : ∀ e, nfN len tx (p + 1) 1 200 = some e → e < 2147483648 := fun e z => by have := nfN_b z; omega
        obtain ⟨Z, z1, z2, z3, z4⟩ := lst (sN R 13 (nI (vvN tx (p + 1) (ndN len tx (p + 1))))) L (p + 1 + ndN len tx (p + 1)) (by rw [sN_ne (by omega), r4 5 (by omega) (by omega), sN_ne (by omega), sN_ne (by omega)]) (by omega) (by rw [sN_ne (by omega)]; exact r2)
        rw [sN_ne (by omega), r3, foN_o1 nB] at z3
        rw [if_pos k3, sw, Model_reads_132 _ _ _ _ _ h.1, r1]
        simp only [kC_ret, Option.toList, List.cons_append, List.nil_append, fix1_int, fix1_ref, fix1_unk, fix1_null, fix1_long]
        rw [Model_reads_141 _ _ _ _ _ _ _ h.1, updI_wr, wr_wr, wr_same, z1]
        refine ⟨Z, L, rfl, fun k hk => by rw [z4 k (by omega) (by omega), sN_ne (by omega), r4 k (by omega) (by omega), sN_ne (by omega), sN_ne (by omega)], fun _ _ => rfl, ?_, ?_⟩
        · intro g
          refine ⟨?_, ?_, ?_, ?_, fun z => absurd k3 z⟩
          · rw [z2]; unfold nxN; rw [if_neg k1, if_neg k2]
          · rw [z3, g, foN_n]
          · rw [z4 10 (by omega) (by omega), sN_ne (by omega), r4 10 (by omega) (by omega), sN_ne (by omega), sN_eq]
          · rw [z4 13 (by omega) (by omega), sN_eq]; unfold cnN; rw [if_neg k1, if_neg k2]
        · intro e g
          rw [z3, g, foN_1]
      · rw [if_neg k3, Model_reads_22_kd _ _ _ _ _ _ (fun q => k2 (by rw [nI_eq (by omega) (by omega)] at q; exact q)) (fun q => k3 (by rw [nI_eq (by omega) (by omega)] at q; exact q)) (fun q => k1 (by rw [nI_eq (by omega) (by omega)] at q; exact q)), Model_reads_147 _ _ _ _ _ h.1, wr_same, sN_eq, pk_sub (by omega), Nat.add_sub_cancel, mo_wrong h.1, wr_wr, wr_same, sN_ne (show (9 : Nat) ≠ 8 by omega), sN_ne (show (9 : Nat) ≠ 10 by omega), h9, foN_1]
        simp only [kC_ret, Option.toList, List.cons_append, List.nil_append, fix1_int, fix1_ref, fix1_unk, fix1_null, fix1_long]
        obtain ⟨Z, z1, z2, z3, z4⟩ := lst (sN (sN (sN (I mo) 10 (nI (tx p))) 8 (nI (p + 1))) 9 (nI p)) L (p + 1) (by rw [sN_ne (by omega), sN_ne (by omega), sN_ne (by omega)]) (by omega) (by rw [sN_ne (by omega), sN_eq])
        rw [z1]
        refine ⟨Z, L, rfl, fun k hk => by rw [z4 k (by omega) (by omega), sN_ne (by omega), sN_ne (by omega), sN_ne (by omega)], fun _ _ => rfl, fun g => absurd g sm_ne, fun e g => ?_⟩
        injection g with g
        rw [z3, sN_eq, foN_k (nI_m1 (by omega)), g]
end
