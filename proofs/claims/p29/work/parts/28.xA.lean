/-! queues: a message comes, the last one goes -/
theorem LV_N2 {N M : Nat → Int32} {h : Int32} {j lv : Nat} (hv : LV N h j lv) (hd : h = 0 → dnOk N) (e5 : M 5 = N 5) (e7 : M 7 = N 7) (e : ∀ c, c < 3 → conB N (nI c) → ∀ x, 215 + 40 * c ≤ x → x < 223 + 40 * c → M x = N x) : LV M h j lv := by
  intro c hc hcon
  have hcon' := (con_N e5).mp hcon
  obtain ⟨x, hx, ex, ev⟩ := hv c hc hcon'
  refine ⟨x, hx, ?_, ev⟩
  rw [← ex]
  unfold snt hdr
  rw [e7, e c hc hcon' (215 + 40 * c) (by omega) (by omega), e c hc hcon' (216 + 40 * c) (by omega) (by omega)]
  by_cases hh : h = 0
  · obtain ⟨dn, hdn, ed⟩ := hd hh
    rw [if_pos hh, if_pos hh, ed, cl_nI (by omega), e c hc hcon' _ (by omega) (by omega)]
  · rw [if_neg hh, if_neg hh]
theorem BF_N2 {N M : Nat → Int32} {n : Nat} (h : BF N n) (e5 : M 5 = N 5) (e7 : M 7 = N 7) (e8 : M 8 = N 8) (e14 : M 14 = N 14) (e : ∀ c, c < 3 → conB N (nI c) → ∀ x, 215 + 40 * c ≤ x → x < 223 + 40 * c → M x = N x) : BF M n := by
  obtain ⟨⟨t, ht, h8⟩, h14, d, hd, h7, hc⟩ := h
  refine ⟨⟨t, ht, e8.trans h8⟩, by rw [e14]; exact h14, d, hd, e7.trans h7, ?_⟩
  intro c hc3 hcon
  have hcon' := (con_N e5).mp hcon
  rw [e c hc3 hcon' (216 + 40 * c) (by omega) (by omega), e c hc3 hcon' (217 + 40 * c) (by omega) (by omega), e14]
  exact hc c hc3 hcon'
theorem PH_N2 {N M R : Nat → Int32} {n md : Nat} (h : PH N R n md) (e5 : M 5 = N 5) (e6 : M 6 = N 6) (e7 : M 7 = N 7) (e8 : M 8 = N 8) (e9 : M 9 = N 9) (e13 : M 13 = N 13) (e14 : M 14 = N 14) (e : ∀ c, c < 3 → conB N (nI c) → ∀ x, 215 + 40 * c ≤ x → x < 223 + 40 * c → M x = N x) : PH M R n md := by
  unfold PH at h ⊢
  split at h
  · rw [e5, e8]; exact h
  · obtain ⟨a1, a2, a3, a4, j, lv, a5, a6, a7, a8, a9⟩ := h
    rw [e5, e8, e6]
    exact ⟨a1, a2, a3, a4, j, lv, a5, a6, a7, a8, LV_N2 a9 (fun q => absurd q n10) e5 e7 e⟩
  · obtain ⟨a1, a2, a3, a4, lv, a5, a6⟩ := h
    rw [e5, e8]
    exact ⟨a1, a2, a3, a4, lv, a5, LV_N2 a6 (fun q => absurd q n10) e5 e7 e⟩
  · obtain ⟨a1, a2, a3, a4, b1, b2, j, lv, a5, a6, a7, a8, a9⟩ := h
    rw [e5, e14, e6, e7]
    exact ⟨a1, a2, BF_N2 a3 e5 e7 e8 e14 e, a4, b1, b2, j, lv, a5, a6, a7, a8, LV_N2 a9 (fun _ => BF_dn a3) e5 e7 e⟩
  · obtain ⟨a1, a2, a3, a4, b1, b2, lv, a5, a6⟩ := h
    rw [e5, e14, e7]
    exact ⟨a1, a2, BF_N2 a3 e5 e7 e8 e14 e, a4, b1, b2, lv, a5, LV_N2 a6 (fun _ => BF_dn a3) e5 e7 e⟩
  · obtain ⟨a1, a2, a3, a4⟩ := h
    rw [e5, e14, e7, e13, e6]
    exact ⟨a1, a2, BF_N2 a3 e5 e7 e8 e14 e, a4⟩
  · obtain ⟨a1, a2, a3, a4⟩ := h
    rw [e5, e14, e7]
    exact ⟨a1, a2, BF_N2 a3 e5 e7 e8 e14 e, a4⟩
  · obtain ⟨a1, a2, a3, a4⟩ := h
    rw [e5, e14, e7, e9]
    exact ⟨a1, a2, BF_N2 a3 e5 e7 e8 e14 e, a4⟩
  · rw [e5]; exact h
  · exact h
/-- one caller has changed -/
theorem BR_cal {N M : Nat → Int32} {b k n md q c : Nat} {I J : MI} {L K : ML} {P : MP} (h : BC b N I L P k n md) (hlg : LG b N I q) (hc3 : c < 3) (eM : ∀ x, (x < 207 + 40 * c ∨ 247 + 40 * c ≤ x) → M x = N x) (f : Fr (b + 7 + 7 * c) (b + 7 + 7 * c + 7) I J L K P P) (hr : ∃ q s, CR M (207 + 40 * c) J K P (b + 7 + 7 * c) q s) (hoc : OC M k c) (hcf : conB N (nI c) → (∃ s, s < 4 ∧ M (207 + 40 * c) = nI (s + 1)) ∧ ∀ x, 215 + 40 * c ≤ x → x < 223 + 40 * c → M x = N x) : BR b M J K P q := by
  obtain ⟨⟨hk0, hk, h1, i1⟩, ⟨hn, h2, i3⟩, i4, h4, i7, i8, hq, hs, hl, hu, hi, ho, hp⟩ := h
  have eb := (f b (by omega)).1
  have e5 : M 5 = N 5 := eM 5 (by omega)
  refine ⟨⟨k, n, md, ⟨hk0, hk, by rw [eM 1 (by omega)]; exact h1, by rw [eb]; exact i1⟩, ⟨hn, by rw [eM 2 (by omega)]; exact h2, by rw [eb]; exact i3⟩, by rw [eb, eM 3 (by omega)]; exact i4, by rw [eM 4 (by omega)]; exact h4, by rw [eb, e5]; exact i7, by rw [eb, eM 8 (by omega)]; exact i8, hq, CS_set hc3 hs f (fun x g1 g2 g3 => eM x (by omega)) hr, LiS_N hn hl (fun x g1 g2 => eM x (by omega)) (fun x g1 g2 => (f x (by omega)).1), LU_I hu (fun x g1 g2 => (f x (by omega)).1), ⟨?_, ?_, ?_⟩, OL_N ho (fun x g1 g2 => eM x (by omega)), ?_⟩, LG_N hlg (fun x g => eM x (by omega)) (fun x g1 g2 => (f x (by omega)).1)⟩
  · intro c' hc'
    by_cases e : c' = c
    · subst e; exact hoc
    · exact OC_N (hi.1 c' hc') (fun x g1 g2 => eM x (by omega))
  · intro c' hc' hcon
    have hcon' := (con_N e5).mp hcon
    obtain ⟨z1, z2⟩ := hi.2.1 c' hc' hcon'
    refine ⟨z1, ?_⟩
    by_cases e : c' = c
    · subst e; exact (hcf hcon').1
    · obtain ⟨s, z3, z4⟩ := z2
      exact ⟨s, z3, by rw [eM _ (by omega)]; exact z4⟩
  · obtain ⟨s, z1, z2⟩ := hi.2.2
    exact ⟨s, z1, e5.trans z2⟩
  · rw [eb]
    refine PH_N2 hp e5 (eM 6 (by omega)) (eM 7 (by omega)) (eM 8 (by omega)) (eM 9 (by omega)) (eM 13 (by omega)) (eM 14 (by omega)) ?_
    intro c' hc' hcon x g1 g2
    by_cases e : c' = c
    · subst e; exact (hcf hcon).2 x g1 g2
    · exact eM x (by omega)
/-- a byte of a message that is queued -/
def qby (rd cnt : Int32) (b : Int64) (k : Nat) : Int32 := if rd = nI 1 then -1 else if nI k < cnt then Int64.toInt32 ((b >>> (Int32.toInt64 ((nI 8) * ((cnt - (nI 1)) - nI k)) &&& 63)) &&& 255) else -1
theorem and255 (x : Int64) : Int64.toInt32 (x &&& 255) = Int64.toInt32 x &&& nI 255 := by
  rw [Int64.toInt32_and]
  congr 1
theorem qby_m {rd cnt : Int32} {b : Int64} {k : Nat} (hr : rd = nI 0 ∨ rd = nI 1) (hk : k < 2147483648) : mbyte rd cnt b (nI k) = qby rd cnt b k := by
  unfold mbyte qby
  rw [if_neg (nI_pos hk)]
  rcases hr with e | e
  · rw [e, if_neg (show ¬ (nI 0 &&& 1 ≠ 0) by decide), if_neg (show ¬ nI 0 = nI 1 by decide)]
    split
    · rw [and255]
    · rfl
  · rw [e, if_pos (show nI 1 &&& 1 ≠ 0 by decide), if_pos rfl]
theorem qby_256 {cnt : Int32} {b : Int64} {k : Nat} (h : nI k < cnt) : ∃ x, x < 256 ∧ qby (nI 0) cnt b k = nI x := by
  unfold qby
  rw [if_neg (show ¬ nI 0 = nI 1 by decide), if_pos h, and255]
  exact pk_andE _ (m := nI 255) 8 (by decide)
def queN (N : Nat → Int32) (c s : Nat) (a rd cnt : Int32) (b : Int64) : Nat → Int32 :=
  let o := 215 + 40 * c + 8 * s
  sN (sN (sN (sN (sN (sN (sN (sN (sN N o a) (o + 1) rd) (o + 2) cnt) (o + 3) (nI 0)) (o + 4) (qby rd cnt b 0)) (o + 5) (qby rd cnt b 1)) (o + 6) (qby rd cnt b 2)) (o + 7) (qby rd cnt b 3)) (207 + 40 * c) (nI (s + 1))
theorem queN_out {N : Nat → Int32} {c s : Nat} {a rd cnt : Int32} {b : Int64} {x : Nat} (h : x ≠ 207 + 40 * c) (h2 : x < 215 + 40 * c + 8 * s ∨ 223 + 40 * c + 8 * s ≤ x) : queN N c s a rd cnt b x = N x := by
  unfold queN
  rw [sN_ne (by omega), sN_ne (by omega), sN_ne (by omega), sN_ne (by omega), sN_ne (by omega), sN_ne (by omega), sN_ne (by omega), sN_ne (by omega), sN_ne (by omega)]
theorem queN_at {N : Nat → Int32} {c s : Nat} {a rd cnt : Int32} {b : Int64} : queN N c s a rd cnt b (207 + 40 * c) = nI (s + 1) ∧ queN N c s a rd cnt b (215 + 40 * c + 8 * s) = a ∧ queN N c s a rd cnt b (215 + 40 * c + 8 * s + 1) = rd ∧ queN N c s a rd cnt b (215 + 40 * c + 8 * s + 2) = cnt ∧ queN N c s a rd cnt b (215 + 40 * c + 8 * s + 3) = nI 0 ∧ ∀ k, k < 4 → queN N c s a rd cnt b (215 + 40 * c + 8 * s + 4 + k) = qby rd cnt b k := by
  unfold queN
  refine ⟨sN_eq, ?_, ?_, ?_, ?_, ?_⟩
  · rw [sN_ne (by omega), sN_ne (by omega), sN_ne (by omega), sN_ne (by omega), sN_ne (by omega), sN_ne (by omega), sN_ne (by omega), sN_ne (by omega), sN_eq]
  · rw [sN_ne (by omega), sN_ne (by omega), sN_ne (by omega), sN_ne (by omega), sN_ne (by omega), sN_ne (by omega), sN_ne (by omega), sN_eq]
  · rw [sN_ne (by omega), sN_ne (by omega), sN_ne (by omega), sN_ne (by omega), sN_ne (by omega), sN_ne (by omega), sN_eq]
  · rw [sN_ne (by omega), sN_ne (by omega), sN_ne (by omega), sN_ne (by omega), sN_ne (by omega), sN_eq]
  · intro k hk
    rcases (show k = 0 ∨ k = 1 ∨ k = 2 ∨ k = 3 by omega) with rfl | rfl | rfl | rfl
    · rw [sN_ne (by omega), sN_ne (by omega), sN_ne (by omega), sN_ne (by omega)]; exact sN_eq
    · rw [sN_ne (by omega), sN_ne (by omega), sN_ne (by omega)]; exact sN_eq
    · rw [sN_ne (by omega), sN_ne (by omega)]; exact sN_eq
    · rw [sN_ne (by omega)]; exact sN_eq
theorem cl_enqF {w : Wd} {P : MP} {a : Nat} {q : Nat → Nat} (ht : CT w a) (hp : CP P a q) (I : MI) (L : ML) (h1 : I a 1 = nI 4) (rd ad cnt : Int32) (b : Int64) : call 8 [.ref a, .int rd, .int ad, .int cnt, .long b] w I L P = some (.inl (some (.int (nI 0))), w, I, L, P) := by
  obtain ⟨ha, ha1, ha2, hms⟩ := ht
  rw [Caller_enqueue_E, Caller_enqueue_0 _ _ _ _ _ _ _ _ _ _ _ ha, h1, if_neg (nI_pos (by omega)), Caller_enqueue_7 _ _ _ _ _ _ _ _ _ _ _ ha, hp.1, rf_some, h1, Caller_enqueue_15 _ _ _ _ _ _ _ _ _ _ _ _ _ (isAr_of ha1), alen_of ha1, if_pos (nI_le (by omega) (by omega)), Caller_enqueue_31, Caller_enqueue_32_0, Caller_enqueue_39 _ _ _ _ _ _ _ _ _ _ _ b01]
theorem cl_enq {w : Wd} {P : MP} {a : Nat} {q : Nat → Nat} (ht : CT w a) (hp : CP P a q) {s : Nat} (hs : s < 4) (I : MI) (L : ML) (h1 : I a 1 = nI s) (rd ad cnt : Int32) (b : Int64) (hr : rd = nI 0 ∨ rd = nI 1) : call 8 [.ref a, .int rd, .int ad, .int cnt, .long b] w I L P = some (.inl (some (.int (nI 1))), w, wr (wr I (a + 3 + q s) (sN (sN (sN (sN (I (a + 3 + q s)) 0 rd) 1 ad) 2 cnt) 3 (nI 0))) a (sN (I a) 1 (nI (s + 1))), updL L (a + 3 + q s) 4 b, P) := by
  obtain ⟨ha, ha1, ha2, hms⟩ := ht
  have hq := hp.2.2.2.1 s hs
  have hm := hms _ hq
  have hr1 : rd &&& 1 = rd := by rcases hr with e | e <;> rw [e] <;> decide
  rw [Caller_enqueue_E, Caller_enqueue_0 _ _ _ _ _ _ _ _ _ _ _ ha, h1, if_neg (nI_pos (by omega)), Caller_enqueue_7 _ _ _ _ _ _ _ _ _ _ _ ha, hp.1, rf_some, h1, Caller_enqueue_15 _ _ _ _ _ _ _ _ _ _ _ _ _ (isAr_of ha1), alen_of ha1, if_neg (nI_ge hs (by omega)), Caller_enqueue_19 _ _ _ _ _ _ _ _ _ _ _ ha, hp.1, rf_some, Caller_enqueue_23 _ _ _ _ _ _ _ _ _ _ _ _ ha (by rw [h1]; exact inA_nI ha1 hs (by omega)), h1, cl_nI (by omega), hp.2.2.1 s hs, rf_some, Caller_enqueue_28, Caller_enqueue_32_1, Caller_enqueue_41 _ _ _ _ _ _ _ _ _ _ _ hm hr1 ha b11]
  simp only [updI_wr, wr_wr, wr_same, wr_ne _ _ (show a ≠ a + 3 + q s by omega), h1, nI_add]
/-- a message comes into the queue of a caller -/
theorem BR_enq {w : Wd} {N : Nat → Int32} {b k n md qq c s a cnt : Nat} {rd : Int32} {bt : Int64} {I : MI} {L : ML} {P : MP} (ht : BT w b) (h : BC b N I L P k n md) (hlg : LG b N I qq) (hck : c < k) (hs : s < 4) (e0 : N (207 + 40 * c) = nI s) (ha : a < 128) (hr : rd = nI 0 ∨ rd = nI 1) (hc0 : 0 < cnt) (hc4 : cnt ≤ 4) : ∃ J K, call 8 [.ref (b + 7 + 7 * c), .int rd, .int (nI a), .int (nI cnt), .long bt] w I L P = some (.inl (some (.int (nI 1))), w, J, K, P) ∧ BR b (queN N c s (nI a) rd (nI cnt) bt) J K P qq ∧ J (b + 7 + 7 * c) 1 = nI (s + 1) ∧ Fr (b + 7 + 7 * c) (b + 7 + 7 * c + 7) I J L K P P := by
  have h' := h
  obtain ⟨⟨hk0, hk, h1, i1⟩, -, -, -, -, -, hq, hcs, -, -, hi, -, -⟩ := h'
  have hc3 : c < 3 := by omega
  have tc := ht.2.2.2.2.2.1 c hc3
  obtain ⟨q, s', hp, g1, g2, g3, g4, g5, g6, g7, g8⟩ := hcs c hc3
  have es : s' = s := by
    rw [e0, nI_eq (by omega) (by omega)] at g2
    exact g2.symm
  subst es
  have hqs := hp.2.2.2.1 s' hs
  obtain ⟨q0, q1, q2, q3, q4, q5⟩ := queN_at (N := N) (c := c) (s := s') (a := nI a) (rd := rd) (cnt := nI cnt) (b := bt)
  have f : Fr (b + 7 + 7 * c) (b + 7 + 7 * c + 7) I (wr (wr I (b + 7 + 7 * c + 3 + q s') (sN (sN (sN (sN (I (b + 7 + 7 * c + 3 + q s')) 0 rd) 1 (nI a)) 2 (nI cnt)) 3 (nI 0))) (b + 7 + 7 * c) (sN (I (b + 7 + 7 * c)) 1 (nI (s' + 1)))) L (updL L (b + 7 + 7 * c + 3 + q s') 4 bt) P P := by
    intro x hx
    exact ⟨by rw [wr_ne _ _ (by omega), wr_ne _ _ (by omega)], updL_ne (by omega), rfl⟩
  refine ⟨_, _, cl_enq tc hp hs I L g3 rd (nI a) (nI cnt) bt hr, BR_cal h hlg hc3 (fun x g => queN_out (by omega) (by omega)) f ⟨q, s' + 1, hp, by omega, q0, by rw [wr_same, sN_eq], ?_, ?_, ?_, ?_, ?_⟩ ?_ ?_, by rw [wr_same, sN_eq], f⟩
  · intro i hi0 hi5
    rw [wr_ne _ _ (by omega), wr_ne _ _ (by omega), queN_out (by omega) (by omega)]; exact g4 i hi0 hi5
  · rw [wr_same, sN_ne (by omega), queN_out (by omega) (by omega)]; exact g5
  · rw [wr_same, sN_ne (by omega), queN_out (by omega) (by omega)]; exact g6
  · rw [wr_same, sN_ne (by omega), queN_out (by omega) (by omega)]; exact g7
  · intro i hi
    by_cases e : i = s'
    · subst e
      rw [show 207 + 40 * c + 8 + 8 * i = 215 + 40 * c + 8 * i from by omega]
      refine ⟨?_, ?_, ?_, ?_, ?_⟩
      · rw [wr_ne _ _ (by omega), wr_same, sN_ne (by omega), sN_ne (by omega), sN_ne (by omega), sN_eq, q2]
      · rw [wr_ne _ _ (by omega), wr_same, sN_ne (by omega), sN_ne (by omega), sN_eq, q1]
      · rw [wr_ne _ _ (by omega), wr_same, sN_ne (by omega), sN_eq, q3]
      · rw [wr_ne _ _ (by omega), wr_same, sN_eq, q4]
      · intro k' hk'
        rw [wr_ne _ _ (by omega), wr_same, sN_ne (by omega), sN_ne (by omega), sN_ne (by omega), sN_eq, sN_ne (by omega), sN_eq, updL_eq, qby_m hr (by omega), q5 k' hk']
    · have hne : q i ≠ q s' := fun z => e (hp.2.2.2.2 i s' (by omega) (by omega) z)
      have hqi := hp.2.2.2.1 i (by omega)
      exact MR_N (MR_I (g8 i (by omega)) (by rw [wr_ne _ _ (by omega), wr_ne _ _ (by omega)]) (updL_ne (by omega))) (fun x z1 z2 => queN_out (by omega) (by omega))
  · obtain ⟨s2, z1, z2, z3, z4⟩ := hi.1 c hc3
    have es2 : s2 = s' := by
      rw [e0, nI_eq (by omega) (by omega)] at z2
      exact z2.symm
    subst es2
    refine ⟨s2 + 1, by omega, q0, fun y => absurd y (by omega), ?_⟩
    intro i hi
    by_cases e : i = s2
    · subst e
      refine ⟨⟨a, ha, q1⟩, by rw [q2]; exact hr, cnt, hc0, hc4, q3, ?_⟩
      intro hrd j hj
      rw [q2] at hrd
      rw [q5 j (by omega), hrd]
      exact qby_256 (nI_lt hj (by omega))
    · exact OM_S (z4 i (by omega)) (fun x g1 g2 => queN_out (by omega) (by omega))
  · intro hcon
    refine ⟨⟨s', by omega, q0⟩, ?_⟩
    intro x g1 g2
    obtain ⟨-, s2, z1, z2⟩ := hi.2.1 c hc3 hcon
    rw [e0, nI_eq (by omega) (by omega)] at z2
    exact queN_out (by omega) (by omega)
