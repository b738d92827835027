/-! a bus is copied to another one -/
theorem and11 (x : Int32) : (x &&& 1) &&& 1 = x &&& 1 := by rw [Int32.and_assoc, Int32.and_self]
theorem cl_cpn {w : Wd} {a a' n : Nat} (h : w.1 a = some (8, n)) (h' : w.1 a' = some (8, n)) (hn : n < 2147483648) (I : MI) (L : ML) (P : MP) : call 119 [.ref a', .ref a] w I L P = some (.inl none, w, wr I a (fun j => if j < n then I a' j else I a j), L, P) := by
  have e : (if alen w a < alen w a' then alen w a else alen w a') = nI n := by
    rw [alen_of h, alen_of h']; split <;> rfl
  have c0 : Int32.toNatClampNeg (nI 0) = 0 := cl_nI (by omega)
  have cn : Int32.toNatClampNeg (nI n) = n := cl_nI hn
  rw [Two_copyNumbers_E, Two_copyNumbers_0 _ _ _ _ _ _ (isAr_of h') (isAr_of h), e, c0, cn]
  · have e2 : cpyI I a' 0 a 0 n = wr I a (fun j => if j < n then I a' j else I a j) := by
      funext b j
      unfold cpyI wr
      by_cases hb : b = a
      · subst hb
        rw [if_pos rfl, if_pos rfl]
        by_cases hj : j < n
        · rw [if_pos (by omega), show 0 + (j - 0) = j from by omega]
          exact (if_pos hj).symm
        · rw [if_neg (by omega)]
          exact (if_neg hj).symm
      · rw [if_neg hb, if_neg hb]
    rw [e2]
  · rw [e]
    exact ⟨n, n, h', h, nI_pos (by omega), nI_pos (by omega), nI_pos hn, by rw [c0, cn]; omega, by rw [c0, cn]; omega⟩
theorem updL_ne {L : ML} {m x : Nat} {v : Int64} (h : x ≠ m) : updL L m 4 v x = L x := by
  funext j; unfold updL; rw [if_neg (fun q => h q.1)]
theorem updL_eq {L : ML} {m : Nat} {v : Int64} : updL L m 4 v m 4 = v := by unfold updL; rw [if_pos ⟨rfl, rfl⟩]
/-- R and y are a copy of the message S and x -/
def MQc (S : Nat → Int32) (x : Int64) (R : Nat → Int32) (y : Int64) : Prop := R 0 = S 0 &&& 1 ∧ R 1 = S 1 ∧ R 2 = S 2 ∧ R 3 = S 3 ∧ y = x
theorem cl_copyM {w : Wd} {m m' : Nat} (hm : w.1 m = some (3, 0)) (hm' : w.1 m' = some (3, 0)) (hne : m' ≠ m) (I : MI) (L : ML) (P : MP) : call 1 [.ref m, .ref m'] w I L P = some (.inl none, w, wr I m (sN (sN (sN (sN (I m) 0 (I m' 0 &&& 1)) 1 (I m' 1)) 2 (I m' 2)) 3 (I m' 3)), updL L m 4 (L m' 4), P) := by
  rw [Message_copyFrom_E, Message_copyFrom_0 _ _ _ _ _ _ hm' hm (and11 _)]
  simp only [updI_wr, wr_wr, wr_same, wr_ne _ _ hne]
theorem MQ_copy (R S : Nat → Int32) (x : Int64) : MQc S x (sN (sN (sN (sN R 0 (S 0 &&& 1)) 1 (S 1)) 2 (S 2)) 3 (S 3)) x := by
  refine ⟨?_, ?_, ?_, ?_, rfl⟩
  · rw [sN_ne (by omega), sN_ne (by omega), sN_ne (by omega), sN_eq]
  · rw [sN_ne (by omega), sN_ne (by omega), sN_eq]
  · rw [sN_ne (by omega), sN_eq]
  · rw [sN_eq]
theorem MR_copy {N : Nat → Int32} {o m m' : Nat} {I J : MI} {L K : ML} (h : MR N o I L m') (hf : N (o + 1) = nI 0 ∨ N (o + 1) = nI 1) (hc : MQc (I m') (L m' 4) (J m) (K m 4)) : MR N o J K m := by
  obtain ⟨h0, h1, h2, h3, h4⟩ := h
  obtain ⟨c0, c1, c2, c3, c4⟩ := hc
  have e : J m 0 = I m' 0 := by
    rw [c0, h0]
    rcases hf with q | q <;> rw [q] <;> decide
  refine ⟨e.trans h0, c1.trans h1, c2.trans h2, c3.trans h3, fun k hk => ?_⟩
  rw [e, c2, c4]
  exact h4 k hk
theorem cl_copyC_1 {w : Wd} {P : MP} {a a' : Nat} {q q' : Nat → Nat} (ht : CT w a) (ht' : CT w a') (hp : CP P a q) (hp' : CP P a' q') (dis : a + 7 ≤ a' ∨ a' + 7 ≤ a) {i : Nat} (hi : i < 4) (v3 v4 : Value) (I : MI) (L : ML) : ∃ v3' v4', go 6 2 [.ref a, .ref a', .int (nI i), v3, v4] [] w I L P = go 6 2 [.ref a, .ref a', .int (nI (i + 1)), v3', v4'] [] w (wr I (a + 3 + q i) (sN (sN (sN (sN (I (a + 3 + q i)) 0 (I (a' + 3 + q' i) 0 &&& 1)) 1 (I (a' + 3 + q' i) 1)) 2 (I (a' + 3 + q' i) 2)) 3 (I (a' + 3 + q' i) 3))) (updL L (a + 3 + q i) 4 (L (a' + 3 + q' i) 4)) P := by
  have h4 := hp.2.2.2.1 i hi
  have h4' := hp'.2.2.2.1 i hi
  obtain ⟨ha, ha1, ha2, hms⟩ := ht
  obtain ⟨hb, hb1, hb2, hns⟩ := ht'
  refine ⟨.ref (a + 3 + q i), .ref (a' + 3 + q' i), ?_⟩
  rw [Caller_copyFrom_2 _ _ _ _ _ _ _ _ _ ha, hp.1, rf_some, Caller_copyFrom_7 _ _ _ _ _ _ _ _ _ _ _ (isAr_of ha1), alen_of ha1, if_neg (nI_ge hi (by omega)), Caller_copyFrom_11 _ _ _ _ _ _ _ _ _ hb, hp'.1, rf_some, Caller_copyFrom_16 _ _ _ _ _ _ _ _ _ _ _ (isAr_of hb1), alen_of hb1, if_neg (nI_ge hi (by omega)), Caller_copyFrom_20 _ _ _ _ _ _ _ _ _ ha, hp.1, rf_some, Caller_copyFrom_24 _ _ _ _ _ _ _ _ _ _ (inA_nI ha1 hi (by omega)), cl_nI (by omega), hp.2.2.1 i hi, rf_some, Caller_copyFrom_26_1 _ _ _ _ _ _ _ _ _ _ hb, fix1_int, hp'.1, rf_some, Caller_copyFrom_31 _ _ _ _ _ _ _ _ _ _ (inA_nI hb1 hi (by omega)), cl_nI (by omega), hp'.2.2.1 i hi, rf_some, Caller_copyFrom_33_3, Caller_copyFrom_39_1, Caller_copyFrom_44_1 _ _ _ _ _ _ _ _ _ (hms _ h4), cl_copyM (hms _ h4) (hns _ h4') (by omega)]
  simp only [kC_ret, Option.toList, List.cons_append, List.nil_append, fix1_int, fix1_ref, fix1_unk, fix1_null, fix1_long]
  rw [Caller_copyFrom_50, nI_add, fix1_ref]
theorem cl_copyC_n {w : Wd} {P : MP} {a a' : Nat} {q q' : Nat → Nat} (ht : CT w a) (ht' : CT w a') (hp : CP P a q) (hp' : CP P a' q') (dis : a + 7 ≤ a' ∨ a' + 7 ≤ a) (v3 v4 : Value) (I : MI) (L : ML) : ∀ j, j ≤ 4 → ∃ J K v3' v4', go 6 2 [.ref a, .ref a', .int (nI 0), v3, v4] [] w I L P = go 6 2 [.ref a, .ref a', .int (nI j), v3', v4'] [] w J K P ∧ (∀ i, i < j → MQc (I (a' + 3 + q' i)) (L (a' + 3 + q' i) 4) (J (a + 3 + q i)) (K (a + 3 + q i) 4)) ∧ ∀ x, (∀ i, i < j → x ≠ a + 3 + q i) → J x = I x ∧ K x = L x := by
  intro j
  induction j with
  | zero => intro _; exact ⟨I, L, v3, v4, rfl, fun i hi => absurd hi (by omega), fun x _ => ⟨rfl, rfl⟩⟩
  | succ j ih =>
    intro hj
    obtain ⟨J, K, u3, u4, e1, e2, e3⟩ := ih (by omega)
    obtain ⟨w3, w4, f1⟩ := cl_copyC_1 ht ht' hp hp' dis (i := j) (by omega) u3 u4 J K
    have h4' := hp'.2.2.2.1 j (by omega)
    obtain ⟨s1, s2⟩ := e3 (a' + 3 + q' j) (fun i hi => by have := hp.2.2.2.1 i (by omega); omega)
    refine ⟨_, _, w3, w4, e1.trans f1, ?_, ?_⟩
    · intro i hi
      by_cases hij : i = j
      · subst hij
        rw [wr_same, updL_eq, s1, s2]
        exact MQ_copy _ _ _
      · have hne : a + 3 + q i ≠ a + 3 + q j := fun z => hij (hp.2.2.2.2 i j (by omega) (by omega) (by omega))
        rw [wr_ne _ _ hne, updL_ne hne]
        exact e2 i (by omega)
    · intro x hx
      have hne := hx j (by omega)
      rw [wr_ne _ _ hne, updL_ne hne]
      exact e3 x (fun i hi => hx i (by omega))
theorem cl_copyC {w : Wd} {P : MP} {a a' : Nat} {q q' : Nat → Nat} (ht : CT w a) (ht' : CT w a') (hp : CP P a q) (hp' : CP P a' q') (dis : a + 7 ≤ a' ∨ a' + 7 ≤ a) (I : MI) (L : ML) : ∃ J K, call 6 [.ref a, .ref a'] w I L P = some (.inl none, w, J, K, P) ∧ (∀ i, i < 4 → MQc (I (a' + 3 + q' i)) (L (a' + 3 + q' i) 4) (J (a + 3 + q i)) (K (a + 3 + q i) 4)) ∧ J a 1 = I a' 1 ∧ J a 3 = I a' 3 ∧ J a 4 = I a' 4 ∧ J a 5 = I a' 5 ∧ (∀ k, k < 5 → J (a + 2) k = I (a' + 2) k) ∧ Fr a (a + 7) I J L K P P := by
  obtain ⟨J, K, u3, u4, e1, e2, e3⟩ := cl_copyC_n ht ht' hp hp' dis unk unk I L 4 (by omega)
  have hq4 := hp.2.2.2.1
  have hq4' := hp'.2.2.2.1
  have sa : J a = I a := (e3 a (fun i hi => by omega)).1
  have sa2 : J (a + 2) = I (a + 2) := (e3 (a + 2) (fun i hi => by omega)).1
  have sb : J a' = I a' := (e3 a' (fun i hi => by have := hq4 i hi; omega)).1
  have sb2 : J (a' + 2) = I (a' + 2) := (e3 (a' + 2) (fun i hi => by have := hq4 i hi; omega)).1
  obtain ⟨ha, ha1, ha2, hms⟩ := ht
  obtain ⟨hb, hb1, hb2, hns⟩ := ht'
  rw [Caller_copyFrom_E, Caller_copyFrom_0, fix1_ref, e1, Caller_copyFrom_2 _ _ _ _ _ _ _ _ _ ha, hp.1, rf_some, Caller_copyFrom_7 _ _ _ _ _ _ _ _ _ _ _ (isAr_of ha1), alen_of ha1, if_pos (nI_le (by omega) (by omega)), Caller_copyFrom_56 _ _ _ _ _ _ _ _ _ hb ha, hp'.2.1, rf_some, Caller_copyFrom_68 _ _ _ _ _ _ _ _ _ _ ha, hp.2.1, rf_some, Caller_copyFrom_72_3, cl_cpn ha2 hb2 (by omega)]
  simp only [kC_ret, Option.toList, List.cons_append, List.nil_append, fix1_int, fix1_ref, fix1_unk, fix1_null, fix1_long]
  rw [Caller_copyFrom_75 _ _ _ _ _ _ _ _ _ hb ha]
  simp only [updI_wr, wr_same, wr_ne _ _ (show a' ≠ a by omega), wr_ne _ _ (show a' ≠ a + 2 by omega), wr_ne _ _ (show a ≠ a + 2 by omega), wr_ne _ _ (show a' + 2 ≠ a by omega), wr_ne _ _ (show a + 2 ≠ a by omega)]
  refine ⟨_, K, rfl, ?_, ?_, ?_, ?_, ?_, ?_, ?_⟩
  · intro i hi
    have := hq4 i hi
    rw [wr_ne _ _ (show a + 3 + q i ≠ a by omega), wr_ne _ _ (show a + 3 + q i ≠ a by omega), wr_ne _ _ (show a + 3 + q i ≠ a by omega), wr_ne _ _ (show a + 3 + q i ≠ a + 2 by omega), wr_ne _ _ (show a + 3 + q i ≠ a by omega)]
    exact e2 i hi
  · rw [wr_same, sN_ne (by omega), sN_ne (by omega), sN_ne (by omega), sN_eq, sb]
  · rw [wr_same, sN_ne (by omega), sN_ne (by omega), sN_eq, sb]
  · rw [wr_same, sN_ne (by omega), sN_eq, sb]
  · rw [wr_same, sN_eq, sb]
  · intro k hk
    rw [wr_ne _ _ (by omega), wr_ne _ _ (by omega), wr_ne _ _ (by omega), wr_same]
    rw [if_pos hk, sb2]
  · intro x hx
    obtain ⟨g1, g2⟩ := e3 x (fun i hi => by have := hq4 i hi; omega)
    refine ⟨?_, g2, rfl⟩
    rw [wr_ne _ _ (by omega), wr_ne _ _ (by omega), wr_ne _ _ (by omega), wr_ne _ _ (by omega), wr_ne _ _ (by omega)]
    exact g1
theorem CR_copy {w : Wd} {N : Nat → Int32} {c : Nat} {P : MP} {a a' s k : Nat} {q q' : Nat → Nat} (ht : CT w a) (ht' : CT w a') (hp : CP P a q) (dis : a + 7 ≤ a' ∨ a' + 7 ≤ a) (I : MI) (L : ML) (h : CR N (207 + 40 * c) I L P a' q' s) (hoc : OC N k c) : ∃ J K, call 6 [.ref a, .ref a'] w I L P = some (.inl none, w, J, K, P) ∧ CR N (207 + 40 * c) J K P a q s ∧ Fr a (a + 7) I J L K P P := by
  obtain ⟨h0, h1, h2, h3, h4, h5, h6, h7, h8⟩ := h
  obtain ⟨J, K, e1, e2, e3, e4, e5, e6, e7, e8⟩ := cl_copyC ht ht' hp h0 dis I L
  refine ⟨J, K, e1, ⟨hp, h1, h2, e3.trans h3, fun k hk hk5 => (e7 k hk5).trans (h4 k hk hk5), e4.trans h5, e5.trans h6, e6.trans h7, ?_⟩, e8⟩
  intro i hi
  obtain ⟨s', hs', g1, g2, g3⟩ := hoc
  rw [h2, nI_eq (by omega) (by omega)] at g1
  subst g1
  have hf := (g3 i hi).2.1
  rw [show 215 + 40 * c + 8 * i + 1 = 207 + 40 * c + 8 + 8 * i + 1 from by omega] at hf
  exact MR_copy (h8 i hi) hf (e2 i (by omega))
/-- R and R1 are a copy of the listener S and S1 -/
def LQc (S S1 R R1 : Nat → Int32) : Prop := R 0 = S 0 ∧ R 1 = S 1 ∧ R 2 = S 2 &&& 1 ∧ R 3 = S 3 ∧ R 5 = S 5 ∧ R 6 = S 6 ∧ ∀ k, k < 16 → R1 k = S1 k
theorem cl_copyL {w : Wd} {P : MP} {a a' : Nat} (h : w.1 a = some (2, 0)) (h1 : w.1 (a + 1) = some (8, 16)) (h' : w.1 a' = some (2, 0)) (h1' : w.1 (a' + 1) = some (8, 16)) (p : P a 4 = some (a + 1)) (p' : P a' 4 = some (a' + 1)) (dis : a + 2 ≤ a' ∨ a' + 2 ≤ a) (I : MI) (L : ML) : ∃ J, call 15 [.ref a, .ref a'] w I L P = some (.inl none, w, J, L, P) ∧ LQc (I a') (I (a' + 1)) (J a) (J (a + 1)) ∧ Fr a (a + 2) I J L L P P := by
  rw [Listener_copyFrom_E, Listener_copyFrom_0 _ _ _ _ _ _ h' h (and11 _), p', rf_some, Listener_copyFrom_36 _ _ _ _ _ _ _ h, p, rf_some, Listener_copyFrom_40_3, cl_cpn h1 h1' (by omega)]
  simp only [kC_ret, Option.toList, List.cons_append, List.nil_append, fix1_int, fix1_ref, fix1_unk, fix1_null, fix1_long]
  rw [Listener_copyFrom_43 _ _ _ _ _ _ h' h]
  simp only [updI_wr, wr_same, wr_ne _ _ (show a' ≠ a by omega), wr_ne _ _ (show a' ≠ a + 1 by omega), wr_ne _ _ (show a ≠ a + 1 by omega), wr_ne _ _ (show a' + 1 ≠ a by omega), wr_ne _ _ (show a + 1 ≠ a by omega)]
  refine ⟨_, rfl, ⟨?_, ?_, ?_, ?_, ?_, ?_, ?_⟩, ?_⟩
  · rw [wr_same, sN_ne (by omega), sN_ne (by omega), sN_ne (by omega), sN_ne (by omega), sN_ne (by omega), sN_eq]
  · rw [wr_same, sN_ne (by omega), sN_ne (by omega), sN_ne (by omega), sN_ne (by omega), sN_eq]
  · rw [wr_same, sN_ne (by omega), sN_ne (by omega), sN_ne (by omega), sN_eq]
  · rw [wr_same, sN_ne (by omega), sN_ne (by omega), sN_eq]
  · rw [wr_same, sN_ne (by omega), sN_eq]
  · rw [wr_same, sN_eq]
  · intro k hk
    rw [wr_ne _ _ (by omega), wr_ne _ _ (by omega), wr_same]
    rw [if_pos hk]
  · intro x hx
    refine ⟨?_, rfl, rfl⟩
    rw [wr_ne _ _ (by omega), wr_ne _ _ (by omega), wr_ne _ _ (by omega), wr_ne _ _ (by omega), wr_ne _ _ (by omega), wr_ne _ _ (by omega), wr_ne _ _ (by omega)]
theorem cl_copyG {w : Wd} {P : MP} {a b : Nat} (ha : BT w a) (hb : BT w b) (pa : BQ P a) (pb : BQ P b) (dis : a + 40 ≤ b ∨ b + 40 ≤ a) (I : MI) (L : ML) : ∃ J, call 22 [.ref (b + 3), .ref (a + 3)] w I L P = some (.inl none, w, J, L, P) ∧ (J (b + 3) 0 = I (a + 3) 0 ∧ J (b + 3) 1 = I (a + 3) 1 ∧ J (b + 3) 2 = I (a + 3) 2) ∧ (∀ k, k < 64 → J (b + 4) k = I (a + 4) k ∧ J (b + 5) k = I (a + 5) k ∧ J (b + 6) k = I (a + 6) k) ∧ Fr (b + 3) (b + 7) I J L L P P := by
  obtain ⟨_, _, _, a3, ⟨a4, a5, a6⟩, _⟩ := ha
  obtain ⟨_, _, _, b3, ⟨b4, b5, b6⟩, _⟩ := hb
  obtain ⟨_, _, _, _, _, p3, p4, p5⟩ := pa
  obtain ⟨_, _, _, _, _, q3, q4, q5⟩ := pb
  rw [Log_copyFrom_E, Log_copyFrom_0 _ _ _ _ _ _ a3 b3, p3, rf_some, Log_copyFrom_28 _ _ _ _ _ _ _ b3, q3, rf_some, Log_copyFrom_32_3, cl_cpn b4 a4 (by omega)]
  simp only [kC_ret, Option.toList, List.cons_append, List.nil_append, fix1_int, fix1_ref, fix1_unk, fix1_null, fix1_long]
  rw [Log_copyFrom_35 _ _ _ _ _ _ a3, p4, rf_some, Log_copyFrom_39 _ _ _ _ _ _ _ b3, q4, rf_some, Log_copyFrom_43_3, cl_cpn b5 a5 (by omega)]
  simp only [kC_ret, Option.toList, List.cons_append, List.nil_append, fix1_int, fix1_ref, fix1_unk, fix1_null, fix1_long]
  rw [Log_copyFrom_46 _ _ _ _ _ _ a3, p5, rf_some, Log_copyFrom_50 _ _ _ _ _ _ _ b3, q5, rf_some, Log_copyFrom_54_3, cl_cpn b6 a6 (by omega)]
  simp only [kC_ret, Option.toList, List.cons_append, List.nil_append, fix1_int, fix1_ref, fix1_unk, fix1_null, fix1_long]
  rw [Log_copyFrom_57]
  simp only [updI_wr, wr_wr, wr_same, wr_ne _ _ (show a + 3 ≠ b + 3 by omega), wr_ne _ _ (show a + 4 ≠ b + 3 by omega), wr_ne _ _ (show a + 5 ≠ b + 3 by omega), wr_ne _ _ (show a + 6 ≠ b + 3 by omega), wr_ne _ _ (show a + 5 ≠ b + 4 by omega), wr_ne _ _ (show a + 6 ≠ b + 4 by omega), wr_ne _ _ (show a + 6 ≠ b + 5 by omega)]
  refine ⟨_, rfl, ⟨?_, ?_, ?_⟩, ?_, ?_⟩
  · rw [wr_ne _ _ (by omega), wr_ne _ _ (by omega), wr_ne _ _ (by omega), wr_same, sN_ne (by omega), sN_ne (by omega), sN_eq]
  · rw [wr_ne _ _ (by omega), wr_ne _ _ (by omega), wr_ne _ _ (by omega), wr_same, sN_ne (by omega), sN_eq]
  · rw [wr_ne _ _ (by omega), wr_ne _ _ (by omega), wr_ne _ _ (by omega), wr_same, sN_eq]
  · intro k hk
    rw [wr_ne _ _ (show b + 4 ≠ b + 6 by omega), wr_ne _ _ (show b + 4 ≠ b + 5 by omega), wr_same, wr_ne _ _ (show b + 5 ≠ b + 6 by omega), wr_same, wr_same]
    rw [if_pos hk, if_pos hk, if_pos hk]
    exact ⟨rfl, rfl, rfl⟩
  · intro x hx
    refine ⟨?_, rfl, rfl⟩
    rw [wr_ne _ _ (by omega), wr_ne _ _ (by omega), wr_ne _ _ (by omega), wr_ne _ _ (by omega)]
