/-! a whole bus is copied -/
theorem cl_copyT {w : Wd} {P : MP} {a b : Nat} (ha : w.1 a = some (0, 0)) (hb : w.1 b = some (0, 0)) (dis : a ≠ b) (I : MI) (L : ML) : ∃ X, call 29 [.ref b, .ref a] w I L P = some (.inl none, w, wr I b X, L, P) ∧ X 6 = I a 6 ∧ X 7 = I a 7 ∧ X 8 = I a 8 ∧ X 9 = I a 9 &&& 1 ∧ X 10 = I a 10 ∧ X 11 = I a 11 ∧ X 12 = I a 12 ∧ X 13 = I a 13 ∧ ∀ x, x < 6 → X x = I b x := by
  rw [Bus_copyTransfer_E, Bus_copyTransfer_0 _ _ _ _ _ _ ha hb (and11 _)]
  simp only [updI_wr, wr_wr, wr_same, wr_ne _ _ dis]
  refine ⟨_, rfl, ?_, ?_, ?_, ?_, ?_, ?_, ?_, ?_, ?_⟩
  · rw [sN_ne (by omega), sN_ne (by omega), sN_ne (by omega), sN_ne (by omega), sN_ne (by omega), sN_ne (by omega), sN_ne (by omega), sN_eq]
  · rw [sN_ne (by omega), sN_ne (by omega), sN_ne (by omega), sN_ne (by omega), sN_ne (by omega), sN_ne (by omega), sN_eq]
  · rw [sN_ne (by omega), sN_ne (by omega), sN_ne (by omega), sN_ne (by omega), sN_ne (by omega), sN_eq]
  · rw [sN_ne (by omega), sN_ne (by omega), sN_ne (by omega), sN_ne (by omega), sN_eq]
  · rw [sN_ne (by omega), sN_ne (by omega), sN_ne (by omega), sN_eq]
  · rw [sN_ne (by omega), sN_ne (by omega), sN_eq]
  · rw [sN_ne (by omega), sN_eq]
  · rw [sN_eq]
  · intro x hx
    rw [sN_ne (by omega), sN_ne (by omega), sN_ne (by omega), sN_ne (by omega), sN_ne (by omega), sN_ne (by omega), sN_ne (by omega), sN_ne (by omega)]
theorem PH_R {N R S : Nat → Int32} {n md : Nat} (h : PH N R n md) (e6 : S 6 = R 6) (e9 : S 9 = R 9 &&& 1) (e10 : S 10 = R 10) (e11 : S 11 = R 11) (e12 : S 12 = R 12) (e13 : S 13 = R 13) : PH N S n md := by
  have f0 : nI 0 &&& 1 = nI 0 := by decide
  have f1 : nI 1 &&& 1 = nI 1 := by decide
  unfold PH at h ⊢
  split at h
  · rw [e6]; exact h
  · rw [e6, e12, e10, e11]; exact h
  · rw [e6, e12, e11]; exact h
  · obtain ⟨a1, a2, a3, a4, a5, a6⟩ := h
    rw [e6, e12, e9, e10, e11, a5, f0]
    exact ⟨a1, a2, a3, a4, rfl, a6⟩
  · obtain ⟨a1, a2, a3, a4, a5, a6⟩ := h
    rw [e6, e12, e9, e11, a5, f0]
    exact ⟨a1, a2, a3, a4, rfl, a6⟩
  · obtain ⟨a1, a2, a3, a4, a5, a6⟩ := h
    rw [e6, e12, e9, e11, e10, a5, f1]
    exact ⟨a1, a2, a3, a4, rfl, a6⟩
  · obtain ⟨a1, a2, a3, a4, a5, a6⟩ := h
    rw [e6, e12, e9, a5, f1]
    exact ⟨a1, a2, a3, a4, rfl, a6⟩
  · obtain ⟨a1, a2, a3, a4, a5⟩ := h
    rw [e6, e12, e9, e13, a4]
    refine ⟨a1, a2, a3, ?_, a5⟩
    rcases a3.2.1 with q | q <;> rw [q]
    · exact f0
    · exact f1
  · rw [e6]; exact h
  · exact h
/-- the queues of a bus are queues -/
def BS (b : Nat) (P : MP) : Prop := BQ P b ∧ ∀ c, c < 3 → ∃ q, CP P (b + 7 + 7 * c) q
theorem BR_BS {N : Nat → Int32} {b q : Nat} {I : MI} {L : ML} {P : MP} (h : BR b N I L P q) : BS b P := by
  obtain ⟨⟨k, n, md, -, -, -, -, -, -, hq, hs, -⟩, -⟩ := h
  exact ⟨hq, fun c hc => by obtain ⟨q, s, hr⟩ := hs c hc; exact ⟨q, hr.1⟩⟩
theorem BS_fr {b : Nat} {P Q : MP} (h : BS b P) (e : ∀ x, b ≤ x → x < b + 40 → Q x = P x) : BS b Q := by
  obtain ⟨⟨h1, h2, h3, h4, h5, h6, h7, h8⟩, hc⟩ := h
  refine ⟨⟨?_, ?_, ?_, ?_, ?_, ?_, ?_, ?_⟩, ?_⟩
  · rw [e b (by omega) (by omega)]; exact h1
  · rw [e b (by omega) (by omega)]; exact h2
  · rw [e b (by omega) (by omega)]; exact h3
  · intro c hc; rw [e (b + 1) (by omega) (by omega)]; exact h4 c hc
  · intro l hl; rw [e (b + 2) (by omega) (by omega), e (b + 28 + 2 * l) (by omega) (by omega)]; exact h5 l hl
  · rw [e (b + 3) (by omega) (by omega)]; exact h6
  · rw [e (b + 3) (by omega) (by omega)]; exact h7
  · rw [e (b + 3) (by omega) (by omega)]; exact h8
  · intro c hc3
    obtain ⟨q, g1, g2, g3, g4⟩ := hc c hc3
    refine ⟨q, ?_, ?_, ?_, g4⟩
    · rw [e _ (by omega) (by omega)]; exact g1
    · rw [e _ (by omega) (by omega)]; exact g2
    · intro i hi; rw [e _ (by omega) (by omega)]; exact g3 i hi
theorem cl_copyB_c {w : Wd} {N : Nat → Int32} {P : MP} {a b k : Nat} (ha : BT w a) (hb : BT w b) (dis : a + 40 ≤ b ∨ b + 40 ≤ a) (hs : BS b P) (pa : BQ P a) (I : MI) (L : ML) (hc : CS N a I L P) (hi : IV N k) : ∀ j, j ≤ 3 → ∃ J K v3 v4, go 28 2 [.ref b, .ref a, .int (nI 0), unk, unk] [] w I L P = go 28 2 [.ref b, .ref a, .int (nI j), v3, v4] [] w J K P ∧ (∀ c, c < j → ∃ q s, CR N (207 + 40 * c) J K P (b + 7 + 7 * c) q s) ∧ Fr (b + 7) (b + 28) I J L K P P := by
  intro j
  induction j with
  | zero => intro _; exact ⟨I, L, unk, unk, rfl, fun c hc => absurd hc (by omega), Fr_refl⟩
  | succ j ih =>
    intro hj
    obtain ⟨J, K, u3, u4, e1, e2, e3⟩ := ih (by omega)
    obtain ⟨qs, ss, hr⟩ := hc j (by omega)
    obtain ⟨qt, ht⟩ := hs.2 j (by omega)
    have hr' : CR N (207 + 40 * j) J K P (a + 7 + 7 * j) qs ss := CR_I hr (fun x g1 g2 => e3 x (by omega))
    obtain ⟨J2, K2, f1, f2, f3⟩ := CR_copy (hb.2.2.2.2.2.1 j (by omega)) (ha.2.2.2.2.2.1 j (by omega)) ht (by omega) J K hr' (hi.1 j (by omega))
    have tc := (hb.2.2.2.2.2.1 j (by omega)).1
    refine ⟨J2, K2, .ref (b + 7 + 7 * j), .ref (a + 7 + 7 * j), ?_, ?_, Fr_trans e3 (Fr_mono f3 (by omega) (by omega))⟩
    · rw [e1, Bus_copyFrom_2 _ _ _ _ _ _ _ _ _ hb.1, hs.1.1, rf_some, Bus_copyFrom_7 _ _ _ _ _ _ _ _ _ _ _ (isAr_of hb.2.1), alen_of hb.2.1, if_neg (nI_ge (by omega) (by omega)), Bus_copyFrom_11 _ _ _ _ _ _ _ _ _ ha.1, pa.1, rf_some, Bus_copyFrom_16 _ _ _ _ _ _ _ _ _ _ _ (isAr_of ha.2.1), alen_of ha.2.1, if_neg (nI_ge (by omega) (by omega)), Bus_copyFrom_20 _ _ _ _ _ _ _ _ _ hb.1, hs.1.1, rf_some, Bus_copyFrom_24 _ _ _ _ _ _ _ _ _ _ (inA_nI hb.2.1 (by omega) (by omega)), cl_nI (by omega), hs.1.2.2.2.1 j (by omega), rf_some, Bus_copyFrom_26_1 _ _ _ _ _ _ _ _ _ _ ha.1, fix1_int, pa.1, rf_some, Bus_copyFrom_31 _ _ _ _ _ _ _ _ _ _ (inA_nI ha.2.1 (by omega) (by omega)), cl_nI (by omega), pa.2.2.2.1 j (by omega), rf_some, Bus_copyFrom_33_3, Bus_copyFrom_39_1, Bus_copyFrom_44_1 _ _ _ _ _ _ _ _ _ tc, f1]
      simp only [kC_ret, Option.toList, List.cons_append, List.nil_append, fix1_int, fix1_ref, fix1_unk, fix1_null, fix1_long]
      rw [Bus_copyFrom_50, nI_add, fix1_ref]
    · intro c hcj
      by_cases e : c = j
      · subst e; exact ⟨qt, ss, f2⟩
      · obtain ⟨q, s, g⟩ := e2 c (by omega)
        exact ⟨q, s, CR_I g (fun x g1 g2 => f3 x (by omega))⟩
theorem cl_copyB_l {w : Wd} {P : MP} {a b : Nat} (ha : BT w a) (hb : BT w b) (dis : a + 40 ≤ b ∨ b + 40 ≤ a) (hs : BQ P b) (pa : BQ P a) (I : MI) (L : ML) (v3 v4 : Value) : ∀ j, j ≤ 6 → ∃ J u3 u4, go 28 58 [.ref b, .ref a, .int (nI 0), v3, v4] [] w I L P = go 28 58 [.ref b, .ref a, .int (nI j), u3, u4] [] w J L P ∧ (∀ l, l < j → LQc (I (a + 28 + 2 * l)) (I (a + 28 + 2 * l + 1)) (J (b + 28 + 2 * l)) (J (b + 28 + 2 * l + 1))) ∧ Fr (b + 28) (b + 40) I J L L P P := by
  intro j
  induction j with
  | zero => intro _; exact ⟨I, v3, v4, rfl, fun c hc => absurd hc (by omega), Fr_refl⟩
  | succ j ih =>
    intro hj
    obtain ⟨J, u3, u4, e1, e2, e3⟩ := ih (by omega)
    have tb := hb.2.2.2.2.2.2 j (by omega)
    have ta := ha.2.2.2.2.2.2 j (by omega)
    have qb := hs.2.2.2.2.1 j (by omega)
    have qa := pa.2.2.2.2.1 j (by omega)
    obtain ⟨J2, f1, f2, f3⟩ := cl_copyL (P := P) tb.1 (show w.1 (b + 28 + 2 * j + 1) = _ by rw [show b + 28 + 2 * j + 1 = b + 29 + 2 * j from by omega]; exact tb.2) ta.1 (show w.1 (a + 28 + 2 * j + 1) = _ by rw [show a + 28 + 2 * j + 1 = a + 29 + 2 * j from by omega]; exact ta.2) (by rw [qb.2]; congr 1; omega) (by rw [qa.2]; congr 1; omega) (by omega) J L
    refine ⟨J2, .ref (b + 28 + 2 * j), .ref (a + 28 + 2 * j), ?_, ?_, Fr_trans e3 (Fr_mono f3 (by omega) (by omega))⟩
    · rw [e1, Bus_copyFrom_58 _ _ _ _ _ _ _ _ _ hb.1, hs.2.1, rf_some, Bus_copyFrom_63 _ _ _ _ _ _ _ _ _ _ _ (isAr_of hb.2.2.1), alen_of hb.2.2.1, if_neg (nI_ge (by omega) (by omega)), Bus_copyFrom_67 _ _ _ _ _ _ _ _ _ ha.1, pa.2.1, rf_some, Bus_copyFrom_72 _ _ _ _ _ _ _ _ _ _ _ (isAr_of ha.2.2.1), alen_of ha.2.2.1, if_neg (nI_ge (by omega) (by omega)), Bus_copyFrom_76 _ _ _ _ _ _ _ _ _ hb.1, hs.2.1, rf_some, Bus_copyFrom_80 _ _ _ _ _ _ _ _ _ _ (inA_nI hb.2.2.1 (by omega) (by omega)), cl_nI (by omega), qb.1, rf_some, Bus_copyFrom_82_1 _ _ _ _ _ _ _ _ _ _ ha.1, fix1_int, pa.2.1, rf_some, Bus_copyFrom_87 _ _ _ _ _ _ _ _ _ _ (inA_nI ha.2.2.1 (by omega) (by omega)), cl_nI (by omega), qa.1, rf_some, Bus_copyFrom_89_3, Bus_copyFrom_95_1, Bus_copyFrom_100_1 _ _ _ _ _ _ _ _ _ tb.1, f1]
      simp only [kC_ret, Option.toList, List.cons_append, List.nil_append, fix1_int, fix1_ref, fix1_unk, fix1_null, fix1_long]
      rw [Bus_copyFrom_106, nI_add, fix1_ref]
    · intro l hlj
      by_cases e : l = j
      · subst e
        rw [← (e3 (a + 28 + 2 * l) (by omega)).1, ← (e3 (a + 28 + 2 * l + 1) (by omega)).1]
        exact f2
      · rw [(f3 (b + 28 + 2 * l) (by omega)).1, (f3 (b + 28 + 2 * l + 1) (by omega)).1]
        exact e2 l (by omega)
theorem cl_copyB {w : Wd} {N : Nat → Int32} {P : MP} {a b q : Nat} {I : MI} {L : ML} (ha : BT w a) (hb : BT w b) (dis : a + 40 ≤ b ∨ b + 40 ≤ a) (hs : BS b P) (h : BR a N I L P q) : ∃ J K, call 28 [.ref b, .ref a] w I L P = some (.inl none, w, J, K, P) ∧ BR b N J K P q ∧ Fr b (b + 40) I J L K P P := by
  obtain ⟨⟨k, n, md, ⟨hk0, hk, h1, i1⟩, ⟨hn, h2, i3⟩, i4, h4, i7, i8, pa, hc, hl, hu, hi, ho, hp⟩, l0, l1, l2, l3, l4, l5⟩ := h
  obtain ⟨J1, K1, u3, u4, c1, c2, c3⟩ := cl_copyB_c ha hb dis hs pa I L hc hi 3 (by omega)
  obtain ⟨J2, x3, x4, d1, d2, d3⟩ := cl_copyB_l ha hb dis hs.1 pa J1 K1 u3 u4 6 (by omega)
  have n1 : (J2 b = I b ∧ J2 a = I a) := ⟨((d3 b (by omega)).1).trans (c3 b (by omega)).1, ((d3 a (by omega)).1).trans (c3 a (by omega)).1⟩
  have hab : a ≠ b := by omega
  obtain ⟨J4, g1, g2, g3, g4⟩ := cl_copyG ha hb pa hs.1 dis (wr J2 b (sN (sN (sN (I b) 1 (I a 1)) 3 (I a 3)) 4 (I a 4))) K1
  obtain ⟨X, t1, t6, t7, t8, t9, t10, t11, t12, t13, tx⟩ := cl_copyT (P := P) ha.1 hb.1 hab J4 K1
  refine ⟨wr J4 b X, K1, ?_, ?_, ?_⟩
  · rw [Bus_copyFrom_E, Bus_copyFrom_0, fix1_ref, c1, Bus_copyFrom_2 _ _ _ _ _ _ _ _ _ hb.1, hs.1.1, rf_some, Bus_copyFrom_7 _ _ _ _ _ _ _ _ _ _ _ (isAr_of hb.2.1), alen_of hb.2.1, if_pos (nI_le (by omega) (by omega)), Bus_copyFrom_56, fix1_ref, d1, Bus_copyFrom_58 _ _ _ _ _ _ _ _ _ hb.1, hs.1.2.1, rf_some, Bus_copyFrom_63 _ _ _ _ _ _ _ _ _ _ _ (isAr_of hb.2.2.1), alen_of hb.2.2.1, if_pos (nI_le (by omega) (by omega)), Bus_copyFrom_112 _ _ _ _ _ _ _ _ _ ha.1 hb.1, hs.1.2.2.1, rf_some, Bus_copyFrom_140 _ _ _ _ _ _ _ _ _ _ ha.1, pa.2.2.1, rf_some]
    simp only [updI_wr, wr_wr, wr_same, wr_ne _ _ hab, n1.1, n1.2]
    rw [Bus_copyFrom_144_1 _ _ _ _ _ _ _ _ _ _ _ hb.2.2.2.1, g1]
    simp only [kC_ret, Option.toList, List.cons_append, List.nil_append, fix1_int, fix1_ref, fix1_unk, fix1_null, fix1_long]
    rw [Bus_copyFrom_147_1 _ _ _ _ _ _ _ _ _ hb.1, t1]
    simp only [kC_ret, Option.toList, List.cons_append, List.nil_append, fix1_int, fix1_ref, fix1_unk, fix1_null, fix1_long]
    rw [Bus_copyFrom_152]
  · have j4 : ∀ x, x < b + 3 ∨ b + 7 ≤ x → x ≠ b → J4 x = J2 x := fun x g g' => by rw [(g4 x (by omega)).1, wr_ne _ _ g']
    have j4b : J4 b = sN (sN (sN (I b) 1 (I a 1)) 3 (I a 3)) 4 (I a 4) := by rw [(g4 b (by omega)).1, wr_same]
    have j4a : J4 a = I a := by rw [j4 a (by omega) (by omega)]; exact n1.2
    have src : ∀ x, a ≤ x → x < a + 40 → (wr J2 b (sN (sN (sN (I b) 1 (I a 1)) 3 (I a 3)) 4 (I a 4))) x = I x := fun x g1 g2 => by rw [wr_ne _ _ (by omega), (d3 x (by omega)).1, (c3 x (by omega)).1]
    have sJ1 : ∀ x, a ≤ x → x < a + 40 → J1 x = I x := fun x g1 g2 => (c3 x (by omega)).1
    rw [src (a + 3) (by omega) (by omega)] at g2
    rw [src (a + 4) (by omega) (by omega), src (a + 5) (by omega) (by omega), src (a + 6) (by omega) (by omega)] at g3
    have fin : ∀ x, x < b + 3 ∨ b + 7 ≤ x → x ≠ b → (wr J4 b X) x = J2 x := fun x g g' => by rw [wr_ne _ _ g', j4 x g g']
    refine ⟨⟨k, n, md, ⟨hk0, hk, h1, ?_⟩, ⟨hn, h2, ?_⟩, ?_, h4, ?_, ?_, hs.1, ?_, ?_, ?_, hi, ho, ?_⟩, l0, ?_, ?_, ?_, ?_, l5⟩
    · rw [wr_same, tx 1 (by omega), j4b, sN_ne (by omega), sN_ne (by omega), sN_eq]; exact i1
    · rw [wr_same, tx 3 (by omega), j4b, sN_ne (by omega), sN_eq]; exact i3
    · rw [wr_same, tx 4 (by omega), j4b, sN_eq]; exact i4
    · rw [wr_same, t7, j4a]; exact i7
    · rw [wr_same, t8, j4a]; exact i8
    · intro c hc3
      obtain ⟨qq, s, hr⟩ := c2 c hc3
      exact ⟨qq, s, CR_I hr (fun x q1 q2 => ⟨by rw [fin x (by omega) (by omega), (d3 x (by omega)).1], rfl, rfl⟩)⟩
    · intro l hln
      obtain ⟨m, m0, m1, m2, m3, m4, m5, m6, m7, m8⟩ := hl l hln
      obtain ⟨e0, e1, e2, e3, e5, e6, e7⟩ := d2 l (by omega)
      rw [sJ1 _ (by omega) (by omega)] at e0 e1 e2 e3 e5 e6
      refine ⟨m, m0, ?_, ?_, ?_, ?_, ?_, m6, ?_, ?_⟩
      · rw [fin _ (by omega) (by omega), e0]; exact m1
      · rw [fin _ (by omega) (by omega), e1]; exact m2
      · rw [fin _ (by omega) (by omega), e2, m3]
        rcases (ho l (by omega)).2.1 with z | z <;> rw [z] <;> decide
      · rw [fin _ (by omega) (by omega), e3]; exact m4
      · rw [fin _ (by omega) (by omega), e5]; exact m5
      · rw [fin _ (by omega) (by omega), e6]; exact m7
      · intro i hi
        rw [fin _ (by omega) (by omega), e7 i (by omega), sJ1 _ (by omega) (by omega)]; exact m8 i hi
    · intro l hl1 hl2
      obtain ⟨m2, m3, m5, m6⟩ := hu l hl1 hl2
      obtain ⟨e0, e1, e2, e3, e5, e6, e7⟩ := d2 l hl2
      rw [sJ1 _ (by omega) (by omega)] at e2 e3 e5 e6
      rw [fin _ (by omega) (by omega), e2, e3, e5, e6, m2]
      exact ⟨by decide, m3, m5, m6⟩
    · rw [wr_same]
      exact PH_R hp (t6.trans (by rw [j4a])) (t9.trans (by rw [j4a])) (t10.trans (by rw [j4a])) (t11.trans (by rw [j4a])) (t12.trans (by rw [j4a])) (t13.trans (by rw [j4a]))
    · rw [wr_ne _ _ (by omega), g2.1]; exact l1
    · rw [wr_ne _ _ (by omega), g2.2.1]; exact l2
    · rw [wr_ne _ _ (by omega), g2.2.2]; exact l3
    · intro i hi
      rw [wr_ne _ _ (by omega), wr_ne _ _ (by omega), wr_ne _ _ (by omega), (g3 i hi).1, (g3 i hi).2.1, (g3 i hi).2.2]
      exact l4 i hi
  · intro x hx
    refine ⟨?_, ?_, rfl⟩
    · rw [wr_ne _ _ (by omega), (g4 x (by omega)).1, wr_ne _ _ (by omega), (d3 x (by omega)).1, (c3 x (by omega)).1]
    · rw [(c3 x (by omega)).2.1]
