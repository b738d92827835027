/-! carries answers 1 -/
section
variable {B : Nat} {w : Wd} {I : MI} {L : ML} {P : MP} {N : Nat → Int32} {st : Nat} {Ks : Nat → Nat → Int32} {len : Nat} {tx : Nat → Nat} {T : Nat}
theorem CW_tx {tx' : Nat → Nat} (h : CW B w I L P N st Ks len tx T) (e : ∀ j, j < len → tx' j = tx j) : CW B w I L P N st Ks len tx' T := by
  obtain ⟨h1, h2, h3, h4, h5, h6, h7, h8, h9, h10⟩ := h
  exact ⟨h1, h2, h3, h4, h5, h6, h7, h8, h9, fun j hj => by rw [e j hj]; exact h10 j hj⟩
def WL (B : Nat) (w : Wd) (I : MI) (L : ML) (P : MP) (N : Nat → Int32) (st : Nat) (Ks : Nat → Nat → Int32) (l : List Nat) (T : Nat) : Prop := WI B w I L P N st Ks l.length (fun j => l.getD j 0) T
theorem wl_app {l : List Nat} {v : Nat} (h : WL B w I L P N st Ks l T) (hl : l.length < 100) (hv : v < 128) : ∃ J K Q, call 137 [.ref B, .int (nI v)] w I L P = some (.inl (some (.int (nI (l.length + 1)))), w, J, K, Q) ∧ WL B w J K Q N st Ks (l ++ [v]) T ∧ Fr B (B + 284) I J L K P Q := by
  obtain ⟨J, K, Q, a, b, c⟩ := Wok_id h (cc_append h.1 hv hl)
  refine ⟨J, K, Q, lr_append (WI_t0 h) a, ?_, c⟩
  have el : (l ++ [v]).length = l.length + 1 := by simp
  unfold WL
  rw [el]
  refine ⟨CW_tx b.1 (fun j hj => ?_), b.2⟩
  unfold txA
  by_cases e : j = l.length
  · subst e
    rw [if_pos rfl]
    simp
  · rw [if_neg e]
    simp [List.getElem?_append_left (show j < l.length by omega)]
theorem wl_clear (h : WI B w I L P N st Ks len tx T) : ∃ J K Q, call 102 [.ref B] w I L P = some (.inl (some (.int (nI len))), w, J, K, Q) ∧ WL B w J K Q N st Ks [] T ∧ Fr B (B + 284) I J L K P Q := by
  obtain ⟨J, K, Q, a, b, c⟩ := Wok_id h (cc_clearText h.1)
  exact ⟨J, K, Q, a, ⟨CW_tx b.1 (fun j hj => absurd hj (Nat.not_lt_zero j)), b.2⟩, c⟩
theorem wi_carry {k : Nat} (h : WI B w I L P N st Ks len tx T) (hT : T < 2147000000) (hk1 : N 1 = nI k) (hk3 : k ≤ 3) : (∀ j M, erN len tx 100 0 = none → carN len tx k 100 0 N 0 = (j, M) → SQ M → Wok B w I L P (.int (nI j)) M (svS st) (svK st Ks N) len tx (T + 4000) (call 103 [.ref B] w I L P)) ∧ (∀ e, erN len tx 100 0 = some e → Wok B w I L P (.int (-10 - nI e)) N st Ks len tx T (call 103 [.ref B] w I L P)) := by
  obtain ⟨c1, c2⟩ := cc_carryOut h.1 hT hk1 hk3
  refine ⟨fun j M he hc hs => ?_, fun e he => Wok_id h (c2 e he)⟩
  have := c1 he
  rw [hc] at this
  exact Wok_sv h this hs
def l18 (c a v : Nat) : List Nat := [119, 48 + c, 58, 48 + a / 100, 48 + a / 10 % 10, 48 + a % 10, 61, 48 + v / 100, 48 + v / 10 % 10, 48 + v % 10, 59, 114, 48 + c, 58, 48 + a % 10, 42, 50, 59]
theorem T18_l (c a v : Nat) (l : List Nat) : T18 (fun j => (l18 c a v ++ l).getD j 0) c a v := ⟨⟨rfl, rfl, rfl, rfl, rfl, rfl, rfl⟩, ⟨rfl, rfl, rfl, rfl⟩, rfl, rfl, rfl, rfl, rfl, rfl, rfl⟩
theorem lc_1 {k c a v : Nat} (h : WI B w I L P N st Ks len tx T) (hT : T < 2146000000) (hk1 : N 1 = nI k) (hk3 : k ≤ 3) (hc : c < 3) (ha : a < 128) (hv : v < 256) : ∃ J K Q st' Ks' x4, call 143 [.ref B, .int (nI c), .int (nI a), .int (nI v)] w I L P = go 143 196 [.ref B, .int (nI c), .int (nI a), .int (nI v), .int (nI 1), x4, unk, unk, unk, unk] [.int (nI 18)] w J K Q ∧ WL B w J K Q N st' Ks' (l18 c a v) (T + 4000) ∧ Fr B (B + 284) I J L K P Q := by
  have t0 := WI_t0 h
  obtain ⟨Ja, Ka, Qa, ea, wa, fa⟩ := wl_clear h
  obtain ⟨Jb, Kb, Qb, eb, wb, fb⟩ := (wi_carry wa (by omega) hk1 hk3).1 0 N rfl rfl h.2.1
  have sb := WI_st wb
  obtain ⟨s1, es1⟩ := svS_1 st
  obtain ⟨J0, K0, Q0, ec, w0, f0⟩ := wi_undo wb es1 (svK_1 es1)
  have w0' : WL B w J0 K0 Q0 N _ _ [] _ := w0
  obtain ⟨J1, K1, Q1, e1, w1, f1⟩ := wl_app (v := 119) w0' (by simp) (by omega)
  obtain ⟨J2, K2, Q2, e2, w2, f2⟩ := wl_app (v := 48 + c) w1 (by simp) (by omega)
  obtain ⟨J3, K3, Q3, e3, w3, f3⟩ := wl_app (v := 58) w2 (by simp) (by omega)
  obtain ⟨J4, K4, Q4, e4, w4, f4⟩ := wl_app (v := 48 + a / 100) w3 (by simp) (by omega)
  obtain ⟨J5, K5, Q5, e5, w5, f5⟩ := wl_app (v := 48 + a / 10 % 10) w4 (by simp) (by omega)
  obtain ⟨J6, K6, Q6, e6, w6, f6⟩ := wl_app (v := 48 + a % 10) w5 (by simp) (by omega)
  obtain ⟨J7, K7, Q7, e7, w7, f7⟩ := wl_app (v := 61) w6 (by simp) (by omega)
  obtain ⟨J8, K8, Q8, e8, w8, f8⟩ := wl_app (v := 48 + v / 100) w7 (by simp) (by omega)
  obtain ⟨J9, K9, Q9, e9, w9, f9⟩ := wl_app (v := 48 + v / 10 % 10) w8 (by simp) (by omega)
  obtain ⟨J10, K10, Q10, e10, w10, f10⟩ := wl_app (v := 48 + v % 10) w9 (by simp) (by omega)
  obtain ⟨J11, K11, Q11, e11, w11, f11⟩ := wl_app (v := 59) w10 (by simp) (by omega)
  obtain ⟨J12, K12, Q12, e12, w12, f12⟩ := wl_app (v := 114) w11 (by simp) (by omega)
  obtain ⟨J13, K13, Q13, e13, w13, f13⟩ := wl_app (v := 48 + c) w12 (by simp) (by omega)
  obtain ⟨J14, K14, Q14, e14, w14, f14⟩ := wl_app (v := 58) w13 (by simp) (by omega)
  obtain ⟨J15, K15, Q15, e15, w15, f15⟩ := wl_app (v := 48 + a % 10) w14 (by simp) (by omega)
  obtain ⟨J16, K16, Q16, e16, w16, f16⟩ := wl_app (v := 42) w15 (by simp) (by omega)
  obtain ⟨J17, K17, Q17, e17, w17, f17⟩ := wl_app (v := 50) w16 (by simp) (by omega)
  obtain ⟨J18, K18, Q18, e18, w18, f18⟩ := wl_app (v := 59) w17 (by simp) (by omega)
  have x18 : call 137 [.ref B, .int (nI 59)] w J17 K17 Q17 = some (.inl (some (.int (nI 18))), w, J18, K18, Q18) := e18
  refine ⟨J18, K18, Q18, _, _, unk, ?_, w18, Fr_trans (Fr_trans (Fr_trans (Fr_trans (Fr_trans (Fr_trans (Fr_trans (Fr_trans (Fr_trans (Fr_trans (Fr_trans (Fr_trans (Fr_trans (Fr_trans (Fr_trans (Fr_trans (Fr_trans (Fr_trans (Fr_trans (Fr_trans fa fb) f0) f1) f2) f3) f4) f5) f6) f7) f8) f9) f10) f11) f12) f13) f14) f15) f16) f17) f18⟩
  have d1 := pk_div (a := a) (d := 100) (by omega) (by omega) (by omega)
  have d2 := pk_div (a := a) (d := 10) (by omega) (by omega) (by omega)
  have d3 := pk_rem (a := a / 10) (d := 10) (by omega) (by omega) (by omega)
  have d4 := pk_rem (a := a) (d := 10) (by omega) (by omega) (by omega)
  have d5 := pk_div (a := v) (d := 100) (by omega) (by omega) (by omega)
  have d6 := pk_div (a := v) (d := 10) (by omega) (by omega) (by omega)
  have d7 := pk_rem (a := v / 10) (d := 10) (by omega) (by omega) (by omega)
  have d8 := pk_rem (a := v) (d := 10) (by omega) (by omega) (by omega)
  rw [Law_carries_E, Law_carries_0 _ _ _ _ _ _ _ _ _ _ _ _ _ _ t0, ea]
  simp only [kC_ret, Option.toList, List.cons_append, List.nil_append, fix1_int, fix1_ref, fix1_unk, fix1_null, fix1_long]
  rw [Law_carries_4 _ _ _ _ _ _ _ _ _ _ _ _ _ _ _ t0, eb]
  simp only [kC_ret, Option.toList, List.cons_append, List.nil_append, fix1_int, fix1_ref, fix1_unk, fix1_null, fix1_long]
  rw [Law_carries_9, if_neg (by decide), Law_carries_12_1, ec]
  simp only [kC_ret, Option.toList, List.cons_append, List.nil_append, fix1_int, fix1_ref, fix1_unk, fix1_null, fix1_long]
  rw [Law_carries_16, if_neg (nI_pos (by omega)), Law_carries_19, Law_carries_24_1, e1]
  simp only [kC_ret, Option.toList, List.cons_append, List.nil_append, fix1_int, fix1_ref, fix1_unk, fix1_null, fix1_long]
  rw [Law_carries_32_1, nI_add, e2]
  simp only [kC_ret, Option.toList, List.cons_append, List.nil_append, fix1_int, fix1_ref, fix1_unk, fix1_null, fix1_long]
  rw [Law_carries_41_1, e3]
  simp only [kC_ret, Option.toList, List.cons_append, List.nil_append, fix1_int, fix1_ref, fix1_unk, fix1_null, fix1_long]
  rw [Law_carries_48_1 _ _ _ _ _ _ _ _ _ _ _ _ _ _ _ (by decide), d1, nI_add, e4]
  simp only [kC_ret, Option.toList, List.cons_append, List.nil_append, fix1_int, fix1_ref, fix1_unk, fix1_null, fix1_long]
  rw [Law_carries_60_1 _ _ _ _ _ _ _ _ _ _ _ _ _ _ _ (by decide), d2, d3, nI_add, e5]
  simp only [kC_ret, Option.toList, List.cons_append, List.nil_append, fix1_int, fix1_ref, fix1_unk, fix1_null, fix1_long]
  rw [Law_carries_75_1 _ _ _ _ _ _ _ _ _ _ _ _ _ _ _ (by decide), d4, nI_add, e6]
  simp only [kC_ret, Option.toList, List.cons_append, List.nil_append, fix1_int, fix1_ref, fix1_unk, fix1_null, fix1_long]
  rw [Law_carries_87_1, e7]
  simp only [kC_ret, Option.toList, List.cons_append, List.nil_append, fix1_int, fix1_ref, fix1_unk, fix1_null, fix1_long]
  rw [Law_carries_94_1 _ _ _ _ _ _ _ _ _ _ _ _ _ _ _ (by decide), d5, nI_add, e8]
  simp only [kC_ret, Option.toList, List.cons_append, List.nil_append, fix1_int, fix1_ref, fix1_unk, fix1_null, fix1_long]
  rw [Law_carries_106_1 _ _ _ _ _ _ _ _ _ _ _ _ _ _ _ (by decide), d6, d7, nI_add, e9]
  simp only [kC_ret, Option.toList, List.cons_append, List.nil_append, fix1_int, fix1_ref, fix1_unk, fix1_null, fix1_long]
  rw [Law_carries_121_1 _ _ _ _ _ _ _ _ _ _ _ _ _ _ _ (by decide), d8, nI_add, e10]
  simp only [kC_ret, Option.toList, List.cons_append, List.nil_append, fix1_int, fix1_ref, fix1_unk, fix1_null, fix1_long]
  rw [Law_carries_133_1, e11]
  simp only [kC_ret, Option.toList, List.cons_append, List.nil_append, fix1_int, fix1_ref, fix1_unk, fix1_null, fix1_long]
  rw [Law_carries_140_1, e12]
  simp only [kC_ret, Option.toList, List.cons_append, List.nil_append, fix1_int, fix1_ref, fix1_unk, fix1_null, fix1_long]
  rw [Law_carries_147_1, nI_add, e13]
  simp only [kC_ret, Option.toList, List.cons_append, List.nil_append, fix1_int, fix1_ref, fix1_unk, fix1_null, fix1_long]
  rw [Law_carries_156_1, e14]
  simp only [kC_ret, Option.toList, List.cons_append, List.nil_append, fix1_int, fix1_ref, fix1_unk, fix1_null, fix1_long]
  rw [Law_carries_163_1 _ _ _ _ _ _ _ _ _ _ _ _ _ _ _ (by decide), d4, nI_add, e15]
  simp only [kC_ret, Option.toList, List.cons_append, List.nil_append, fix1_int, fix1_ref, fix1_unk, fix1_null, fix1_long]
  rw [Law_carries_175_1, e16]
  simp only [kC_ret, Option.toList, List.cons_append, List.nil_append, fix1_int, fix1_ref, fix1_unk, fix1_null, fix1_long]
  rw [Law_carries_182_1, e17]
  simp only [kC_ret, Option.toList, List.cons_append, List.nil_append, fix1_int, fix1_ref, fix1_unk, fix1_null, fix1_long]
  rw [Law_carries_189_1, x18]
  simp only [kC_ret, Option.toList, List.cons_append, List.nil_append, fix1_int, fix1_ref, fix1_unk, fix1_null, fix1_long]
end
