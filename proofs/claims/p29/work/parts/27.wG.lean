/-! calls: addListener, turn, empty -/
theorem or_add0 (x : Int32) : x + nI 0 = x := by rw [nI_0]; exact Int32.add_zero x
theorem BR_lst {N M : Nat → Int32} {b k n md q l : Nat} {I J : MI} {L : ML} {P : MP} (h : BC b N I L P k n md) (hlg : LG b N I q) (hln : l < n) (eM : ∀ x, (x < 327 + 22 * l ∨ 349 + 22 * l ≤ x) → M x = N x) (eI : ∀ x, x ≠ b + 28 + 2 * l → J x = I x) (hr : ∃ m, LR M (327 + 22 * l) J (b + 28 + 2 * l) m) (hol : (∃ h, h ≤ 9 ∧ M (327 + 22 * l + 1) = nI h) ∧ (M (327 + 22 * l + 4) = nI 0 ∨ M (327 + 22 * l + 4) = nI 1) ∧ ∃ m p, m ≤ 16 ∧ M (327 + 22 * l + 2) = nI m ∧ M (327 + 22 * l + 3) = nI p ∧ (p < m ∨ p = 0)) : BR b M J L P q := by
  have h' := h
  obtain ⟨-, ⟨hn, h2, i3⟩, i4, -, -, -, -, -, hl, hu, -, ho, -⟩ := h'
  have eb : J b = I b := eI b (by omega)
  refine ⟨⟨k, n, md, BC_upd h (fun x g => eM x (by omega)) (fun x g => by rw [eb]) (fun x g1 g2 => eI x (by omega)) (eM 1 (by omega)) (by rw [eb]) (Nat.le_refl n) hn (by rw [eM 2 (by omega)]; exact h2) (by rw [eb]; exact i3) (by rw [eb, eM 3 (by omega)]; exact i4) ?_ ?_ ?_⟩, LG_N hlg (fun x g => eM x (by omega)) (fun x g1 g2 => eI x (by omega))⟩
  · intro i hi
    by_cases e : i = l
    · subst e; exact hr
    · obtain ⟨m, hm⟩ := hl i hi
      exact ⟨m, LR_N hm (fun x g1 g2 => eM x (by omega)) (eI _ (by omega)) (eI _ (by omega))⟩
  · intro i g1 g2
    rw [eI _ (by omega)]
    exact hu i g1 g2
  · intro i hi
    by_cases e : i = l
    · subst e
      obtain ⟨g1, g2, m, p, g3, g4, g5, g6⟩ := hol
      exact ⟨g1, g2, m, p, g3, g4, g5, g6, fun y => absurd y (by omega)⟩
    · rw [eM (327 + 22 * i + 1) (by omega), eM (327 + 22 * i + 4) (by omega), eM (327 + 22 * i + 2) (by omega), eM (327 + 22 * i + 3) (by omega), eM (327 + 22 * i + 5) (by omega)]
      exact ho i hi
def addN (N : Nat → Int32) (n : Nat) (a h : Int32) : Nat → Int32 := sN (sN (sN (sN N (327 + 22 * n + 0) a) (327 + 22 * n + 1) h) (327 + 22 * n + 4) (nI 1)) 2 (nI n + nI 1)
theorem BR_add {N : Nat → Int32} {b k n md q a h : Nat} {I : MI} {L : ML} {P : MP} (hb : BC b N I L P k n md) (hlg : LG b N I q) (hn6 : n < 6) (hh : h ≤ 9) : BR b (addN N n (nI a) (nI h)) (wr (wr I (b + 28 + 2 * n) (sN (sN (I (b + 28 + 2 * n)) 0 (nI a)) 1 (nI h))) b (sN (I b) 3 (nI n + nI 1))) L P q := by
  have hb' := hb
  obtain ⟨-, ⟨hn, h2, i3⟩, i4, -, -, -, -, -, hl, hu, -, ho, -⟩ := hb'
  have eM : ∀ x, x ≠ 2 → x ≠ 327 + 22 * n → x ≠ 327 + 22 * n + 1 → x ≠ 327 + 22 * n + 4 → addN N n (nI a) (nI h) x = N x := by
    intro x g1 g2 g3 g4
    unfold addN
    rw [sN_ne g1, sN_ne g4, sN_ne g3, sN_ne (show x ≠ 327 + 22 * n + 0 from g2)]
  have m2 : addN N n (nI a) (nI h) 2 = nI (n + 1) := by unfold addN; rw [sN_eq, nI_add]
  have ma : addN N n (nI a) (nI h) (327 + 22 * n) = nI a := by unfold addN; rw [sN_ne (by omega), sN_ne (by omega), sN_ne (by omega), Nat.add_zero, sN_eq]
  have mh : addN N n (nI a) (nI h) (327 + 22 * n + 1) = nI h := by unfold addN; rw [sN_ne (by omega), sN_ne (by omega), sN_eq]
  have mo : addN N n (nI a) (nI h) (327 + 22 * n + 4) = nI 1 := by unfold addN; rw [sN_ne (by omega), sN_eq]
  generalize addN N n (nI a) (nI h) = M at *
  have ex : ∀ x, x ≠ b → x ≠ b + 28 + 2 * n → (wr (wr I (b + 28 + 2 * n) (sN (sN (I (b + 28 + 2 * n)) 0 (nI a)) 1 (nI h))) b (sN (I b) 3 (nI n + nI 1))) x = I x := fun x g1 g2 => by rw [wr_ne _ _ g1, wr_ne _ _ g2]
  have eb : (wr (wr I (b + 28 + 2 * n) (sN (sN (I (b + 28 + 2 * n)) 0 (nI a)) 1 (nI h))) b (sN (I b) 3 (nI n + nI 1))) b = sN (I b) 3 (nI n + nI 1) := wr_same _ _ _
  have el : (wr (wr I (b + 28 + 2 * n) (sN (sN (I (b + 28 + 2 * n)) 0 (nI a)) 1 (nI h))) b (sN (I b) 3 (nI n + nI 1))) (b + 28 + 2 * n) = sN (sN (I (b + 28 + 2 * n)) 0 (nI a)) 1 (nI h) := by rw [wr_ne _ _ (by omega), wr_same]
  generalize wr (wr I (b + 28 + 2 * n) (sN (sN (I (b + 28 + 2 * n)) 0 (nI a)) 1 (nI h))) b (sN (I b) 3 (nI n + nI 1)) = J at *
  obtain ⟨q1, q2, m, p, q3, q4, q5, q6, q7⟩ := ho n hn6
  obtain ⟨z1, z2, z3⟩ := q7 (Nat.le_refl n)
  subst z1 z2
  obtain ⟨u2, u3, u5, u6⟩ := hu n (Nat.le_refl n) hn6
  refine ⟨⟨k, n + 1, md, BC_upd hb (fun x g => eM x (by omega) (by omega) (by omega) (by omega)) (fun x g => by rw [eb, sN_ne (by omega)]) (fun x g1 g2 => ex x (by omega) (by omega)) (eM 1 (by omega) (by omega) (by omega) (by omega)) (by rw [eb, sN_ne (by omega)]) (by omega) (by omega) m2 (by rw [eb, sN_eq, nI_add]) (by rw [eb, sN_ne (by omega), eM 3 (by omega) (by omega) (by omega) (by omega)]; exact i4) ?_ ?_ ?_⟩, LG_N hlg (fun x g => eM x (by omega) (by omega) (by omega) (by omega)) (fun x g1 g2 => ex x (by omega) (by omega))⟩
  · intro i hi
    by_cases e : i = n
    · subst e
      refine ⟨0, by omega, ?_, ?_, ?_, ?_, ?_, ?_, ?_, fun j hj => absurd hj (by omega)⟩
      · rw [el, sN_ne (by omega), sN_eq, ma]
      · rw [el, sN_eq, mh]
      · rw [el, sN_ne (by omega), sN_ne (by omega), u2, mo]
      · rw [el, sN_ne (by omega), sN_ne (by omega), u3, eM _ (by omega) (by omega) (by omega) (by omega), z3]
      · rw [el, sN_ne (by omega), sN_ne (by omega), u5]
      · rw [eM _ (by omega) (by omega) (by omega) (by omega), q4]
      · rw [el, sN_ne (by omega), sN_ne (by omega), u6, eM _ (by omega) (by omega) (by omega) (by omega), q5]
    · obtain ⟨m, hm⟩ := hl i (by omega)
      exact ⟨m, LR_N hm (fun x g1 g2 => eM x (by omega) (by omega) (by omega) (by omega)) (ex _ (by omega) (by omega)) (ex _ (by omega) (by omega))⟩
  · intro i g1 g2
    rw [ex _ (by omega) (by omega)]
    exact hu i (by omega) g2
  · intro i hi
    by_cases e : i = n
    · subst e
      rw [mh, mo, eM (327 + 22 * i + 2) (by omega) (by omega) (by omega) (by omega), eM (327 + 22 * i + 3) (by omega) (by omega) (by omega) (by omega), eM (327 + 22 * i + 5) (by omega) (by omega) (by omega) (by omega)]
      exact ⟨⟨h, hh, rfl⟩, Or.inr rfl, 0, 0, by omega, q4, q5, q6, fun _ => ⟨rfl, rfl, z3⟩⟩
    · rw [eM (327 + 22 * i + 1) (by omega) (by omega) (by omega) (by omega), eM (327 + 22 * i + 4) (by omega) (by omega) (by omega) (by omega), eM (327 + 22 * i + 2) (by omega) (by omega) (by omega) (by omega), eM (327 + 22 * i + 3) (by omega) (by omega) (by omega) (by omega), eM (327 + 22 * i + 5) (by omega) (by omega) (by omega) (by omega)]
      obtain ⟨g1, g2, m, p, g3, g4, g5, g6, g7⟩ := ho i hi
      exact ⟨g1, g2, m, p, g3, g4, g5, g6, fun y => g7 (by omega)⟩
/-- an index: in the model, in the class -/
theorem mo_ix {x : Int32} {n : Nat} (hn : n < 2147483648) : (nI 0 ≤ x ∧ x ≤ nI n - nI 1) ↔ ∃ l, l < n ∧ x = nI l := by
  by_cases hz : n = 0
  · subst hz
    constructor
    · rintro ⟨h1, h2⟩
      exfalso
      rw [Int32.le_iff_toInt_le] at h1 h2
      have e1 : (nI 0).toInt = 0 := rfl
      have e2 : (nI 0 - nI 1).toInt = -1 := by decide
      rw [e1] at h1
      rw [e2] at h2
      omega
    · rintro ⟨l, hl, _⟩; omega
  · rw [pk_sub (by omega)]
    constructor
    · intro h
      obtain ⟨l, _, h2, h3⟩ := RG_ex (x := x) (a := 0) (b := n - 1) (by omega) (by omega) h
      exact ⟨l, by omega, h3⟩
    · rintro ⟨l, hl, rfl⟩
      exact ⟨nI_le (by omega) (by omega), nI_le (by omega) (by omega)⟩
theorem cl_ix (x : Int32) {n : Nat} (hn : n < 2147483648) : (∃ l, l < n ∧ x = nI l) ∨ (¬ (∃ l, l < n ∧ x = nI l) ∧ (x < 0 ∨ nI n ≤ x)) := by
  rcases pk_ix x hn with h | h | h
  · right
    refine ⟨?_, Or.inl h⟩
    rintro ⟨l, hl, rfl⟩
    exact nI_pos (by omega) h
  · right
    refine ⟨?_, Or.inr h⟩
    rintro ⟨l, hl, rfl⟩
    exact nI_ge hl (by omega) h
  · exact Or.inl h
theorem cl_lOT {w : Wd} {P : MP} {B n : Nat} (hw : WT w B) (p0 : P B 0 = some (B + 1)) (hq : BQ P (B + 1)) (hn : n ≤ 6) (I : MI) (L : ML) (h3 : I (B + 1) 3 = nI n) : (∀ l, l < n → call 112 [.ref B, .int (nI l)] w I L P = some (.inl (some (.ref (B + 1 + 28 + 2 * l))), w, I, L, P)) ∧ ∀ x : Int32, (x < 0 ∨ nI n ≤ x) → call 112 [.ref B, .int x] w I L P = some (.inr 2, thrT w, I, L, P) := by
  have t0 := hw.1
  have tb : BT w (B + 1) := hw.2.1 0 (by omega)
  constructor
  · intro l hl
    rw [Two_listenerOrThrow_E, Two_listenerOrThrow_0 _ _ _ _ _ _ _ t0, p0, rf_some, Two_listenerOrThrow_4 _ _ _ _ _ _ _ _ tb.1, cl_listenerAt tb hq hn hl I L h3]
    simp only [kC_ret, Option.toList, List.cons_append, List.nil_append, fix1_int, fix1_ref, fix1_unk, fix1_null, fix1_long]
    rw [Two_listenerOrThrow_8_1, Two_listenerOrThrow_23_1]
  · intro x hx
    rw [Two_listenerOrThrow_E, Two_listenerOrThrow_0 _ _ _ _ _ _ _ t0, p0, rf_some, Two_listenerOrThrow_4 _ _ _ _ _ _ _ _ tb.1, cl_listenerAtN tb I L (by rw [h3]; exact hx)]
    simp only [kC_ret, Option.toList, List.cons_append, List.nil_append, fix1_int, fix1_ref, fix1_unk, fix1_null, fix1_long]
    rw [Two_listenerOrThrow_8_0, Two_listenerOrThrow_13]
theorem cl_cOT {w : Wd} {P : MP} {B k : Nat} (hw : WT w B) (p0 : P B 0 = some (B + 1)) (hq : BQ P (B + 1)) (hk : k ≤ 3) (I : MI) (L : ML) (h1 : I (B + 1) 1 = nI k) : (∀ c, c < k → call 111 [.ref B, .int (nI c)] w I L P = some (.inl (some (.ref (B + 1 + 7 + 7 * c))), w, I, L, P)) ∧ ∀ x : Int32, (x < 0 ∨ nI k ≤ x) → call 111 [.ref B, .int x] w I L P = some (.inr 2, thrT w, I, L, P) := by
  have t0 := hw.1
  have tb : BT w (B + 1) := hw.2.1 0 (by omega)
  constructor
  · intro c hc
    rw [Two_callerOrThrow_E, Two_callerOrThrow_0 _ _ _ _ _ _ _ t0, p0, rf_some, Two_callerOrThrow_4 _ _ _ _ _ _ _ _ tb.1, cl_callerAt tb hq hk hc I L h1]
    simp only [kC_ret, Option.toList, List.cons_append, List.nil_append, fix1_int, fix1_ref, fix1_unk, fix1_null, fix1_long]
    rw [Two_callerOrThrow_8_1, Two_callerOrThrow_23_1]
  · intro x hx
    rw [Two_callerOrThrow_E, Two_callerOrThrow_0 _ _ _ _ _ _ _ t0, p0, rf_some, Two_callerOrThrow_4 _ _ _ _ _ _ _ _ tb.1, cl_callerAtN tb I L (by rw [h1]; exact hx)]
    simp only [kC_ret, Option.toList, List.cons_append, List.nil_append, fix1_int, fix1_ref, fix1_unk, fix1_null, fix1_long]
    rw [Two_callerOrThrow_8_0, Two_callerOrThrow_13]
/-- the listeners that are on -/
def onS (N : Nat → Int32) : Nat → Int32
  | 0 => nI 0
  | l + 1 => onS N l + N (327 + 22 * l + 4)
theorem cl_on {w : Wd} {N : Nat → Int32} {P : MP} {b k n md : Nat} {I : MI} {L : ML} (ht : BT w b) (h : BC b N I L P k n md) : call 37 [.ref b] w I L P = some (.inl (some (.int (onS N n))), w, I, L, P) := by
  have t0 := ht.1
  obtain ⟨-, ⟨hn, h2, i3⟩, -, -, -, -, hq, -, hl, -, -, ho, -⟩ := h
  have loop : ∀ f l v, l + f = n → go 37 4 [.ref b, .int (onS N l), .int (nI l), v] [] w I L P = some (.inl (some (.int (onS N n))), w, I, L, P) := by
    intro f
    induction f with
    | zero =>
      intro l v hf
      have : l = n := by omega
      subst this
      rw [Bus_listenersOn_4 _ _ _ _ _ _ _ _ t0, i3, if_pos (nI_le (by omega) (by omega)), Bus_listenersOn_38]
    | succ f ih =>
      intro l v hf
      obtain ⟨m, hr⟩ := hl l (by omega)
      have tl := (ht.2.2.2.2.2.2 l (by omega)).1
      rw [Bus_listenersOn_4 _ _ _ _ _ _ _ _ t0, i3, if_neg (nI_ge (by omega) (by omega)), Bus_listenersOn_12 _ _ _ _ _ _ _ _ t0, cl_listenerAt ht hq hn (by omega) I L i3]
      simp only [kC_ret, Option.toList, List.cons_append, List.nil_append, fix1_int, fix1_ref, fix1_unk, fix1_null, fix1_long]
      rw [Bus_listenersOn_17_1, fix1_int, Bus_listenersOn_22 _ _ _ _ _ _ _ _ tl, hr.2.2.2.1, ← ih (l + 1) (.ref (b + 28 + 2 * l)) (by omega), onS]
      rcases (ho l (by omega)).2.1 with e | e
      · rw [e, if_pos (by decide), Bus_listenersOn_32, fix1_int, nI_add, or_add0]
      · rw [e, if_neg (by decide), Bus_listenersOn_29, Bus_listenersOn_32, fix1_int, fix1_ref, nI_add]
  rw [Bus_listenersOn_E, Bus_listenersOn_0, fix1_ref]
  exact loop n 0 unk (by omega)
