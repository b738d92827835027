/-! many slots, and the run to rest -/
def GN (N : Nat → Int32) (q : Nat) : Prop := ∃ w b I L P, BT w b ∧ BR b N I L P q
theorem BR_ok {N : Nat → Int32} {b q : Nat} {I : MI} {L : ML} {P : MP} (h : BR b N I L P q) : StepOk N := by
  obtain ⟨⟨k, n, md, hbc⟩, _⟩ := h
  exact BC_ok hbc
theorem GN_ok {N : Nat → Int32} {q : Nat} (h : GN N q) : StepOk N ∧ N 0 = nI q := by
  obtain ⟨w, b, I, L, P, ht, hb⟩ := h
  exact ⟨BR_ok hb, hb.2.1⟩
theorem GN_slot {N : Nat → Int32} {q : Nat} (h : GN N q) (hq : q < 2147483647) : GN (slotN N) (q + 1) := by
  obtain ⟨w, b, I, L, P, ht, hb⟩ := h
  obtain ⟨J, Q, _, h2, _⟩ := cl_slot ht hb hq
  exact ⟨w, b, J, L, Q, ht, h2⟩
theorem GN_slots {N : Nat → Int32} {q : Nat} (h : GN N q) : ∀ f, q + f < 2147483648 → GN (slotsN N f) (q + f) := by
  intro f
  induction f with
  | zero => intro _; exact h
  | succ f ih =>
    intro hf
    exact GN_slot (ih (by omega)) (show q + f < 2147483647 by omega)
theorem mu_slot {N : Nat → Int32} {q : Nat} (h : GN N q) (hq : q < 2147483648) : mu (slotN N) = mu (stepN N) := by
  obtain ⟨ho, h0⟩ := GN_ok h
  have e : ∀ x, (x = 4 ∨ x = 6 ∨ x = 7 ∨ x = 9 ∨ 207 ≤ x) → cl (slotN N) x = cl (stepN N) x := by
    intro x g
    unfold cl
    rw [slotN_out ho h0 hq (by omega) (by omega)]
  unfold mu zc rk
  rw [e 4 (by omega), e 6 (by omega), e 7 (by omega), e 9 (by omega), e _ (by omega), e _ (by omega), e _ (by omega)]
theorem mu_dec {N : Nat → Int32} {q : Nat} (h : GN N q) (hq : q < 2147483648) (hnd : ¬ doneN N) : mu (slotN N) < mu N := by
  rw [mu_slot h hq]
  obtain ⟨w, b, I, L, P, ht, ⟨k, n, md, hbc⟩, _⟩ := h
  exact mu_step hbc hnd
theorem mu_le {N : Nat → Int32} {q : Nat} (h : GN N q) : mu N ≤ 1291 := by
  obtain ⟨w, b, I, L, P, ht, ⟨k, n, md, hbc⟩, _⟩ := h
  have h8 := PH_8 hbc.2.2.2.2.2.2.2.2.2.2.2.2
  obtain ⟨-, -, -, h4, -, -, -, -, -, -, hi, -, hp⟩ := hbc
  obtain ⟨-, z0, z1, z2, -⟩ := OC_sum hi.1
  have c4 := cl_of h4 (by omega)
  have : rk N ≤ 91 := by
    unfold rk
    rw [c4]
    rcases (show md = 0 ∨ md = 1 ∨ md = 2 ∨ md = 3 ∨ md = 4 ∨ md = 5 ∨ md = 6 ∨ md = 7 ∨ md = 8 by omega) with rfl | rfl | rfl | rfl | rfl | rfl | rfl | rfl | rfl
    · change 90 ≤ 91; omega
    · change 89 - cl N 6 ≤ 91; omega
    · change 81 ≤ 91; omega
    · change 20 * (3 - cl N 7) + 9 - cl N 6 ≤ 91; omega
    · change 20 * (3 - cl N 7) + 1 ≤ 91; omega
    · change 20 * (3 - cl N 7) + 9 - cl N 6 ≤ 91; omega
    · change 20 * (3 - cl N 7) + 1 ≤ 91; omega
    · obtain ⟨-, -, -, -, -, h, hh0, hh9, n9, -⟩ := hp
      change 20 * (3 - cl N 7) + 10 + cl N 9 ≤ 91
      rw [cl_of n9 (by omega)]; omega
    · change 91 ≤ 91; omega
  unfold mu
  omega
theorem fin_ex {N : Nat → Int32} {q : Nat} (h : GN N q) (hq : q < 2147480000) : ∃ f, f ≤ 1291 ∧ doneN (slotsN N f) ∧ ∀ j, j < f → ¬ doneN (slotsN N j) := by
  have run : ∀ j, j ≤ 1292 → (∀ i, i < j → ¬ doneN (slotsN N i)) → mu (slotsN N j) + j ≤ mu N := by
    intro j
    induction j with
    | zero => intro _ _; exact Nat.le_refl _
    | succ j ih =>
      intro hj hn
      have h1 := ih (by omega) (fun i hi => hn i (by omega))
      have h2 := mu_dec (GN_slots h j (by omega)) (by omega) (hn j (by omega))
      change mu (slotN (slotsN N j)) + (j + 1) ≤ mu N
      omega
  have ex : ∃ f, f ≤ 1291 ∧ doneN (slotsN N f) := by
    refine Classical.byContradiction (fun z => ?_)
    have := run 1292 (by omega) (fun i hi y => z ⟨i, by omega, y⟩)
    have := mu_le h
    omega
  obtain ⟨f0, hf0, hd0⟩ := ex
  obtain ⟨f, h1, h2⟩ := pk_least (fun f => doneN (slotsN N f)) ⟨f0, hd0⟩
  refine ⟨f, ?_, h1, h2⟩
  refine Nat.le_trans (Nat.le_of_not_lt (fun y => h2 f0 y hd0)) hf0
theorem PH_6 {N R : Nat → Int32} {n md : Nat} (h : PH N R n md) : R 6 = 0 ↔ md = 0 := by
  have h8 := PH_8 h
  rcases (show md = 0 ∨ md = 1 ∨ md = 2 ∨ md = 3 ∨ md = 4 ∨ md = 5 ∨ md = 6 ∨ md = 7 ∨ md = 8 by omega) with rfl | rfl | rfl | rfl | rfl | rfl | rfl | rfl | rfl
  all_goals (rw [show R 6 = _ from h.1]; decide)
theorem cl_done {w : Wd} {N : Nat → Int32} {P : MP} {b q : Nat} {I : MI} {L : ML} (ht : BT w b) (h : BR b N I L P q) (v : Int32) (hv : v < nI 1000000) : (doneN N → go 43 2 [.ref b, .int v] [] w I L P = some (.inl (some (.int v)), w, I, L, P)) ∧ (¬ doneN N → go 43 2 [.ref b, .int v] [] w I L P = go 43 22 [.ref b, .int v] [] w I L P) := by
  have t0 := ht.1
  obtain ⟨⟨k, n, md, hbc⟩, -⟩ := h
  have h6 := PH_6 hbc.2.2.2.2.2.2.2.2.2.2.2.2
  obtain ⟨⟨hk0, hk, h1, i1⟩, ⟨hn, h2, i3⟩, i4, h4, i7, i8, hq, hs, hl, hu, hi, ho, hp⟩ := hbc
  have hv' : ¬ (1000000 : Int32) ≤ v := by
    rw [show (1000000 : Int32) = nI 1000000 from by decide]
    exact Int32.not_le.mpr hv
  have hm : N 4 = 0 ↔ md = 0 := by
    rw [h4, ← nI_0, nI_eq (by have := PH_8 hp; omega) (by omega)]
  rw [Bus_runToRest_2, if_neg hv', Bus_runToRest_8 _ _ _ _ _ _ t0]
  by_cases q : md = 0
  · rw [if_neg (fun z => z (h6.mpr q)), Bus_runToRest_15 _ _ _ _ _ _ t0, cl_cwm ht hq hk0 hk I L i1 hs]
    simp only [kC_ret, Option.toList, List.cons_append, List.nil_append, fix1_int, fix1_ref, fix1_unk, fix1_null, fix1_long]
    rw [Bus_runToRest_19]
    by_cases z : begS N k = 0
    · rw [if_pos z, Bus_runToRest_32]
      exact ⟨fun _ => rfl, fun y => absurd ⟨hm.mpr q, (begS_0 hk0 hk hi.1).mp z⟩ y⟩
    · rw [if_neg z]
      exact ⟨fun y => absurd ((begS_0 hk0 hk hi.1).mpr y.2) z, fun _ => rfl⟩
  · rw [if_pos (fun z => q (h6.mp z))]
    exact ⟨fun y => absurd (hm.mp y.1) q, fun _ => rfl⟩
theorem cl_rest {w : Wd} {N : Nat → Int32} {P : MP} {b q f : Nat} {I : MI} {L : ML} (ht : BT w b) (h : BR b N I L P q) (hq : q + f < 2147483647) (hf9 : f < 1000000) (hf : doneN (slotsN N f)) (hn : ∀ j, j < f → ¬ doneN (slotsN N j)) : ∃ J Q, call 43 [.ref b] w I L P = some (.inl (some (.int (nI f))), w, J, L, Q) ∧ BR b (slotsN N f) J L Q (q + f) ∧ Fr b (b + 40) I J L L P Q := by
  have t0 := ht.1
  have loop : ∀ g j, j + g = f → ∀ (I : MI) (P : MP), BR b (slotsN N j) I L P (q + j) → ∃ J Q, go 43 2 [.ref b, .int (nI j)] [] w I L P = some (.inl (some (.int (nI f))), w, J, L, Q) ∧ BR b (slotsN N f) J L Q (q + f) ∧ Fr b (b + 40) I J L L P Q := by
    intro g
    induction g with
    | zero =>
      intro j hj I P hb
      have : j = f := by omega
      subst this
      rw [(cl_done ht hb _ (nI_lt (by omega) (by omega))).1 hf]
      exact ⟨I, P, rfl, hb, Fr_refl⟩
    | succ g ih =>
      intro j hj I P hb
      rw [(cl_done ht hb _ (nI_lt (by omega) (by omega))).2 (hn j (by omega)), Bus_runToRest_22 _ _ _ _ _ _ t0]
      obtain ⟨J, Q, a1, a2, a3⟩ := cl_slot ht hb (by omega)
      rw [a1]
      simp only [kC_ret, Option.toList, List.cons_append, List.nil_append, fix1_int, fix1_ref, fix1_unk, fix1_null, fix1_long]
      rw [Bus_runToRest_26, nI_add]
      simp only [kC_ret, Option.toList, List.cons_append, List.nil_append, fix1_int, fix1_ref, fix1_unk, fix1_null, fix1_long]
      obtain ⟨J2, Q2, b1, b2, b3⟩ := ih (j + 1) (by omega) J Q a2
      exact ⟨J2, Q2, b1, b2, Fr_trans a3 b3⟩
  rw [Bus_runToRest_E, Bus_runToRest_0]
  simp only [kC_ret, Option.toList, List.cons_append, List.nil_append, fix1_int, fix1_ref, fix1_unk, fix1_null, fix1_long]
  exact loop f 0 (by omega) I P h
theorem cl_slots {w : Wd} {N : Nat → Int32} {P : MP} {b q f : Nat} {I : MI} {L : ML} (ht : BT w b) (h : BR b N I L P q) (hq : q + f < 2147483647) : ∃ J Q, call 42 [.ref b, .int (nI f)] w I L P = some (.inl none, w, J, L, Q) ∧ BR b (slotsN N f) J L Q (q + f) ∧ Fr b (b + 40) I J L L P Q := by
  have t0 := ht.1
  have loop : ∀ g j, j + g = f → ∀ (I : MI) (P : MP), BR b (slotsN N j) I L P (q + j) → ∃ J Q, go 42 2 [.ref b, .int (nI f), .int (nI j)] [] w I L P = some (.inl none, w, J, L, Q) ∧ BR b (slotsN N f) J L Q (q + f) ∧ Fr b (b + 40) I J L L P Q := by
    intro g
    induction g with
    | zero =>
      intro j hj I P hb
      have : j = f := by omega
      subst this
      rw [Bus_passSlots_2, if_pos (nI_le (by omega) (by omega)), Bus_passSlots_17]
      exact ⟨I, P, rfl, hb, Fr_refl⟩
    | succ g ih =>
      intro j hj I P hb
      rw [Bus_passSlots_2, if_neg (nI_ge (by omega) (by omega)), Bus_passSlots_7 _ _ _ _ _ _ _ t0]
      obtain ⟨J, Q, a1, a2, a3⟩ := cl_slot ht hb (by omega)
      rw [a1]
      simp only [kC_ret, Option.toList, List.cons_append, List.nil_append, fix1_int, fix1_ref, fix1_unk, fix1_null, fix1_long]
      rw [Bus_passSlots_11, nI_add]
      simp only [kC_ret, Option.toList, List.cons_append, List.nil_append, fix1_int, fix1_ref, fix1_unk, fix1_null, fix1_long]
      obtain ⟨J2, Q2, b1, b2, b3⟩ := ih (j + 1) (by omega) J Q a2
      exact ⟨J2, Q2, b1, b2, Fr_trans a3 b3⟩
  rw [Bus_passSlots_E, Bus_passSlots_0]
  simp only [kC_ret, Option.toList, List.cons_append, List.nil_append, fix1_int, fix1_ref, fix1_unk, fix1_null, fix1_long]
  exact loop f 0 (by omega) I P h
