/-! a whole slot: the class and the model, with the log -/
theorem PH_N {N M R : Nat → Int32} {n md : Nat} (h : PH N R n md) (e5 : M 5 = N 5) (e6 : M 6 = N 6) (e7 : M 7 = N 7) (e8 : M 8 = N 8) (e9 : M 9 = N 9) (e13 : M 13 = N 13) (e14 : M 14 = N 14) (e : ∀ x, 207 ≤ x → x < 327 → M x = N x) : PH M R n md := by
  unfold PH at h ⊢
  split at h
  · rw [e5, e8]; exact h
  · obtain ⟨a1, a2, a3, a4, j, lv, a5, a6, a7, a8, a9⟩ := h
    rw [e5, e8, e6]
    exact ⟨a1, a2, a3, a4, j, lv, a5, a6, a7, a8, LV_N a9 (fun q => absurd q n10) e5 e7 e⟩
  · obtain ⟨a1, a2, a3, a4, lv, a5, a6⟩ := h
    rw [e5, e8]
    exact ⟨a1, a2, a3, a4, lv, a5, LV_N a6 (fun q => absurd q n10) e5 e7 e⟩
  · obtain ⟨a1, a2, a3, a4, b1, b2, j, lv, a5, a6, a7, a8, a9⟩ := h
    rw [e5, e14, e6, e7]
    exact ⟨a1, a2, BF_N a3 e5 e7 e8 e14 e, a4, b1, b2, j, lv, a5, a6, a7, a8, LV_N a9 (fun _ => BF_dn a3) e5 e7 e⟩
  · obtain ⟨a1, a2, a3, a4, b1, b2, lv, a5, a6⟩ := h
    rw [e5, e14, e7]
    exact ⟨a1, a2, BF_N a3 e5 e7 e8 e14 e, a4, b1, b2, lv, a5, LV_N a6 (fun _ => BF_dn a3) e5 e7 e⟩
  · obtain ⟨a1, a2, a3, a4⟩ := h
    rw [e5, e14, e7, e13, e6]
    exact ⟨a1, a2, BF_N a3 e5 e7 e8 e14 e, a4⟩
  · obtain ⟨a1, a2, a3, a4⟩ := h
    rw [e5, e14, e7]
    exact ⟨a1, a2, BF_N a3 e5 e7 e8 e14 e, a4⟩
  · obtain ⟨a1, a2, a3, a4⟩ := h
    rw [e5, e14, e7, e9]
    exact ⟨a1, a2, BF_N a3 e5 e7 e8 e14 e, a4⟩
  · rw [e5]; exact h
  · exact h
theorem PH_8 {N R : Nat → Int32} {n md : Nat} (h : PH N R n md) : md ≤ 8 := by
  unfold PH at h
  split at h
  all_goals first | omega | exact absurd h id
/-- rows and memory that are alike where a bus is told -/
theorem BC_N {N M : Nat → Int32} {b k n md : Nat} {I J : MI} {L : ML} {P : MP} (h : BC b N I L P k n md) (e : ∀ x, ((0 < x ∧ x ≤ 9) ∨ x = 13 ∨ x = 14 ∨ (207 ≤ x ∧ x < 459)) → M x = N x) (eI : ∀ x, (x = b ∨ (b + 7 ≤ x ∧ x < b + 40)) → J x = I x) : BC b M J L P k n md := by
  obtain ⟨⟨hk0, hk, h1, i1⟩, ⟨hn, h2, i3⟩, i4, h4, i7, i8, hq, hs, hl, hu, hi, ho, hp⟩ := h
  have eb := eI b (by omega)
  refine ⟨⟨hk0, hk, by rw [e 1 (by omega)]; exact h1, by rw [eb]; exact i1⟩, ⟨hn, by rw [e 2 (by omega)]; exact h2, by rw [eb]; exact i3⟩, by rw [eb, e 3 (by omega)]; exact i4, by rw [e 4 (by omega)]; exact h4, by rw [eb, e 5 (by omega)]; exact i7, by rw [eb, e 8 (by omega)]; exact i8, hq, CS_5 hs (fun x g1 g2 => e x (by omega)) (fun x g1 g2 => eI x (by omega)), LiS_N hn hl (fun x g1 g2 => e x (by omega)) (fun x g1 g2 => eI x (by omega)), LU_I hu (fun x g1 g2 => eI x (by omega)), IV_N hi (e 5 (by omega)) (fun x g1 g2 => e x (by omega)), OL_N ho (fun x g1 g2 => e x (by omega)), ?_⟩
  rw [eb]
  exact PH_N hp (e 5 (by omega)) (e 6 (by omega)) (e 7 (by omega)) (e 8 (by omega)) (e 9 (by omega)) (e 13 (by omega)) (e 14 (by omega)) (fun x g1 g2 => e x (by omega))
theorem BC_ok {N : Nat → Int32} {b k n md : Nat} {I : MI} {L : ML} {P : MP} (h : BC b N I L P k n md) : StepOk N := by
  obtain ⟨⟨hk0, hk, h1, i1⟩, ⟨hn, h2, i3⟩, i4, h4, i7, i8, hq, hs, hl, hu, hi, ho, hp⟩ := h
  have bf : BF N n → ∃ t m p, t < 6 ∧ N 8 = nI t ∧ m ≤ 16 ∧ N (327 + 22 * t + 2) = nI m ∧ p < 16 ∧ N (327 + 22 * t + 3) = nI p := by
    rintro ⟨⟨t, ht, h8⟩, _⟩
    obtain ⟨_, _, m, p, q1, q2, q3, q4, _⟩ := ho t (by omega)
    exact ⟨t, m, p, by omega, h8, q1, q2, by omega, q3⟩
  refine ⟨k, n, md, hk0, hk, h1, hn, h2, PH_8 hp, h4, ?_, ?_⟩
  · rintro (rfl | rfl)
    · exact BF_dn hp.2.2.1
    · exact BF_dn hp.2.2.1
  · rintro ⟨g1, g2⟩
    rcases (show md = 4 ∨ md = 5 ∨ md = 6 ∨ md = 7 by omega) with rfl | rfl | rfl | rfl
    · exact bf hp.2.2.1
    · exact bf hp.2.2.1
    · exact bf hp.2.2.1
    · exact bf hp.2.2.1
theorem st_all {w : Wd} {N : Nat → Int32} {P : MP} {b k n md : Nat} {I : MI} {L : ML} (ht : BT w b) (h : BC b N I L P k n md) : SG w b N I L P k n := by
  have := PH_8 h.2.2.2.2.2.2.2.2.2.2.2.2
  rcases (show md = 0 ∨ md = 1 ∨ md = 2 ∨ md = 3 ∨ md = 4 ∨ md = 5 ∨ md = 6 ∨ md = 7 ∨ md = 8 by omega) with rfl | rfl | rfl | rfl | rfl | rfl | rfl | rfl | rfl
  · exact st_0 ht h
  · exact st_1 ht h
  · exact st_2 ht h
  · exact st_3 ht h
  · exact st_4 ht h
  · exact st_5 ht h
  · exact st_6 ht h
  · exact st_7 ht h
  · exact st_8 ht h
theorem bitOf_out {N : Nat → Int32} {h : Int32} {x : Nat} (g : x < 207 ∨ 327 ≤ x) (g2 : x ≠ 5 ∧ x ≠ 6) : bitOfN N h x = N x := by
  rw [show bitOfN N h = sN (loseAll N h (lvl N h)) 6 (loseAll N h (lvl N h) 6 + nI 1) from rfl, sN_ne g2.2, loseAll_out g g2.1]
theorem holds_out {N : Nat → Int32} {t x : Nat} (g : x ≠ 4 ∧ x ≠ 6 ∧ x ≠ 9 ∧ x ≠ 13) : holdsN N t x = N x := by
  unfold holdsN
  rw [nbN_out (by omega), sN_ne (by omega)]
/-- what a step leaves alone -/
theorem step_out {N : Nat → Int32} (h : StepOk N) {x : Nat} (g : x = 0 ∨ x = 10 ∨ x = 11 ∨ x = 12 ∨ (15 ≤ x ∧ x < 207)) : stepN N x = if x = 11 ∧ N 4 = nI 7 then N 11 + nI 1 else N x := by
  obtain ⟨k, n, md, hk0, hk, h1, hn, h2, hmd, h4, -, -⟩ := h
  have c4 := cl_of h4 (by omega)
  have hne : md ≠ 7 → (if x = 11 ∧ N 4 = nI 7 then N 11 + nI 1 else N x) = N x := by
    intro q
    rw [if_neg]
    rintro ⟨_, q2⟩
    rw [h4, nI_eq (by omega) (by omega)] at q2
    exact q q2
  unfold stepN
  rw [c4]
  rcases (show md = 0 ∨ md = 1 ∨ md = 2 ∨ md = 3 ∨ md = 4 ∨ md = 5 ∨ md = 6 ∨ md = 7 ∨ md = 8 by omega) with rfl | rfl | rfl | rfl | rfl | rfl | rfl | rfl | rfl
  · rw [hne (by omega)]
    exact begN_out (by omega)
  · rw [hne (by omega)]
    change sN (bitOfN N (nI 1)) 4 _ x = _
    rw [sN_ne (by omega), bitOf_out (by omega) (by omega)]
  · rw [hne (by omega)]
    change haN N (cl N 2) x = _
    unfold haN
    split
    · exact allLeave_out (by omega) (by omega) (by omega) (by omega)
    · rw [holds_out (by omega), sN_ne (by omega), sN_ne (by omega), sN_ne (by omega)]
  · rw [hne (by omega)]
    change sN (bitOfN N (nI 0)) 4 _ x = _
    rw [sN_ne (by omega), bitOf_out (by omega) (by omega)]
  · rw [hne (by omega)]
    change waN N (cl N 8) _ x = _
    have e : ∀ t m, waN1 N t m x = N x := fun t m => by unfold waN1; rw [sN_ne (by omega), sN_ne (by omega), sN_ne (by omega)]
    unfold waN
    split
    · exact allLeave_out (by omega) (by omega) (by omega) (by omega)
    · split
      · rw [sN_ne (by omega), finN_out (by omega) (by omega), e]
      · rw [holds_out (by omega), finN_out (by omega) (by omega), e]
  · rw [hne (by omega)]
    change rbN N (cl N 8) _ x = _
    unfold rbN
    split
    · unfold rb2; rw [sN_ne (by omega), sN_ne (by omega)]
    · rw [sN_ne (by omega), rc1_out (by omega), rc1_out (by omega), rc1_out (by omega)]
      unfold rb3 rb2
      rw [sN_ne (by omega), sN_ne (by omega), sN_ne (by omega)]
  · rw [hne (by omega)]
    change raN N (cl N 8) x = _
    have e : raN1 N x = N x := by unfold raN1; rw [sN_ne (by omega)]
    unfold raN
    split
    · rw [sN_ne (by omega), finN_out (by omega) (by omega), e]
    · rw [holds_out (by omega), finN_out (by omega) (by omega), e]
  · change holdStep N (cl N 8) x = _
    rw [h4]
    unfold holdStep
    rw [nbN_out (by omega), sN_ne (by omega)]
    by_cases q : x = 11
    · subst q
      rw [sN_eq, if_pos ⟨rfl, rfl⟩]
    · rw [sN_ne q, sN_ne (by omega), if_neg (fun z => q z.1)]
  · rw [hne (by omega)]
    change sN (sN N 4 (nI 0)) 8 (-1) x = _
    rw [sN_ne (by omega), sN_ne (by omega)]
theorem kind_6 {N : Nat → Int32} (h : StepOk N) : slotKind N = nI 6 ↔ N 4 = nI 7 := by
  obtain ⟨k, n, md, hk0, hk, h1, hn, h2, hmd, h4, -, -⟩ := h
  have c4 := cl_of h4 (by omega)
  have d1 : ¬ nI 0 = nI 6 := by decide
  have d2 : ¬ nI 1 = nI 6 := by decide
  unfold slotKind
  rw [c4]
  rcases (show md = 0 ∨ md = 1 ∨ md = 2 ∨ md = 3 ∨ md = 4 ∨ md = 5 ∨ md = 6 ∨ md = 7 ∨ md = 8 by omega) with rfl | rfl | rfl | rfl | rfl | rfl | rfl | rfl | rfl
  · rw [h4, if_pos nI_0]
    refine ⟨fun q => ?_, fun q => absurd q (by decide)⟩
    split at q
    · exact absurd q d1
    · exact absurd q d2
  all_goals rw [h4, if_neg (by decide)]; decide
/-- the log of a bus -/
def LG (b : Nat) (N : Nat → Int32) (I : MI) (q : Nat) : Prop := N 0 = nI q ∧ I (b + 3) 0 = nI q ∧ I (b + 3) 1 = N 10 ∧ I (b + 3) 2 = N 11 ∧ (∀ i, i < 64 → I (b + 4) i = N (15 + 3 * i) ∧ I (b + 5) i = N (16 + 3 * i) ∧ I (b + 6) i = N (17 + 3 * i)) ∧ N 12 = if q = 0 then nI 1 else N (15 + 3 * ((q - 1) % 64))
def BR (b : Nat) (N : Nat → Int32) (I : MI) (L : ML) (P : MP) (q : Nat) : Prop := (∃ k n md, BC b N I L P k n md) ∧ LG b N I q
theorem slotN_out {N : Nat → Int32} (h : StepOk N) {q x : Nat} (h0 : N 0 = nI q) (hq : q < 2147483648) (g : x ≠ 0 ∧ x ≠ 10 ∧ x ≠ 12) (ga : x ≠ 15 + 3 * (q % 64) ∧ x ≠ 16 + 3 * (q % 64) ∧ x ≠ 17 + 3 * (q % 64)) : slotN N x = stepN N x := by
  have s0 : stepN N 0 = nI q := by rw [step_out h (by omega), if_neg (by omega)]; exact h0
  unfold slotN
  rw [cl_of s0 hq, sN_ne (by omega), sN_ne (by omega), sN_ne (by omega), sN_ne (by omega), sN_ne (by omega), sN_ne (by omega)]
theorem slotN_at {N : Nat → Int32} (h : StepOk N) {q : Nat} (h0 : N 0 = nI q) (hq : q < 2147483648) : slotN N 0 = nI (q + 1) ∧ slotN N 10 = N 10 + (if slotKind N = 0 then nI 0 else nI 1) ∧ slotN N 12 = stepV N ∧ slotN N (15 + 3 * (q % 64)) = stepV N ∧ slotN N (16 + 3 * (q % 64)) = stepN N 5 ∧ slotN N (17 + 3 * (q % 64)) = slotKind N := by
  have s0 : stepN N 0 = nI q := by rw [step_out h (by omega), if_neg (by omega)]; exact h0
  have s10 : stepN N 10 = N 10 := by rw [step_out h (by omega), if_neg (by omega)]
  have hr : q % 64 < 64 := Nat.mod_lt _ (by omega)
  unfold slotN
  rw [cl_of s0 hq]
  refine ⟨?_, ?_, ?_, ?_, ?_, ?_⟩
  · rw [sN_eq, sN_ne (by omega), sN_ne (by omega), sN_ne (by omega), sN_ne (by omega), s0, nI_add]
  · rw [sN_ne (by omega), sN_eq, sN_ne (show 10 ≠ 12 by omega), sN_ne (show 10 ≠ 15 + 3 * (q % 64) + 2 by omega), sN_ne (show 10 ≠ 15 + 3 * (q % 64) + 1 by omega), sN_ne (show 10 ≠ 15 + 3 * (q % 64) by omega), s10]
  · rw [sN_ne (by omega), sN_ne (by omega), sN_eq]
  · rw [sN_ne (by omega), sN_ne (by omega), sN_ne (by omega), sN_ne (by omega), sN_ne (by omega), sN_eq]
  · rw [sN_ne (by omega), sN_ne (by omega), sN_ne (by omega), sN_ne (by omega), show 16 + 3 * (q % 64) = 15 + 3 * (q % 64) + 1 from by omega, sN_eq]
  · rw [sN_ne (by omega), sN_ne (by omega), sN_ne (by omega), show 17 + 3 * (q % 64) = 15 + 3 * (q % 64) + 2 from by omega, sN_eq]
theorem cl_slot {w : Wd} {N : Nat → Int32} {P : MP} {b q : Nat} {I : MI} {L : ML} (ht : BT w b) (h : BR b N I L P q) (hq : q < 2147483647) : ∃ J Q, call 44 [.ref b] w I L P = some (.inl none, w, J, L, Q) ∧ BR b (slotN N) J L Q (q + 1) ∧ Fr b (b + 40) I J L L P Q := by
  have t0 := ht.1
  obtain ⟨⟨k, n, md, hbc⟩, l0, l1, l2, l3, l4, l5⟩ := h
  have hok := BC_ok hbc
  obtain ⟨J, Q, md', a1, a2, a3⟩ := st_all ht hbc
  have hqq := a2.2.2.2.2.2.2.1
  have ej : ∀ x, b + 3 ≤ x → x < b + 7 → J x = I x := fun x g1 g2 => (a3 x (by omega)).1
  have hr : q % 64 < 64 := Nat.mod_lt _ (by omega)
  have j7 : J b 7 = stepN N 5 := a2.2.2.2.2.1
  have hk : call 24 [.ref (b + 3), .int (slotKind N), .int (stepV N), .int (J b 7)] w J L Q = _ := cl_keep ht hqq (q := q) (by omega) J L (by rw [ej _ (by omega) (by omega)]; exact l1) (slotKind N) (stepV N) (J b 7)
  rw [Bus_passSlot_E, a1, Bus_passSlot_159 _ _ _ _ _ _ _ t0, hqq.2.2.1, rf_some, Bus_passSlot_163 _ _ _ _ _ _ _ _ t0 ht.2.2.2.1, hk]
  simp only [kC_ret, Option.toList, List.cons_append, List.nil_append, fix1_int, fix1_ref, fix1_unk, fix1_null, fix1_long]
  rw [Bus_passSlot_172]
  obtain ⟨n0, n10', n12, na, nb, nc⟩ := slotN_at hok l0 (by omega)
  refine ⟨_, Q, rfl, ⟨⟨k, n, md', BC_N a2 ?_ ?_⟩, n0, ?_, ?_, ?_, ?_, ?_⟩, ?_⟩
  · intro x g
    exact slotN_out hok l0 (by omega) (by omega) (by omega)
  · intro x g
    rw [wr_ne _ _ (by omega), wr_ne _ _ (by omega), wr_ne _ _ (by omega), wr_ne _ _ (by omega)]
  · rw [wr_same, sN_ne (by omega), sN_ne (by omega), sN_eq]
  · rw [wr_same, sN_ne (by omega), sN_eq, ej _ (by omega) (by omega), n10', l2]
  · rw [wr_same, sN_eq, ej _ (by omega) (by omega), l3, slotN_out hok l0 (by omega) (by omega) (by omega), step_out hok (by omega)]
    by_cases z : N 4 = nI 7
    · rw [if_pos ((kind_6 hok).mpr z), if_pos ⟨rfl, z⟩]
    · rw [if_neg (fun y => z ((kind_6 hok).mp y)), if_neg (fun y => z y.2), nI_0]
      exact Int32.add_zero _
  · intro i hi
    rw [wr_ne _ _ (show b + 4 ≠ b + 3 by omega), wr_ne _ _ (show b + 4 ≠ b + 6 by omega), wr_ne _ _ (show b + 4 ≠ b + 5 by omega), wr_same, wr_ne _ _ (show b + 5 ≠ b + 3 by omega), wr_ne _ _ (show b + 5 ≠ b + 6 by omega), wr_same, wr_ne _ _ (show b + 6 ≠ b + 3 by omega), wr_same, ej (b + 4) (by omega) (by omega), ej (b + 5) (by omega) (by omega), ej (b + 6) (by omega) (by omega)]
    by_cases e : i = q % 64
    · subst e
      rw [sN_eq, sN_eq, sN_eq, na, nb, nc, j7]
      exact ⟨rfl, rfl, rfl⟩
    · rw [sN_ne e, sN_ne e, sN_ne e, slotN_out (x := 15 + 3 * i) hok l0 (by omega) (by omega) (by omega), slotN_out (x := 16 + 3 * i) hok l0 (by omega) (by omega) (by omega), slotN_out (x := 17 + 3 * i) hok l0 (by omega) (by omega) (by omega), step_out hok (by omega), step_out hok (by omega), step_out hok (by omega), if_neg (by omega), if_neg (by omega), if_neg (by omega)]
      exact l4 i hi
  · rw [n12, if_neg (by omega), Nat.add_sub_cancel, na]
  · intro x hx
    rw [wr_ne _ _ (by omega), wr_ne _ _ (by omega), wr_ne _ _ (by omega), wr_ne _ _ (by omega)]
    exact a3 x (by omega)
