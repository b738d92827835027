/-! a slot keeps what holds of every row -/
def SX (N : Nat → Int32) (x : Nat) : Prop := (x ≠ 4 ∧ x ≠ 5 ∧ x ≠ 6 ∧ x ≠ 7 ∧ x ≠ 8 ∧ x ≠ 9 ∧ x ≠ 11 ∧ x ≠ 13 ∧ x ≠ 14) ∧ (x < 207 ∨ 327 ≤ x) ∧ (∀ t, x ≠ 327 + 22 * t + 2 ∧ x ≠ 327 + 22 * t + 3 ∧ ∀ m, m < 16 → x ≠ 327 + 22 * t + (6 + m)) ∧ (N 4 = nI 7 → ∀ t, x ≠ 327 + 22 * t + 5)
theorem step_same {N : Nat → Int32} (h : StepOk N) {x : Nat} (g : SX N x) : stepN N x = N x := by
  obtain ⟨⟨x4, x5, x6, x7, x8, x9, x11, x13, x14⟩, xr, xt, x57⟩ := g
  obtain ⟨k, n, md, hk0, hk, h1, hn, h2, hmd, h4, -, hpt⟩ := h
  have c4 := cl_of h4 (by omega)
  unfold stepN
  rw [c4]
  rcases (show md = 0 ∨ md = 1 ∨ md = 2 ∨ md = 3 ∨ md = 4 ∨ md = 5 ∨ md = 6 ∨ md = 7 ∨ md = 8 by omega) with rfl | rfl | rfl | rfl | rfl | rfl | rfl | rfl | rfl
  · exact begN_out ⟨x4, x5, x6⟩
  · change sN (bitOfN N (nI 1)) 4 _ x = _
    rw [sN_ne x4, bitOf_out xr ⟨x5, x6⟩]
  · change haN N (cl N 2) x = _
    unfold haN
    split
    · exact allLeave_out (by omega) xr x4 x5
    · rw [holds_out ⟨x4, x6, x9, x13⟩, sN_ne x7, sN_ne x14, sN_ne x8]
  · change sN (bitOfN N (nI 0)) 4 _ x = _
    rw [sN_ne x4, bitOf_out xr ⟨x5, x6⟩]
  · obtain ⟨t, m, p, ht, h8, hm, hmm, -⟩ := hpt (by omega)
    change waN N (cl N 8) (cl N (327 + 22 * cl N 8 + 2)) x = _
    rw [cl_of h8 (by omega), cl_of hmm (by omega)]
    obtain ⟨xa, -, xb⟩ := xt t
    unfold waN
    split
    · exact allLeave_out (by omega) xr x4 x5
    · have e : waN1 N t m x = N x := by unfold waN1; rw [sN_ne x7, sN_ne xa, sN_ne (xb m (by omega))]
      split
      · rw [sN_ne x4, finN_out xr x5, e]
      · rw [holds_out ⟨x4, x6, x9, x13⟩, finN_out xr x5, e]
  · obtain ⟨t, m, p, ht, h8, hm, hmm, -⟩ := hpt (by omega)
    change rbN N (cl N 8) (cl N (327 + 22 * cl N 8 + 2)) x = _
    rw [cl_of h8 (by omega), cl_of hmm (by omega)]
    obtain ⟨-, xa, -⟩ := xt t
    unfold rbN
    split
    · unfold rb2; rw [sN_ne x6, sN_ne x13]
    · rw [sN_ne x4, rc1_out (by omega), rc1_out (by omega), rc1_out (by omega)]
      unfold rb3 rb2
      rw [sN_ne xa, sN_ne x6, sN_ne x13]
  · change raN N (cl N 8) x = _
    have e : raN1 N x = N x := by unfold raN1; rw [sN_ne x7]
    unfold raN
    split
    · rw [sN_ne x4, finN_out xr x5, e]
    · rw [holds_out ⟨x4, x6, x9, x13⟩, finN_out xr x5, e]
  · change holdStep N (cl N 8) x = _
    unfold holdStep
    rw [nbN_out ⟨x4, x6, x13⟩, sN_ne (x57 h4 _), sN_ne x11, sN_ne x9]
  · change sN (sN N 4 (nI 0)) 8 (-1) x = _
    rw [sN_ne x8, sN_ne x4]
theorem SX_13 {N : Nat → Int32} {x : Nat} (h : x = 1 ∨ x = 2 ∨ x = 3) : SX N x := ⟨by omega, by omega, fun t => ⟨by omega, by omega, fun m hm => by omega⟩, fun _ t => by omega⟩
theorem SX_l {N : Nat → Int32} {l o : Nat} (h : o = 0 ∨ o = 1 ∨ o = 4 ∨ (o = 5 ∧ N 4 ≠ nI 7)) : SX N (327 + 22 * l + o) := ⟨by omega, by omega, fun t => ⟨by omega, by omega, fun m hm => by omega⟩, fun z t => by
  rcases h with h | h | h | ⟨h, h2⟩
  · omega
  · omega
  · omega
  · exact absurd z h2⟩
theorem and1_01 (x : Int32) : x &&& nI 1 = nI 0 ∨ x &&& nI 1 = nI 1 := by
  obtain ⟨j, hj, e⟩ := pk_andE x (m := nI 1) 1 (by decide)
  rw [e]
  rcases (show j = 0 ∨ j = 1 by omega) with rfl | rfl
  · exact Or.inl rfl
  · exact Or.inr rfl
theorem rb_13 {N : Nat → Int32} {t m j lv : Nat} (hl : lv < 2 ^ j) (h13 : N 13 = nI lv) : ∃ v, v < 2 ^ (j + 1) ∧ rb2 N t m 13 = nI v := by
  have e0 : rb2 N t m 13 = nI 2 * N 13 + rbV N t m := by
    unfold rb2
    rw [sN_ne (by omega), sN_eq]
  have p : 2 ^ (j + 1) = 2 * 2 ^ j := by rw [Nat.pow_succ]; omega
  rw [e0, h13, pk_mul]
  rcases and1_01 (rbB N t m >>> ((nI 7 - N 6) &&& 31)) with e | e
  · refine ⟨2 * lv, by omega, ?_⟩
    rw [show rbV N t m = nI 0 from e, nI_add, Nat.add_zero]
  · refine ⟨2 * lv + 1, by omega, ?_⟩
    rw [show rbV N t m = nI 1 from e, nI_add]
theorem nb_613 (N : Nat → Int32) : nextByteN N 6 = nI 0 ∧ nextByteN N 13 = nI 0 := by
  unfold nextByteN
  constructor
  · rw [sN_ne (by omega), sN_ne (by omega), sN_eq]
  · rw [sN_ne (by omega), sN_eq]
theorem hsum_eq {N M : Nat → Int32} (e : ∀ l, l < 6 → M (327 + 22 * l + 5) = N (327 + 22 * l + 5)) : hsum M = hsum N := by
  have e0 := e 0 (by omega)
  have e1 := e 1 (by omega)
  have e2 := e 2 (by omega)
  have e3 := e 3 (by omega)
  have e4 := e 4 (by omega)
  have e5 := e 5 (by omega)
  simp only [Nat.reduceMul, Nat.reduceAdd] at e0 e1 e2 e3 e4 e5
  unfold hsum
  rw [e0, e1, e2, e3, e4, e5]
theorem hsum_1 {N : Nat → Int32} {t : Nat} (ht : t < 6) : hsum (sN N (327 + 22 * t + 5) (N (327 + 22 * t + 5) + nI 1)) = hsum N + nI 1 := by
  have a : ∀ x y z : Int32, x + y + z = x + z + y := fun x y z => by rw [Int32.add_assoc, Int32.add_comm y z, ← Int32.add_assoc]
  have b : ∀ x y : Int32, x + (y + nI 1) = x + y + nI 1 := fun x y => (Int32.add_assoc x y (nI 1)).symm
  unfold hsum
  rcases (show t = 0 ∨ t = 1 ∨ t = 2 ∨ t = 3 ∨ t = 4 ∨ t = 5 by omega) with rfl | rfl | rfl | rfl | rfl | rfl
  all_goals simp only [sN, Nat.reduceMul, Nat.reduceAdd, Nat.reduceEqDiff, if_true, if_false]
  · rw [a _ (nI 1) (N 354), a _ (nI 1) (N 376), a _ (nI 1) (N 398), a _ (nI 1) (N 420), a _ (nI 1) (N 442)]
  · rw [b, a _ (nI 1) (N 376), a _ (nI 1) (N 398), a _ (nI 1) (N 420), a _ (nI 1) (N 442)]
  · rw [b, a _ (nI 1) (N 398), a _ (nI 1) (N 420), a _ (nI 1) (N 442)]
  · rw [b, a _ (nI 1) (N 420), a _ (nI 1) (N 442)]
  · rw [b, a _ (nI 1) (N 442)]
  · rw [b]
theorem CI_all {N M : Nat → Int32} {q q' : Nat} (g : ∀ c, c < 3 → CI N q c) (hq : q ≤ q') (e : ∀ x, 207 ≤ x → x < 327 → M x = N x) : ∀ c, c < 3 → CI M q' c := fun c hc => CI_N (g c hc) hq (fun x x1 x2 => e x (by omega) (by omega))
theorem ST_pt {N : Nat → Int32} (h : StepOk N) {md : Nat} (h4 : N 4 = nI md) (h3 : 3 < md) (h8 : md < 8) : ∃ t m p, t < 6 ∧ N 8 = nI t ∧ m ≤ 16 ∧ N (327 + 22 * t + 2) = nI m ∧ p < 16 ∧ N (327 + 22 * t + 3) = nI p := by
  obtain ⟨k', n', md', -, -, -, -, -, z8, e4, -, hpt⟩ := h
  have : md' = md := by
    rw [h4, nI_eq (by omega) (by omega)] at e4
    exact e4.symm
  exact hpt (by omega)
/-- what a slot does to the callers -/
theorem CI_step {N : Nat → Int32} {b k n md q : Nat} {I : MI} {L : ML} {P : MP} (h : BC b N I L P k n md) (g : ∀ c, c < 3 → CI N q c) (hr : RBI N) : (∀ c, c < 3 → CI (stepN N) (q + 1) c) ∧ RBI (stepN N) := by
  have h8 := PH_8 h.2.2.2.2.2.2.2.2.2.2.2.2
  have hok := BC_ok h
  obtain ⟨⟨hk0, hk, h1, i1⟩, ⟨hn, h2, i3⟩, i4, h4, i7, i8, hq, hs, hl, hu, hi, ho, hp⟩ := h
  have hpt := fun (a : 3 < md) (b : md < 8) => ST_pt hok h4 a b
  have c4 := cl_of h4 (by omega)
  have ne5 : ∀ j, j < 9 → j ≠ 5 → ¬ nI j = nI 5 := fun j hj h => by rw [nI_eq (by omega) (by omega)]; exact h
  unfold stepN
  rw [c4]
  rcases (show md = 0 ∨ md = 1 ∨ md = 2 ∨ md = 3 ∨ md = 4 ∨ md = 5 ∨ md = 6 ∨ md = 7 ∨ md = 8 by omega) with rfl | rfl | rfl | rfl | rfl | rfl | rfl | rfl | rfl
  · refine ⟨CI_all g (by omega) (fun x x1 x2 => begN_out (by omega)), fun z => ?_⟩
    change begN N (cl N 1) 4 = _ at z
    unfold begN at z
    rw [sN_ne (by omega), sN_eq] at z
    split at z
    · exact absurd z (ne5 0 (by omega) (by omega))
    · exact absurd z (ne5 1 (by omega) (by omega))
  · refine ⟨CI_all (CI_bitOf (h := nI 1) hi g) (Nat.le_refl _) (fun x x1 x2 => sN_ne (by omega)), fun z => ?_⟩
    change sN (bitOfN N (nI 1)) 4 _ 4 = _ at z
    rw [sN_eq] at z
    split at z
    · exact absurd z (ne5 1 (by omega) (by omega))
    · exact absurd z (ne5 2 (by omega) (by omega))
  · change (∀ c, c < 3 → CI (haN N (cl N 2)) (q + 1) c) ∧ RBI (haN N (cl N 2))
    unfold haN
    split
    · refine ⟨CI_all (CI_allLeave (as := 2) (by omega) (by omega) hi g) (by omega) (fun _ _ _ => rfl), fun z => ?_⟩
      unfold allLeaveN at z
      rw [sN_eq] at z
      exact absurd z (ne5 8 (by omega) (by omega))
    · refine ⟨CI_all g (by omega) (fun x x1 x2 => by rw [holds_out (by omega), sN_ne (by omega), sN_ne (by omega), sN_ne (by omega)]), fun _ => ⟨0, 0, by omega, (nb_613 _).1, by decide, (nb_613 _).2⟩⟩
  · refine ⟨CI_all (CI_bitOf (h := nI 0) hi g) (Nat.le_refl _) (fun x x1 x2 => sN_ne (by omega)), fun z => ?_⟩
    change sN (bitOfN N (nI 0)) 4 _ 4 = _ at z
    rw [sN_eq] at z
    split at z
    · exact absurd z (ne5 3 (by omega) (by omega))
    · exact absurd z (ne5 4 (by omega) (by omega))
  · obtain ⟨t, m, p, ht, h8, hm, hmm, -⟩ := hpt (by omega) (by omega)
    change (∀ c, c < 3 → CI (waN N (cl N 8) (cl N (327 + 22 * cl N 8 + 2))) (q + 1) c) ∧ RBI (waN N (cl N 8) (cl N (327 + 22 * cl N 8 + 2)))
    rw [cl_of h8 (by omega), cl_of hmm (by omega)]
    unfold waN
    split
    · refine ⟨CI_all (CI_allLeave (as := 3) (by omega) (by omega) hi g) (by omega) (fun _ _ _ => rfl), fun z => ?_⟩
      unfold allLeaveN at z
      rw [sN_eq] at z
      exact absurd z (ne5 8 (by omega) (by omega))
    · have e : ∀ x, x ≠ 7 → x < 327 → waN1 N t m x = N x := fun x x1 x2 => by unfold waN1; rw [sN_ne x1, sN_ne (by omega), sN_ne (by omega)]
      have hi2 : IV (waN1 N t m) k := IV_N hi (e 5 (by omega) (by omega)) (fun x x1 x2 => e x (by omega) x2)
      have g2 := CI_finN hi2 (CI_all g (Nat.le_refl _) (fun x x1 x2 => e x (by omega) x2))
      split
      · refine ⟨CI_all g2 (by omega) (fun x x1 x2 => sN_ne (by omega)), fun z => ?_⟩
        rw [sN_eq] at z
        exact absurd z (ne5 8 (by omega) (by omega))
      · exact ⟨CI_all g2 (by omega) (fun x x1 x2 => holds_out (by omega)), fun _ => ⟨0, 0, by omega, (nb_613 _).1, by decide, (nb_613 _).2⟩⟩
  · obtain ⟨t, m, p, ht, h8, hm, hmm, -⟩ := hpt (by omega) (by omega)
    obtain ⟨j, lv, hj, j6, hlv, j13⟩ := hr h4
    change (∀ c, c < 3 → CI (rbN N (cl N 8) (cl N (327 + 22 * cl N 8 + 2))) (q + 1) c) ∧ RBI (rbN N (cl N 8) (cl N (327 + 22 * cl N 8 + 2)))
    rw [cl_of h8 (by omega), cl_of hmm (by omega)]
    obtain ⟨v, hv, hv2⟩ := rb_13 (t := t) (m := m) hlv j13
    unfold rbN
    split
    · next z =>
      rw [j6, nI_add, Ne, nI_eq (by omega) (by omega)] at z
      refine ⟨CI_all g (by omega) (fun x x1 x2 => by unfold rb2; rw [sN_ne (by omega), sN_ne (by omega)]), fun _ => ⟨j + 1, v, by omega, ?_, hv, hv2⟩⟩
      unfold rb2
      rw [sN_eq, j6, nI_add]
    · next z =>
      rw [j6, nI_add, Ne, nI_eq (by omega) (by omega), Classical.not_not] at z
      have ej : j = 7 := by omega
      subst ej
      have e13 : rb3 N t m 13 = nI v := by unfold rb3; rw [sN_ne (by omega)]; exact hv2
      have g2 : ∀ c, c < 3 → CI (rb3 N t m) q c := CI_all g (Nat.le_refl _) (fun x x1 x2 => by unfold rb3 rb2; rw [sN_ne (by omega), sN_ne (by omega), sN_ne (by omega)])
      refine ⟨CI_all (CI_rc g2 ⟨v, hv, e13⟩) (Nat.le_refl _) (fun x x1 x2 => sN_ne (by omega)), fun y => ?_⟩
      rw [sN_eq] at y
      exact absurd y (ne5 6 (by omega) (by omega))
  · change (∀ c, c < 3 → CI (raN N (cl N 8)) (q + 1) c) ∧ RBI (raN N (cl N 8))
    have e : ∀ x, x ≠ 7 → raN1 N x = N x := fun x x1 => by unfold raN1; rw [sN_ne x1]
    have hi2 : IV (raN1 N) k := IV_N hi (e 5 (by omega)) (fun x x1 x2 => e x (by omega))
    have g2 := CI_finN hi2 (CI_all g (Nat.le_refl _) (fun x x1 x2 => e x (by omega)))
    unfold raN
    split
    · refine ⟨CI_all g2 (by omega) (fun x x1 x2 => sN_ne (by omega)), fun z => ?_⟩
      rw [sN_eq] at z
      exact absurd z (ne5 8 (by omega) (by omega))
    · exact ⟨CI_all g2 (by omega) (fun x x1 x2 => holds_out (by omega)), fun _ => ⟨0, 0, by omega, (nb_613 _).1, by decide, (nb_613 _).2⟩⟩
  · change (∀ c, c < 3 → CI (holdStep N (cl N 8)) (q + 1) c) ∧ RBI (holdStep N (cl N 8))
    refine ⟨CI_all g (by omega) (fun x x1 x2 => ?_), fun _ => ⟨0, 0, by omega, (nb_613 _).1, by decide, (nb_613 _).2⟩⟩
    unfold holdStep
    rw [nbN_out (by omega), sN_ne (by omega), sN_ne (by omega), sN_ne (by omega)]
  · change (∀ c, c < 3 → CI (sN (sN N 4 (nI 0)) 8 (-1)) (q + 1) c) ∧ RBI (sN (sN N 4 (nI 0)) 8 (-1))
    refine ⟨CI_all g (by omega) (fun x x1 x2 => by rw [sN_ne (by omega), sN_ne (by omega)]), fun z => ?_⟩
    rw [sN_ne (by omega), sN_eq] at z
    exact absurd z (ne5 0 (by omega) (by omega))
