/-! slots, saved states, and each change of a row keep what holds of every row -/
theorem EN_mid {a b : Int32} {j : Nat} (h : 2 ≤ j) (h2 : j ≤ 5) : EN a b (nI j) := by
  have e : ∀ i, i < 10 → i ≠ j → ¬ nI j = nI i := fun i hi hn h => by rw [nI_eq (by omega) (by omega)] at h; omega
  refine ⟨fun z => ?_, fun z => ?_, fun z => absurd z (e 6 (by omega) (by omega))⟩
  · rcases z with z | z
    · exact absurd z (e 0 (by omega) (by omega))
    · exact absurd z (e 7 (by omega) (by omega))
  · rcases z with z | z
    · exact absurd z (e 1 (by omega) (by omega))
    · exact absurd z (e 6 (by omega) (by omega))
theorem kind_md {N : Nat → Int32} {md : Nat} (h4 : N 4 = nI md) (h0 : 0 < md) (h8 : md ≤ 8) : slotKind N = kindV md := by
  unfold slotKind
  rw [if_neg, cl_of h4 (by omega)]
  rw [h4, ← nI_0, nI_eq (by omega) (by omega)]
  omega
theorem EN_step {N : Nat → Int32} {b k n md : Nat} {I : MI} {L : ML} {P : MP} (h : BC b N I L P k n md) : EN (stepV N) (stepN N 5) (slotKind N) := by
  have h8 := PH_8 h.2.2.2.2.2.2.2.2.2.2.2.2
  obtain ⟨⟨hk0, hk, h1, i1⟩, ⟨hn, h2, i3⟩, i4, h4, i7, i8, hq, hs, hl, hu, hi, ho, hp⟩ := h
  have c4 := cl_of h4 (by omega)
  rcases (show md = 0 ∨ md = 1 ∨ md = 2 ∨ md = 3 ∨ md = 4 ∨ md = 5 ∨ md = 6 ∨ md = 7 ∨ md = 8 by omega) with rfl | rfl | rfl | rfl | rfl | rfl | rfl | rfl | rfl
  · unfold slotKind stepV stepN
    rw [c4, h4, if_pos nI_0]
    change EN (begV N (cl N 1)) (begN N (cl N 1) 5) (if begN N (cl N 1) 4 = 0 then nI 0 else nI 1)
    unfold begV begN
    rw [sN_ne (show 5 ≠ 6 by omega), sN_ne (show 5 ≠ 4 by omega), sN_eq, sN_ne (show 4 ≠ 6 by omega), sN_eq]
    by_cases z : begS N (cl N 1) = 0
    · rw [if_pos z, if_pos z, if_pos nI_0, z]
      exact ⟨fun _ => ⟨rfl, nI_0.symm⟩, fun y => by rcases y with y | y <;> exact absurd y (by decide), fun y => absurd y (by decide)⟩
    · rw [if_neg z, if_neg z, if_neg (by decide)]
      exact ⟨fun y => by rcases y with y | y <;> exact absurd y (by decide), fun _ => rfl, fun y => absurd y (by decide)⟩
  · rw [kind_md h4 (by omega) (by omega)]; exact EN_mid (j := 2) (by omega) (by omega)
  · rw [kind_md h4 (by omega) (by omega)]; exact EN_mid (j := 3) (by omega) (by omega)
  · rw [kind_md h4 (by omega) (by omega)]; exact EN_mid (j := 4) (by omega) (by omega)
  · rw [kind_md h4 (by omega) (by omega)]; exact EN_mid (j := 5) (by omega) (by omega)
  · rw [kind_md h4 (by omega) (by omega)]; exact EN_mid (j := 4) (by omega) (by omega)
  · rw [kind_md h4 (by omega) (by omega)]; exact EN_mid (j := 5) (by omega) (by omega)
  · rw [kind_md h4 (by omega) (by omega)]
    unfold stepV stepN
    rw [c4]
    change EN (nI 0) (holdStep N (cl N 8) 5) (nI 6)
    have e : holdStep N (cl N 8) 5 = N 5 := by
      unfold holdStep
      rw [nbN_out (by omega), sN_ne (by omega), sN_ne (by omega), sN_ne (by omega)]
    rw [e]
    exact ⟨fun y => by rcases y with y | y <;> exact absurd y (by decide), fun _ => rfl, fun _ => hp.2.1⟩
  · rw [kind_md h4 (by omega) (by omega)]
    unfold stepV stepN
    rw [c4]
    change EN (nI 1) (sN (sN N 4 (nI 0)) 8 (-1) 5) (nI 7)
    rw [sN_ne (by omega), sN_ne (by omega), hp.2]
    exact ⟨fun _ => ⟨rfl, rfl⟩, fun y => by rcases y with y | y <;> exact absurd y (by decide), fun y => absurd y (by decide)⟩
theorem hold_sum {N : Nat → Int32} {t : Nat} (ht : t < 6) : hsum (holdStep N t) = hsum N + nI 1 := by
  rw [← hsum_1 ht]
  refine hsum_eq (fun l hl => ?_)
  unfold holdStep
  rw [nbN_out (by omega)]
  by_cases z : 327 + 22 * l + 5 = 327 + 22 * t + 5
  · rw [z, sN_eq, sN_eq, sN_ne (by omega), sN_ne (by omega)]
  · rw [sN_ne z, sN_ne z, sN_ne (by omega), sN_ne (by omega)]
theorem SI_slot {N : Nat → Int32} {q : Nat} (hg : GN N q) (hq : q < 2147483647) (h : SI N q) : SI (slotN N) (q + 1) := by
  obtain ⟨w, b, I, L, P, ht, ⟨k, n, md, hbc⟩, hlg⟩ := hg
  have ho := BC_ok hbc
  obtain ⟨h0, ⟨r, hr, h10⟩, hc, h11, hlog, hlast, hrb, m, hm1, hm9, h3⟩ := h
  obtain ⟨a0, a10, a12, aL, aC, aK⟩ := slotN_at ho h0 (by omega)
  have hr64 : q % 64 < 64 := Nat.mod_lt _ (by omega)
  obtain ⟨s1, s2⟩ := CI_step hbc hc hrb
  have out : ∀ x, x ≠ 0 → x ≠ 10 → x ≠ 12 → (x < 15 ∨ 207 ≤ x) → slotN N x = stepN N x := fun x x0 x1 x2 x3 => slotN_out ho h0 (by omega) ⟨x0, x1, x2⟩ (by omega)
  refine ⟨a0, ?_, CI_all s1 (Nat.le_refl _) (fun x x1 x2 => out x (by omega) (by omega) (by omega) (by omega)), ?_, ?_, ?_, ?_, m, hm1, hm9, ?_⟩
  · rw [a10, h10]
    split
    · exact ⟨r, by omega, by rw [nI_add, Nat.add_zero]⟩
    · exact ⟨r + 1, by omega, nI_add _ _⟩
  · rw [out 11 (by omega) (by omega) (by omega) (by omega), step_out ho (by omega), hsum_eq (N := stepN N) (M := slotN N) (fun l hl => out _ (by omega) (by omega) (by omega) (by omega))]
    by_cases z : N 4 = nI 7
    · rw [if_pos ⟨rfl, z⟩, h11]
      have h4 := hbc.2.2.2.1
      have h8 := PH_8 hbc.2.2.2.2.2.2.2.2.2.2.2.2
      have em : md = 7 := by rw [h4, nI_eq (by omega) (by omega)] at z; exact z
      subst em
      obtain ⟨t, m, p, ht, t8, -⟩ := ST_pt ho h4 (by omega) (by omega)
      have e : stepN N = holdStep N t := by
        unfold stepN
        rw [cl_of h4 (by omega)]
        change holdStep N (cl N 8) = _
        rw [cl_of t8 (by omega)]
      rw [e, hold_sum ht]
    · rw [if_neg (fun y => z y.2), h11]
      exact (hsum_eq (fun l hl => step_same ho (SX_l (Or.inr (Or.inr (Or.inr ⟨rfl, z⟩)))))).symm
  · intro j hj hjq
    by_cases z : j = q % 64
    · subst z
      rw [aL, aC, aK]
      exact EN_step hbc
    · have hjq2 : j < q := by
        rcases Nat.lt_or_ge j q with y | y
        · exact y
        · have : j = q := by omega
          subst this
          exact absurd (Nat.mod_eq_of_lt hj).symm z
      have e : ∀ x, 15 ≤ x → x < 207 → x ≠ 15 + 3 * (q % 64) ∧ x ≠ 16 + 3 * (q % 64) ∧ x ≠ 17 + 3 * (q % 64) → slotN N x = N x := fun x x1 x2 x3 => by
        rw [slotN_out ho h0 (by omega) (by omega) x3, step_out ho (by omega), if_neg (by omega)]
      rw [e _ (by omega) (by omega) (by omega), e _ (by omega) (by omega) (by omega), e _ (by omega) (by omega) (by omega)]
      exact hlog j hj hjq2
  · intro _
    rw [Nat.add_sub_cancel, aC, out 5 (by omega) (by omega) (by omega) (by omega)]
  · intro z
    rw [out 4 (by omega) (by omega) (by omega) (by omega)] at z
    rw [out 6 (by omega) (by omega) (by omega) (by omega), out 13 (by omega) (by omega) (by omega) (by omega)]
    exact s2 z
  · rw [out 3 (by omega) (by omega) (by omega) (by omega), step_same ho (SX_13 (by omega))]
    exact h3
theorem SI_slots {N : Nat → Int32} {q : Nat} (hg : GN N q) (h : SI N q) : ∀ f, q + f < 2147483647 → SI (slotsN N f) (q + f) := by
  intro f
  induction f with
  | zero => intro _; exact h
  | succ f ih =>
    intro hf
    exact SI_slot (GN_slots hg f (by omega)) (show q + f < 2147483647 by omega) (ih (by omega))
/-- rows that are alike but for what a call of the bus may change -/
theorem SI_upd {N M : Nat → Int32} {q : Nat} (h : SI N q) (e : ∀ x, (x = 0 ∨ (4 ≤ x ∧ x ≤ 206)) → M x = N x) (hc : ∀ c, c < 3 → CI N q c → CI M q c) (hs : hsum M = hsum N) (h3 : ∃ m, 1 ≤ m ∧ m ≤ 9 ∧ M 3 = nI m) : SI M q := by
  obtain ⟨h0, ⟨r, hr, h10⟩, hcc, h11, hlog, hlast, hrb, -⟩ := h
  refine ⟨by rw [e 0 (by omega)]; exact h0, ⟨r, hr, by rw [e 10 (by omega)]; exact h10⟩, fun c hc3 => hc c hc3 (hcc c hc3), by rw [e 11 (by omega), hs]; exact h11, ?_, ?_, ?_, h3⟩
  · intro j hj hjq
    rw [e _ (by omega), e _ (by omega), e _ (by omega)]
    exact hlog j hj hjq
  · intro z
    have hr64 : (q - 1) % 64 < 64 := Nat.mod_lt _ (by omega)
    rw [e _ (by omega), e 5 (by omega)]
    exact hlast z
  · intro z
    rw [e 4 (by omega)] at z
    rw [e 6 (by omega), e 13 (by omega)]
    exact hrb z
theorem SI_fr {k : Nat} : SI (frN k) 0 := by
  have e : ∀ x, x ≠ 1 → x ≠ 3 → x ≠ 8 → x ≠ 214 → x ≠ 254 → x ≠ 294 → x ≠ 12 → frN k x = nI 0 := fun x x1 x3 x8 xa xb xc x12 => by
    unfold frN
    rw [if_neg x1, if_neg x3, if_neg (by omega), if_neg x12]
  have e2 : ∀ c, c < 3 → frN k (214 + 40 * c) = -1 := fun c hc => by
    unfold frN
    rw [if_neg (by omega), if_neg (by omega), if_pos (by omega)]
  refine ⟨e 0 (by omega) (by omega) (by omega) (by omega) (by omega) (by omega) (by omega), ⟨0, Nat.le_refl _, e 10 (by omega) (by omega) (by omega) (by omega) (by omega) (by omega) (by omega)⟩, ?_, ?_, fun j _ hj => absurd hj (by omega), fun z => absurd z (by omega), fun z => ?_, 4, by omega, by omega, rfl⟩
  · intro c hc
    exact ⟨⟨0, 0, Nat.le_refl _, Nat.le_refl _, e _ (by omega) (by omega) (by omega) (by omega) (by omega) (by omega) (by omega), e _ (by omega) (by omega) (by omega) (by omega) (by omega) (by omega) (by omega)⟩, ⟨0, Nat.le_refl _, e _ (by omega) (by omega) (by omega) (by omega) (by omega) (by omega) (by omega), Or.inl ⟨rfl, e2 c hc⟩⟩, 0, by omega, e _ (by omega) (by omega) (by omega) (by omega) (by omega) (by omega) (by omega), fun p _ hp => absurd hp (by omega)⟩
  · unfold hsum
    rw [e 11, e 332, e 354, e 376, e 398, e 420, e 442]
    all_goals first | decide | omega
  · rw [e 4 (by omega) (by omega) (by omega) (by omega) (by omega) (by omega) (by omega)] at z
    exact absurd z (by decide)
