/-! what holds of every row that comes about: the law's isSound, as a fact of rows -/
def EN (a b k : Int32) : Prop := (k = nI 0 ∨ k = nI 7 → a = nI 1 ∧ b = nI 0) ∧ (k = nI 1 ∨ k = nI 6 → a = nI 0) ∧ (k = nI 6 → b ≠ nI 0)
/-- a caller: losses and lost ones, received bytes, losses of waiting messages -/
def CI (N : Nat → Int32) (q c : Nat) : Prop := (∃ x y, y ≤ x ∧ x ≤ q ∧ N (212 + 40 * c) = nI x ∧ N (211 + 40 * c) = nI y) ∧ (∃ r, r ≤ q ∧ N (213 + 40 * c) = nI r ∧ ((r = 0 ∧ N (214 + 40 * c) = -1) ∨ (0 < r ∧ ∃ v, v < 256 ∧ N (214 + 40 * c) = nI v))) ∧ ∃ s, s ≤ 4 ∧ N (207 + 40 * c) = nI s ∧ ∀ p, 0 < p → p < s → N (218 + 40 * c + 8 * p) = nI 0
def hsum (N : Nat → Int32) : Int32 := N 332 + N 354 + N 376 + N 398 + N 420 + N 442
def RBI (N : Nat → Int32) : Prop := N 4 = nI 5 → ∃ j lv, j < 8 ∧ N 6 = nI j ∧ lv < 2 ^ j ∧ N 13 = nI lv
def SI (N : Nat → Int32) (q : Nat) : Prop := N 0 = nI q ∧ (∃ r, r ≤ q ∧ N 10 = nI r) ∧ (∀ c, c < 3 → CI N q c) ∧ N 11 = hsum N ∧ (∀ j, j < 64 → j < q → EN (N (15 + 3 * j)) (N (16 + 3 * j)) (N (17 + 3 * j))) ∧ (0 < q → N (16 + 3 * ((q - 1) % 64)) = N 5) ∧ RBI N ∧ ∃ m, 1 ≤ m ∧ m ≤ 9 ∧ N 3 = nI m
theorem CI_N {N M : Nat → Int32} {q q' c : Nat} (h : CI N q c) (hq : q ≤ q') (e : ∀ x, 207 + 40 * c ≤ x → x < 247 + 40 * c → M x = N x) : CI M q' c := by
  obtain ⟨⟨x, y, h1, h2, h3, h4⟩, ⟨r, h5, h6, h7⟩, s, h8, h9, h10⟩ := h
  refine ⟨⟨x, y, h1, by omega, by rw [e _ (by omega) (by omega)]; exact h3, by rw [e _ (by omega) (by omega)]; exact h4⟩, ⟨r, by omega, by rw [e _ (by omega) (by omega)]; exact h6, by rw [e _ (by omega) (by omega)]; exact h7⟩, s, h8, by rw [e _ (by omega) (by omega)]; exact h9, fun p p1 p2 => by rw [e _ (by omega) (by omega)]; exact h10 p p1 p2⟩
theorem CI_leaves {N : Nat → Int32} {q c as : Nat} (h : CI N q c) (h0 : 0 < as) (has : as < 4) (hs : ∃ s, s < 4 ∧ N (207 + 40 * c) = nI (s + 1)) : CI (leavesN N c as) q c := by
  have has5 : as < 5 := by omega
  obtain ⟨⟨x, y, h1, h2, h3, h4⟩, ⟨r, h5, h6, h7⟩, s, h8, h9, h10⟩ := h
  obtain ⟨s', hs', e'⟩ := hs
  have es : s = s' + 1 := by
    rw [h9, nI_eq (by omega) (by omega)] at e'
    exact e'
  subst es
  refine ⟨⟨x, y, h1, h2, ?_, ?_⟩, ⟨r, h5, ?_, ?_⟩, s', by omega, ?_, ?_⟩
  · rw [leavesN_at has5, if_neg (by omega), if_neg (by omega), if_neg (by omega)]; exact h3
  · rw [leavesN_at has5, if_neg (by omega), if_neg (by omega), if_neg (by omega)]; exact h4
  · rw [leavesN_at has5, if_neg (by omega), if_neg (by omega), if_neg (by omega)]; exact h6
  · rw [leavesN_at has5, if_neg (by omega), if_neg (by omega), if_neg (by omega)]; exact h7
  · rw [leavesN_at has5, if_neg (by omega), if_neg (by omega), if_pos rfl, h9, pk_m1]
  · intro p p1 p2
    rw [leavesN_at has5, if_pos (by omega), show 218 + 40 * c + 8 * p + 8 = 218 + 40 * c + 8 * (p + 1) from by omega]
    exact h10 (p + 1) (by omega) (by omega)
theorem CI_loses {N : Nat → Int32} {q c : Nat} (h : CI N q c) (hs : ∃ s, s < 4 ∧ N (207 + 40 * c) = nI (s + 1)) : CI (losesN N c) (q + 1) c := by
  obtain ⟨⟨x, y, h1, h2, h3, h4⟩, ⟨r, h5, h6, h7⟩, s, h8, h9, h10⟩ := h
  obtain ⟨s', hs', e'⟩ := hs
  have es : s = s' + 1 := by
    rw [h9, nI_eq (by omega) (by omega)] at e'
    exact e'
  subst es
  rw [losesN_c]
  dsimp only
  have o : ∀ z, z ≠ 5 → z ≠ 218 + 40 * c → z ≠ 212 + 40 * c → (sN (sN (sN N 5 (N 5 &&& ((nI 1 <<< (nI c &&& 31)) ^^^ (-1)))) (218 + 40 * c) (N (218 + 40 * c) + nI 1)) (212 + 40 * c) (N (212 + 40 * c) + nI 1)) z = N z := fun z z1 z2 z3 => by rw [sN_ne z3, sN_ne z2, sN_ne z1]
  have o2 : (sN (sN (sN N 5 (N 5 &&& ((nI 1 <<< (nI c &&& 31)) ^^^ (-1)))) (218 + 40 * c) (N (218 + 40 * c) + nI 1)) (212 + 40 * c) (N (212 + 40 * c) + nI 1)) (212 + 40 * c) = nI (x + 1) := by rw [sN_eq, h3, nI_add]
  split
  · refine ⟨⟨x + 1, y, by omega, by omega, o2, ?_⟩, ⟨r, by omega, ?_, ?_⟩, s' + 1, by omega, ?_, ?_⟩
    · rw [o _ (by omega) (by omega) (by omega)]; exact h4
    · rw [o _ (by omega) (by omega) (by omega)]; exact h6
    · rw [o _ (by omega) (by omega) (by omega)]; exact h7
    · rw [o _ (by omega) (by omega) (by omega)]; exact h9
    · intro p p1 p2
      rw [o _ (by omega) (by omega) (by omega)]; exact h10 p p1 p2
  · refine ⟨⟨x + 1, y + 1, by omega, by omega, ?_, ?_⟩, ⟨r, by omega, ?_, ?_⟩, s', by omega, ?_, ?_⟩
    · rw [leavesN_at (by omega), if_neg (by omega), if_neg (by omega), if_neg (by omega)]; exact o2
    · rw [leavesN_at (by omega), if_neg (by omega), if_pos (by omega), if_neg (by omega), o _ (by omega) (by omega) (by omega), h4, nI_add]
    · rw [leavesN_at (by omega), if_neg (by omega), if_neg (by omega), if_neg (by omega), o _ (by omega) (by omega) (by omega)]; exact h6
    · rw [leavesN_at (by omega), if_neg (by omega), if_neg (by omega), if_neg (by omega), o _ (by omega) (by omega) (by omega)]; exact h7
    · rw [leavesN_at (by omega), if_neg (by omega), if_neg (by omega), if_pos rfl, o _ (by omega) (by omega) (by omega), h9, pk_m1]
    · intro p p1 p2
      rw [leavesN_at (by omega), if_pos (by omega), show 218 + 40 * c + 8 * p + 8 = 218 + 40 * c + 8 * (p + 1) from by omega, o _ (by omega) (by omega) (by omega)]
      exact h10 (p + 1) (by omega) (by omega)
theorem CI_loseIf {N : Nat → Int32} {h lv : Int32} {k q c : Nat} (hc : c < 3) (hi : IV N k) (g : CI N q c) : CI (loseIf N h lv c) (q + 1) c := by
  unfold loseIf
  split
  · next z =>
    obtain ⟨-, s, hs, e⟩ := hi.2.1 c hc z.1
    exact CI_loses g ⟨s, hs, e⟩
  · exact CI_N g (by omega) (fun _ _ _ => rfl)
theorem loseIf_reg {N : Nat → Int32} {h lv : Int32} {c x : Nat} (hx : x < 207 + 40 * c ∨ 247 + 40 * c ≤ x) (h5 : x ≠ 5) : loseIf N h lv c x = N x := by
  unfold loseIf
  split
  · exact losesN_out hx h5
  · rfl
theorem CI_loseAll {N : Nat → Int32} {h lv : Int32} {k q : Nat} (hi : IV N k) (g : ∀ c, c < 3 → CI N q c) : ∀ c, c < 3 → CI (loseAll N h lv) (q + 1) c := by
  intro c hc
  have i1 := IV_loseIf (h := h) (lv := lv) (c := 0) (by omega) hi
  have i2 := IV_loseIf (h := h) (lv := lv) (c := 1) (by omega) i1
  unfold loseAll
  rcases (show c = 0 ∨ c = 1 ∨ c = 2 by omega) with rfl | rfl | rfl
  · exact CI_N (CI_loseIf (by omega) hi (g 0 (by omega))) (Nat.le_refl _) (fun x x1 x2 => by rw [loseIf_reg (by omega) (by omega), loseIf_reg (by omega) (by omega)])
  · exact CI_N (CI_loseIf (by omega) i1 (CI_N (g 1 (by omega)) (Nat.le_refl _) (fun x x1 x2 => loseIf_reg (by omega) (by omega)))) (Nat.le_refl _) (fun x x1 x2 => loseIf_reg (by omega) (by omega))
  · exact CI_loseIf (by omega) i2 (CI_N (g 2 (by omega)) (Nat.le_refl _) (fun x x1 x2 => by rw [loseIf_reg (by omega) (by omega), loseIf_reg (by omega) (by omega)]))
theorem CI_bitOf {N : Nat → Int32} {h : Int32} {k q : Nat} (hi : IV N k) (g : ∀ c, c < 3 → CI N q c) : ∀ c, c < 3 → CI (bitOfN N h) (q + 1) c := by
  intro c hc
  exact CI_N (CI_loseAll (h := h) (lv := lvl N h) hi g c hc) (Nat.le_refl _) (fun x x1 x2 => by
    show sN (loseAll N h (lvl N h)) 6 _ x = _
    rw [sN_ne (by omega)])
theorem CI_fin1 {N : Nat → Int32} {k q c : Nat} (hc : c < 3) (hi : IV N k) (g : CI N q c) : CI (fin1 N c) q c := by
  unfold fin1
  split
  · next z =>
    obtain ⟨-, s, hs, e⟩ := hi.2.1 c hc z.1
    exact CI_N (CI_leaves (as := 1) g (by omega) (by omega) ⟨s, hs, e⟩) (Nat.le_refl _) (fun x x1 x2 => sN_ne (by omega))
  · exact g
theorem CI_finN {N : Nat → Int32} {k q : Nat} (hi : IV N k) (g : ∀ c, c < 3 → CI N q c) : ∀ c, c < 3 → CI (finN N) q c := by
  intro c hc
  have i1 := IV_fin1 (c := 0) (by omega) hi
  have i2 := IV_fin1 (c := 1) (by omega) i1
  unfold finN
  rcases (show c = 0 ∨ c = 1 ∨ c = 2 by omega) with rfl | rfl | rfl
  · exact CI_N (CI_fin1 (by omega) hi (g 0 (by omega))) (Nat.le_refl _) (fun x x1 x2 => by rw [fin1_out (by omega) (by omega), fin1_out (by omega) (by omega)])
  · exact CI_N (CI_fin1 (by omega) i1 (CI_N (g 1 (by omega)) (Nat.le_refl _) (fun x x1 x2 => fin1_out (by omega) (by omega)))) (Nat.le_refl _) (fun x x1 x2 => fin1_out (by omega) (by omega))
  · exact CI_fin1 (by omega) i2 (CI_N (g 2 (by omega)) (Nat.le_refl _) (fun x x1 x2 => by rw [fin1_out (by omega) (by omega), fin1_out (by omega) (by omega)]))
theorem CI_allLeave {N : Nat → Int32} {k q as : Nat} (h0 : 0 < as) (has : as < 4) (hi : IV N k) (g : ∀ c, c < 3 → CI N q c) : ∀ c, c < 3 → CI (allLeaveN N as) q c := by
  intro c hc
  refine CI_N (N := lvIf N c as) ?_ (Nat.le_refl _) (fun x x1 x2 => allLeave_reg (by omega) hc x x1 x2)
  unfold lvIf
  split
  · next z =>
    obtain ⟨-, s, hs, e⟩ := hi.2.1 c hc z
    exact CI_leaves (g c hc) h0 has ⟨s, hs, e⟩
  · exact g c hc
theorem CI_rc1 {N : Nat → Int32} {q c : Nat} (g : CI N q c) (hv : ∃ v, v < 256 ∧ N 13 = nI v) : CI (rc1 N c) (q + 1) c := by
  unfold rc1
  split
  · obtain ⟨⟨x, y, h1, h2, h3, h4⟩, ⟨r, h5, h6, h7⟩, s, h8, h9, h10⟩ := g
    have o : ∀ z, z ≠ 213 + 40 * c → z ≠ 214 + 40 * c → (sN (sN N (213 + 40 * c) (N (213 + 40 * c) + nI 1)) (214 + 40 * c) (N 13)) z = N z := fun z z1 z2 => by rw [sN_ne z2, sN_ne z1]
    refine ⟨⟨x, y, h1, by omega, ?_, ?_⟩, ⟨r + 1, by omega, ?_, Or.inr ⟨by omega, ?_⟩⟩, s, h8, ?_, ?_⟩
    · rw [o _ (by omega) (by omega)]; exact h3
    · rw [o _ (by omega) (by omega)]; exact h4
    · rw [sN_ne (by omega), sN_eq, h6, nI_add]
    · rw [sN_eq]; exact hv
    · rw [o _ (by omega) (by omega)]; exact h9
    · intro p p1 p2
      rw [o _ (by omega) (by omega)]; exact h10 p p1 p2
  · exact CI_N g (by omega) (fun _ _ _ => rfl)
theorem CI_rc {N : Nat → Int32} {q : Nat} (g : ∀ c, c < 3 → CI N q c) (hv : ∃ v, v < 256 ∧ N 13 = nI v) : ∀ c, c < 3 → CI (rc1 (rc1 (rc1 N 0) 1) 2) (q + 1) c := by
  intro c hc
  have e13 : ∀ M c, c < 3 → rc1 M c 13 = M 13 := fun M c hc => rc1_out (by omega)
  rcases (show c = 0 ∨ c = 1 ∨ c = 2 by omega) with rfl | rfl | rfl
  · exact CI_N (CI_rc1 (g 0 (by omega)) hv) (Nat.le_refl _) (fun x x1 x2 => by rw [rc1_out (by omega), rc1_out (by omega)])
  · exact CI_N (CI_rc1 (CI_N (g 1 (by omega)) (Nat.le_refl _) (fun x x1 x2 => rc1_out (by omega))) (by rw [e13 _ _ (by omega)]; exact hv)) (Nat.le_refl _) (fun x x1 x2 => rc1_out (by omega))
  · exact CI_rc1 (CI_N (g 2 (by omega)) (Nat.le_refl _) (fun x x1 x2 => by rw [rc1_out (by omega), rc1_out (by omega)])) (by rw [e13 _ _ (by omega), e13 _ _ (by omega)]; exact hv)
