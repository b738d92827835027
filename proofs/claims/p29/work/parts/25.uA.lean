/-! the model's row alone: what a row in order is, and that slots keep it so -/
def OM (N : Nat → Int32) (o : Nat) : Prop := (∃ a, a < 128 ∧ N o = nI a) ∧ (N (o + 1) = nI 0 ∨ N (o + 1) = nI 1) ∧ ∃ n, 0 < n ∧ n ≤ 4 ∧ N (o + 2) = nI n ∧ (N (o + 1) = nI 0 → ∀ j, j < n → ∃ x, x < 256 ∧ N (o + 4 + j) = nI x)
def OC (N : Nat → Int32) (k c : Nat) : Prop := ∃ s, s ≤ 4 ∧ N (207 + 40 * c) = nI s ∧ (k ≤ c → s = 0) ∧ ∀ i, i < s → OM N (215 + 40 * c + 8 * i)
def CF (N : Nat → Int32) (k : Nat) : Prop := ∀ c, c < 3 → conB N (nI c) → c < k ∧ ∃ s, s < 4 ∧ N (207 + 40 * c) = nI (s + 1)
/-- callers in order -/
def IV (N : Nat → Int32) (k : Nat) : Prop := (∀ c, c < 3 → OC N k c) ∧ CF N k ∧ S8 N
def OL (N : Nat → Int32) (n : Nat) : Prop := ∀ l, l < 6 → (∃ h, h ≤ 9 ∧ N (327 + 22 * l + 1) = nI h) ∧ (N (327 + 22 * l + 4) = nI 0 ∨ N (327 + 22 * l + 4) = nI 1) ∧ ∃ m p, m ≤ 16 ∧ N (327 + 22 * l + 2) = nI m ∧ N (327 + 22 * l + 3) = nI p ∧ (p < m ∨ p = 0) ∧ (n ≤ l → m = 0 ∧ p = 0 ∧ N (327 + 22 * l + 5) = nI 0)
def LV (N : Nat → Int32) (h : Int32) (j lv : Nat) : Prop := ∀ c, c < 3 → conB N (nI c) → ∃ x, x < 256 ∧ snt N h c = nI x ∧ x / 2 ^ (8 - j) = lv
def BF (N : Nat → Int32) (n : Nat) : Prop := (∃ t, t < n ∧ N 8 = nI t) ∧ (N 14 = nI 0 ∨ N 14 = nI 1) ∧ ∃ d, d < 4 ∧ N 7 = nI d ∧ ∀ c, c < 3 → conB N (nI c) → N (216 + 40 * c) = N 14 ∧ ∃ e, d < e ∧ e ≤ 4 ∧ N (217 + 40 * c) = nI e
theorem OM_S {N M : Nat → Int32} {o o' : Nat} (h : OM N o) (e : ∀ k, k < 8 → k ≠ 3 → M (o' + k) = N (o + k)) : OM M o' := by
  obtain ⟨⟨a, ha, h0⟩, h1, n, hn0, hn, h2, h3⟩ := h
  have e0 := e 0 (by omega) (by omega)
  have e1 := e 1 (by omega) (by omega)
  have e2 := e 2 (by omega) (by omega)
  refine ⟨⟨a, ha, e0.trans h0⟩, ?_, n, hn0, hn, e2.trans h2, ?_⟩
  · rw [e1]; exact h1
  · intro hr j hj
    rw [e1] at hr
    obtain ⟨x, hx, ex⟩ := h3 hr j hj
    have e4 := e (4 + j) (by omega) (by omega)
    rw [← Nat.add_assoc, ← Nat.add_assoc] at e4
    exact ⟨x, hx, e4.trans ex⟩
theorem OC_2 {N M : Nat → Int32} {k c : Nat} (h : OC N k c) (e0 : M (207 + 40 * c) = N (207 + 40 * c)) (e : ∀ x, 215 + 40 * c ≤ x → x < 247 + 40 * c → (x ≠ 218 + 40 * c ∧ x ≠ 226 + 40 * c ∧ x ≠ 234 + 40 * c ∧ x ≠ 242 + 40 * c) → M x = N x) : OC M k c := by
  obtain ⟨s, hs, h1, h2, h3⟩ := h
  refine ⟨s, hs, e0.trans h1, h2, fun i hi => OM_S (h3 i hi) (fun x hx hx3 => e _ (by omega) (by omega) (by omega))⟩
theorem OC_N {N M : Nat → Int32} {k c : Nat} (h : OC N k c) (e : ∀ x, 207 + 40 * c ≤ x → x < 247 + 40 * c → M x = N x) : OC M k c := OC_2 h (e _ (by omega) (by omega)) (fun x h1 h2 _ => e x (by omega) h2)
theorem OC_leaves {N : Nat → Int32} {k c as : Nat} (h0 : 0 < as) (has : as < 5) (h : OC N k c) (hs : ∃ s, s < 4 ∧ N (207 + 40 * c) = nI (s + 1)) : OC (leavesN N c as) k c := by
  obtain ⟨s, hs4, e, hk, hm⟩ := h
  obtain ⟨s', hs', e'⟩ := hs
  have : s = s' + 1 := by
    rw [e, nI_eq (by omega) (by omega)] at e'
    exact e'
  subst this
  refine ⟨s', by omega, ?_, fun q => by have := hk q; omega, ?_⟩
  · rw [leavesN_at has, if_neg (by omega), if_neg (by omega), if_pos rfl, e, pk_m1]
  · intro i hi
    refine OM_S (hm (i + 1) (by omega)) ?_
    intro x hx _
    rw [leavesN_at has, if_pos (by omega)]
    congr 1; omega
theorem clr_self : ∀ s, s < 8 → ∀ c, c < 3 → ¬ conB' (nI s &&& ((nI 1 <<< (nI c &&& 31)) ^^^ (-1))) (nI c) := by decide +kernel
theorem con_loses_self {N : Nat → Int32} {c : Nat} (hc : c < 3) (h : S8 N) : ¬ conB (losesN N c) (nI c) := by
  obtain ⟨s, hs, h5⟩ := h
  unfold conB
  rw [losesN_5, h5]
  exact clr_self s hs c hc
theorem OC_loses {N : Nat → Int32} {k c : Nat} (h : OC N k c) (hs : ∃ s, s < 4 ∧ N (207 + 40 * c) = nI (s + 1)) : OC (losesN N c) k c := by
  rw [losesN_c]
  dsimp only
  have h2 : OC (sN (sN (sN N 5 (N 5 &&& ((nI 1 <<< (nI c &&& 31)) ^^^ (-1)))) (218 + 40 * c) (N (218 + 40 * c) + nI 1)) (212 + 40 * c) (N (212 + 40 * c) + nI 1)) k c := by
    refine OC_2 h ?_ ?_
    · rw [sN_ne (by omega), sN_ne (by omega), sN_ne (by omega)]
    · intro x h1 h2 h3
      rw [sN_ne (by omega), sN_ne (by omega), sN_ne (by omega)]
  split
  · exact h2
  · refine OC_leaves (by omega) (by omega) h2 ?_
    obtain ⟨s, hs4, e⟩ := hs
    exact ⟨s, hs4, by rw [sN_ne (by omega), sN_ne (by omega), sN_ne (by omega)]; exact e⟩
theorem con_loses_iff {N : Nat → Int32} {c c' : Nat} (hc : c < 3) (hc' : c' < 3) (h : S8 N) : conB (losesN N c) (nI c') ↔ conB N (nI c') ∧ c' ≠ c := by
  by_cases e : c' = c
  · subst e
    exact ⟨fun q => absurd q (con_loses_self hc h), fun q => absurd rfl q.2⟩
  · rw [con_loses hc hc' (fun q => e q.symm) h]
    exact ⟨fun q => ⟨q, e⟩, fun q => q.1⟩
theorem IV_loses {N : Nat → Int32} {k c : Nat} (hc : c < 3) (h : IV N k) (hcon : conB N (nI c)) : IV (losesN N c) k := by
  obtain ⟨h1, h2, h3⟩ := h
  refine ⟨?_, ?_, S8_loses hc h3⟩
  · intro c' hc'
    by_cases e : c' = c
    · subst e
      exact OC_loses (h1 c' hc') (h2 c' hc' hcon).2
    · exact OC_N (h1 c' hc') (fun x g1 g2 => losesN_out (by omega) (by omega))
  · intro c' hc' hcon'
    obtain ⟨q1, q2⟩ := (con_loses_iff hc hc' h3).mp hcon'
    obtain ⟨r1, s, r2, r3⟩ := h2 c' hc' q1
    exact ⟨r1, s, r2, by rw [losesN_out (by omega) (by omega)]; exact r3⟩
theorem IV_loseIf {N : Nat → Int32} {h lv : Int32} {k c : Nat} (hc : c < 3) (hi : IV N k) : IV (loseIf N h lv c) k := by
  unfold loseIf; split
  · next q => exact IV_loses hc hi q.1
  · exact hi
theorem con_loseIf {N : Nat → Int32} {h lv : Int32} {c c' : Nat} (hc : c < 3) (hc' : c' < 3) (h8 : S8 N) : conB (loseIf N h lv c) (nI c') ↔ conB N (nI c') ∧ (c' = c → sbt N h c = lv) := by
  unfold loseIf; split
  · next q =>
    rw [con_loses_iff hc hc' h8]
    exact ⟨fun z => ⟨z.1, fun e => absurd e z.2⟩, fun z => ⟨z.1, fun e => q.2 (z.2 e)⟩⟩
  · next q =>
    refine ⟨fun z => ⟨z, fun e => ?_⟩, fun z => z.1⟩
    subst e
    exact Classical.byContradiction (fun y => q ⟨z, y⟩)
theorem reg_loseIf {N : Nat → Int32} {h lv : Int32} {c c' : Nat} (hc : c < 3) (hc' : c' < 3) (h8 : S8 N) (hcon : conB (loseIf N h lv c) (nI c')) : ∀ x, 207 + 40 * c' ≤ x → x < 247 + 40 * c' → loseIf N h lv c x = N x := by
  intro x h1 h2
  unfold loseIf at hcon ⊢
  split
  · next q =>
    rw [if_pos q] at hcon
    have := ((con_loses_iff hc hc' h8).mp hcon).2
    exact losesN_out (by omega) (by omega)
  · rfl
theorem S8_loseIf {N : Nat → Int32} {h lv : Int32} {c : Nat} (hc : c < 3) (h8 : S8 N) : S8 (loseIf N h lv c) := by
  unfold loseIf; split
  · exact S8_loses hc h8
  · exact h8
theorem loseIf_out {N : Nat → Int32} {h lv : Int32} {c k : Nat} (hc : c < 3) (hk : k < 207 ∨ 327 ≤ k) (h5 : k ≠ 5) : loseIf N h lv c k = N k := by
  unfold loseIf; split
  · exact losesN_out (by omega) h5
  · rfl
theorem sbt_reg {N M : Nat → Int32} {h : Int32} {c : Nat} (e6 : M 6 = N 6) (e7 : M 7 = N 7) (hd : h = 0 → dnOk N) (e : ∀ x, 207 + 40 * c ≤ x → x < 247 + 40 * c → M x = N x) : snt M h c = snt N h c ∧ sbt M h c = sbt N h c := by
  have : snt M h c = snt N h c := by
    unfold snt hdr
    rw [e7, e (215 + 40 * c) (by omega) (by omega), e (216 + 40 * c) (by omega) (by omega)]
    by_cases hh : h = 0
    · obtain ⟨dn, hdn, ed⟩ := hd hh
      rw [if_pos hh, if_pos hh, ed, cl_nI (by omega), e _ (by omega) (by omega)]
    · rw [if_neg hh, if_neg hh]
  refine ⟨this, ?_⟩
  unfold sbt
  rw [this, e6]
theorem sbt_loseIf {N : Nat → Int32} {h lv : Int32} {c c' : Nat} (hn : c ≠ c') (hd : h = 0 → dnOk N) : sbt (loseIf N h lv c) h c' = sbt N h c' := by
  unfold loseIf; split
  · exact (sbt_reg (losesN_out (by omega) (by omega)) (losesN_out (by omega) (by omega)) hd (fun x h1 h2 => losesN_out (by omega) (by omega))).2
  · rfl
theorem IV_loseAll {N : Nat → Int32} {h lv : Int32} {k : Nat} (hi : IV N k) : IV (loseAll N h lv) k := IV_loseIf (by omega) (IV_loseIf (by omega) (IV_loseIf (by omega) hi))
theorem loseAll_out {N : Nat → Int32} {h lv : Int32} {k : Nat} (hk : k < 207 ∨ 327 ≤ k) (h5 : k ≠ 5) : loseAll N h lv k = N k := by
  unfold loseAll
  rw [loseIf_out (by omega) hk h5, loseIf_out (by omega) hk h5, loseIf_out (by omega) hk h5]
/-- who is left has sent the level -/
theorem con_loseAll {N : Nat → Int32} {h lv : Int32} {c : Nat} (hc : c < 3) (h8 : S8 N) (hd : h = 0 → dnOk N) : conB (loseAll N h lv) (nI c) ↔ conB N (nI c) ∧ sbt N h c = lv := by
  have a1 : S8 (loseIf N h lv 0) := S8_loseIf (by omega) h8
  have a2 : S8 (loseIf (loseIf N h lv 0) h lv 1) := S8_loseIf (by omega) a1
  have d1 : h = 0 → dnOk (loseIf N h lv 0) := fun q => dnOk_loseIf (hd q)
  unfold loseAll
  rw [con_loseIf (by omega) hc a2, con_loseIf (by omega) hc a1, con_loseIf (by omega) hc h8, sbt_loseIf (by omega) d1, sbt_loseIf (N := N) (by omega) hd, sbt_loseIf (N := N) (by omega) hd]
  rcases (show c = 0 ∨ c = 1 ∨ c = 2 by omega) with rfl | rfl | rfl
  · exact ⟨fun z => ⟨z.1.1.1, z.1.1.2 rfl⟩, fun z => ⟨⟨⟨z.1, fun _ => z.2⟩, fun q => absurd q (by omega)⟩, fun q => absurd q (by omega)⟩⟩
  · exact ⟨fun z => ⟨z.1.1.1, z.1.2 rfl⟩, fun z => ⟨⟨⟨z.1, fun q => absurd q (by omega)⟩, fun _ => z.2⟩, fun q => absurd q (by omega)⟩⟩
  · exact ⟨fun z => ⟨z.1.1.1, z.2 rfl⟩, fun z => ⟨⟨⟨z.1, fun q => absurd q (by omega)⟩, fun q => absurd q (by omega)⟩, fun _ => z.2⟩⟩
theorem reg_loseAll {N : Nat → Int32} {h lv : Int32} {c : Nat} (hc : c < 3) (h8 : S8 N) (hcon : conB (loseAll N h lv) (nI c)) : ∀ x, 207 + 40 * c ≤ x → x < 247 + 40 * c → loseAll N h lv x = N x := by
  intro x g1 g2
  have a1 : S8 (loseIf N h lv 0) := S8_loseIf (by omega) h8
  have a2 : S8 (loseIf (loseIf N h lv 0) h lv 1) := S8_loseIf (by omega) a1
  unfold loseAll at hcon ⊢
  have c2 := ((con_loseIf (by omega) hc a2).mp hcon).1
  have c1 := ((con_loseIf (by omega) hc a1).mp c2).1
  rw [reg_loseIf (by omega) hc a2 hcon x g1 g2, reg_loseIf (by omega) hc a1 c2 x g1 g2, reg_loseIf (by omega) hc h8 c1 x g1 g2]
theorem con_exD : ∀ s, s < 8 → (nI s ≠ nI 0 ↔ (conB' (nI s) (nI 0) ∨ conB' (nI s) (nI 1) ∨ conB' (nI s) (nI 2))) := by decide +kernel
theorem con_ex {N : Nat → Int32} (h : S8 N) : N 5 ≠ nI 0 ↔ ∃ c, c < 3 ∧ conB N (nI c) := by
  obtain ⟨s, hs, h5⟩ := h
  rw [h5, con_exD s hs, ← h5]
  constructor
  · rintro (q | q | q)
    · exact ⟨0, by omega, q⟩
    · exact ⟨1, by omega, q⟩
    · exact ⟨2, by omega, q⟩
  · rintro ⟨c, hc, q⟩
    rcases (show c = 0 ∨ c = 1 ∨ c = 2 by omega) with rfl | rfl | rfl
    · exact Or.inl q
    · exact Or.inr (Or.inl q)
    · exact Or.inr (Or.inr q)
theorem lvl_01 (N : Nat → Int32) (h : Int32) : lvl N h = nI 0 ∨ lvl N h = nI 1 := by
  rw [lvl_1]; split
  · exact Or.inr rfl
  · exact Or.inl rfl
/-- somebody has sent the level -/
theorem lvl_ex {N : Nat → Int32} {h : Int32} (h8 : S8 N) (h5 : N 5 ≠ nI 0) : ∃ c, c < 3 ∧ conB N (nI c) ∧ sbt N h c = lvl N h := by
  rw [lvl_1]
  by_cases q : (conB N (nI 0) → sbt N h 0 = nI 1) ∧ (conB N (nI 1) → sbt N h 1 = nI 1) ∧ (conB N (nI 2) → sbt N h 2 = nI 1)
  · rw [if_pos q]
    obtain ⟨c, hc, hcon⟩ := (con_ex h8).mp h5
    refine ⟨c, hc, hcon, ?_⟩
    rcases (show c = 0 ∨ c = 1 ∨ c = 2 by omega) with rfl | rfl | rfl
    · exact q.1 hcon
    · exact q.2.1 hcon
    · exact q.2.2 hcon
  · rw [if_neg q]
    refine Classical.byContradiction (fun z => q ?_)
    have z' : ∀ c, c < 3 → conB N (nI c) → sbt N h c = nI 1 := by
      intro c hc hcon
      rcases bitv N h c with b | b
      · exact absurd ⟨c, hc, hcon, b⟩ z
      · exact b
    exact ⟨z' 0 (by omega), z' 1 (by omega), z' 2 (by omega)⟩
theorem loseAll_5 {N : Nat → Int32} {h : Int32} {k : Nat} (hi : IV N k) (hd : h = 0 → dnOk N) (h5 : N 5 ≠ nI 0) : loseAll N h (lvl N h) 5 ≠ nI 0 := by
  rw [con_ex (IV_loseAll hi).2.2]
  obtain ⟨c, hc, h1, h2⟩ := lvl_ex (h := h) hi.2.2 h5
  exact ⟨c, hc, (con_loseAll hc hi.2.2 hd).mpr ⟨h1, h2⟩⟩
theorem bit_of : ∀ j, j < 8 → ∀ x, x < 256 → (nI x >>> ((nI 7 - nI j) &&& 31)) &&& nI 1 = nI (x / 2 ^ (7 - j) % 2) := by decide +kernel
theorem LV_bit {N : Nat → Int32} {h : Int32} {k j lv bt : Nat} (hi : IV N k) (hd : h = 0 → dnOk N) (hj : j < 8) (h6 : N 6 = nI j) (hv : LV N h j lv) (hb : lvl N h = nI bt) (hbt : bt < 2) {M : Nat → Int32} (eM : ∀ x, x ≠ 4 → x ≠ 6 → M x = loseAll N h (lvl N h) x) : LV M h (j + 1) (2 * lv + bt) := by
  intro c hc hcon
  have e5 : M 5 = loseAll N h (lvl N h) 5 := eM 5 (by omega) (by omega)
  have hcon' : conB (loseAll N h (lvl N h)) (nI c) := by
    unfold conB at hcon ⊢; rw [← e5]; exact hcon
  obtain ⟨q1, q2⟩ := (con_loseAll hc hi.2.2 hd).mp hcon'
  obtain ⟨x, hx, ex, ev⟩ := hv c hc q1
  have er := reg_loseAll hc hi.2.2 hcon'
  have es : snt M h c = snt N h c := by
    have e7 : M 7 = N 7 := (eM 7 (by omega) (by omega)).trans (loseAll_out (by omega) (by omega))
    have er' : ∀ x, 207 + 40 * c ≤ x → x < 247 + 40 * c → M x = N x := fun x g1 g2 => (eM x (by omega) (by omega)).trans (er x g1 g2)
    unfold snt hdr
    rw [e7, er' (215 + 40 * c) (by omega) (by omega), er' (216 + 40 * c) (by omega) (by omega)]
    by_cases hh : h = 0
    · obtain ⟨dn, hdn, ed⟩ := hd hh
      rw [if_pos hh, if_pos hh, ed, cl_nI (by omega), er' _ (by omega) (by omega)]
    · rw [if_neg hh, if_neg hh]
  refine ⟨x, hx, es.trans ex, ?_⟩
  have eb : nI (x / 2 ^ (7 - j) % 2) = nI bt := by
    rw [← bit_of j hj x hx, ← hb, ← q2]
    unfold sbt
    rw [ex, h6]
  rw [nI_eq (by omega) (by omega)] at eb
  have e1 : x / 2 ^ (8 - j) = x / 2 ^ (7 - j) / 2 := by
    rw [Nat.div_div_eq_div_mul, ← Nat.pow_succ, show 8 - j = (7 - j).succ from by omega]
  rw [show 8 - (j + 1) = 7 - j from by omega]
  rw [e1] at ev
  omega
/-! messages that have all their bytes -/
theorem fin1_5 {N : Nat → Int32} {c : Nat} : fin1 N c 5 = if conB N (nI c) ∧ N (217 + 40 * c) = N 7 then N 5 &&& ((nI 1 <<< (nI c &&& 31)) ^^^ (-1)) else N 5 := by
  unfold fin1; split
  · rw [sN_eq, leavesN_out (by omega) (by omega)]
  · rfl
theorem S8_fin1 {N : Nat → Int32} {c : Nat} (hc : c < 3) (h : S8 N) : S8 (fin1 N c) := by
  obtain ⟨s, hs, h5⟩ := h
  unfold S8
  rw [fin1_5]
  split
  · obtain ⟨s', hs', e⟩ := clr_lt s hs c hc
    exact ⟨s', hs', by rw [h5, e]⟩
  · exact ⟨s, hs, h5⟩
theorem con_fin1 {N : Nat → Int32} {c c' : Nat} (hc : c < 3) (hc' : c' < 3) (h8 : S8 N) : conB (fin1 N c) (nI c') ↔ conB N (nI c') ∧ (c' = c → N (217 + 40 * c) ≠ N 7) := by
  obtain ⟨s, hs, h5⟩ := h8
  unfold conB
  rw [fin1_5]
  split
  · next q =>
    rw [h5]
    by_cases e : c' = c
    · subst e
      exact ⟨fun z => absurd z (clr_self s hs c' hc), fun z => absurd q.2 (z.2 rfl)⟩
    · rw [clr_bit s hs c hc c' hc' (fun z => e z.symm)]
      exact ⟨fun z => ⟨z, fun y => absurd y e⟩, fun z => z.1⟩
  · next q =>
    refine ⟨fun z => ⟨z, fun e => ?_⟩, fun z => z.1⟩
    subst e
    exact fun y => q ⟨z, y⟩
theorem fin1_out {N : Nat → Int32} {c k : Nat} (h : k < 207 + 40 * c ∨ 247 + 40 * c ≤ k) (h5 : k ≠ 5) : fin1 N c k = N k := by
  unfold fin1; split
  · rw [sN_ne h5, leavesN_out (by omega) h]
  · rfl
theorem reg_fin1 {N : Nat → Int32} {c c' : Nat} (hc : c < 3) (hc' : c' < 3) (h8 : S8 N) (hcon : conB (fin1 N c) (nI c')) : ∀ x, 207 + 40 * c' ≤ x → x < 247 + 40 * c' → fin1 N c x = N x := by
  intro x h1 h2
  by_cases e : c' = c
  · subst e
    have := (con_fin1 hc hc' h8).mp hcon
    unfold fin1
    rw [if_neg (fun q => this.2 rfl q.2)]
  · exact fin1_out (by omega) (by omega)
theorem IV_fin1 {N : Nat → Int32} {k c : Nat} (hc : c < 3) (hi : IV N k) : IV (fin1 N c) k := by
  obtain ⟨h1, h2, h3⟩ := hi
  refine ⟨?_, ?_, S8_fin1 hc h3⟩
  · intro c' hc'
    by_cases e : c' = c
    · subst e
      unfold fin1; split
      · next q => exact OC_N (OC_leaves (by omega) (by omega) (h1 c' hc') (h2 c' hc' q.1).2) (fun x g1 g2 => sN_ne (by omega))
      · exact h1 c' hc'
    · exact OC_N (h1 c' hc') (fun x g1 g2 => fin1_out (by omega) (by omega))
  · intro c' hc' hcon'
    obtain ⟨r1, s, r2, r3⟩ := h2 c' hc' ((con_fin1 hc hc' h3).mp hcon').1
    exact ⟨r1, s, r2, by rw [reg_fin1 hc hc' h3 hcon' _ (by omega) (by omega)]; exact r3⟩
theorem IV_finN {N : Nat → Int32} {k : Nat} (hi : IV N k) : IV (finN N) k := IV_fin1 (by omega) (IV_fin1 (by omega) (IV_fin1 (by omega) hi))
theorem finN_out {N : Nat → Int32} {k : Nat} (hk : k < 207 ∨ 327 ≤ k) (h5 : k ≠ 5) : finN N k = N k := by
  unfold finN
  rw [fin1_out (by omega) h5, fin1_out (by omega) h5, fin1_out (by omega) h5]
theorem con_finN {N : Nat → Int32} {c : Nat} (hc : c < 3) (h8 : S8 N) : conB (finN N) (nI c) ↔ conB N (nI c) ∧ N (217 + 40 * c) ≠ N 7 := by
  have a1 : S8 (fin1 N 0) := S8_fin1 (by omega) h8
  have a2 : S8 (fin1 (fin1 N 0) 1) := S8_fin1 (by omega) a1
  unfold finN
  rw [con_fin1 (by omega) hc a2, con_fin1 (by omega) hc a1, con_fin1 (by omega) hc h8, fin1_out (k := 217 + 40 * 2) (by omega) (by omega), fin1_out (k := 217 + 40 * 2) (by omega) (by omega), fin1_out (k := 7) (by omega) (by omega), fin1_out (k := 7) (by omega) (by omega), fin1_out (k := 7) (by omega) (by omega), fin1_out (k := 217 + 40 * 1) (by omega) (by omega)]
  rcases (show c = 0 ∨ c = 1 ∨ c = 2 by omega) with rfl | rfl | rfl
  · exact ⟨fun z => ⟨z.1.1.1, z.1.1.2 rfl⟩, fun z => ⟨⟨⟨z.1, fun _ => z.2⟩, fun q => absurd q (by omega)⟩, fun q => absurd q (by omega)⟩⟩
  · exact ⟨fun z => ⟨z.1.1.1, z.1.2 rfl⟩, fun z => ⟨⟨⟨z.1, fun q => absurd q (by omega)⟩, fun _ => z.2⟩, fun q => absurd q (by omega)⟩⟩
  · exact ⟨fun z => ⟨z.1.1.1, z.2 rfl⟩, fun z => ⟨⟨⟨z.1, fun q => absurd q (by omega)⟩, fun q => absurd q (by omega)⟩, fun _ => z.2⟩⟩
theorem reg_finN {N : Nat → Int32} {c : Nat} (hc : c < 3) (h8 : S8 N) (hcon : conB (finN N) (nI c)) : ∀ x, 207 + 40 * c ≤ x → x < 247 + 40 * c → finN N x = N x := by
  intro x g1 g2
  have a1 : S8 (fin1 N 0) := S8_fin1 (by omega) h8
  have a2 : S8 (fin1 (fin1 N 0) 1) := S8_fin1 (by omega) a1
  unfold finN at hcon ⊢
  have c2 := ((con_fin1 (by omega) hc a2).mp hcon).1
  have c1 := ((con_fin1 (by omega) hc a1).mp c2).1
  rw [reg_fin1 (by omega) hc a2 hcon x g1 g2, reg_fin1 (by omega) hc a1 c2 x g1 g2, reg_fin1 (by omega) hc h8 c1 x g1 g2]
/-- alike but for the contenders -/
def AG (N M : Nat → Int32) : Prop := ∀ j, j ≠ 5 → N j = M j
theorem AG_leaves {N M : Nat → Int32} {c as : Nat} (has : as < 5) (h : AG N M) : AG (leavesN N c as) (leavesN M c as) := by
  intro j hj
  rw [leavesN_at has, leavesN_at has, h j hj]
  by_cases q : 215 + 40 * c ≤ j ∧ j < 239 + 40 * c
  · rw [if_pos q, if_pos q, h _ (by omega)]
  · rw [if_neg q, if_neg q]
theorem AG_fin1 {N M : Nat → Int32} {o : Int32} {c : Nat} (h : AG N M) (ho : conB' o (nI c) ↔ conB N (nI c) ∧ N (217 + 40 * c) = N 7) : AG (fin1 N c) (en1 M o 1 c) := by
  intro j hj
  unfold fin1 en1
  by_cases q : conB' o (nI c)
  · rw [if_pos q, if_pos (ho.mp q), sN_ne hj]
    exact AG_leaves (by omega) h j hj
  · rw [if_neg q, if_neg (fun z => q (ho.mpr z))]
    exact h j hj
theorem AG_finN {N : Nat → Int32} {o : Int32} (h8 : S8 N) (ho : ∀ c, c < 3 → (conB' o (nI c) ↔ conB N (nI c) ∧ N (217 + 40 * c) = N 7)) : AG (finN N) (enK N o 1 3) := by
  have a1 : S8 (fin1 N 0) := S8_fin1 (by omega) h8
  have a2 : S8 (fin1 (fin1 N 0) 1) := S8_fin1 (by omega) a1
  unfold finN enK
  simp only [show ¬ (3 = 1) by decide, show ¬ (3 = 2) by decide, if_false]
  refine AG_fin1 (AG_fin1 (AG_fin1 (fun j _ => rfl) (ho 0 (by omega))) ?_) ?_
  · rw [ho 1 (by omega), con_fin1 (by omega) (by omega) h8, fin1_out (k := 217 + 40 * 1) (by omega) (by omega), fin1_out (k := 7) (by omega) (by omega)]
    exact ⟨fun z => ⟨⟨z.1, fun q => absurd q (by omega)⟩, z.2⟩, fun z => ⟨z.1.1, z.2⟩⟩
  · rw [ho 2 (by omega), con_fin1 (by omega) (by omega) a1, con_fin1 (by omega) (by omega) h8, fin1_out (k := 217 + 40 * 2) (by omega) (by omega), fin1_out (k := 217 + 40 * 2) (by omega) (by omega), fin1_out (N := fin1 N 0) (k := 7) (by omega) (by omega), fin1_out (N := N) (k := 7) (by omega) (by omega)]
    exact ⟨fun z => ⟨⟨⟨z.1, fun q => absurd q (by omega)⟩, fun q => absurd q (by omega)⟩, z.2⟩, fun z => ⟨z.1.1.1, z.2⟩⟩
theorem moreK_3 {N : Nat → Int32} {dn : Int32} {k : Nat} (hk0 : 0 < k) (hk : k ≤ 3) (hco : ∀ c, c < 3 → conB N (nI c) → c < k) : moreK N dn k = moreK N dn 3 := by
  have no : ∀ c o, ¬ conB N (nI c) → more1 N dn o c = o := fun c o q => by unfold more1; rw [if_neg (fun z => q z.1)]
  unfold moreK
  rcases (show k = 1 ∨ k = 2 ∨ k = 3 by omega) with rfl | rfl | rfl
  · simp only [if_true, show ¬ (3 = 1) by decide, show ¬ (3 = 2) by decide, if_false]
    rw [no 2 _ (fun q => absurd (hco 2 (by omega) q) (by omega)), no 1 _ (fun q => absurd (hco 1 (by omega) q) (by omega))]
  · simp only [if_true, show ¬ (2 = 1) by decide, show ¬ (3 = 1) by decide, show ¬ (3 = 2) by decide, if_false]
    rw [no 2 _ (fun q => absurd (hco 2 (by omega) q) (by omega))]
  · rfl
theorem moreK_set (N : Nat → Int32) (dn : Int32) : moreK N dn 3 = set3 (decide (conB N (nI 0) ∧ ¬ N (217 + 40 * 0) ≤ dn)) (decide (conB N (nI 1) ∧ ¬ N (217 + 40 * 1) ≤ dn)) (decide (conB N (nI 2) ∧ ¬ N (217 + 40 * 2) ≤ dn)) := by
  rw [← set3_or]
  unfold moreK more1
  simp only [decide_eq_true_eq, show ¬ (3 = 1) by decide, show ¬ (3 = 2) by decide, if_false]
theorem set3_con {N : Nat → Int32} (h : S8 N) : N 5 = set3 (decide (conB N (nI 0))) (decide (conB N (nI 1))) (decide (conB N (nI 2))) := by
  obtain ⟨s, hs, h5⟩ := h
  have := set3_of s hs
  rw [← h5] at this
  exact this
theorem finV_0 : ∀ p q r : Bool, ((nI 0 + (if p = true then nI 1 else nI 0)) + (if q = true then nI 1 else nI 0)) + (if r = true then nI 1 else nI 0) = 0 ↔ set3 p q r = nI 0 := by decide +kernel
theorem finV_5 {N : Nat → Int32} (h8 : S8 N) : finV N = 0 ↔ finN N 5 = nI 0 := by
  have a1 : S8 (fin1 N 0) := S8_fin1 (by omega) h8
  have a2 : S8 (fin1 (fin1 N 0) 1) := S8_fin1 (by omega) a1
  have a3 : S8 (finN N) := S8_fin1 (by omega) a2
  rw [set3_con a3, ← finV_0]
  unfold finV fin1v finN
  have e0 : conB (fin1 (fin1 (fin1 N 0) 1) 2) (nI 0) ↔ conB (fin1 N 0) (nI 0) := by
    rw [con_fin1 (by omega) (by omega) a2, con_fin1 (by omega) (by omega) a1]
    exact ⟨fun z => z.1.1, fun z => ⟨⟨z, fun q => absurd q (by omega)⟩, fun q => absurd q (by omega)⟩⟩
  have e1 : conB (fin1 (fin1 (fin1 N 0) 1) 2) (nI 1) ↔ conB (fin1 (fin1 N 0) 1) (nI 1) := by
    rw [con_fin1 (by omega) (by omega) a2]
    exact ⟨fun z => z.1, fun z => ⟨z, fun q => absurd q (by omega)⟩⟩
  simp only [decide_eq_true_eq]
  simp only [e0, e1]
