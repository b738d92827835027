/-! the text: what it says, and how the class reads its numbers -/
def chN (len : Nat) (tx : Nat → Nat) (p : Nat) : Int32 := if p < len then nI (tx p) else -1
abbrev dgN (len : Nat) (tx : Nat → Nat) (p : Nat) : Prop := p < len ∧ 48 ≤ tx p ∧ tx p ≤ 57
/-- the value of k digits -/
def vvN (tx : Nat → Nat) (p : Nat) : Nat → Nat
  | 0 => 0
  | k + 1 => 10 * vvN tx p k + (tx (p + k) - 48)
/-- how many digits, at most three -/
def ndN (len : Nat) (tx : Nat → Nat) (p : Nat) : Nat := if dgN len tx p then (if dgN len tx (p + 1) then (if dgN len tx (p + 2) then 3 else 2) else 1) else 0
/-- the fault of a number, of a sign between two, of a sign -/
def nfN (len : Nat) (tx : Nat → Nat) (p lo hi : Nat) : Option Nat := if ndN len tx p = 0 then some p else if dgN len tx (p + ndN len tx p) then some (p + ndN len tx p) else if lo ≤ vvN tx p (ndN len tx p) ∧ vvN tx p (ndN len tx p) ≤ hi then none else some p
def odN (len : Nat) (tx : Nat → Nat) (p a b : Nat) : Option Nat := if p < len ∧ a ≤ tx p ∧ tx p ≤ b then none else some p
def osN (len : Nat) (tx : Nat → Nat) (p c : Nat) : Option Nat := if p < len ∧ tx p = c then none else some p
theorem ndN_le (len : Nat) (tx : Nat → Nat) (p : Nat) : ndN len tx p ≤ 3 := by 
  unfold ndN
  split
  · split
    · split <;> omega
    · omega
  · omega
theorem ndN_dg {len : Nat} {tx : Nat → Nat} {p k : Nat} (h : k < ndN len tx p) : dgN len tx (p + k) := by
  unfold ndN at h
  by_cases g0 : dgN len tx p
  · rw [if_pos g0] at h
    by_cases g1 : dgN len tx (p + 1)
    · rw [if_pos g1] at h
      by_cases g2 : dgN len tx (p + 2)
      · rw [if_pos g2] at h
        rcases (show k = 0 ∨ k = 1 ∨ k = 2 by omega) with rfl | rfl | rfl
        · exact g0
        · exact g1
        · exact g2
      · rw [if_neg g2] at h
        rcases (show k = 0 ∨ k = 1 by omega) with rfl | rfl
        · exact g0
        · exact g1
    · rw [if_neg g1] at h
      have : k = 0 := by omega
      subst this; exact g0
  · rw [if_neg g0] at h; omega
theorem ndN_end {len : Nat} {tx : Nat → Nat} {p : Nat} (h : ndN len tx p < 3) : ¬ dgN len tx (p + ndN len tx p) := by
  unfold ndN at h ⊢
  by_cases g0 : dgN len tx p
  · rw [if_pos g0] at h ⊢
    by_cases g1 : dgN len tx (p + 1)
    · rw [if_pos g1] at h ⊢
      by_cases g2 : dgN len tx (p + 2)
      · rw [if_pos g2] at h; omega
      · rw [if_neg g2]; exact g2
    · rw [if_neg g1]; exact g1
  · rw [if_neg g0]; exact g0
theorem vvN_le {len : Nat} {tx : Nat → Nat} {p : Nat} : ∀ k, k ≤ 3 → (∀ j, j < k → dgN len tx (p + j)) → vvN tx p k ≤ 999 ∧ (k ≤ 2 → vvN tx p k ≤ 99) ∧ (k ≤ 1 → vvN tx p k ≤ 9) ∧ (k = 0 → vvN tx p k = 0) := by
  have one : ∀ k, (∀ j, j < k + 1 → dgN len tx (p + j)) → tx (p + k) - 48 ≤ 9 := fun k h => by have := h k (by omega); omega
  intro k hk h
  rcases (show k = 0 ∨ k = 1 ∨ k = 2 ∨ k = 3 by omega) with rfl | rfl | rfl | rfl
  · exact ⟨Nat.zero_le _, fun _ => Nat.zero_le _, fun _ => Nat.zero_le _, fun _ => rfl⟩
  · have a0 := one 0 (fun j hj => h j (by omega))
    simp only [vvN]; omega
  · have a0 := one 0 (fun j hj => h j (by omega))
    have a1 := one 1 (fun j hj => h j (by omega))
    simp only [vvN]; omega
  · have a0 := one 0 (fun j hj => h j (by omega))
    have a1 := one 1 (fun j hj => h j (by omega))
    have a2 := one 2 (fun j hj => h j (by omega))
    simp only [vvN]; omega
theorem vvN_nd (len : Nat) (tx : Nat → Nat) (p : Nat) : vvN tx p (ndN len tx p) ≤ 999 := (vvN_le _ (ndN_le len tx p) (fun _ hj => ndN_dg hj)).1
theorem chN_lt {len : Nat} {tx : Nat → Nat} {p : Nat} (h : p < len) : chN len tx p = nI (tx p) := by unfold chN; rw [if_pos h]
theorem chN_ge {len : Nat} {tx : Nat → Nat} {p : Nat} (h : ¬ p < len) : chN len tx p = -1 := by unfold chN; rw [if_neg h]
theorem chN_eq {len : Nat} {tx : Nat → Nat} {p c : Nat} (hx : ∀ j, j < len → tx j < 128) (hc : c < 128) : chN len tx p = nI c ↔ (p < len ∧ tx p = c) := by
  by_cases g : p < len
  · have := hx p g
    rw [chN_lt g, nI_eq (by omega) (by omega)]
    exact ⟨fun e => ⟨g, e⟩, fun e => e.2⟩
  · rw [chN_ge g]
    constructor
    · intro e
      have e2 := congrArg Int32.toInt e
      rw [nI_toInt (by omega), show (-1 : Int32).toInt = -1 from by decide] at e2
      omega
    · rintro ⟨e, -⟩; exact absurd e g
theorem chN_le {len : Nat} {tx : Nat → Nat} {p c : Nat} (hx : ∀ j, j < len → tx j < 128) (hc : c < 128) : nI c ≤ chN len tx p ↔ (p < len ∧ c ≤ tx p) := by
  by_cases g : p < len
  · have := hx p g
    rw [chN_lt g, nI_leI (by omega) (by omega)]
    exact ⟨fun e => ⟨g, e⟩, fun e => e.2⟩
  · rw [chN_ge g]
    constructor
    · intro e
      rw [Int32.le_iff_toInt_le, nI_toInt (by omega), show (-1 : Int32).toInt = -1 from by decide] at e
      omega
    · rintro ⟨e, -⟩; exact absurd e g
/-- the text in the memory: the object at t, its bytes at ta -/
def TXT (w : Wd) (P : MP) (t ta len : Nat) (tx : Nat → Nat) (I : MI) : Prop := w.1 t = some (4, 0) ∧ w.1 ta = some (8, 100) ∧ P t 0 = some ta ∧ t ≠ ta ∧ len ≤ 100 ∧ I t 1 = nI len ∧ ∀ j, j < len → tx j < 128 ∧ I ta j = nI (tx j)
theorem TXT_wr {w : Wd} {P : MP} {t ta len : Nat} {tx : Nat → Nat} {I : MI} {X : Nat → Int32} (h : TXT w P t ta len tx I) (e : X 1 = I t 1) : TXT w P t ta len tx (wr I t X) := by
  obtain ⟨h1, h2, h3, h4, h5, h6, h7⟩ := h
  refine ⟨h1, h2, h3, h4, h5, by rw [wr_same, e]; exact h6, fun j hj => ⟨(h7 j hj).1, by rw [wr_ne _ _ h4.symm]; exact (h7 j hj).2⟩⟩
section
variable {w : Wd} {P : MP} {t ta len : Nat} {tx : Nat → Nat} {I : MI} {L : ML}
theorem TXT_x (h : TXT w P t ta len tx I) : ∀ j, j < len → tx j < 128 := fun j hj => (h.2.2.2.2.2.2 j hj).1
theorem cl_nB (h : TXT w P t ta len tx I) {p : Nat} (hp : p < 2000) (h2 : I t 2 = nI p) : call 78 [.ref t] w I L P = some (.inl (some (.int (chN len tx p))), w, I, L, P) := by
  obtain ⟨t0, a0, p0, -, h5, h6, h7⟩ := h
  rw [Text_nextByte_E, Text_nextByte_0 _ _ _ _ _ t0, h2, if_neg (nI_pos (by omega)), Text_nextByte_7 _ _ _ _ _ t0, h2, h6]
  by_cases g : p < len
  · rw [if_neg (nI_ge g (by omega)), Text_nextByte_18 _ _ _ _ _ t0, p0, rf_some, h2, Text_nextByte_26 _ _ _ _ _ _ _ (isAr_of a0), alen_of a0, if_neg (nI_ge (by omega) (by omega)), Text_nextByte_30 _ _ _ _ _ t0, p0, rf_some, Text_nextByte_34 _ _ _ _ _ _ t0 (by rw [h2]; exact inA_nI a0 (by omega) (by omega)), h2, cl_nI (by omega), (h7 p g).2, Text_nextByte_43, chN_lt g]
  · rw [if_pos (nI_le (by omega) (by omega)), Text_nextByte_42, Text_nextByte_43, chN_ge g]
theorem cl_iD (hx : ∀ j, j < len → tx j < 128) (p : Nat) : call 77 [.int (chN len tx p)] w I L P = some (.inl (some (.int (if dgN len tx p then nI 1 else nI 0))), w, I, L, P) := by
  rw [Text_isDigit_E, Text_isDigit_0]
  by_cases g : p < len
  · have := hx p g
    rw [chN_lt g]
    by_cases g1 : tx p < 48
    · rw [if_pos (nI_lt g1 (by omega)), Text_isDigit_16, Text_isDigit_17 _ _ _ _ _ _ b01, if_neg (by omega)]
    · rw [if_neg (nI_nlt (by omega) (by omega)), Text_isDigit_6]
      by_cases g2 : 57 < tx p
      · rw [if_pos (nI_lt g2 (by omega)), Text_isDigit_16, Text_isDigit_17 _ _ _ _ _ _ b01, if_neg (by omega)]
      · rw [if_neg (nI_nlt (by omega) (by omega)), Text_isDigit_12, Text_isDigit_17 _ _ _ _ _ _ b11, if_pos (by omega)]
  · rw [chN_ge g, if_pos (by decide), Text_isDigit_16, Text_isDigit_17 _ _ _ _ _ _ b01, if_neg (by omega)]
theorem cl_tf (h : TXT w P t ta len tx I) (x : Int32) : call 76 [.ref t, .int x] w I L P = some (.inl (some (.int (nI 0))), w, wr I t (sN (I t) 3 x), L, P) := by
  rw [Text_fail_E, Text_fail_0 _ _ _ _ _ _ h.1 b01, updI_wr]
theorem cl_tit (h : TXT w P t ta len tx I) {p c : Nat} (hp : p < 2000) (hc : c < 128) (h2 : I t 2 = nI p) : call 75 [.ref t, .int (nI c)] w I L P = if p < len ∧ tx p = c then some (.inl (some (.int (nI 1))), w, wr I t (sN (I t) 2 (nI (p + 1))), L, P) else some (.inl (some (.int (nI 0))), w, I, L, P) := by
  rw [Text_takeIfThere_E, Text_takeIfThere_0 _ _ _ _ _ _ h.1, cl_nB h hp h2]
  simp only [kC_ret, Option.toList, List.cons_append, List.nil_append, fix1_int, fix1_ref, fix1_unk, fix1_null, fix1_long]
  rw [Text_takeIfThere_4]
  by_cases g : p < len ∧ tx p = c
  · rw [if_pos ((chN_eq (TXT_x h) hc).mpr g), if_pos g, Text_takeIfThere_10 _ _ _ _ _ _ h.1 b11, updI_wr, h2, nI_add]
  · rw [if_neg (fun e => g ((chN_eq (TXT_x h) hc).mp e)), if_neg g, Text_takeIfThere_8 _ _ _ _ _ _ b01]
theorem cl_take (h : TXT w P t ta len tx I) {p c : Nat} (hp : p < 2000) (hc : c < 128) (h2 : I t 2 = nI p) : call 74 [.ref t, .int (nI c)] w I L P = if p < len ∧ tx p = c then some (.inl (some (.int (nI 1))), w, wr I t (sN (I t) 2 (nI (p + 1))), L, P) else some (.inl (some (.int (nI 0))), w, wr I t (sN (I t) 3 (nI p)), L, P) := by
  rw [Text_take_E, Text_take_0 _ _ _ _ _ _ h.1, cl_tit h hp hc h2]
  by_cases g : p < len ∧ tx p = c
  · rw [if_pos g, if_pos g]
    simp only [kC_ret, Option.toList, List.cons_append, List.nil_append, fix1_int, fix1_ref, fix1_unk, fix1_null, fix1_long]
    rw [Text_take_5, if_pos n10, Text_take_19, Text_take_24 _ _ _ _ _ _ _ b11]
  · rw [if_neg g, if_neg g]
    simp only [kC_ret, Option.toList, List.cons_append, List.nil_append, fix1_int, fix1_ref, fix1_unk, fix1_null, fix1_long]
    rw [Text_take_5, if_neg (by simp [n00]), Text_take_8 _ _ _ _ _ _ h.1, h2, cl_tf h]
    simp only [kC_ret, Option.toList, List.cons_append, List.nil_append, fix1_int, fix1_ref, fix1_unk, fix1_null, fix1_long]
    rw [Text_take_16, if_pos n00, Text_take_23, Text_take_24 _ _ _ _ _ _ _ b01]
theorem cl_rD (h : TXT w P t ta len tx I) {p a b : Nat} (hp : p < 2000) (ha : 48 ≤ a) (hb : b < 128) (hab : a ≤ b) (h2 : I t 2 = nI p) : call 73 [.ref t, .int (nI a), .int (nI b)] w I L P = if p < len ∧ a ≤ tx p ∧ tx p ≤ b then some (.inl (some (.int (nI 1))), w, wr I t (sN (sN (I t) 4 (nI (tx p - 48))) 2 (nI (p + 1))), L, P) else some (.inl (some (.int (nI 0))), w, wr I t (sN (I t) 3 (nI p)), L, P) := by
  rw [Text_readDigit_E, Text_readDigit_0 _ _ _ _ _ _ _ _ h.1, cl_nB h hp h2]
  simp only [kC_ret, Option.toList, List.cons_append, List.nil_append, fix1_int, fix1_ref, fix1_unk, fix1_null, fix1_long]
  rw [Text_readDigit_4, fix1_int]
  have bad : go 73 15 [.ref t, .int (nI a), .int (nI b), .int (chN len tx p)] [] w I L P = some (.inl (some (.int (nI 0))), w, wr I t (sN (I t) 3 (nI p)), L, P) := by
    rw [Text_readDigit_15 _ _ _ _ _ _ _ _ h.1, h2, cl_tf h]
    simp only [kC_ret, Option.toList, List.cons_append, List.nil_append, fix1_int, fix1_ref, fix1_unk, fix1_null, fix1_long]
    rw [Text_readDigit_23 _ _ _ _ _ _ _ _ _ b01]
  by_cases g : p < len
  · have hxx := TXT_x h p g
    rw [chN_lt g] at bad ⊢
    by_cases g1 : tx p < a
    · rw [if_pos (nI_lt g1 (by omega)), bad, if_neg (by omega)]
    · rw [if_neg (nI_nlt (by omega) (by omega)), Text_readDigit_10]
      by_cases g2 : tx p ≤ b
      · rw [if_pos (nI_le g2 (by omega)), if_pos (by omega), Text_readDigit_24 _ _ _ _ _ _ _ _ h.1 b11, updI_wr, updI_wr, wr_same, sN_ne (by omega), h2, nI_add, pk_sub (by omega), wr_wr]
      · rw [if_neg (nI_ge (by omega) (by omega)), bad, if_neg (by omega)]
  · rw [chN_ge g] at bad ⊢
    rw [if_pos (Int32.not_le.mp (fun e => g ((chN_le (p := p) (TXT_x h) (show a < 128 by omega)).mp (by rw [chN_ge g]; exact e)).1)), bad, if_neg (by omega)]
theorem cl_rN (h : TXT w P t ta len tx I) {p lo hi : Nat} (hp : p < 1000) (hlo : lo < 1000) (hhi : hi < 1000) (h2 : I t 2 = nI p) : ∃ X, call 72 [.ref t, .int (nI lo), .int (nI hi)] w I L P = some (.inl (some (.int (if nfN len tx p lo hi = none then nI 1 else nI 0))), w, wr I t X, L, P) ∧ (∀ k, k ≠ 2 → k ≠ 3 → k ≠ 4 → X k = I t k) ∧ (nfN len tx p lo hi = none → X 2 = nI (p + ndN len tx p) ∧ X 3 = I t 3 ∧ X 4 = nI (vvN tx p (ndN len tx p))) ∧ ∀ e, nfN len tx p lo hi = some e → X 3 = nI e := by
  have hT : ∀ X : Nat → Int32, X 1 = I t 1 → TXT w P t ta len tx (wr I t X) := fun X e => TXT_wr h e
  have hx := TXT_x h
  have stp : ∀ (X : Nat → Int32) k, X 1 = I t 1 → k < 3 → X 2 = nI (p + k) → dgN len tx (p + k) → X 4 = nI (vvN tx p k) → go 72 10 [.ref t, .int (nI lo), .int (nI hi), .int (nI p)] [] w (wr I t X) L P = go 72 10 [.ref t, .int (nI lo), .int (nI hi), .int (nI p)] [] w (wr I t (sN (sN X 4 (nI (vvN tx p (k + 1)))) 2 (nI (p + (k + 1))))) L P := by
    intro X k e1 hk e2 hd e4
    rw [Text_readNumber_10 _ _ _ _ _ _ _ _ h.1, wr_same, e2, nI_add, if_neg (nI_ge (by omega) (by omega)), Text_readNumber_20 _ _ _ _ _ _ _ _ h.1, cl_nB (hT X e1) (show p + k < 2000 by omega) (by rw [wr_same]; exact e2)]
    simp only [kC_ret, Option.toList, List.cons_append, List.nil_append, fix1_int, fix1_ref, fix1_unk, fix1_null, fix1_long]
    rw [Text_readNumber_24, cl_iD hx, if_pos hd]
    simp only [kC_ret, Option.toList, List.cons_append, List.nil_append, fix1_int, fix1_ref, fix1_unk, fix1_null, fix1_long]
    rw [Text_readNumber_27, if_neg n10, Text_readNumber_30 _ _ _ _ _ _ _ _ h.1, wr_same, e4, cl_nB (hT X e1) (show p + k < 2000 by omega) (by rw [wr_same]; exact e2)]
    simp only [kC_ret, Option.toList, List.cons_append, List.nil_append, fix1_int, fix1_ref, fix1_unk, fix1_null, fix1_long]
    have := hd.2.1
    rw [chN_lt hd.1, Text_readNumber_42 _ _ _ _ _ _ _ _ _ _ _ h.1 h.1, updI_wr, updI_wr, wr_wr, wr_same, wr_same, wr_wr, sN_ne (by omega), e2, pk_mul, nI_add, pk_sub (by omega), nI_add]
    rw [show 10 * vvN tx p k + tx (p + k) - 48 = vvN tx p (k + 1) from by simp only [vvN]; omega, Nat.add_assoc]
  have out : ∀ (X : Nat → Int32) k, X 1 = I t 1 → k < 3 → X 2 = nI (p + k) → ¬ dgN len tx (p + k) → go 72 10 [.ref t, .int (nI lo), .int (nI hi), .int (nI p)] [] w (wr I t X) L P = go 72 62 [.ref t, .int (nI lo), .int (nI hi), .int (nI p)] [] w (wr I t X) L P := by
    intro X k e1 hk e2 hd
    rw [Text_readNumber_10 _ _ _ _ _ _ _ _ h.1, wr_same, e2, nI_add, if_neg (nI_ge (by omega) (by omega)), Text_readNumber_20 _ _ _ _ _ _ _ _ h.1, cl_nB (hT X e1) (show p + k < 2000 by omega) (by rw [wr_same]; exact e2)]
    simp only [kC_ret, Option.toList, List.cons_append, List.nil_append, fix1_int, fix1_ref, fix1_unk, fix1_null, fix1_long]
    rw [Text_readNumber_24, cl_iD hx, if_neg hd]
    simp only [kC_ret, Option.toList, List.cons_append, List.nil_append, fix1_int, fix1_ref, fix1_unk, fix1_null, fix1_long]
    rw [Text_readNumber_27, if_pos n00]
  have out3 : ∀ (X : Nat → Int32), X 2 = nI (p + 3) → go 72 10 [.ref t, .int (nI lo), .int (nI hi), .int (nI p)] [] w (wr I t X) L P = go 72 62 [.ref t, .int (nI lo), .int (nI hi), .int (nI p)] [] w (wr I t X) L P := by
    intro X e2
    rw [Text_readNumber_10 _ _ _ _ _ _ _ _ h.1, wr_same, e2, nI_add, if_pos (nI_le (by omega) (by omega))]
  have loop : ∀ f k, k + f = ndN len tx p → ∀ X : Nat → Int32, X 1 = I t 1 → X 2 = nI (p + k) → X 4 = nI (vvN tx p k) → ∃ Y, go 72 10 [.ref t, .int (nI lo), .int (nI hi), .int (nI p)] [] w (wr I t X) L P = go 72 62 [.ref t, .int (nI lo), .int (nI hi), .int (nI p)] [] w (wr I t Y) L P ∧ (∀ k, k ≠ 2 → k ≠ 4 → Y k = X k) ∧ Y 2 = nI (p + ndN len tx p) ∧ Y 4 = nI (vvN tx p (ndN len tx p)) := by
    intro f
    induction f with
    | zero =>
      intro k hk X e1 e2 e4
      have hn := ndN_le len tx p
      have ek : k = ndN len tx p := by omega
      subst ek
      refine ⟨X, ?_, fun _ _ _ => rfl, e2, e4⟩
      by_cases g : ndN len tx p < 3
      · exact out X _ e1 g e2 (ndN_end g)
      · exact out3 X (by rw [e2, show ndN len tx p = 3 from by omega])
    | succ f ih =>
      intro k hk X e1 e2 e4
      have hn := ndN_le len tx p
      rw [stp X k e1 (by omega) e2 (ndN_dg (by omega)) e4]
      obtain ⟨Y, g1, g2, g3, g4⟩ := ih (k + 1) (by omega) (sN (sN X 4 (nI (vvN tx p (k + 1)))) 2 (nI (p + (k + 1)))) (by rw [sN_ne (by omega), sN_ne (by omega)]; exact e1) (by rw [sN_eq]) (by rw [sN_ne (by omega), sN_eq])
      exact ⟨Y, g1, fun k z1 z2 => by rw [g2 k z1 z2, sN_ne z1, sN_ne z2], g3, g4⟩
  obtain ⟨Y, g1, g2, g3, g4⟩ := loop (ndN len tx p) 0 (by omega) (sN (I t) 4 (nI 0)) (by rw [sN_ne (by omega)]) (by rw [sN_ne (by omega)]; exact h2) (by rw [sN_eq]; rfl)
  have g2' : ∀ k, k ≠ 2 → k ≠ 4 → Y k = I t k := fun k z1 z2 => by rw [g2 k z1 z2, sN_ne z2]
  have hY := hT Y (g2' 1 (by omega) (by omega))
  have hn := ndN_le len tx p
  have hv := vvN_nd len tx p
  have beg : call 72 [.ref t, .int (nI lo), .int (nI hi)] w I L P = go 72 62 [.ref t, .int (nI lo), .int (nI hi), .int (nI p)] [] w (wr I t Y) L P := by
    rw [Text_readNumber_E, Text_readNumber_0 _ _ _ _ _ _ _ _ h.1, fix1_int, h2, updI_wr, g1]
  have fin1 : ∀ e, nfN len tx p lo hi = some e → (∃ Z, go 72 62 [.ref t, .int (nI lo), .int (nI hi), .int (nI p)] [] w (wr I t Y) L P = some (.inl (some (.int (nI 0))), w, wr I t Z, L, P) ∧ Z = sN Y 3 (nI e)) → ∃ X, call 72 [.ref t, .int (nI lo), .int (nI hi)] w I L P = some (.inl (some (.int (if nfN len tx p lo hi = none then nI 1 else nI 0))), w, wr I t X, L, P) ∧ (∀ k, k ≠ 2 → k ≠ 3 → k ≠ 4 → X k = I t k) ∧ (nfN len tx p lo hi = none → X 2 = nI (p + ndN len tx p) ∧ X 3 = I t 3 ∧ X 4 = nI (vvN tx p (ndN len tx p))) ∧ ∀ e, nfN len tx p lo hi = some e → X 3 = nI e := by
    rintro e he ⟨Z, z1, z2⟩
    refine ⟨Z, ?_, ?_, ?_, ?_⟩
    · rw [beg, z1, if_neg (by rw [he]; exact fun q => nomatch q)]
    · intro k z3 z4 z5; rw [z2, sN_ne z4, g2' k z3 z5]
    · intro q; rw [he] at q; exact nomatch q
    · intro e' q; rw [he] at q; rw [z2, sN_eq]; injection q with q; rw [q]
  have ft : go 72 80 [.ref t, .int (nI lo), .int (nI hi), .int (nI p)] [] w (wr I t Y) L P = some (.inl (some (.int (nI 0))), w, wr I t (sN Y 3 (nI (p + ndN len tx p))), L, P) ∧ go 72 105 [.ref t, .int (nI lo), .int (nI hi), .int (nI p)] [] w (wr I t Y) L P = some (.inl (some (.int (nI 0))), w, wr I t (sN Y 3 (nI p)), L, P) := by
    constructor
    · rw [Text_readNumber_80 _ _ _ _ _ _ _ _ h.1, wr_same, g3, cl_tf hY]
      simp only [kC_ret, Option.toList, List.cons_append, List.nil_append, fix1_int, fix1_ref, fix1_unk, fix1_null, fix1_long]
      rw [Text_readNumber_88 _ _ _ _ _ _ _ _ _ b01, wr_same, wr_wr]
    · rw [Text_readNumber_105 _ _ _ _ _ _ _ _ h.1, cl_tf hY]
      simp only [kC_ret, Option.toList, List.cons_append, List.nil_append, fix1_int, fix1_ref, fix1_unk, fix1_null, fix1_long]
      rw [Text_readNumber_110 _ _ _ _ _ _ _ _ _ b01, wr_same, wr_wr]
  obtain ⟨f80, f105⟩ := ft
  by_cases c1 : ndN len tx p = 0
  · refine fin1 p (by unfold nfN; rw [if_pos c1]) ⟨_, ?_, rfl⟩
    rw [Text_readNumber_62 _ _ _ _ _ _ _ _ h.1, wr_same, g3, c1, Nat.add_zero, if_pos rfl, f80, c1, Nat.add_zero]
  · have c1' : nI (p + ndN len tx p) ≠ nI p := fun q => by rw [nI_eq (by omega) (by omega)] at q; omega
    by_cases c2 : dgN len tx (p + ndN len tx p)
    · refine fin1 (p + ndN len tx p) (by unfold nfN; rw [if_neg c1, if_pos c2]) ⟨_, ?_, rfl⟩
      rw [Text_readNumber_62 _ _ _ _ _ _ _ _ h.1, wr_same, g3, if_neg c1', Text_readNumber_70 _ _ _ _ _ _ _ _ h.1, cl_nB hY (show p + ndN len tx p < 2000 by omega) (by rw [wr_same]; exact g3)]
      simp only [kC_ret, Option.toList, List.cons_append, List.nil_append, fix1_int, fix1_ref, fix1_unk, fix1_null, fix1_long]
      rw [Text_readNumber_74, cl_iD hx, if_pos c2]
      simp only [kC_ret, Option.toList, List.cons_append, List.nil_append, fix1_int, fix1_ref, fix1_unk, fix1_null, fix1_long]
      rw [Text_readNumber_77, if_neg n10, f80]
    · have to89 : go 72 62 [.ref t, .int (nI lo), .int (nI hi), .int (nI p)] [] w (wr I t Y) L P = if nI (vvN tx p (ndN len tx p)) < nI lo then go 72 105 [.ref t, .int (nI lo), .int (nI hi), .int (nI p)] [] w (wr I t Y) L P else if nI (vvN tx p (ndN len tx p)) ≤ nI hi then go 72 111 [.ref t, .int (nI lo), .int (nI hi), .int (nI p)] [] w (wr I t Y) L P else go 72 105 [.ref t, .int (nI lo), .int (nI hi), .int (nI p)] [] w (wr I t Y) L P := by
        rw [Text_readNumber_62 _ _ _ _ _ _ _ _ h.1, wr_same, g3, if_neg c1', Text_readNumber_70 _ _ _ _ _ _ _ _ h.1, cl_nB hY (show p + ndN len tx p < 2000 by omega) (by rw [wr_same]; exact g3)]
        simp only [kC_ret, Option.toList, List.cons_append, List.nil_append, fix1_int, fix1_ref, fix1_unk, fix1_null, fix1_long]
        rw [Text_readNumber_74, cl_iD hx, if_neg c2]
        simp only [kC_ret, Option.toList, List.cons_append, List.nil_append, fix1_int, fix1_ref, fix1_unk, fix1_null, fix1_long]
        rw [Text_readNumber_77, if_pos n00, Text_readNumber_89 _ _ _ _ _ _ _ _ h.1, wr_same, g4]
        by_cases c3 : nI (vvN tx p (ndN len tx p)) < nI lo
        · rw [if_pos c3, if_pos c3]
        · rw [if_neg c3, if_neg c3, Text_readNumber_97 _ _ _ _ _ _ _ _ h.1, wr_same, g4]
      by_cases c3 : lo ≤ vvN tx p (ndN len tx p) ∧ vvN tx p (ndN len tx p) ≤ hi
      · have e : nfN len tx p lo hi = none := by unfold nfN; rw [if_neg c1, if_neg c2, if_pos c3]
        refine ⟨Y, ?_, fun k z1 _ z2 => g2' k z1 z2, fun _ => ⟨g3, g2' 3 (by omega) (by omega), g4⟩, fun e' q => by rw [e] at q; exact nomatch q⟩
        rw [beg, to89, if_neg (nI_nlt c3.1 (by omega)), if_pos (nI_le c3.2 (by omega)), Text_readNumber_111 _ _ _ _ _ _ _ _ b11, if_pos e]
      · refine fin1 p (by unfold nfN; rw [if_neg c1, if_neg c2, if_neg c3]) ⟨_, ?_, rfl⟩
        by_cases c4 : vvN tx p (ndN len tx p) < lo
        · rw [to89, if_pos (nI_lt c4 (by omega)), f105]
        · rw [to89, if_neg (nI_nlt (by omega) (by omega)), if_neg (nI_ge (by omega) (by omega)), f105]
end
