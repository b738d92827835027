/-! the text: how the model reads it -/
def foN (f : Int32) (o : Option Nat) : Int32 := if f = -1 then (match o with | none => -1 | some e => nI e) else f
theorem nI_m1 {t : Nat} (h : t < 2147483648) : ¬ nI t = -1 := by
  intro g
  have g2 := congrArg Int32.toInt g
  rw [nI_toInt h, show (-1 : Int32).toInt = -1 from by decide] at g2
  omega
theorem foN_n (f : Int32) : foN f none = f := by
  unfold foN
  by_cases h : f = -1
  · rw [if_pos h, h]
  · rw [if_neg h]
theorem foN_1 (e : Nat) : foN (-1) (some e) = nI e := by unfold foN; rw [if_pos rfl]
theorem foN_k {f : Int32} (h : f ≠ -1) (o : Option Nat) : foN f o = f := by unfold foN; rw [if_neg h]
theorem foN_o1 {f : Int32} {a b : Option Nat} (ha : ∀ e, a = some e → e < 2147483648) : foN (foN f a) b = foN f (o1N a b) := by
  cases a with
  | none => rw [foN_n, o1N_n]
  | some e =>
    rw [o1N_s]
    by_cases h : f = -1
    · rw [h, foN_1, foN_k (nI_m1 (ha e rfl))]
    · rw [foN_k h, foN_k h]
theorem odN_b {len : Nat} {tx : Nat → Nat} {p a b e : Nat} (h : odN len tx p a b = some e) : e = p := by
  unfold odN at h
  split at h
  · exact nomatch h
  · injection h with h; exact h.symm
theorem osN_b {len : Nat} {tx : Nat → Nat} {p c e : Nat} (h : osN len tx p c = some e) : e = p := by
  unfold osN at h
  split at h
  · exact nomatch h
  · injection h with h; exact h.symm
theorem nfN_b {len : Nat} {tx : Nat → Nat} {p lo hi e : Nat} (h : nfN len tx p lo hi = some e) : e ≤ p + 3 := by
  have hn := ndN_le len tx p
  unfold nfN at h
  split at h
  · injection h with h; omega
  · split at h
    · injection h with h; omega
    · split at h
      · exact nomatch h
      · injection h with h; omega
theorem o1N_b {a b : Option Nat} {e : Nat} (h : o1N a b = some e) : a = some e ∨ b = some e := by
  cases a with
  | none => rw [o1N_n] at h; exact Or.inr h
  | some x => rw [o1N_s] at h; exact Or.inl h
theorem rtN_b {len : Nat} {tx : Nat → Nat} {e : Nat} : ∀ f p c b, (rtN len tx f p c b).1 = some e → e ≤ p + 4 * f := by
  intro f
  induction f with
  | zero => intro p c b h; exact nomatch h
  | succ f ih =>
    intro p c b h
    have hn := ndN_le len tx p
    unfold rtN at h
    split at h
    · split at h
      · have := ih _ _ _ h; omega
      · exact nomatch h
    · have := nfN_b h; omega
theorem tgF_b {len : Nat} {tx : Nat → Nat} {p e : Nat} (h : tgF len tx p = some e) : e ≤ p + 5 := by
  unfold tgF at h
  rcases o1N_b h with h | h
  · have := odN_b h; omega
  · rcases o1N_b h with h | h
    · have := osN_b h; omega
    · have := nfN_b h; omega
/-- the text in the model -/
def MXT (w : Wd) (P : MP) (mo mt len : Nat) (tx : Nat → Nat) (I : MI) : Prop := w.1 mo = some (7, 0) ∧ w.1 mt = some (8, 100) ∧ P mo 4 = some mt ∧ mo ≠ mt ∧ len ≤ 100 ∧ I mo 5 = nI len ∧ ∀ j, j < len → tx j < 128 ∧ I mt j = nI (tx j)
theorem MXT_wr {w : Wd} {P : MP} {mo mt len : Nat} {tx : Nat → Nat} {I : MI} {X : Nat → Int32} (h : MXT w P mo mt len tx I) (e : X 5 = I mo 5) : MXT w P mo mt len tx (wr I mo X) := by
  obtain ⟨h1, h2, h3, h4, h5, h6, h7⟩ := h
  refine ⟨h1, h2, h3, h4, h5, by rw [wr_same, e]; exact h6, fun j hj => ⟨(h7 j hj).1, by rw [wr_ne _ _ h4.symm]; exact (h7 j hj).2⟩⟩
theorem l48_i : (48 : Int64) = (nI 48).toInt64 := by decide
theorem l57_i : (57 : Int64) = (nI 57).toInt64 := by decide
theorem RG_ch {len : Nat} {tx : Nat → Nat} {p a b : Nat} (hx : ∀ j, j < len → tx j < 128) (ha : a < 128) (hb : b < 128) : RG (chN len tx p) a b ↔ (p < len ∧ a ≤ tx p ∧ tx p ≤ b) := by
  unfold RG
  rw [chN_le hx ha]
  constructor
  · rintro ⟨⟨g, h1⟩, h2⟩
    have := hx p g
    rw [chN_lt g, nI_leI (by omega) (by omega)] at h2
    exact ⟨g, h1, h2⟩
  · rintro ⟨g, h1, h2⟩
    exact ⟨⟨g, h1⟩, by rw [chN_lt g]; exact nI_le h2 (by omega)⟩
theorem RG_sub {x : Int32} {a b : Nat} (hx : x = -1 ∨ ∃ c, c < 128 ∧ x = nI c) (ha : a < 80) (hb : b < 80) : RG (x - nI 48) a b ↔ RG x (48 + a) (48 + b) := by
  unfold RG
  rcases hx with rfl | ⟨c, hc, rfl⟩
  · have e1 : ¬ nI a ≤ (-1 : Int32) - nI 48 := by
      rw [show (-1 : Int32) - nI 48 = -49 from by decide, Int32.le_iff_toInt_le, nI_toInt (by omega), show (-49 : Int32).toInt = -49 from by decide]; omega
    have e2 : ¬ nI (48 + a) ≤ (-1 : Int32) := by
      rw [Int32.le_iff_toInt_le, nI_toInt (by omega), show (-1 : Int32).toInt = -1 from by decide]; omega
    exact ⟨fun g => absurd g.1 e1, fun g => absurd g.1 e2⟩
  · rw [Int32.le_iff_toInt_le, Int32.le_iff_toInt_le, Int32.le_iff_toInt_le, Int32.le_iff_toInt_le, pk_sub_toInt (by omega) (by omega), nI_toInt (by omega), nI_toInt (by omega), nI_toInt (by omega), nI_toInt (by omega), nI_toInt (by omega)]
    omega
section
variable {w : Wd} {P : MP} {mo mt len : Nat} {tx : Nat → Nat} {I : MI} {L : ML}
theorem MXT_x (h : MXT w P mo mt len tx I) : ∀ j, j < len → tx j < 128 := fun j hj => (h.2.2.2.2.2.2 j hj).1
theorem ch_or (hx : ∀ j, j < len → tx j < 128) (p : Nat) : chN len tx p = -1 ∨ ∃ c, c < 128 ∧ chN len tx p = nI c := by
  by_cases g : p < len
  · exact Or.inr ⟨tx p, hx p g, chN_lt g⟩
  · exact Or.inl (chN_ge g)
theorem mo_here (h : MXT w P mo mt len tx I) {p : Nat} (hp : p < 2000) (h8 : I mo 8 = nI p) : call 193 [.ref mo] w I L P = some (.inl (some (.int (chN len tx p))), w, I, L, P) := by
  obtain ⟨t0, a0, p0, -, h5, h6, h7⟩ := h
  rw [Model_here_E, Model_here_0 _ _ _ _ _ t0, h6, h8]
  by_cases g : p < len
  · rw [if_neg (nI_ge g (by omega)), Model_here_11 _ _ _ _ _ t0, p0, rf_some, Model_here_15 _ _ _ _ _ _ t0 (by rw [h8]; exact inA_nI a0 (by omega) (by omega)), h8, cl_nI (by omega), (h7 p g).2, Model_here_24, chN_lt g]
  · rw [if_pos (nI_le (by omega) (by omega)), Model_here_23, Model_here_24, chN_ge g]
theorem mo_isD (hx : ∀ j, j < len → tx j < 128) (p : Nat) : call 197 [.int (chN len tx p)] w I L P = some (.inl (some (.int (if dgN len tx p then nI 1 else nI 0))), w, I, L, P) := by
  rw [Model_isDigit_E, Model_isDigit_0, mo_rg (chN len tx p) 48 57 48 57 l48_i l57_i]
  simp only [kC_ret, Option.toList, List.cons_append, List.nil_append, fix1_int, fix1_ref, fix1_unk, fix1_null, fix1_long]
  by_cases g : dgN len tx p
  · rw [if_pos ((RG_ch hx (by omega) (by omega)).mpr g), if_pos g, Model_isDigit_11 _ _ _ _ _ _ b11]
  · rw [if_neg (fun z => g ((RG_ch hx (by omega) (by omega)).mp z)), if_neg g, Model_isDigit_11 _ _ _ _ _ _ b01]
theorem mo_wrong (h7 : w.1 mo = some (7, 0)) (e : Nat) : call 194 [.ref mo, .int (nI e)] w I L P = some (.inl none, w, wr I mo (sN (I mo) 9 (foN (I mo 9) (some e))), L, P) := by
  rw [Model_wrong_E, Model_wrong_0 _ _ _ _ _ _ h7]
  by_cases g : I mo 9 = -1
  · rw [if_neg (fun z => z g), Model_wrong_9, Model_wrong_17 _ _ _ _ _ _ _ _ h7, updI_wr, g, foN_1]
  · rw [if_pos g, Model_wrong_13 _ _ _ _ _ _ _ h7, Model_wrong_17 _ _ _ _ _ _ _ _ h7, updI_wr, foN_k g]
theorem mo_sgn (h : MXT w P mo mt len tx I) {p c : Nat} (hp : p < 2000) (hc : c < 128) (h8 : I mo 8 = nI p) : ∃ X, call 195 [.ref mo, .int (nI c)] w I L P = some (.inl none, w, wr I mo X, L, P) ∧ X 8 = nI (p + 1) ∧ X 9 = foN (I mo 9) (osN len tx p c) ∧ ∀ k, k ≠ 8 → k ≠ 9 → X k = I mo k := by
  rw [Model_sign_E, Model_sign_0 _ _ _ _ _ _ h.1, mo_here h hp h8]
  simp only [kC_ret, Option.toList, List.cons_append, List.nil_append, fix1_int, fix1_ref, fix1_unk, fix1_null, fix1_long]
  rw [Model_sign_4]
  by_cases g : p < len ∧ tx p = c
  · rw [if_pos ((chN_eq (MXT_x h) hc).mpr g), Model_sign_16 _ _ _ _ _ _ h.1, updI_wr, h8, nI_add]
    exact ⟨_, rfl, by rw [sN_eq], by rw [sN_ne (by omega), osN_t g, foN_n], fun k z1 z2 => by rw [sN_ne z1]⟩
  · rw [if_neg (fun e => g ((chN_eq (MXT_x h) hc).mp e)), Model_sign_8 _ _ _ _ _ _ h.1, h8, mo_wrong h.1]
    simp only [kC_ret, Option.toList, List.cons_append, List.nil_append, fix1_int, fix1_ref, fix1_unk, fix1_null, fix1_long]
    rw [Model_sign_16 _ _ _ _ _ _ h.1, updI_wr, wr_wr, wr_same, sN_ne (show (8 : Nat) ≠ 9 by omega), h8, nI_add]
    exact ⟨_, rfl, by rw [sN_eq], by rw [sN_ne (by omega), sN_eq, osN_f g], fun k z1 z2 => by rw [sN_ne z1, sN_ne z2]⟩
theorem mo_dgt (h : MXT w P mo mt len tx I) {p a b : Nat} (hp : p < 2000) (ha : a < 80) (hb : b < 80) (h8 : I mo 8 = nI p) : ∃ X, call 196 [.ref mo, .int (nI a), .int (nI b)] w I L P = some (.inl (some (.int (chN len tx p - nI 48))), w, wr I mo X, L, P) ∧ X 8 = nI (p + 1) ∧ X 9 = foN (I mo 9) (odN len tx p (48 + a) (48 + b)) ∧ ∀ k, k ≠ 8 → k ≠ 9 → X k = I mo k := by
  rw [Model_digit_E, Model_digit_0 _ _ _ _ _ _ _ _ h.1, mo_here h hp h8]
  simp only [kC_ret, Option.toList, List.cons_append, List.nil_append, fix1_int, fix1_ref, fix1_unk, fix1_null, fix1_long]
  rw [Model_digit_4, mo_in]
  simp only [kC_ret, Option.toList, List.cons_append, List.nil_append, fix1_int, fix1_ref, fix1_unk, fix1_null, fix1_long]
  rw [Model_digit_17]
  have hR : (Int32.toInt64 (nI a) ≤ Int32.toInt64 (chN len tx p - nI 48) ∧ Int32.toInt64 (chN len tx p - nI 48) ≤ Int32.toInt64 (nI b)) ↔ (p < len ∧ 48 + a ≤ tx p ∧ tx p ≤ 48 + b) := by
    rw [l2i_le, l2i_le, ← RG_ch (MXT_x h) (by omega) (by omega), ← RG_sub (ch_or (MXT_x h) p) ha hb]
  by_cases g : p < len ∧ 48 + a ≤ tx p ∧ tx p ≤ 48 + b
  · rw [if_pos (hR.mpr g), if_pos n10, Model_digit_28 _ _ _ _ _ _ _ _ h.1, updI_wr, h8, nI_add]
    exact ⟨_, rfl, by rw [sN_eq], by rw [sN_ne (by omega), odN_t g, foN_n], fun k z1 z2 => by rw [sN_ne z1]⟩
  · rw [if_neg (fun z => g (hR.mp z)), if_neg (by simp [n00]), Model_digit_20 _ _ _ _ _ _ _ _ h.1, h8, mo_wrong h.1]
    simp only [kC_ret, Option.toList, List.cons_append, List.nil_append, fix1_int, fix1_ref, fix1_unk, fix1_null, fix1_long]
    rw [Model_digit_28 _ _ _ _ _ _ _ _ h.1, updI_wr, wr_wr, wr_same, sN_ne (show (8 : Nat) ≠ 9 by omega), h8, nI_add]
    exact ⟨_, rfl, by rw [sN_eq], by rw [sN_ne (by omega), sN_eq, odN_f g], fun k z1 z2 => by rw [sN_ne z1, sN_ne z2]⟩
theorem nfN_o (len : Nat) (tx : Nat → Nat) (p lo hi : Nat) : nfN len tx p lo hi = o1N (if ndN len tx p = 0 then some p else none) (o1N (if dgN len tx (p + ndN len tx p) then some (p + ndN len tx p) else none) (if lo ≤ vvN tx p (ndN len tx p) ∧ vvN tx p (ndN len tx p) ≤ hi then none else some p)) := by
  unfold nfN
  by_cases g1 : ndN len tx p = 0
  · rw [if_pos g1, if_pos g1, o1N_s]
  · rw [if_neg g1, if_neg g1, o1N_n]
    by_cases g2 : dgN len tx (p + ndN len tx p)
    · rw [if_pos g2, if_pos g2, o1N_s]
    · rw [if_neg g2, if_neg g2, o1N_n]
theorem mo_nbr (h : MXT w P mo mt len tx I) {p lo hi : Nat} (hp : p < 1000) (hlo : lo < 1000) (hhi : hi < 1000) (h8 : I mo 8 = nI p) : ∃ X, call 198 [.ref mo, .int (nI lo), .int (nI hi)] w I L P = some (.inl (some (.int (nI (vvN tx p (ndN len tx p))))), w, wr I mo X, L, P) ∧ X 8 = nI (p + ndN len tx p) ∧ X 9 = foN (I mo 9) (nfN len tx p lo hi) ∧ ∀ k, k ≠ 8 → k ≠ 9 → X k = I mo k := by
  have hT : ∀ X : Nat → Int32, X 5 = I mo 5 → MXT w P mo mt len tx (wr I mo X) := fun X e => MXT_wr h e
  have hx := MXT_x h
  have hn := ndN_le len tx p
  have hv := vvN_nd len tx p
  -- the sign before the loop
  have d0 : dgN len tx p ↔ ¬ ndN len tx p = 0 := by
    unfold ndN
    by_cases g : dgN len tx p
    · rw [if_pos g]
      exact ⟨fun _ => by split <;> (try split) <;> omega, fun _ => g⟩
    · rw [if_neg g]
      exact ⟨fun z => absurd z g, fun z => absurd rfl z⟩
  have beg : ∃ X, call 198 [.ref mo, .int (nI lo), .int (nI hi)] w I L P = go 198 26 [.ref mo, .int (nI lo), .int (nI hi), .int (nI p), .int (nI 0)] [] w (wr I mo X) L P ∧ X 8 = nI p ∧ X 9 = foN (I mo 9) (if ndN len tx p = 0 then some p else none) ∧ ∀ k, k ≠ 8 → k ≠ 9 → X k = I mo k := by
    rw [Model_readNumber_E, Model_readNumber_0 _ _ _ _ _ _ _ _ _ h.1, mo_here h (show p < 2000 by omega) h8, h8]
    simp only [kC_ret, Option.toList, List.cons_append, List.nil_append, fix1_int, fix1_ref, fix1_unk, fix1_null, fix1_long]
    rw [Model_readNumber_9, mo_isD hx]
    simp only [kC_ret, Option.toList, List.cons_append, List.nil_append, fix1_int, fix1_ref, fix1_unk, fix1_null, fix1_long]
    rw [Model_readNumber_12]
    by_cases g : dgN len tx p
    · rw [if_pos g, if_pos n10, Model_readNumber_23, if_neg (d0.mp g)]
      refine ⟨I mo, by rw [wr_id]; rfl, h8, by rw [foN_n], fun _ _ _ => rfl⟩
    · have g' : ndN len tx p = 0 := by
        by_cases z : ndN len tx p = 0
        · exact z
        · exact absurd (d0.mpr z) g
      rw [if_neg g, if_neg (by simp [n00]), Model_readNumber_15 _ _ _ _ _ _ _ _ _ h.1, h8, mo_wrong h.1]
      simp only [kC_ret, Option.toList, List.cons_append, List.nil_append, fix1_int, fix1_ref, fix1_unk, fix1_null, fix1_long]
      rw [Model_readNumber_23, if_pos g']
      exact ⟨_, rfl, by rw [sN_ne (by omega)]; exact h8, by rw [sN_eq], fun k _ z2 => by rw [sN_ne z2]⟩
  obtain ⟨X0, b1, b2, b3, b4⟩ := beg
  have stp : ∀ (X : Nat → Int32) k, X 5 = I mo 5 → k < 3 → X 8 = nI (p + k) → dgN len tx (p + k) → go 198 26 [.ref mo, .int (nI lo), .int (nI hi), .int (nI p), .int (nI (vvN tx p k))] [] w (wr I mo X) L P = go 198 26 [.ref mo, .int (nI lo), .int (nI hi), .int (nI p), .int (nI (vvN tx p (k + 1)))] [] w (wr I mo (sN X 8 (nI (p + (k + 1))))) L P := by
    intro X k e5 hk e8 hd
    rw [Model_readNumber_26 _ _ _ _ _ _ _ _ _ h.1, mo_here (hT X e5) (show p + k < 2000 by omega) (by rw [wr_same]; exact e8)]
    simp only [kC_ret, Option.toList, List.cons_append, List.nil_append, fix1_int, fix1_ref, fix1_unk, fix1_null, fix1_long]
    rw [Model_readNumber_30, mo_isD hx, if_pos hd]
    simp only [kC_ret, Option.toList, List.cons_append, List.nil_append, fix1_int, fix1_ref, fix1_unk, fix1_null, fix1_long]
    rw [Model_readNumber_33, if_neg n10, Model_readNumber_36 _ _ _ _ _ _ _ _ _ h.1, wr_same, e8, pk_sub (by omega), if_neg (nI_ge (by omega) (by omega)), Model_readNumber_46 _ _ _ _ _ _ _ _ _ h.1, mo_here (hT X e5) (show p + k < 2000 by omega) (by rw [wr_same]; exact e8)]
    simp only [kC_ret, Option.toList, List.cons_append, List.nil_append, fix1_int, fix1_ref, fix1_unk, fix1_null, fix1_long]
    have := hd.2.1
    rw [chN_lt hd.1, Model_readNumber_55 _ _ _ _ _ _ _ _ _ _ _ h.1, updI_wr, wr_wr, wr_same, e8, pk_mul, nI_add, nI_add, pk_sub (by omega)]
    rw [show 10 * vvN tx p k + tx (p + k) - 48 = vvN tx p (k + 1) from by simp only [vvN]; omega, Nat.add_assoc]
    rfl
  have out : ∀ (X : Nat → Int32) v k, X 5 = I mo 5 → k ≤ 3 → X 8 = nI (p + k) → (k < 3 → ¬ dgN len tx (p + k)) → go 198 26 [.ref mo, .int (nI lo), .int (nI hi), .int (nI p), .int v] [] w (wr I mo X) L P = go 198 74 [.ref mo, .int (nI lo), .int (nI hi), .int (nI p), .int v] [] w (wr I mo X) L P := by
    intro X v k e5 hk e8 hd
    rw [Model_readNumber_26 _ _ _ _ _ _ _ _ _ h.1, mo_here (hT X e5) (show p + k < 2000 by omega) (by rw [wr_same]; exact e8)]
    simp only [kC_ret, Option.toList, List.cons_append, List.nil_append, fix1_int, fix1_ref, fix1_unk, fix1_null, fix1_long]
    rw [Model_readNumber_30, mo_isD hx]
    simp only [kC_ret, Option.toList, List.cons_append, List.nil_append, fix1_int, fix1_ref, fix1_unk, fix1_null, fix1_long]
    rw [Model_readNumber_33]
    by_cases g : dgN len tx (p + k)
    · have : k = 3 := by
        by_cases z : k < 3
        · exact absurd g (hd z)
        · omega
      rw [if_pos g, if_neg n10, Model_readNumber_36 _ _ _ _ _ _ _ _ _ h.1, wr_same, e8, pk_sub (by omega), if_pos (nI_le (by omega) (by omega))]
    · rw [if_neg g, if_pos n00]
  have loop : ∀ f k, k + f = ndN len tx p → ∀ X : Nat → Int32, X 5 = I mo 5 → X 8 = nI (p + k) → ∃ Y, go 198 26 [.ref mo, .int (nI lo), .int (nI hi), .int (nI p), .int (nI (vvN tx p k))] [] w (wr I mo X) L P = go 198 74 [.ref mo, .int (nI lo), .int (nI hi), .int (nI p), .int (nI (vvN tx p (ndN len tx p)))] [] w (wr I mo Y) L P ∧ Y 8 = nI (p + ndN len tx p) ∧ ∀ k, k ≠ 8 → Y k = X k := by
    intro f
    induction f with
    | zero =>
      intro k hk X e5 e8
      have ek : k = ndN len tx p := by omega
      subst ek
      exact ⟨X, out X _ _ e5 hn e8 (fun z => ndN_end z), e8, fun _ _ => rfl⟩
    | succ f ih =>
      intro k hk X e5 e8
      rw [stp X k e5 (by omega) e8 (ndN_dg (by omega))]
      obtain ⟨Y, g1, g2, g3⟩ := ih (k + 1) (by omega) (sN X 8 (nI (p + (k + 1)))) (by rw [sN_ne (by omega)]; exact e5) (by rw [sN_eq])
      exact ⟨Y, g1, g2, fun k z => by rw [g3 k z, sN_ne z]⟩
  obtain ⟨Y, c1, c2, c3⟩ := loop (ndN len tx p) 0 (by omega) X0 (b4 5 (by omega) (by omega)) b2
  have eY5 : Y 5 = I mo 5 := by rw [c3 5 (by omega)]; exact b4 5 (by omega) (by omega)
  have s1 : ∃ Z, go 198 74 [.ref mo, .int (nI lo), .int (nI hi), .int (nI p), .int (nI (vvN tx p (ndN len tx p)))] [] w (wr I mo Y) L P = go 198 92 [.ref mo, .int (nI lo), .int (nI hi), .int (nI p), .int (nI (vvN tx p (ndN len tx p)))] [] w (wr I mo Z) L P ∧ Z 9 = foN (Y 9) (if dgN len tx (p + ndN len tx p) then some (p + ndN len tx p) else none) ∧ ∀ k, k ≠ 9 → Z k = Y k := by
    rw [Model_readNumber_74 _ _ _ _ _ _ _ _ _ h.1, mo_here (hT Y eY5) (show p + ndN len tx p < 2000 by omega) (by rw [wr_same]; exact c2)]
    simp only [kC_ret, Option.toList, List.cons_append, List.nil_append, fix1_int, fix1_ref, fix1_unk, fix1_null, fix1_long]
    rw [Model_readNumber_78, mo_isD hx]
    simp only [kC_ret, Option.toList, List.cons_append, List.nil_append, fix1_int, fix1_ref, fix1_unk, fix1_null, fix1_long]
    rw [Model_readNumber_81]
    by_cases g : dgN len tx (p + ndN len tx p)
    · rw [if_pos g, if_neg n10, Model_readNumber_84 _ _ _ _ _ _ _ _ _ h.1, wr_same, c2, mo_wrong h.1, wr_same, wr_wr, if_pos g]
      simp only [kC_ret, Option.toList, List.cons_append, List.nil_append, fix1_int, fix1_ref, fix1_unk, fix1_null, fix1_long]
      exact ⟨_, rfl, by rw [sN_eq], fun k z => by rw [sN_ne z]⟩
    · rw [if_neg g, if_pos n00, if_neg g]
      exact ⟨Y, rfl, by rw [foN_n], fun _ _ => rfl⟩
  obtain ⟨Z, d1, d2, d3⟩ := s1
  have s2 : ∃ V, go 198 92 [.ref mo, .int (nI lo), .int (nI hi), .int (nI p), .int (nI (vvN tx p (ndN len tx p)))] [] w (wr I mo Z) L P = some (.inl (some (.int (nI (vvN tx p (ndN len tx p))))), w, wr I mo V, L, P) ∧ V 9 = foN (Z 9) (if lo ≤ vvN tx p (ndN len tx p) ∧ vvN tx p (ndN len tx p) ≤ hi then none else some p) ∧ ∀ k, k ≠ 9 → V k = Z k := by
    have hR : (Int32.toInt64 (nI lo) ≤ Int32.toInt64 (nI (vvN tx p (ndN len tx p))) ∧ Int32.toInt64 (nI (vvN tx p (ndN len tx p))) ≤ Int32.toInt64 (nI hi)) ↔ (lo ≤ vvN tx p (ndN len tx p) ∧ vvN tx p (ndN len tx p) ≤ hi) := by
      rw [l2i_le, l2i_le, nI_leI (by omega) (by omega), nI_leI (by omega) (by omega)]
    rw [Model_readNumber_92, mo_in]
    simp only [kC_ret, Option.toList, List.cons_append, List.nil_append, fix1_int, fix1_ref, fix1_unk, fix1_null, fix1_long]
    rw [Model_readNumber_102]
    by_cases g : lo ≤ vvN tx p (ndN len tx p) ∧ vvN tx p (ndN len tx p) ≤ hi
    · rw [if_pos (hR.mpr g), if_pos n10, Model_readNumber_110, if_pos g]
      exact ⟨Z, rfl, by rw [foN_n], fun _ _ => rfl⟩
    · rw [if_neg (fun z => g (hR.mp z)), if_neg (by simp [n00]), Model_readNumber_105 _ _ _ _ _ _ _ _ _ h.1, mo_wrong h.1, wr_same, wr_wr, if_neg g]
      simp only [kC_ret, Option.toList, List.cons_append, List.nil_append, fix1_int, fix1_ref, fix1_unk, fix1_null, fix1_long]
      rw [Model_readNumber_110]
      exact ⟨_, rfl, by rw [sN_eq], fun k z => by rw [sN_ne z]⟩
  obtain ⟨V, v1, v2, v3⟩ := s2
  refine ⟨V, by rw [b1]; exact (c1.trans d1).trans v1, by rw [v3 8 (by omega), d3 8 (by omega)]; exact c2, ?_, fun k z1 z2 => by rw [v3 k z2, d3 k z2, c3 k z1]; exact b4 k z1 z2⟩
  rw [v2, d2, c3 9 (by omega), b3, nfN_o, foN_o1, foN_o1]
  all_goals
    intro e q
    split at q
    · injection q with q; omega
    · exact nomatch q
end
