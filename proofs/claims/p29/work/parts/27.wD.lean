/-! calls: what is common to them -/
theorem l1_i : (1 : Int64) = (nI 1).toInt64 := by decide
theorem l3_i : (3 : Int64) = (nI 3).toInt64 := by decide
theorem l4_i : (4 : Int64) = (nI 4).toInt64 := by decide
theorem l2_i : (2 : Int64) = (nI 2).toInt64 := by decide
theorem l5_i : (5 : Int64) = (nI 5).toInt64 := by decide
theorem l7_i : (7 : Int64) = (nI 7).toInt64 := by decide
theorem l8_i : (8 : Int64) = (nI 8).toInt64 := by decide
theorem l9_i : (9 : Int64) = (nI 9).toInt64 := by decide
theorem l127_i : (127 : Int64) = (nI 127).toInt64 := by decide
theorem l200_i : (200 : Int64) = (nI 200).toInt64 := by decide
theorem l255_i : (255 : Int64) = (nI 255).toInt64 := by decide
/-- in a range -/
abbrev RG (x : Int32) (a b : Nat) : Prop := nI a ≤ x ∧ x ≤ nI b
theorem RG_ex {x : Int32} {a b : Nat} (ha : a ≤ b) (hb : b < 2147483648) (h : RG x a b) : ∃ k, a ≤ k ∧ k ≤ b ∧ x = nI k := by
  obtain ⟨h1, h2⟩ := h
  have h0 : ¬ x < 0 := by
    rw [Int32.lt_iff_toInt_lt, show (0 : Int32).toInt = 0 from rfl]
    rw [Int32.le_iff_toInt_le, nI_toInt (by omega)] at h1
    omega
  obtain ⟨j, hj, e⟩ := nI_of h0
  subst e
  rw [nI_leI (by omega) hj] at h1
  rw [nI_leI hj hb] at h2
  exact ⟨j, h1, h2, rfl⟩
theorem cl_range (x : Int32) (a b : Nat) (w : Wd) (I : MI) (L : ML) (P : MP) : call 110 [.int x, .int (nI a), .int (nI b)] w I L P = if RG x a b then some (.inl none, w, I, L, P) else some (.inr 0, thrT w, I, L, P) := by
  rw [Two_requireRange_E, Two_requireRange_0]
  unfold RG
  by_cases h1 : x < nI a
  · rw [if_pos h1, if_neg (fun q => (Int32.not_le.mpr h1) q.1), Two_requireRange_10]
  · rw [if_neg h1, Two_requireRange_5]
    by_cases h2 : x ≤ nI b
    · rw [if_pos h2, if_pos ⟨Int32.not_lt.mp h1, h2⟩, Two_requireRange_20]
    · rw [if_neg h2, if_neg (fun q => h2 q.2), Two_requireRange_10]
theorem thrT_1 (w : Wd) : (thrT w).1 = w.1 := rfl
theorem LG_N {N M : Nat → Int32} {b q : Nat} {I J : MI} (h : LG b N I q) (e : ∀ x, (x = 0 ∨ x = 10 ∨ x = 11 ∨ x = 12 ∨ (15 ≤ x ∧ x < 207)) → M x = N x) (eI : ∀ x, b + 3 ≤ x → x < b + 7 → J x = I x) : LG b M J q := by
  obtain ⟨l0, l1, l2, l3, l4, l5⟩ := h
  refine ⟨by rw [e 0 (by omega)]; exact l0, by rw [eI _ (by omega) (by omega)]; exact l1, by rw [eI _ (by omega) (by omega), e 10 (by omega)]; exact l2, by rw [eI _ (by omega) (by omega), e 11 (by omega)]; exact l3, ?_, ?_⟩
  · intro i hi
    rw [eI (b + 4) (by omega) (by omega), eI (b + 5) (by omega) (by omega), eI (b + 6) (by omega) (by omega), e (15 + 3 * i) (by omega), e (16 + 3 * i) (by omega), e (17 + 3 * i) (by omega)]
    exact l4 i hi
  · rw [e 12 (by omega), l5]
    split
    · rfl
    · have : (q - 1) % 64 < 64 := Nat.mod_lt _ (by omega)
      rw [e _ (by omega)]
section
variable {B : Nat} {w : Wd} {I : MI} {L : ML} {P : MP} {N : Nat → Int32} {st : Nat} {Ks : Nat → Nat → Int32} {len : Nat} {tx : Nat → Nat} {T : Nat}
theorem CW_N {M : Nat → Int32} (h : CW B w I L P N st Ks len tx T) (e : ∀ j, j < 459 → M j = N j) : CW B w I L P M st Ks len tx T := by
  obtain ⟨h1, h2, h3, ⟨q, h4, h5⟩, h6⟩ := h
  exact ⟨h1, h2, h3, ⟨q, h4, BR_N h5 e⟩, h6⟩
theorem CW_T {T' : Nat} (h : CW B w I L P N st Ks len tx T) (ht : T ≤ T') : CW B w I L P N st Ks len tx T' := by
  obtain ⟨h1, ⟨r, h2, h3, h4⟩, h5, ⟨q, h6, h7⟩, h8⟩ := h
  refine ⟨h1, ⟨r, h2, h3, fun i hi => ?_⟩, h5, ⟨q, by omega, h7⟩, h8⟩
  obtain ⟨q', g1, g2⟩ := h4 i hi
  exact ⟨q', by omega, g2⟩
/-- the bus alone has changed -/
theorem CW_bus {M : Nat → Int32} {J : MI} {K : ML} {Q : MP} {T' q' : Nat} (h : CW B w I L P N st Ks len tx T) (f : Fr (B + 1) (B + 41) I J L K P Q) (ht : T ≤ T') (hq : q' ≤ T') (hb : BR (B + 1) M J K Q q') : CW B w J K Q M st Ks len tx T' := by
  have h2 := CW_T h ht
  obtain ⟨h1, ⟨r, ⟨p0, p1, p2, p3, p5, p6, p7, p8, p9⟩, h2, h3⟩, h4, -, h7, h8, h9, h10, h11, h12⟩ := h2
  refine ⟨h1, ⟨r, ⟨?_, ?_, ?_, ?_, ?_, ?_, ?_, p8, p9⟩, ?_, ?_⟩, h4, ⟨q', hq, hb⟩, BS_fr h7 (fun x g1 g2 => (f x (by omega)).2.2), BR_fr h8 (fun x g1 g2 => f x (by omega)), fun i hi => BS_fr (h9 i hi) (fun x g1 g2 => (f x (by omega)).2.2), h10, ?_, ?_⟩
  · rw [(f B (by omega)).2.2]; exact p0
  · rw [(f B (by omega)).2.2]; exact p1
  · rw [(f B (by omega)).2.2]; exact p2
  · rw [(f B (by omega)).2.2]; exact p3
  · rw [(f B (by omega)).2.2]; exact p5
  · rw [(f (B + 122) (by omega)).2.2]; exact p6
  · intro i hi; rw [(f (B + 121) (by omega)).2.2]; exact p7 i hi
  · rw [(f B (by omega)).1]; exact h2
  · intro i hi
    obtain ⟨q, g1, g2⟩ := h3 i hi
    exact ⟨q, g1, BR_fr g2 (fun x z1 z2 => f x (by omega))⟩
  · rw [(f (B + 122) (by omega)).1]; exact h11
  · intro j hj; rw [(f (B + 123) (by omega)).1]; exact h12 j hj
end
