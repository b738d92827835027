/-! busy: no quotient of counts is a NaN -/
theorem fp_t : FP.Core.b64.tails = 4503599627370496 := by decide
theorem fp_e : FP.Core.b64.exps = 2048 := by decide
theorem fp_q : FP.Core.b64.qmin = -1074 := by decide
theorem fp_m : FP.Core.b64.qmax = 971 := by decide
theorem fp_p : 2 ^ FP.Core.b64.p = 9007199254740992 := by decide
theorem fp_enc (s : Bool) (c : Nat) (q : Int) (hc : c < 9007199254740992) (hq : q ≤ 971) : ∃ e t, FP.Core.encode FP.Core.b64 (.fin s c q) = (s.toNat * 2048 + e) * 4503599627370496 + t ∧ e < 2047 ∧ t < 4503599627370496 ∧ (e = 0 → t = c) := by
  unfold FP.Core.encode FP.Core.assemble
  dsimp only
  rw [fp_t, fp_e, fp_q]
  by_cases h : c < 4503599627370496
  · rw [if_pos h]
    exact ⟨0, c, rfl, by omega, h, fun _ => rfl⟩
  · rw [if_neg h]
    exact ⟨(q - -1074).toNat + 1, c - 4503599627370496, rfl, by omega, by omega, fun g => by omega⟩
theorem fp_bnd (s : Bool) (c : Nat) (q : Int) (hc : c < 9007199254740992) : FP.Core.encode FP.Core.b64 (FP.Core.bound FP.Core.b64 s c q) % 9223372036854775808 ≤ 9218868437227405312 := by
  unfold FP.Core.bound
  rw [fp_m]
  by_cases h : q ≤ 971
  · rw [if_pos h]
    obtain ⟨e, t, g1, g2, g3, -⟩ := fp_enc s c q hc h
    rw [g1]
    cases s
    · rw [show false.toNat = 0 from rfl]; omega
    · rw [show true.toNat = 1 from rfl]; omega
  · rw [if_neg h]
    cases s
    · decide
    · decide
theorem fp_rr (s : Bool) (num den : Nat) (e : Int) : FP.Core.encode FP.Core.b64 (FP.Core.roundRatio FP.Core.b64 s num den e) % 9223372036854775808 ≤ 9218868437227405312 := by
  unfold FP.Core.roundRatio
  by_cases h : num = 0
  · rw [if_pos h]
    cases s
    · decide
    · decide
  · rw [if_neg h]
    unfold FP.Core.roundAt FP.Core.settle
    rw [fp_p]
    split
    · exact fp_bnd _ _ _ (by assumption)
    · exact fp_bnd _ _ _ (by rw [fp_t]; omega)
theorem fp_a (n e : Nat) (h : e < 2047) : (n * 2048 + e) % 2048 = e := by omega
theorem fp_b (n e : Nat) (h : e < 2047) : (n * 2048 + e) / 2048 = n := by omega
theorem fp_c (n t : Nat) (h : t < 4503599627370496) : (n * 4503599627370496 + t) / 4503599627370496 = n := by omega
theorem fp_d (n t : Nat) (h : t < 4503599627370496) : (n * 4503599627370496 + t) % 4503599627370496 = t := by omega
theorem fp_dec (s : Bool) (e t : Nat) (he : e < 2047) (ht : t < 4503599627370496) : ∃ c q, FP.Core.decode FP.Core.b64 ((s.toNat * 2048 + e) * 4503599627370496 + t) = .fin s c q ∧ (c = 0 → e = 0 ∧ t = 0) := by
  unfold FP.Core.decode FP.Core.fieldE FP.Core.fieldT FP.Core.fieldS
  rw [fp_t, fp_e, fp_q]
  rw [fp_c _ t ht, fp_d _ t ht, fp_a _ e he, fp_b _ e he, if_neg (by omega)]
  have h3 : (s.toNat % 2 == 1) = s := by cases s <;> rfl
  rw [h3]
  by_cases g : e = 0
  · rw [if_pos g]; exact ⟨_, _, rfl, fun z => ⟨g, z⟩⟩
  · rw [if_neg g]; exact ⟨_, _, rfl, fun z => by omega⟩
theorem fp_i2d (x : Int32) : ∃ s c q, FP.Core.decode FP.Core.b64 (FP.i2d x).toNat = .fin s c q ∧ (c = 0 → x = 0) := by
  have hi : x.toInt.natAbs ≤ 2147483648 := by
    have h1 := Int32.le_toInt x
    have h2 := Int32.toInt_lt x
    omega
  have key : ∃ e t, FP.Core.fromInt FP.Core.b64 x.toInt = ((decide (x.toInt < 0)).toNat * 2048 + e) * 4503599627370496 + t ∧ e < 2047 ∧ t < 4503599627370496 ∧ (e = 0 ∧ t = 0 → x.toInt.natAbs = 0) := by
    unfold FP.Core.fromInt FP.Core.ofInt FP.Core.round FP.Core.roundRatio
    dsimp only
    by_cases h : x.toInt.natAbs = 0
    · rw [if_pos h]
      obtain ⟨e, t, g1, g2, g3, g4⟩ := fp_enc (decide (x.toInt < 0)) 0 (FP.Core.b64.qmin) (by omega) (by rw [fp_q]; omega)
      exact ⟨e, t, g1, g2, g3, fun _ => h⟩
    · rw [if_neg h]
      have hq : FP.Core.quantum FP.Core.b64 x.toInt.natAbs 1 0 ≤ 0 := by
        unfold FP.Core.quantum FP.Core.leading
        have hl : x.toInt.natAbs.log2 < 32 := (Nat.log2_lt h).mpr (by omega)
        rw [fp_q, show ((FP.Core.b64.p : Nat) : Int) = 53 from rfl]
        dsimp only
        split <;> omega
      generalize FP.Core.quantum FP.Core.b64 x.toInt.natAbs 1 0 = q at hq
      unfold FP.Core.roundAt
      have hn : FP.Core.nearest (FP.Core.unitsNum x.toInt.natAbs 0 q) (FP.Core.unitsDen 1 0 q) = FP.Core.unitsNum x.toInt.natAbs 0 q := by
        unfold FP.Core.unitsDen FP.Core.nearest
        rw [show (q - 0).toNat = 0 from by omega, Nat.pow_zero, Nat.mul_one, Nat.mod_one, if_pos (by omega), Nat.div_one]
      rw [hn]
      have h0 : FP.Core.unitsNum x.toInt.natAbs 0 q ≠ 0 := by
        unfold FP.Core.unitsNum
        exact Nat.mul_ne_zero h (Nat.pos_iff_ne_zero.mp (Nat.two_pow_pos _))
      generalize FP.Core.unitsNum x.toInt.natAbs 0 q = n at h0
      unfold FP.Core.settle FP.Core.bound
      rw [fp_p, fp_m, fp_t]
      by_cases g : n < 9007199254740992
      · rw [if_pos g, if_pos (by omega)]
        obtain ⟨e, t, g1, g2, g3, g4⟩ := fp_enc (decide (x.toInt < 0)) n q g (by omega)
        exact ⟨e, t, g1, g2, g3, fun z => absurd ((g4 z.1).symm.trans z.2) h0⟩
      · rw [if_neg g, if_pos (by omega)]
        obtain ⟨e, t, g1, g2, g3, g4⟩ := fp_enc (decide (x.toInt < 0)) 4503599627370496 (q + 1) (by omega) (by omega)
        exact ⟨e, t, g1, g2, g3, fun z => by have := g4 z.1; omega⟩
  obtain ⟨e, t, g1, g2, g3, g4⟩ := key
  obtain ⟨c, q, d1, d2⟩ := fp_dec (decide (x.toInt < 0)) e t g2 g3
  refine ⟨decide (x.toInt < 0), c, q, ?_, ?_⟩
  · rw [← d1, ← g1]
    congr 1
    show (UInt64.ofNat (FP.Core.fromInt FP.Core.b64 x.toInt)).toNat = _
    rw [UInt64.toNat_ofNat', Nat.mod_eq_of_lt]
    rw [g1]
    have : (decide (x.toInt < 0)).toNat ≤ 1 := Bool.toNat_le _
    omega
  · intro z
    have := g4 (d2 z)
    exact Int32.toInt_inj.mp (by rw [show (0 : Int32).toInt = 0 from rfl]; omega)
theorem fp_nn (x y : Int32) (h : y ≠ 0) : FP.ddiv (FP.i2d x) (FP.i2d y) &&& 0x7fffffffffffffff ≤ 0x7ff0000000000000 := by
  obtain ⟨s, c, q, h1, -⟩ := fp_i2d x
  obtain ⟨s2, c2, q2, h2, h3⟩ := fp_i2d y
  have e : FP.ddiv (FP.i2d x) (FP.i2d y) = UInt64.ofNat (FP.Core.encode FP.Core.b64 (FP.Core.roundRatio FP.Core.b64 (s != s2) c c2 (q - q2))) := by
    show UInt64.ofNat (FP.Core.div FP.Core.b64 (FP.i2d x).toNat (FP.i2d y).toNat) = _
    unfold FP.Core.div
    rw [h1, h2]
    unfold FP.Core.quotient
    dsimp only
    rw [if_neg (fun z => h (h3 z))]
  have b := fp_rr (s != s2) c c2 (q - q2)
  rw [e, UInt64.le_iff_toNat_le, UInt64.toNat_and, UInt64.toNat_ofNat', show (9223372036854775807 : UInt64).toNat = 2 ^ 63 - 1 from by decide, Nat.and_two_pow_sub_one_eq_mod]
  rw [show (9218868437227405312 : UInt64).toNat = 9218868437227405312 from by decide]
  omega
section
variable {B : Nat} {w : Wd} {I : MI} {L : ML} {P : MP} {N : Nat → Int32} {st : Nat} {Ks : Nat → Nat → Int32} {len : Nat} {tx : Nat → Nat} {T : Nat}
/-- the text's own fields have changed -/
theorem CW_set (h : CW B w I L P N st Ks len tx T) {J : MI} {K : ML} {len' : Nat} {tx' : Nat → Nat} (e : ∀ x, x ≠ B + 122 → x ≠ B + 123 → J x = I x ∧ K x = L x) (hl : len' ≤ 100) (h1 : J (B + 122) 1 = nI len') (h2 : ∀ j, j < len' → tx' j < 128 ∧ J (B + 123) j = nI (tx' j)) : CW B w J K P N st Ks len' tx' T := by
  have f1 : Fr (B + 122) (B + 124) I J L K P P := fun x hx => ⟨(e x (by omega) (by omega)).1, (e x (by omega) (by omega)).2, rfl⟩
  obtain ⟨g1, ⟨r, hp, g2, g3⟩, g4, ⟨q, hq, g5⟩, g6, g7, g8, -⟩ := h
  have hp' := hp
  obtain ⟨-, -, -, -, -, -, -, p8, -⟩ := hp'
  refine ⟨g1, ⟨r, hp, ?_, ?_⟩, g4, ⟨q, hq, BR_fr g5 (fun x z1 z2 => f1 x (by omega))⟩, g6, BR_fr g7 (fun x z1 z2 => f1 x (by omega)), g8, hl, h1, h2⟩
  · rw [(f1 B (by omega)).1]; exact g2
  · intro i hi
    obtain ⟨q, z1, z2⟩ := g3 i hi
    exact ⟨q, z1, BR_fr z2 (fun x z1 z2 => f1 x (by omega))⟩
theorem CW_tb (h : CW B w I L P N st Ks len tx T) : w.1 (B + 122) = some (4, 0) ∧ w.1 (B + 123) = some (8, 100) ∧ P B 5 = some (B + 122) ∧ P (B + 122) 0 = some (B + 123) ∧ len ≤ 100 ∧ I (B + 122) 1 = nI len ∧ ∀ j, j < len → tx j < 128 ∧ I (B + 123) j = nI (tx j) := by
  obtain ⟨⟨-, -, -, -, a1, a2⟩, ⟨r, ⟨-, -, -, -, a3, a4, -⟩, -⟩, -, -, -, -, -, a5, a6, a7⟩ := h
  exact ⟨a1, a2, a3, a4, a5, a6, a7⟩
/-- a byte behind the text -/
def txA (tx : Nat → Nat) (len v : Nat) : Nat → Nat := fun j => if j = len then v else tx j
end
