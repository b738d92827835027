/-! calls: write, read, cancel -/
def mostV (z : Int32) : Int64 := if z ≠ nI 1 then (if z ≠ nI 2 then (if z ≠ nI 3 then 4294967295 else 16777215) else 65535) else 255
theorem by_ok {cnt : Nat} (h0 : 0 < cnt) (h4 : cnt ≤ 4) (b : Int64) : (¬ lg_cmp b 0 < 0 ∧ lg_cmp b (1 <<< (Int32.toInt64 ((nI 8) * nI cnt) &&& 63)) < 0) ↔ (0 ≤ b ∧ b ≤ mostV (nI cnt)) := by
  rw [lg_cmp_lt, lg_cmp_lt, Int64.not_lt]
  have key : ∀ (u v : Int64) (m : Int), u.toInt = m + 1 → v.toInt = m → (b < u ↔ b ≤ v) := by
    intro u v m hu hv
    rw [Int64.lt_iff_toInt_lt, Int64.le_iff_toInt_le, hu, hv]
    omega
  rcases (show cnt = 1 ∨ cnt = 2 ∨ cnt = 3 ∨ cnt = 4 by omega) with rfl | rfl | rfl | rfl
  · rw [key _ (mostV (nI 1)) 255 (by decide) (by decide)]
  · rw [key _ (mostV (nI 2)) 65535 (by decide) (by decide)]
  · rw [key _ (mostV (nI 3)) 16777215 (by decide) (by decide)]
  · rw [key _ (mostV (nI 4)) 4294967295 (by decide) (by decide)]
/-- what a queued message must keep to -/
abbrev qOk (y z : Int32) (b : Int64) : Prop := RG y 0 127 ∧ RG z 1 4 ∧ (0 ≤ b ∧ b ≤ mostV z)
section
variable {B : Nat} {w : Wd} {I : MI} {L : ML} {P : MP} {N : Nat → Int32} {st : Nat} {Ks : Nat → Nat → Int32} {len : Nat} {tx : Nat → Nat} {T : Nat}
/-- a message is queued by the class -/
theorem cl_queue (h : CW B w I L P N st Ks len tx T) {k n md c s a cnt : Nat} {rd : Int32} {b : Int64} (hbc : BC (B + 1) N I L P k n md) (hck : c < k) (e0 : N (207 + 40 * c) = nI s) (hs4 : s ≤ 4) (ha : a < 128) (hr : rd = nI 0 ∨ rd = nI 1) (hc0 : 0 < cnt) (hc4 : cnt ≤ 4) : (s = 4 → call 113 [.ref B, .ref (B + 1 + 7 + 7 * c), .int rd, .int (nI a), .int (nI cnt), .long b] w I L P = some (.inr 1, thrT w, I, L, P)) ∧ (s < 4 → Cok B w I L P (.int (nI (s + 1))) (queN N c s (nI a) rd (nI cnt) b) (svS st) (svK st Ks N) len tx T (call 113 [.ref B, .ref (B + 1 + 7 + 7 * c), .int rd, .int (nI a), .int (nI cnt), .long b] w I L P)) := by
  obtain ⟨hw, p0, tb, hst, -⟩ := CW_bc h
  have t0 := hw.1
  have hk : k ≤ 3 := hbc.1.2.1
  have tc := (tb.2.2.2.2.2.1 c (by omega)).1
  obtain ⟨qq, s', hp, g1, g2, g3, -⟩ := hbc.2.2.2.2.2.2.2.1 c (by omega)
  have es : s' = s := by
    rw [e0, nI_eq (by omega) (by omega)] at g2
    exact g2.symm
  subst es
  constructor
  · intro e
    rw [Two_queueMessage_E, Two_queueMessage_0 _ _ _ _ _ _ _ _ _ _ _ tc, g3, e, if_neg (by decide), Two_queueMessage_8]
  · intro hs
    obtain ⟨J, K, Q, a1, a2, a3⟩ := cl_save h
    obtain ⟨-, p0', -, -, q', k', n', md', hq', hbc', hlg'⟩ := CW_bc a2
    have ek : k' = k := by
      have h1 := hbc'.1.2.2.1
      rw [hbc.1.2.2.1, nI_eq (by omega) (by have := hbc'.1.2.1; omega)] at h1
      exact h1.symm
    subst ek
    obtain ⟨J2, K2, b1, b2, b3, b4⟩ := BR_enq (bt := b) tb hbc' hlg' hck hs e0 ha hr hc0 hc4
    have f2 : Fr (B + 1) (B + 41) J J2 K K2 Q Q := Fr_mono b4 (by omega) (by omega)
    refine ⟨J2, K2, Q, ?_, CW_bus a2 f2 (Nat.le_refl T) hq' b2, Fr_trans (FvS_Fr a3) (Fr_B f2)⟩
    rw [Two_queueMessage_E, Two_queueMessage_0 _ _ _ _ _ _ _ _ _ _ _ tc, g3, if_pos (nI_lt hs (by omega)), Two_queueMessage_18 _ _ _ _ _ _ _ _ _ _ _ t0, a1]
    simp only [kC_ret, Option.toList, List.cons_append, List.nil_append, fix1_int, fix1_ref, fix1_unk, fix1_null, fix1_long]
    rw [Two_queueMessage_22 _ _ _ _ _ _ _ _ _ _ _ tc, b1]
    simp only [kC_ret, Option.toList, List.cons_append, List.nil_append, fix1_int, fix1_ref, fix1_unk, fix1_null, fix1_long]
    rw [Two_queueMessage_32 _ _ _ _ _ _ _ _ _ _ _ _ tc, b3]
end
