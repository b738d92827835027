section
variable {B : Nat} {w : Wd} {I : MI} {L : ML} {P : MP} {N : Nat → Int32} {st : Nat} {Ks : Nat → Nat → Int32} {len : Nat} {tx : Nat → Nat} {T : Nat}
theorem CW_GN (h : CW B w I L P N st Ks len tx T) : ∃ q, q ≤ T ∧ GN N q ∧ N 0 = nI q := by
  obtain ⟨hw, -, -, ⟨q, hq, hb⟩, -⟩ := h
  exact ⟨q, hq, ⟨w, B + 1, I, L, P, hw.2.1 0 (by omega), hb⟩, hb.2.1⟩
end
