/-! the text: carryOut, both -/
section
variable {B : Nat} {w : Wd} {I : MI} {L : ML} {P : MP} {N : Nat → Int32} {st : Nat} {Ks : Nat → Nat → Int32} {len : Nat} {tx : Nat → Nat} {T : Nat}
theorem CW_TXT (h : CW B w I L P N st Ks len tx T) : TXT w P (B + 122) (B + 123) len tx I := by
  obtain ⟨u1, u2, u3, u4, u5, u6, u7⟩ := CW_tb h
  exact ⟨u1, u2, u4, by omega, u5, u6, u7⟩
theorem CW_txt (h : CW B w I L P N st Ks len tx T) {X : Nat → Int32} {K : ML} (e : X 1 = I (B + 122) 1) (eK : ∀ x, x ≠ B + 122 → K x = L x) : CW B w (wr I (B + 122) X) K P N st Ks len tx T := by
  obtain ⟨u1, u2, u3, u4, u5, u6, u7⟩ := CW_tb h
  refine CW_set h (fun x g1 g2 => ⟨wr_ne _ _ g1, eK x g1⟩) u5 (by rw [wr_same, e]; exact u6) (fun j hj => ⟨(u7 j hj).1, by rw [wr_ne _ _ (by omega)]; exact (u7 j hj).2⟩)
end
