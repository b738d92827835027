/-! calls: begin, addListener, turn, empty, undo -/
section
variable {B : Nat} {w : Wd} {I : MI} {L : ML} {P : MP} {N : Nat → Int32} {st : Nat} {Ks : Nat → Nat → Int32} {len : Nat} {tx : Nat → Nat} {T : Nat}
theorem Fr_now {X : Nat → Int32} : Fr (B + 284) (B + 289) I (wr I (B + 285) X) L L P P := fun x hx => ⟨wr_ne _ _ (by omega), rfl, rfl⟩
end
