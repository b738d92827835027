/-! the text: the model's orders -/
section
variable {w : Wd} {P : MP} {mo mt len : Nat} {tx : Nat → Nat} {I : MI} {L : ML}
theorem updL_o {K : ML} {m k x : Nat} {v : Int64} (h : x ≠ m) : updL K m k v x = K x := by
  funext j; unfold updL; rw [if_neg (fun z => h z.1)]
theorem updL_s {K : ML} {m k : Nat} {v : Int64} : updL K m k v m k = v := by unfold updL; rw [if_pos ⟨rfl, rfl⟩]
end
