/-! digest: the model -/
theorem updL_u {K : ML} {m k : Nat} {u v : Int64} : updL (updL K m k u) m k v = updL K m k v := by
  funext x j; unfold updL
  by_cases h : x = m ∧ j = k
  · rw [if_pos h, if_pos h]
  · rw [if_neg h, if_neg h, if_neg h]
theorem numV_c {M N : Nat → Int32} (e : ∀ j, j < 459 → M j = N j) {v : Nat} (hv : v < 10) : numV M v = numV N v := by
  rcases (show v = 0 ∨ v = 1 ∨ v = 2 ∨ v = 3 ∨ v = 4 ∨ v = 5 ∨ v = 6 ∨ v = 7 ∨ v = 8 ∨ v = 9 by omega) with rfl | rfl | rfl | rfl | rfl | rfl | rfl | rfl | rfl | rfl
  · exact e 0 (by omega)
  · exact e 1 (by omega)
  · exact e 2 (by omega)
  · exact e 3 (by omega)
  · show (if M 4 = 0 then nI 1 else nI 0) = if N 4 = 0 then nI 1 else nI 0
    rw [e 4 (by omega)]
  · exact e 5 (by omega)
  · exact e 10 (by omega)
  · exact e 11 (by omega)
  · exact e 8 (by omega)
  · exact e 12 (by omega)
theorem calV_c {M N : Nat → Int32} (e : ∀ j, j < 459 → M j = N j) {c v : Nat} (hc : c < 3) : calV M c v = calV N c v := by
  have e5 : (if conB M (nI c) then nI 1 else nI 0) = if conB N (nI c) then nI 1 else nI 0 := by
    unfold conB
    rw [e 5 (by omega)]
  unfold calV
  rw [e5]
  by_cases g : v < 8
  · rw [if_pos g, if_pos g, e _ (by omega)]
  · rw [if_neg g, if_neg g]
section
variable {w : Wd} {mo d : Nat} {P : MP} {N : Nat → Int32}
end
