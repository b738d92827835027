/-- a caller's numbers -/
def calV (N : Nat → Int32) (c v : Nat) : Int32 := if v < 8 then N (207 + 40 * c + v) else if conB N (nI c) then nI 1 else nI 0
section
variable {B : Nat} {w : Wd} {I : MI} {L : ML} {P : MP} {N : Nat → Int32} {st : Nat} {Ks : Nat → Nat → Int32} {len : Nat} {tx : Nat → Nat} {T : Nat}
end
