/-! states are saved and brought back: the model -/
/-- a call of the class answers o, and the object stands for .. -/
def Cok (B : Nat) (w : Wd) (I : MI) (L : ML) (P : MP) (o : Value) (N : Nat → Int32) (st : Nat) (Ks : Nat → Nat → Int32) (len : Nat) (tx : Nat → Nat) (T : Nat) (r : Option Rs) : Prop := ∃ J K Q, r = some (.inl (some o), w, J, K, Q) ∧ CW B w J K Q N st Ks len tx T ∧ Fr B (B + 284) I J L K P Q
theorem CW_Fr {B : Nat} {w : Wd} {I J : MI} {L K : ML} {P Q : MP} {N : Nat → Int32} {st : Nat} {Ks : Nat → Nat → Int32} {len : Nat} {tx : Nat → Nat} {T : Nat} (h : CW B w I L P N st Ks len tx T) (f : Fr (B + 284) (B + 289) I J L K P Q) : CW B w J K Q N st Ks len tx T := CW_fr h (fun x g1 g2 => f x (by omega))
theorem FvS_Fr {B : Nat} {I J : MI} {L K : ML} {P Q : MP} (h : FvS B I J L K P Q) : Fr B (B + 284) I J L K P Q := fun x hx => h x (by omega)
section
variable {B : Nat} {w : Wd} {I : MI} {L : ML} {P : MP} {N : Nat → Int32} {st : Nat} {Ks : Nat → Nat → Int32} {len : Nat} {tx : Nat → Nat} {T : Nat}
end
