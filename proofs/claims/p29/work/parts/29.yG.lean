/-! the text: an order is carried out -/
theorem o1N_none {a b : Option Nat} (h : o1N a b = none) : a = none ∧ b = none := by
  cases a with
  | none => rw [o1N_n] at h; exact ⟨rfl, h⟩
  | some e => rw [o1N_s] at h; exact absurd h sm_ne
theorem odN_none {len : Nat} {tx : Nat → Nat} {p a b : Nat} (h : odN len tx p a b = none) : p < len ∧ a ≤ tx p ∧ tx p ≤ b := by
  by_cases g : p < len ∧ a ≤ tx p ∧ tx p ≤ b
  · exact g
  · rw [odN_f g] at h; exact absurd h sm_ne
theorem osN_none {len : Nat} {tx : Nat → Nat} {p c : Nat} (h : osN len tx p c = none) : p < len ∧ tx p = c := by
  by_cases g : p < len ∧ tx p = c
  · exact g
  · rw [osN_f g] at h; exact absurd h sm_ne
theorem rtN_ok (len : Nat) (tx : Nat → Nat) : ∀ f p c b, 0 < f → (rtN len tx f p c b).1 = none → b < 256 ^ c → p + 1 ≤ (rtN len tx f p c b).2.1 ∧ c + 1 ≤ (rtN len tx f p c b).2.2.1 ∧ (rtN len tx f p c b).2.2.1 ≤ c + f ∧ (rtN len tx f p c b).2.2.2 < 256 ^ (rtN len tx f p c b).2.2.1 := by
  intro f
  induction f with
  | zero => intro p c b h; omega
  | succ f ih =>
    intro p c b _ h hb
    unfold rtN at h ⊢
    by_cases g : nfN len tx p 0 255 = none
    · rw [if_pos g] at h ⊢
      obtain ⟨n0, -, -, hv⟩ := nfN_none g
      have hb' : 256 * b + vvN tx p (ndN len tx p) < 256 ^ (c + 1) := by rw [Nat.pow_succ]; omega
      by_cases g2 : f ≠ 0 ∧ p + ndN len tx p < len ∧ tx (p + ndN len tx p) = 44
      · rw [if_pos g2] at h ⊢
        obtain ⟨i1, i2, i3, i4⟩ := ih _ _ _ (by omega) h hb'
        exact ⟨by omega, by omega, by omega, i4⟩
      · rw [if_neg g2]
        exact ⟨by dsimp only; omega, Nat.le_refl _, by dsimp only; omega, hb'⟩
    · rw [if_neg g] at h
      exact absurd h g
theorem tgF_none {len : Nat} {tx : Nat → Nat} {p : Nat} (h : tgF len tx p = none) : tx p - 48 ≤ 2 ∧ vvN tx (p + 2) (ndN len tx (p + 2)) ≤ 127 := by
  unfold tgF at h
  obtain ⟨h1, h2⟩ := o1N_none h
  obtain ⟨h3, h4⟩ := o1N_none h2
  have := odN_none h1
  have := nfN_none h4
  omega
theorem flt_ok {len : Nat} {tx : Nat → Nat} {p : Nat} (hf : fltN len tx p = none) : p + 3 ≤ nxN len tx p ∧ nxN len tx p ≤ len ∧ ((tx p = 119 ∨ tx p = 114) ∧ tx p ≠ 115 ∧ whN tx p ≤ 2 ∧ adN len tx p ≤ 127 ∧ 1 ≤ cnN len tx p ∧ cnN len tx p ≤ 4 ∧ btN len tx p < 256 ^ cnN len tx p ∨ tx p = 115 ∧ 1 ≤ cnN len tx p ∧ cnN len tx p ≤ 200 ∧ cnN len tx p ≤ 40 * (nxN len tx p - p)) := by
  unfold fltN at hf
  by_cases k1 : tx p = 119
  · rw [if_pos k1] at hf
    obtain ⟨h1, h2⟩ := o1N_none hf
    obtain ⟨h3, h4⟩ := o1N_none h2
    obtain ⟨h5, h6⟩ := o1N_none h4
    obtain ⟨a1, a2⟩ := tgF_none h1
    obtain ⟨b1, b2, b3, b4⟩ := rtN_ok len tx 4 _ 0 0 (by omega) h5 (by omega)
    have c1 := osN_none h6
    unfold nxN cnN btN whN adN
    rw [if_pos k1, if_pos k1, if_pos k1]
    have p4 : p + 3 ≤ p4N len tx p := by unfold p4N; omega
    refine ⟨by omega, by omega, Or.inl ⟨Or.inl k1, by omega, a1, ?_, by omega, by omega, b4⟩⟩
    rw [show p + 3 = p + 1 + 2 from by omega]; exact a2
  · rw [if_neg k1] at hf
    by_cases k2 : tx p = 114
    · rw [if_pos k2] at hf
      obtain ⟨h1, h2⟩ := o1N_none hf
      obtain ⟨h3, h4⟩ := o1N_none h2
      obtain ⟨h5, h6⟩ := o1N_none h4
      obtain ⟨a1, a2⟩ := tgF_none h1
      have b1 := odN_none h5
      have c1 := osN_none h6
      unfold nxN cnN btN whN adN
      rw [if_neg k1, if_neg k1, if_neg k1, if_pos k2, if_pos k2]
      have p4 : p + 3 ≤ p4N len tx p := by unfold p4N; omega
      refine ⟨by omega, by omega, Or.inl ⟨Or.inr k2, by omega, a1, ?_, by omega, by omega, Nat.pow_pos (by omega)⟩⟩
      rw [show p + 3 = p + 1 + 2 from by omega]; exact a2
    · rw [if_neg k2] at hf
      by_cases k3 : tx p = 115
      · rw [if_pos k3] at hf
        obtain ⟨h1, h2⟩ := o1N_none hf
        obtain ⟨a1, a2, a3, a4⟩ := nfN_none h1
        have c1 := osN_none h2
        have hn := ndN_le len tx (p + 1)
        obtain ⟨v1, v2, v3, v4⟩ := vvN_le (len := len) (tx := tx) (p := p + 1) _ hn (fun _ hj => ndN_dg hj)
        unfold nxN cnN
        rw [if_neg k1, if_neg k1, if_neg k2, if_neg k2]
        refine ⟨by omega, by omega, Or.inr ⟨k3, a3, a4, ?_⟩⟩
        rcases (show ndN len tx (p + 1) = 1 ∨ ndN len tx (p + 1) = 2 ∨ ndN len tx (p + 1) = 3 by omega) with z | z | z
        · have := v3 (by omega); omega
        · have := v2 (by omega); omega
        · omega
      · rw [if_neg k3] at hf; exact absurd hf sm_ne
/-- what the object has read of an order at p -/
def FC (len : Nat) (tx : Nat → Nat) (p : Nat) (X : Nat → Int32) (b : Int64) : Prop := X 5 = nI (tx p) ∧ X 8 = nI (cnN len tx p) ∧ (tx p ≠ 115 → X 6 = nI (whN tx p) ∧ X 7 = nI (adN len tx p) ∧ b = Int64.ofNat (btN len tx p))
def FM (len : Nat) (tx : Nat → Nat) (p : Nat) (X : Nat → Int32) (b : Int64) : Prop := X 10 = nI (tx p) ∧ X 13 = nI (cnN len tx p) ∧ (tx p ≠ 115 → X 11 = nI (whN tx p) ∧ X 12 = nI (adN len tx p) ∧ (tx p = 119 → b = Int64.ofNat (btN len tx p)))
theorem by_most {c b : Nat} (h1 : 1 ≤ c) (h4 : c ≤ 4) (hb : b < 256 ^ c) : 0 ≤ Int64.ofNat b ∧ Int64.ofNat b ≤ mostV (nI c) := by
  have hb2 : b < 4294967296 := Nat.lt_of_lt_of_le hb (by
    have : (256 : Nat) ^ c ≤ 256 ^ 4 := Nat.pow_le_pow_right (by omega) (by omega)
    exact this)
  have ht : (Int64.ofNat b).toInt = b := Int64.toInt_ofNat_of_lt (by omega)
  constructor
  · rw [Int64.le_iff_toInt_le, ht, show (0 : Int64).toInt = 0 from by decide]; omega
  · rw [Int64.le_iff_toInt_le, ht]
    rcases (show c = 1 ∨ c = 2 ∨ c = 3 ∨ c = 4 by omega) with rfl | rfl | rfl | rfl
    · rw [show (mostV (nI 1)).toInt = 255 from by decide]; omega
    · rw [show (mostV (nI 2)).toInt = 65535 from by decide]; omega
    · rw [show (mostV (nI 3)).toInt = 16777215 from by decide]; omega
    · rw [show (mostV (nI 4)).toInt = 4294967295 from by decide]; omega
section
variable {B : Nat} {w : Wd} {I : MI} {L : ML} {P : MP} {N : Nat → Int32} {st : Nat} {Ks : Nat → Nat → Int32} {len : Nat} {tx : Nat → Nat} {T : Nat}
end
