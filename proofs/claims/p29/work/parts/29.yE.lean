/-! the text: how the model reads it -/
def foN (f : Int32) (o : Option Nat) : Int32 := if f = -1 then (match o with | none => -1 | some e => nI e) else f
theorem nI_m1 {t : Nat} (h : t < 2147483648) : ¬ nI t = -1 := by
  intro g
  have g2 := congrArg Int32.toInt g
  rw [nI_toInt h, show (-1 : Int32).toInt = -1 from by decide] at g2
  omega
theorem foN_n (f : Int32) : foN f none = f := by
  unfold foN
  by_cases h : f = -1
  · rw [if_pos h, h]
  · rw [if_neg h]
theorem foN_1 (e : Nat) : foN (-1) (some e) = nI e := by unfold foN; rw [if_pos rfl]
theorem foN_k {f : Int32} (h : f ≠ -1) (o : Option Nat) : foN f o = f := by unfold foN; rw [if_neg h]
theorem foN_o1 {f : Int32} {a b : Option Nat} (ha : ∀ e, a = some e → e < 2147483648) : foN (foN f a) b = foN f (o1N a b) := by
  cases a with
  | none => rw [foN_n, o1N_n]
  | some e =>
    rw [o1N_s]
    by_cases h : f = -1
    · rw [h, foN_1, foN_k (nI_m1 (ha e rfl))]
    · rw [foN_k h, foN_k h]
theorem odN_b {len : Nat} {tx : Nat → Nat} {p a b e : Nat} (h : odN len tx p a b = some e) : e = p := by
  unfold odN at h
  split at h
  · exact nomatch h
  · injection h with h; exact h.symm
theorem osN_b {len : Nat} {tx : Nat → Nat} {p c e : Nat} (h : osN len tx p c = some e) : e = p := by
  unfold osN at h
  split at h
  · exact nomatch h
  · injection h with h; exact h.symm
theorem nfN_b {len : Nat} {tx : Nat → Nat} {p lo hi e : Nat} (h : nfN len tx p lo hi = some e) : e ≤ p + 3 := by
  have hn := ndN_le len tx p
  unfold nfN at h
  split at h
  · injection h with h; omega
  · split at h
    · injection h with h; omega
    · split at h
      · exact nomatch h
      · injection h with h; omega
theorem o1N_b {a b : Option Nat} {e : Nat} (h : o1N a b = some e) : a = some e ∨ b = some e := by
  cases a with
  | none => rw [o1N_n] at h; exact Or.inr h
  | some x => rw [o1N_s] at h; exact Or.inl h
theorem rtN_b {len : Nat} {tx : Nat → Nat} {e : Nat} : ∀ f p c b, (rtN len tx f p c b).1 = some e → e ≤ p + 4 * f := by
  intro f
  induction f with
  | zero => intro p c b h; exact nomatch h
  | succ f ih =>
    intro p c b h
    have hn := ndN_le len tx p
    unfold rtN at h
    split at h
    · split at h
      · have := ih _ _ _ h; omega
      · exact nomatch h
    · have := nfN_b h; omega
theorem tgF_b {len : Nat} {tx : Nat → Nat} {p e : Nat} (h : tgF len tx p = some e) : e ≤ p + 5 := by
  unfold tgF at h
  rcases o1N_b h with h | h
  · have := odN_b h; omega
  · rcases o1N_b h with h | h
    · have := osN_b h; omega
    · have := nfN_b h; omega
/-- the text in the model -/
def MXT (w : Wd) (P : MP) (mo mt len : Nat) (tx : Nat → Nat) (I : MI) : Prop := w.1 mo = some (7, 0) ∧ w.1 mt = some (8, 100) ∧ P mo 4 = some mt ∧ mo ≠ mt ∧ len ≤ 100 ∧ I mo 5 = nI len ∧ ∀ j, j < len → tx j < 128 ∧ I mt j = nI (tx j)
theorem MXT_wr {w : Wd} {P : MP} {mo mt len : Nat} {tx : Nat → Nat} {I : MI} {X : Nat → Int32} (h : MXT w P mo mt len tx I) (e : X 5 = I mo 5) : MXT w P mo mt len tx (wr I mo X) := by
  obtain ⟨h1, h2, h3, h4, h5, h6, h7⟩ := h
  refine ⟨h1, h2, h3, h4, h5, by rw [wr_same, e]; exact h6, fun j hj => ⟨(h7 j hj).1, by rw [wr_ne _ _ h4.symm]; exact (h7 j hj).2⟩⟩
theorem l48_i : (48 : Int64) = (nI 48).toInt64 := by decide
theorem l57_i : (57 : Int64) = (nI 57).toInt64 := by decide
theorem RG_ch {len : Nat} {tx : Nat → Nat} {p a b : Nat} (hx : ∀ j, j < len → tx j < 128) (ha : a < 128) (hb : b < 128) : RG (chN len tx p) a b ↔ (p < len ∧ a ≤ tx p ∧ tx p ≤ b) := by
  unfold RG
  rw [chN_le hx ha]
  constructor
  · rintro ⟨⟨g, h1⟩, h2⟩
    have := hx p g
    rw [chN_lt g, nI_leI (by omega) (by omega)] at h2
    exact ⟨g, h1, h2⟩
  · rintro ⟨g, h1, h2⟩
    exact ⟨⟨g, h1⟩, by rw [chN_lt g]; exact nI_le h2 (by omega)⟩
theorem RG_sub {x : Int32} {a b : Nat} (hx : x = -1 ∨ ∃ c, c < 128 ∧ x = nI c) (ha : a < 80) (hb : b < 80) : RG (x - nI 48) a b ↔ RG x (48 + a) (48 + b) := by
  unfold RG
  rcases hx with rfl | ⟨c, hc, rfl⟩
  · have e1 : ¬ nI a ≤ (-1 : Int32) - nI 48 := by
      rw [show (-1 : Int32) - nI 48 = -49 from by decide, Int32.le_iff_toInt_le, nI_toInt (by omega), show (-49 : Int32).toInt = -49 from by decide]; omega
    have e2 : ¬ nI (48 + a) ≤ (-1 : Int32) := by
      rw [Int32.le_iff_toInt_le, nI_toInt (by omega), show (-1 : Int32).toInt = -1 from by decide]; omega
    exact ⟨fun g => absurd g.1 e1, fun g => absurd g.1 e2⟩
  · rw [Int32.le_iff_toInt_le, Int32.le_iff_toInt_le, Int32.le_iff_toInt_le, Int32.le_iff_toInt_le, pk_sub_toInt (by omega) (by omega), nI_toInt (by omega), nI_toInt (by omega), nI_toInt (by omega), nI_toInt (by omega), nI_toInt (by omega)]
    omega
section
variable {w : Wd} {P : MP} {mo mt len : Nat} {tx : Nat → Nat} {I : MI} {L : ML}
theorem MXT_x (h : MXT w P mo mt len tx I) : ∀ j, j < len → tx j < 128 := fun j hj => (h.2.2.2.2.2.2 j hj).1
theorem ch_or (hx : ∀ j, j < len → tx j < 128) (p : Nat) : chN len tx p = -1 ∨ ∃ c, c < 128 ∧ chN len tx p = nI c := by
  by_cases g : p < len
  · exact Or.inr ⟨tx p, hx p g, chN_lt g⟩
  · exact Or.inl (chN_ge g)
theorem nfN_o (len : Nat) (tx : Nat → Nat) (p lo hi : Nat) : nfN len tx p lo hi = o1N (if ndN len tx p = 0 then some p else none) (o1N (if dgN len tx (p + ndN len tx p) then some (p + ndN len tx p) else none) (if lo ≤ vvN tx p (ndN len tx p) ∧ vvN tx p (ndN len tx p) ≤ hi then none else some p)) := by
  unfold nfN
  by_cases g1 : ndN len tx p = 0
  · rw [if_pos g1, if_pos g1, o1N_s]
  · rw [if_neg g1, if_neg g1, o1N_n]
    by_cases g2 : dgN len tx (p + ndN len tx p)
    · rw [if_pos g2, if_pos g2, o1N_s]
    · rw [if_neg g2, if_neg g2, o1N_n]
end
