/-! the text: an order, as the class reads it -/
def o1N (a b : Option Nat) : Option Nat := if a = none then b else a
theorem o1N_n (b : Option Nat) : o1N none b = b := by unfold o1N; rw [if_pos rfl]
theorem o1N_s (e : Nat) (b : Option Nat) : o1N (some e) b = some e := by unfold o1N; rw [if_neg (fun q => nomatch q)]
theorem sm_ne {e : Nat} : ¬ (some e : Option Nat) = none := fun q => nomatch q
/-- the bytes of a write: the fault, the place behind them, their count, their value -/
def rtN (len : Nat) (tx : Nat → Nat) : Nat → Nat → Nat → Nat → Option Nat × Nat × Nat × Nat
  | 0, p, c, b => (none, p, c, b)
  | f + 1, p, c, b => if nfN len tx p 0 255 = none then (if f ≠ 0 ∧ p + ndN len tx p < len ∧ tx (p + ndN len tx p) = 44 then rtN len tx f (p + ndN len tx p + 1) (c + 1) (256 * b + vvN tx p (ndN len tx p)) else (none, p + ndN len tx p, c + 1, 256 * b + vvN tx p (ndN len tx p))) else (nfN len tx p 0 255, p + ndN len tx p, c, b)
def tgF (len : Nat) (tx : Nat → Nat) (p : Nat) : Option Nat := o1N (odN len tx p 48 50) (o1N (osN len tx (p + 1) 58) (nfN len tx (p + 2) 0 127))
/-- behind the target of an order at p -/
def p4N (len : Nat) (tx : Nat → Nat) (p : Nat) : Nat := p + 3 + ndN len tx (p + 3)
def fltN (len : Nat) (tx : Nat → Nat) (p : Nat) : Option Nat :=
  if tx p = 119 then o1N (tgF len tx (p + 1)) (o1N (osN len tx (p4N len tx p) 61) (o1N (rtN len tx 4 (p4N len tx p + 1) 0 0).1 (osN len tx (rtN len tx 4 (p4N len tx p + 1) 0 0).2.1 59)))
  else if tx p = 114 then o1N (tgF len tx (p + 1)) (o1N (osN len tx (p4N len tx p) 42) (o1N (odN len tx (p4N len tx p + 1) 49 52) (osN len tx (p4N len tx p + 2) 59)))
  else if tx p = 115 then o1N (nfN len tx (p + 1) 1 200) (osN len tx (p + 1 + ndN len tx (p + 1)) 59)
  else some p
def nxN (len : Nat) (tx : Nat → Nat) (p : Nat) : Nat := if tx p = 119 then (rtN len tx 4 (p4N len tx p + 1) 0 0).2.1 + 1 else if tx p = 114 then p4N len tx p + 3 else p + 1 + ndN len tx (p + 1) + 1
def cnN (len : Nat) (tx : Nat → Nat) (p : Nat) : Nat := if tx p = 119 then (rtN len tx 4 (p4N len tx p + 1) 0 0).2.2.1 else if tx p = 114 then tx (p4N len tx p + 1) - 48 else vvN tx (p + 1) (ndN len tx (p + 1))
def btN (len : Nat) (tx : Nat → Nat) (p : Nat) : Nat := if tx p = 119 then (rtN len tx 4 (p4N len tx p + 1) 0 0).2.2.2 else 0
def whN (tx : Nat → Nat) (p : Nat) : Nat := tx (p + 1) - 48
def adN (len : Nat) (tx : Nat → Nat) (p : Nat) : Nat := vvN tx (p + 3) (ndN len tx (p + 3))
theorem nfN_none {len : Nat} {tx : Nat → Nat} {p lo hi : Nat} (h : nfN len tx p lo hi = none) : 0 < ndN len tx p ∧ ¬ dgN len tx (p + ndN len tx p) ∧ lo ≤ vvN tx p (ndN len tx p) ∧ vvN tx p (ndN len tx p) ≤ hi := by
  unfold nfN at h
  by_cases g1 : ndN len tx p = 0
  · rw [if_pos g1] at h; exact nomatch h
  · rw [if_neg g1] at h
    by_cases g2 : dgN len tx (p + ndN len tx p)
    · rw [if_pos g2] at h; exact nomatch h
    · rw [if_neg g2] at h
      by_cases g3 : lo ≤ vvN tx p (ndN len tx p) ∧ vvN tx p (ndN len tx p) ≤ hi
      · exact ⟨by omega, g2, g3⟩
      · rw [if_neg g3] at h; exact nomatch h
theorem osN_t {len : Nat} {tx : Nat → Nat} {p c : Nat} (h : p < len ∧ tx p = c) : osN len tx p c = none := by unfold osN; rw [if_pos h]
theorem osN_f {len : Nat} {tx : Nat → Nat} {p c : Nat} (h : ¬ (p < len ∧ tx p = c)) : osN len tx p c = some p := by unfold osN; rw [if_neg h]
theorem odN_t {len : Nat} {tx : Nat → Nat} {p a b : Nat} (h : p < len ∧ a ≤ tx p ∧ tx p ≤ b) : odN len tx p a b = none := by unfold odN; rw [if_pos h]
theorem odN_f {len : Nat} {tx : Nat → Nat} {p a b : Nat} (h : ¬ (p < len ∧ a ≤ tx p ∧ tx p ≤ b)) : odN len tx p a b = some p := by unfold odN; rw [if_neg h]
theorem rtN_p (len : Nat) (tx : Nat → Nat) : ∀ f p c b, (rtN len tx f p c b).2.1 ≤ p + 4 * f := by
  intro f
  induction f with
  | zero => intro p c b; exact Nat.le_refl _
  | succ f ih =>
    intro p c b
    have hn := ndN_le len tx p
    unfold rtN
    split
    · split
      · have := ih (p + ndN len tx p + 1) (c + 1) (256 * b + vvN tx p (ndN len tx p)); omega
      · dsimp only; omega
    · dsimp only; omega
theorem i2l_nI {v : Nat} (hv : v < 2147483648) : Int32.toInt64 (nI v) = Int64.ofNat v := Int64.toInt_inj.mp (by rw [Int32.toInt_toInt64, nI_toInt hv, Int64.toInt_ofNat_of_lt (by omega)])
theorem by8 {b v : Nat} (hb : b < 16777216) (hv : v < 256) : (Int64.ofNat b <<< (Int32.toInt64 (nI 8) &&& 63)) ||| Int32.toInt64 (nI v) = Int64.ofNat (256 * b + v) := by
  rw [i2l_nI (v := v) (by omega), show (Int32.toInt64 (nI 8) &&& 63) = (8 : Int64) from by decide]
  apply Int64.toBitVec_inj.mp
  apply BitVec.eq_of_toNat_eq
  rw [Int64.toBitVec_or, BitVec.toNat_or, Int64.toBitVec_shiftLeft, show (8 : Int64).toBitVec.smod 64 = 8#64 from by decide, BitVec.shiftLeft_eq', BitVec.toNat_shiftLeft, Int64.toBitVec_ofNat', Int64.toBitVec_ofNat', Int64.toBitVec_ofNat']
  simp only [BitVec.toNat_ofNat]
  rw [show 8 % 2 ^ 64 = 8 from rfl, Nat.mod_eq_of_lt (show b < 2 ^ 64 by omega), Nat.mod_eq_of_lt (show v < 2 ^ 64 by omega), Nat.mod_eq_of_lt (show 256 * b + v < 2 ^ 64 by omega), Nat.mod_eq_of_lt (show b <<< 8 < 2 ^ 64 by rw [Nat.shiftLeft_eq]; omega), ← Nat.shiftLeft_add_eq_or_of_lt (show v < 2 ^ 8 by omega), Nat.shiftLeft_eq]
  omega
theorem by8' {b v : Nat} (hb : b < 16777216) (hv : v < 256) : 256 * Int64.ofNat b + Int32.toInt64 (nI v) = Int64.ofNat (256 * b + v) := by
  rw [i2l_nI (v := v) (by omega), Int64.ofNat_add, Int64.ofNat_mul]
  rfl
section
variable {w : Wd} {P : MP} {t ta len : Nat} {tx : Nat → Nat} {I : MI} {L : ML}
theorem cl_rB (h : TXT w P t ta len tx I) {p : Nat} (hp : p < 500) (h2 : I t 2 = nI p) : ∃ X K, call 69 [.ref t] w I L P = some (.inl (some (.int (if (rtN len tx 4 p 0 0).1 = none then nI 1 else nI 0))), w, wr I t X, K, P) ∧ (∀ k, k ≠ 2 → k ≠ 3 → k ≠ 4 → k ≠ 8 → X k = I t k) ∧ (∀ x, x ≠ t → K x = L x) ∧ ((rtN len tx 4 p 0 0).1 = none → X 2 = nI (rtN len tx 4 p 0 0).2.1 ∧ X 3 = I t 3 ∧ X 8 = nI (rtN len tx 4 p 0 0).2.2.1 ∧ K t 9 = Int64.ofNat (rtN len tx 4 p 0 0).2.2.2) ∧ ∀ e, (rtN len tx 4 p 0 0).1 = some e → X 3 = nI e := by
  have loop : ∀ f c p b, c + f = 4 → 0 < f → p + 5 * f < 1000 → b < 256 ^ c → ∀ (X : Nat → Int32) (K : ML), X 1 = I t 1 → X 2 = nI p → X 8 = nI c → K t 9 = Int64.ofNat b → ∃ Y M, go 69 10 [.ref t] [] w (wr I t X) K P = some (.inl (some (.int (if (rtN len tx f p c b).1 = none then nI 1 else nI 0))), w, wr I t Y, M, P) ∧ (∀ k, k ≠ 2 → k ≠ 3 → k ≠ 4 → k ≠ 8 → Y k = X k) ∧ (∀ x, x ≠ t → M x = K x) ∧ ((rtN len tx f p c b).1 = none → Y 2 = nI (rtN len tx f p c b).2.1 ∧ Y 3 = X 3 ∧ Y 8 = nI (rtN len tx f p c b).2.2.1 ∧ M t 9 = Int64.ofNat (rtN len tx f p c b).2.2.2) ∧ ∀ e, (rtN len tx f p c b).1 = some e → Y 3 = nI e := by
    intro f
    induction f with
    | zero => intro c p b _ hf; omega
    | succ f ih =>
      intro c p b hc _ hpf hb X K e1 e2 e8 e9
      have hn := ndN_le len tx p
      have hb2 : b < 16777216 := Nat.lt_of_lt_of_le hb (by
        have : (256 : Nat) ^ c ≤ 256 ^ 3 := Nat.pow_le_pow_right (by omega) (by omega)
        exact this)
      obtain ⟨Y, a1, a2, a3, a4⟩ := cl_rN (L := K) (TXT_wr h e1) (p := p) (lo := 0) (hi := 255) (by omega) (by omega) (by omega) (by rw [wr_same]; exact e2)
      rw [wr_wr] at a1
      rw [wr_same] at a2 a3
      rw [Text_readBytes_10 _ _ _ _ _ h.1, a1]
      unfold rtN
      by_cases g : nfN len tx p 0 255 = none
      · obtain ⟨b2, b3, b4⟩ := a3 g
        obtain ⟨-, -, -, hv⟩ := nfN_none g
        rw [if_pos g, if_pos g]
        simp only [kC_ret, Option.toList, List.cons_append, List.nil_append, fix1_int, fix1_ref, fix1_unk, fix1_null, fix1_long]
        have eY8 : Y 8 = nI c := by rw [a2 8 (by omega) (by omega) (by omega)]; exact e8
        rw [Text_readBytes_18, if_pos n10, Text_readBytes_23 _ _ _ _ _ h.1, updI_wr, wr_wr, wr_same, wr_same, sN_eq, eY8, nI_add, e9, b4, by8 hb2 (by omega)]
        have stop : go 69 67 [.ref t] [] w (wr I t (sN Y 8 (nI (c + 1)))) (updL K t 9 (Int64.ofNat (256 * b + vvN tx p (ndN len tx p)))) P = some (.inl (some (.int (nI 1))), w, wr I t (sN Y 8 (nI (c + 1))), updL K t 9 (Int64.ofNat (256 * b + vvN tx p (ndN len tx p))), P) := by
          rw [Text_readBytes_67 _ _ _ _ _ b11]
        have eYk : ∀ k, k ≠ 2 → k ≠ 3 → k ≠ 4 → k ≠ 8 → sN Y 8 (nI (c + 1)) k = X k := fun k z1 z2 z3 z4 => by rw [sN_ne z4]; exact a2 k z1 z2 z3
        have fin : ∃ Z M, some ((.inl (some (.int (nI 1))), w, wr I t (sN Y 8 (nI (c + 1))), updL K t 9 (Int64.ofNat (256 * b + vvN tx p (ndN len tx p))), P) : Rs) = some (.inl (some (.int (if (none : Option Nat) = none then nI 1 else nI 0))), w, wr I t Z, M, P) ∧ (∀ k, k ≠ 2 → k ≠ 3 → k ≠ 4 → k ≠ 8 → Z k = X k) ∧ (∀ x, x ≠ t → M x = K x) ∧ ((none : Option Nat) = none → Z 2 = nI (p + ndN len tx p) ∧ Z 3 = X 3 ∧ Z 8 = nI (c + 1) ∧ M t 9 = Int64.ofNat (256 * b + vvN tx p (ndN len tx p))) ∧ ∀ e, (none : Option Nat) = some e → Z 3 = nI e := by
          refine ⟨_, _, by rw [if_pos rfl], eYk, ?_, fun _ => ⟨by rw [sN_ne (by omega)]; exact b2, by rw [sN_ne (by omega)]; exact b3, by rw [sN_eq], ?_⟩, fun e q => nomatch q⟩
          · intro x hx; funext j; unfold updL; rw [if_neg (fun z => hx z.1)]
          · unfold updL; rw [if_pos ⟨rfl, rfl⟩]
        by_cases gf : f = 0
        · rw [if_neg (show ¬ (f ≠ 0 ∧ p + ndN len tx p < len ∧ tx (p + ndN len tx p) = 44) from fun z => z.1 gf), if_pos (show nI 4 ≤ nI (c + 1) from nI_le (by omega) (by omega)), stop]
          exact fin
        · rw [if_neg (nI_ge (by omega) (by omega)), Text_readBytes_58 _ _ _ _ _ h.1, cl_tit (TXT_wr h (by rw [eYk 1 (by omega) (by omega) (by omega) (by omega)]; exact e1)) (show p + ndN len tx p < 2000 by omega) (by omega) (by rw [wr_same, sN_ne (by omega)]; exact b2)]
          by_cases g2 : p + ndN len tx p < len ∧ tx (p + ndN len tx p) = 44
          · rw [if_pos g2, if_pos (show f ≠ 0 ∧ p + ndN len tx p < len ∧ tx (p + ndN len tx p) = 44 from ⟨gf, g2⟩)]
            simp only [kC_ret, Option.toList, List.cons_append, List.nil_append, fix1_int, fix1_ref, fix1_unk, fix1_null, fix1_long]
            rw [Text_readBytes_64, if_pos n10, wr_wr, wr_same]
            obtain ⟨Z, M, c1, c2, c3, c4, c5⟩ := ih (c + 1) (p + ndN len tx p + 1) (256 * b + vvN tx p (ndN len tx p)) (by omega) (by omega) (by omega) (by rw [Nat.pow_succ]; omega) (sN (sN Y 8 (nI (c + 1))) 2 (nI (p + ndN len tx p + 1))) (updL K t 9 (Int64.ofNat (256 * b + vvN tx p (ndN len tx p)))) (by rw [sN_ne (by omega), eYk 1 (by omega) (by omega) (by omega) (by omega)]; exact e1) (by rw [sN_eq]) (by rw [sN_ne (by omega), sN_eq]) (by unfold updL; rw [if_pos ⟨rfl, rfl⟩])
            refine ⟨Z, M, c1, ?_, ?_, ?_, c5⟩
            · intro k z1 z2 z3 z4; rw [c2 k z1 z2 z3 z4, sN_ne z1]; exact eYk k z1 z2 z3 z4
            · intro x hx; rw [c3 x hx]; funext j; unfold updL; rw [if_neg (fun z => hx z.1)]
            · intro q
              obtain ⟨d1, d2, d3⟩ := c4 q
              exact ⟨d1, by rw [d2, sN_ne (by omega), sN_ne (by omega)]; exact b3, d3⟩
          · rw [if_neg g2, if_neg (show ¬ (f ≠ 0 ∧ p + ndN len tx p < len ∧ tx (p + ndN len tx p) = 44) from fun z => g2 z.2)]
            simp only [kC_ret, Option.toList, List.cons_append, List.nil_append, fix1_int, fix1_ref, fix1_unk, fix1_null, fix1_long]
            rw [Text_readBytes_64, if_neg (by simp [n00]), stop]
            obtain ⟨Z, M, c1, c2, c3, c4, c5⟩ := fin
            rw [if_pos rfl] at c1
            exact ⟨Z, M, by rw [if_pos trivial]; exact c1, c2, c3, fun _ => c4 rfl, c5⟩
      · rw [if_neg g, if_neg g]
        simp only [kC_ret, Option.toList, List.cons_append, List.nil_append, fix1_int, fix1_ref, fix1_unk, fix1_null, fix1_long]
        rw [Text_readBytes_18, if_neg (by simp [n00]), Text_readBytes_21 _ _ _ _ _ b01]
        refine ⟨Y, K, ?_, fun k z1 z2 z3 _ => a2 k z1 z2 z3, fun _ _ => rfl, fun q => absurd q g, fun e q => a4 e q⟩
        rw [if_neg g]
  obtain ⟨Y, M, c1, c2, c3, c4, c5⟩ := loop 4 0 p 0 (by omega) (by omega) (by omega) (by omega) (sN (I t) 8 (nI 0)) (updL L t 9 0) (by rw [sN_ne (by omega)]) (by rw [sN_ne (by omega)]; exact h2) (by rw [sN_eq]) (by unfold updL; rw [if_pos ⟨rfl, rfl⟩]; rfl)
  refine ⟨Y, M, ?_, ?_, ?_, ?_, c5⟩
  · rw [Text_readBytes_E, Text_readBytes_0 _ _ _ _ _ h.1, updI_wr, c1]
  · intro k z1 z2 z3 z4; rw [c2 k z1 z2 z3 z4, sN_ne z4]
  · intro x hx; rw [c3 x hx]; funext j; unfold updL; rw [if_neg (fun z => hx z.1)]
  · intro q
    obtain ⟨d1, d2, d3⟩ := c4 q
    exact ⟨d1, by rw [d2, sN_ne (by omega)], d3⟩
end
