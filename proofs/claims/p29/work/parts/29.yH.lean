/-! the text: carryOut -/
/-- the first fault from p on -/
def erN (len : Nat) (tx : Nat → Nat) : Nat → Nat → Option Nat
  | 0, _ => none
  | f + 1, p => if p < len then (if fltN len tx p = none then erN len tx f (nxN len tx p) else fltN len tx p) else none
theorem fltN_b {len : Nat} {tx : Nat → Nat} {p e : Nat} (h : fltN len tx p = some e) : e ≤ p + 40 := by
  have hnd := ndN_le len tx (p + 3)
  have hnd1 := ndN_le len tx (p + 1)
  have hp4 : p4N len tx p ≤ p + 6 := by unfold p4N; omega
  unfold fltN at h
  by_cases k1 : tx p = 119
  · rw [if_pos k1] at h
    have hrp := rtN_p len tx 4 (p4N len tx p + 1) 0 0
    rcases o1N_b h with h | h
    · have := tgF_b h; omega
    · rcases o1N_b h with h | h
      · have := osN_b h; omega
      · rcases o1N_b h with h | h
        · have := rtN_b _ _ _ _ h; omega
        · have := osN_b h; omega
  · rw [if_neg k1] at h
    by_cases k2 : tx p = 114
    · rw [if_pos k2] at h
      rcases o1N_b h with h | h
      · have := tgF_b h; omega
      · rcases o1N_b h with h | h
        · have := osN_b h; omega
        · rcases o1N_b h with h | h
          · have := odN_b h; omega
          · have := osN_b h; omega
    · rw [if_neg k2] at h
      by_cases k3 : tx p = 115
      · rw [if_pos k3] at h
        rcases o1N_b h with h | h
        · have := nfN_b h; omega
        · have := osN_b h; omega
      · rw [if_neg k3] at h
        injection h with h; omega
theorem erN_b {len : Nat} {tx : Nat → Nat} {e : Nat} : ∀ f p, erN len tx f p = some e → e ≤ len + 40 := by
  intro f
  induction f with
  | zero => intro p h; exact nomatch h
  | succ f ih =>
    intro p h
    unfold erN at h
    by_cases g : p < len
    · rw [if_pos g] at h
      by_cases g2 : fltN len tx p = none
      · rw [if_pos g2] at h; exact ih _ h
      · rw [if_neg g2] at h
        have := fltN_b h; omega
    · rw [if_neg g] at h; exact nomatch h
theorem erN_st {len : Nat} {tx : Nat → Nat} {f p : Nat} (h : erN len tx (f + 1) p = none) (hp : p < len) : fltN len tx p = none ∧ erN len tx f (nxN len tx p) = none := by
  unfold erN at h
  rw [if_pos hp] at h
  by_cases g : fltN len tx p = none
  · rw [if_pos g] at h; exact ⟨g, h⟩
  · rw [if_neg g] at h; exact absurd h g
theorem cl_fE {w : Wd} {P : MP} {t ta len : Nat} {tx : Nat → Nat} {I : MI} {L : ML} (h : TXT w P t ta len tx I) : ∃ X K, call 66 [.ref t] w I L P = some (.inl (some (.int (foN (-1) (erN len tx 100 0)))), w, wr I t X, K, P) ∧ X 1 = I t 1 ∧ ∀ x, x ≠ t → K x = L x := by
  have hl := h.2.2.2.2.1
  have loop : ∀ f p k, 3 * k ≤ p → p ≤ 100 → len ≤ p + f → ∀ (X : Nat → Int32) (K : ML), X 1 = I t 1 → X 2 = nI p → X 3 = -1 → ∃ Y M, go 66 6 [.ref t, .int (nI k)] [] w (wr I t X) K P = some (.inl (some (.int (foN (-1) (erN len tx f p)))), w, wr I t Y, M, P) ∧ Y 1 = I t 1 ∧ ∀ x, x ≠ t → M x = K x := by
    intro f
    have stop : ∀ p k, 3 * k ≤ p → p ≤ 100 → len ≤ p → ∀ (X : Nat → Int32) (K : ML), X 1 = I t 1 → X 2 = nI p → X 3 = -1 → go 66 6 [.ref t, .int (nI k)] [] w (wr I t X) K P = some (.inl (some (.int (foN (-1) none))), w, wr I t X, K, P) := by
      intro p k hk hp hlp X K e1 e2 e3
      rw [Text_findError_6, if_neg (nI_ge (by omega) (by omega)), Text_findError_12 _ _ _ _ _ _ h.1, cl_nO0 (TXT_wr h e1) hlp (by omega) (by rw [wr_same]; exact e2)]
      simp only [kC_ret, Option.toList, List.cons_append, List.nil_append, fix1_int, fix1_ref, fix1_unk, fix1_null, fix1_long]
      rw [Text_findError_16, if_pos n00, Text_findError_25 _ _ _ _ _ _ h.1, wr_same, e3, foN_n]
    induction f with
    | zero =>
      intro p k hk hp hf X K e1 e2 e3
      exact ⟨X, K, stop p k hk hp (by omega) X K e1 e2 e3, e1, fun _ _ => rfl⟩
    | succ f ih =>
      intro p k hk hp hf X K e1 e2 e3
      by_cases g : p < len
      · obtain ⟨Y, M, a1, a2, a3, a4, a5⟩ := cl_nO (L := K) (TXT_wr h e1) g (by rw [wr_same]; exact e2)
        rw [wr_wr] at a1
        rw [wr_same] at a2 a4
        rw [Text_findError_6, if_neg (nI_ge (by omega) (by omega)), Text_findError_12 _ _ _ _ _ _ h.1, a1]
        simp only [kC_ret, Option.toList, List.cons_append, List.nil_append, fix1_int, fix1_ref, fix1_unk, fix1_null, fix1_long]
        unfold erN
        rw [if_pos g]
        by_cases g2 : fltN len tx p = none
        · obtain ⟨b2, b3, -⟩ := a4 g2
          obtain ⟨o1, o2, -⟩ := flt_ok g2
          rw [if_pos g2, if_pos g2, Text_findError_16, if_neg n10, Text_findError_19, fix1_ref, nI_add]
          obtain ⟨Z, V, c1, c2, c3⟩ := ih (nxN len tx p) (k + 1) (by omega) (by omega) (by omega) Y M (by rw [a2]; exact e1) b2 (by rw [b3]; exact e3)
          exact ⟨Z, V, c1, c2, fun x hx => by rw [c3 x hx]; exact a3 x hx⟩
        · obtain ⟨e, he⟩ := Option.ne_none_iff_exists'.mp g2
          rw [if_neg g2, if_neg g2, Text_findError_16, if_pos n00, Text_findError_25 _ _ _ _ _ _ h.1, wr_same, a5 e he, he, foN_1]
          exact ⟨Y, M, rfl, by rw [a2]; exact e1, a3⟩
      · have e : erN len tx (f + 1) p = none := by unfold erN; rw [if_neg g]
        rw [e]
        exact ⟨X, K, stop p k hk hp (by omega) X K e1 e2 e3, e1, fun _ _ => rfl⟩
  obtain ⟨Y, M, c1, c2, c3⟩ := loop 100 0 0 (by omega) (by omega) (by omega) (sN (sN (I t) 2 (nI 0)) 3 (-1)) L (by rw [sN_ne (by omega), sN_ne (by omega)]) (by rw [sN_ne (by omega), sN_eq]) (by rw [sN_eq])
  refine ⟨Y, M, ?_, c2, c3⟩
  rw [Text_findError_E, Text_findError_0 _ _ _ _ _ _ h.1, Text_rewind_E, Text_rewind_0 _ _ _ _ _ h.1, updI_wr, updI_wr, wr_wr, wr_same]
  simp only [kC_ret, Option.toList, List.cons_append, List.nil_append, fix1_int, fix1_ref, fix1_unk, fix1_null, fix1_long]
  rw [Text_findError_4, fix1_ref, c1]
