/-! calls: alone, winners, busy -/
theorem ansN_ex (N : Nat → Int32) (a : Int32) {n : Nat} (hn : n ≤ 6) : (ansN N a n = -1 ∧ (wFrom N a 0 n = -1 ∨ ∃ t, t < n ∧ wFrom N a 0 n = nI t ∧ N (327 + 22 * t + 4) = 0)) ∨ ∃ t, t < n ∧ ansN N a n = nI t ∧ wFrom N a 0 n = nI t ∧ N (327 + 22 * t + 4) ≠ 0 := by
  unfold ansN
  rcases wFrom_spec N a n 0 with h | ⟨t, _, h2, h4, _⟩
  · left; rw [if_pos (Or.inl h)]; exact ⟨rfl, Or.inl h⟩
  · rw [h4, cl_nI (by omega)]
    have hm1 : ¬ nI t = -1 := nI_nm1 (by omega)
    by_cases e : N (327 + 22 * t + 4) = 0
    · left; rw [if_pos (Or.inr e)]; exact ⟨rfl, Or.inr ⟨t, by omega, rfl, e⟩⟩
    · right; rw [if_neg (by rintro (g | g); exact hm1 g; exact e g)]; exact ⟨t, by omega, rfl, rfl, e⟩
/-- the slots that the first message of c would take -/
def aloV (N : Nat → Int32) (c n : Nat) : Int32 := if ansN N (N (215 + 40 * c)) n = -1 then nI 11 else nI 11 + (if N (216 + 40 * c) ≠ 0 then N (217 + 40 * c) else if (nI 16 - N (327 + 22 * Int32.toNatClampNeg (ansN N (N (215 + 40 * c)) n) + 2)) + nI 1 < N (217 + 40 * c) then (nI 16 - N (327 + 22 * Int32.toNatClampNeg (ansN N (N (215 + 40 * c)) n) + 2)) + nI 1 else N (217 + 40 * c)) * (N (327 + 22 * Int32.toNatClampNeg (ansN N (N (215 + 40 * c)) n) + 1) + nI 9)
theorem cl_slotsAlone {w : Wd} {N : Nat → Int32} {b k n md c a : Nat} {I : MI} {L : ML} {P : MP} (ht : BT w b) (h : BC b N I L P k n md) (hc : c < 3) (tm : w.1 a = some (3, 0)) (hm : MR N (215 + 40 * c) I L a) (ho : OM N (215 + 40 * c)) : call 41 [.ref b, .ref a] w I L P = some (.inl (some (.int (aloV N c n))), w, I, L, P) := by
  obtain ⟨-, ⟨hn, -, i3⟩, -, -, -, -, hq, -, hls, -, -, hol, -⟩ := h
  obtain ⟨m0, m1, m2, m3, -⟩ := hm
  obtain ⟨-, hr, ct, ct0, ct4, hct, -⟩ := ho
  have t0 := ht.1
  rw [show 215 + 40 * c + 1 = 216 + 40 * c from by omega] at hr m0
  rw [show 215 + 40 * c + 2 = 217 + 40 * c from by omega] at hct m2
  rw [Bus_slotsAlone_E, Bus_slotsAlone_0 _ _ _ _ _ _ _ _ _ tm t0, m1, cl_answererTo ht hq hn I L i3 hls (fun l hl => (hol l (by omega)).2.1)]
  simp only [kC_ret, Option.toList, List.cons_append, List.nil_append, fix1_int, fix1_ref, fix1_unk, fix1_null, fix1_long]
  unfold aloV
  rw [Bus_slotsAlone_12 _ _ _ _ _ _ _ _ _ _ _ t0]
  rcases ansN_ex N (N (215 + 40 * c)) hn with ⟨e, -⟩ | ⟨t, htn, e, -, -⟩
  · rw [e, cl_listenerAtN ht I L (Or.inl (by decide)), if_pos rfl]
    simp only [kC_ret, Option.toList, List.cons_append, List.nil_append, fix1_int, fix1_ref, fix1_unk, fix1_null, fix1_long]
    rw [Bus_slotsAlone_15_0, fix1_int, Bus_slotsAlone_20]
  · obtain ⟨m, l1, l2, l3, l4, l5, l6, l7, l8, -⟩ := hls t htn
    have tl := (ht.2.2.2.2.2.2 t (by omega)).1
    obtain ⟨⟨hh, hh9, eh⟩, -⟩ := hol t (by omega)
    rw [e, cl_listenerAt ht hq hn htn I L i3, if_neg (nI_nm1 (by omega)), cl_nI (by omega)]
    simp only [kC_ret, Option.toList, List.cons_append, List.nil_append, fix1_int, fix1_ref, fix1_unk, fix1_null, fix1_long]
    rw [Bus_slotsAlone_15_1, fix1_int, Bus_slotsAlone_22 _ _ _ _ _ _ _ _ _ tm, m0, m2]
    rcases hr with e0 | e0
    · rw [e0, if_neg (by decide), if_neg (by decide), fix1_ref, Bus_slotsAlone_35 _ _ _ _ _ _ _ _ _ tl, l6, ← l7, Bus_slotsAlone_51 _ _ _ _ _ _ _ _ _ tl, l3, eh, show nI hh + nI 8 + nI 1 = nI hh + nI 9 from by rw [nI_add, nI_add, nI_add]]
    · rw [e0, if_pos (by decide), if_pos (by decide), fix1_ref, Bus_slotsAlone_51 _ _ _ _ _ _ _ _ _ tl, l3, eh, show nI hh + nI 8 + nI 1 = nI hh + nI 9 from by rw [nI_add, nI_add, nI_add]]

section
variable {B : Nat} {w : Wd} {I : MI} {L : ML} {P : MP} {N : Nat → Int32} {st : Nat} {Ks : Nat → Nat → Int32} {len : Nat} {tx : Nat → Nat} {T : Nat}
end
/-- the callers that would win -/
def wlN (N : Nat → Int32) : Nat → Nat → Int32 → Int32 → Int32
  | 0, _, _, set => set
  | f + 1, c, lo, set => if N (207 + 40 * c) ≤ 0 then wlN N f (c + 1) lo set else if hdr N c < lo then wlN N f (c + 1) (hdr N c) (nI 1 <<< (nI c &&& 31)) else if hdr N c = lo then wlN N f (c + 1) lo (set ||| (nI 1 <<< (nI c &&& 31))) else wlN N f (c + 1) lo set
theorem hm2_hdr {N : Nat → Int32} {c m : Nat} {I : MI} {L : ML} (h : MR N (215 + 40 * c) I L m) (ho : OM N (215 + 40 * c)) : hm2 (I m 0) (I m 1) = hdr N c := by
  obtain ⟨g0, g1, -⟩ := h
  obtain ⟨-, h01, -⟩ := ho
  rw [show 215 + 40 * c + 1 = 216 + 40 * c from by omega] at g0 h01
  unfold hm2 hdr
  rw [g0, g1]
  rcases h01 with e | e <;> rw [e]
  · rw [if_pos (by decide)]
  · rw [if_neg (by decide)]
theorem cl_wl {w : Wd} {N : Nat → Int32} {b k n md : Nat} {I : MI} {L : ML} {P : MP} (ht : BT w b) (h : BC b N I L P k n md) : ∀ f c, c + f = k → ∀ lo set x, go 40 8 [.ref b, .int lo, .int set, .int (nI c), x] [] w I L P = some (.inl (some (.int (wlN N f c lo set))), w, I, L, P) := by
  obtain ⟨⟨hk0, hk, h1, i1⟩, -, -, -, -, -, hq, hcs, -, -, hi, -⟩ := h
  have t0 := ht.1
  intro f
  induction f with
  | zero =>
    intro c hc lo set x
    rw [Bus_lowestHeaders_8 _ _ _ _ _ _ _ _ _ t0, i1, if_pos (nI_le (by omega) (by omega)), Bus_lowestHeaders_69, wlN]
  | succ f ih =>
    intro c hc lo set x
    have tc := ht.2.2.2.2.2.1 c (by omega)
    obtain ⟨s, hs4, e0, -, hom⟩ := hi.1 c (by omega)
    have hcr := hcs c (by omega)
    obtain ⟨qq, s', hcr⟩ := hcr
    have hcr' := hcr
    obtain ⟨hp, g1, g2, g3, -, -, -, -, g8⟩ := hcr'
    have es : s' = s := by
      rw [e0, nI_eq (by omega) (by omega)] at g2
      exact g2.symm
    subst es
    have nx : ∀ lo set x, go 40 63 [.ref b, .int lo, .int set, .int (nI c), x] [] w I L P = some (.inl (some (.int (wlN N f (c + 1) lo set))), w, I, L, P) := by
      intro lo set x
      rw [Bus_lowestHeaders_63, fix1_int, nI_add, ih (c + 1) (by omega)]
    rw [Bus_lowestHeaders_8 _ _ _ _ _ _ _ _ _ t0, i1, if_neg (nI_ge (by omega) (by omega)), Bus_lowestHeaders_16 _ _ _ _ _ _ _ _ _ t0, cl_firstMessage ht hq hk (by omega) I L i1 hcr, wlN, e0]
    simp only [kC_ret, Option.toList, List.cons_append, List.nil_append, fix1_int, fix1_ref, fix1_unk, fix1_null, fix1_long]
    by_cases z : s' = 0
    · subst z
      rw [if_pos rfl, Bus_lowestHeaders_21_0, fix1_int, nx, if_pos (by decide)]
    · have hqp := hp.2.2.2.1 0 (by omega)
      have tm := tc.2.2.2 _ hqp
      have hmr := g8 0 (by omega)
      rw [show 207 + 40 * c + 8 + 8 * 0 = 215 + 40 * c from by omega] at hmr
      have ho := hom 0 (by omega)
      rw [Nat.mul_zero, Nat.add_zero] at ho
      have ehd := hm2_hdr hmr ho
      rw [if_neg z, if_neg (show ¬ nI s' ≤ 0 from by rw [← nI_0]; exact nI_ge (by omega) (by omega)), Bus_lowestHeaders_21_1, fix1_int, Bus_lowestHeaders_28 _ _ _ _ _ _ _ _ _ tm, cl_header tm, ehd]
      simp only [kC_ret, Option.toList, List.cons_append, List.nil_append, fix1_int, fix1_ref, fix1_unk, fix1_null, fix1_long]
      rw [Bus_lowestHeaders_33]
      by_cases y : hdr N c ≤ lo
      · rw [if_pos y, Bus_lowestHeaders_40 _ _ _ _ _ _ _ _ _ tm, cl_header tm, ehd]
        simp only [kC_ret, Option.toList, List.cons_append, List.nil_append, fix1_int, fix1_ref, fix1_unk, fix1_null, fix1_long]
        rw [Bus_lowestHeaders_45]
        by_cases y2 : lo ≤ hdr N c
        · have e := Int32.le_antisymm y y2
          rw [if_pos y2, Bus_lowestHeaders_57, fix1_int, nx, if_neg (Int32.not_lt.mpr y2), if_pos e]
        · rw [if_neg y2, Bus_lowestHeaders_49 _ _ _ _ _ _ _ _ _ tm, cl_header tm, ehd, if_pos (Int32.not_le.mp y2)]
          simp only [kC_ret, Option.toList, List.cons_append, List.nil_append, fix1_int, fix1_ref, fix1_unk, fix1_null, fix1_long]
          rw [Bus_lowestHeaders_54, fix1_ref, Bus_lowestHeaders_57, fix1_int, nx, nI_0, Int32.zero_or]
      · rw [if_neg y, Bus_lowestHeaders_37, nx, if_neg (fun g => y (Int32.le_of_lt g)), if_neg (fun g => y (by rw [g]; exact Int32.le_refl lo))]
section
variable {B : Nat} {w : Wd} {I : MI} {L : ML} {P : MP} {N : Nat → Int32} {st : Nat} {Ks : Nat → Nat → Int32} {len : Nat} {tx : Nat → Nat} {T : Nat}
end
