/-! calls: alone, winners, busy -/
theorem ansN_ex (N : Nat → Int32) (a : Int32) {n : Nat} (hn : n ≤ 6) : (ansN N a n = -1 ∧ (wFrom N a 0 n = -1 ∨ ∃ t, t < n ∧ wFrom N a 0 n = nI t ∧ N (327 + 22 * t + 4) = 0)) ∨ ∃ t, t < n ∧ ansN N a n = nI t ∧ wFrom N a 0 n = nI t ∧ N (327 + 22 * t + 4) ≠ 0 := by
  unfold ansN
  rcases wFrom_spec N a n 0 with h | ⟨t, _, h2, h4, _⟩
  · left; rw [if_pos (Or.inl h)]; exact ⟨rfl, Or.inl h⟩
  · rw [h4, cl_nI (by omega)]
    have hm1 : ¬ nI t = -1 := nI_nm1 (by omega)
    by_cases e : N (327 + 22 * t + 4) = 0
    · left; rw [if_pos (Or.inr e)]; exact ⟨rfl, Or.inr ⟨t, by omega, rfl, e⟩⟩
    · right; rw [if_neg (by rintro (g | g); exact hm1 g; exact e g)]; exact ⟨t, by omega, rfl, rfl, e⟩
/-- the slots that the first message of c would take -/
def aloV (N : Nat → Int32) (c n : Nat) : Int32 := if ansN N (N (215 + 40 * c)) n = -1 then nI 11 else nI 11 + (if N (216 + 40 * c) ≠ 0 then N (217 + 40 * c) else if (nI 16 - N (327 + 22 * Int32.toNatClampNeg (ansN N (N (215 + 40 * c)) n) + 2)) + nI 1 < N (217 + 40 * c) then (nI 16 - N (327 + 22 * Int32.toNatClampNeg (ansN N (N (215 + 40 * c)) n) + 2)) + nI 1 else N (217 + 40 * c)) * (N (327 + 22 * Int32.toNatClampNeg (ansN N (N (215 + 40 * c)) n) + 1) + nI 9)
theorem cl_slotsAlone {w : Wd} {N : Nat → Int32} {b k n md c a : Nat} {I : MI} {L : ML} {P : MP} (ht : BT w b) (h : BC b N I L P k n md) (hc : c < 3) (tm : w.1 a = some (3, 0)) (hm : MR N (215 + 40 * c) I L a) (ho : OM N (215 + 40 * c)) : call 41 [.ref b, .ref a] w I L P = some (.inl (some (.int (aloV N c n))), w, I, L, P) := by
  obtain ⟨-, ⟨hn, -, i3⟩, -, -, -, -, hq, -, hls, -, -, hol, -⟩ := h
  obtain ⟨m0, m1, m2, m3, -⟩ := hm
  obtain ⟨-, hr, ct, ct0, ct4, hct, -⟩ := ho
  have t0 := ht.1
  rw [show 215 + 40 * c + 1 = 216 + 40 * c from by omega] at hr m0
  rw [show 215 + 40 * c + 2 = 217 + 40 * c from by omega] at hct m2
  rw [Bus_slotsAlone_E, Bus_slotsAlone_0 _ _ _ _ _ _ _ _ _ tm t0, m1, cl_answererTo ht hq hn I L i3 hls (fun l hl => (hol l (by omega)).2.1)]
  simp only [kC_ret, Option.toList, List.cons_append, List.nil_append, fix1_int, fix1_ref, fix1_unk, fix1_null, fix1_long]
  unfold aloV
  rw [Bus_slotsAlone_12 _ _ _ _ _ _ _ _ _ _ _ t0]
  rcases ansN_ex N (N (215 + 40 * c)) hn with ⟨e, -⟩ | ⟨t, htn, e, -, -⟩
  · rw [e, cl_listenerAtN ht I L (Or.inl (by decide)), if_pos rfl]
    simp only [kC_ret, Option.toList, List.cons_append, List.nil_append, fix1_int, fix1_ref, fix1_unk, fix1_null, fix1_long]
    rw [Bus_slotsAlone_15_0, fix1_int, Bus_slotsAlone_20]
  · obtain ⟨m, l1, l2, l3, l4, l5, l6, l7, l8, -⟩ := hls t htn
    have tl := (ht.2.2.2.2.2.2 t (by omega)).1
    obtain ⟨⟨hh, hh9, eh⟩, -⟩ := hol t (by omega)
    rw [e, cl_listenerAt ht hq hn htn I L i3, if_neg (nI_nm1 (by omega)), cl_nI (by omega)]
    simp only [kC_ret, Option.toList, List.cons_append, List.nil_append, fix1_int, fix1_ref, fix1_unk, fix1_null, fix1_long]
    rw [Bus_slotsAlone_15_1, fix1_int, Bus_slotsAlone_22 _ _ _ _ _ _ _ _ _ tm, m0, m2]
    rcases hr with e0 | e0
    · rw [e0, if_neg (by decide), if_neg (by decide), fix1_ref, Bus_slotsAlone_35 _ _ _ _ _ _ _ _ _ tl, l6, ← l7, Bus_slotsAlone_51 _ _ _ _ _ _ _ _ _ tl, l3, eh, show nI hh + nI 8 + nI 1 = nI hh + nI 9 from by rw [nI_add, nI_add, nI_add]]
    · rw [e0, if_pos (by decide), if_pos (by decide), fix1_ref, Bus_slotsAlone_51 _ _ _ _ _ _ _ _ _ tl, l3, eh, show nI hh + nI 8 + nI 1 = nI hh + nI 9 from by rw [nI_add, nI_add, nI_add]]

theorem mo_alo {w : Wd} {P : MP} {mo d : Nat} (h7 : w.1 mo = some (7, 0)) (hd : w.1 d = some (8, 459)) (p0 : P mo 0 = some d) (I : MI) (L : ML) {c n s : Nat} (hc : c < 3) (h0 : I d (207 + 40 * c) = nI s) (hs0 : 0 < s) (hs : s ≤ 4) (hn : n ≤ 6) (h2 : I d 2 = nI n) (hol : OL (I d) n) (ho : OM (I d) (215 + 40 * c)) : call 186 [.ref mo, .int (nI c)] w I L P = some (.inl (some (.int (aloV (I d) c n))), w, I, L, P) := by
  obtain ⟨-, -, ct, ct0, ct4, hct, -⟩ := ho
  rw [show 215 + 40 * c + 2 = 217 + 40 * c from by omega] at hct
  rw [Model_takesAlone_E, Model_takesAlone_0 _ _ _ _ _ _ _ _ _ _ h7, mo_of h7 hd p0 (c := c) (k := 0) (by omega), show I d (207 + 40 * c + 0) = nI s from h0]
  simp only [kC_ret, Option.toList, List.cons_append, List.nil_append, fix1_int, fix1_ref, fix1_unk, fix1_null, fix1_long]
  rw [Model_takesAlone_6, if_pos (nI_ne0 (by omega) (by omega)), Model_takesAlone_11 _ _ _ _ _ _ _ _ _ _ h7, mo_told h7 hd p0 (c := c) (p := 0) (k := 0) (by omega), show 207 + 40 * c + 8 + 8 * 0 + 0 = 215 + 40 * c from by omega]
  simp only [kC_ret, Option.toList, List.cons_append, List.nil_append, fix1_int, fix1_ref, fix1_unk, fix1_null, fix1_long]
  rw [Model_takesAlone_19 _ _ _ _ _ _ _ _ _ _ _ _ h7, mo_withAddress h7 hd p0 _ _ _ hn h2]
  simp only [kC_ret, Option.toList, List.cons_append, List.nil_append, fix1_int, fix1_ref, fix1_unk, fix1_null, fix1_long]
  rw [Model_takesAlone_22]
  unfold aloV
  rcases ansN_ex (I d) (I d (215 + 40 * c)) hn with ⟨e, e2 | ⟨t, htn, e2, e3⟩⟩ | ⟨t, htn, e, e2, e3⟩
  · rw [e2, if_pos rfl, Model_takesAlone_37, e, if_pos rfl]
  · rw [e2, if_neg (nI_nm1 (by omega)), Model_takesAlone_28 _ _ _ _ _ _ _ _ _ _ h7, mo_part h7 hd p0 (c := t) (k := 4) (by omega)]
    simp only [kC_ret, Option.toList, List.cons_append, List.nil_append, fix1_int, fix1_ref, fix1_unk, fix1_null, fix1_long]
    rw [Model_takesAlone_34, if_neg (by rw [e3]; decide), Model_takesAlone_37, e, if_pos rfl]
  · obtain ⟨⟨hh, hh9, eh⟩, -, m, pp, hm, em, -⟩ := hol t (by omega)
    rw [e2, if_neg (nI_nm1 (by omega)), Model_takesAlone_28 _ _ _ _ _ _ _ _ _ _ h7, mo_part h7 hd p0 (c := t) (k := 4) (by omega)]
    simp only [kC_ret, Option.toList, List.cons_append, List.nil_append, fix1_int, fix1_ref, fix1_unk, fix1_null, fix1_long]
    rw [Model_takesAlone_34, if_pos e3, Model_takesAlone_40 _ _ _ _ _ _ _ _ _ _ h7, mo_part h7 hd p0 (c := t) (k := 2) (by omega)]
    simp only [kC_ret, Option.toList, List.cons_append, List.nil_append, fix1_int, fix1_ref, fix1_unk, fix1_null, fix1_long]
    rw [Model_takesAlone_48 _ _ _ _ _ _ _ _ _ _ _ _ h7, mo_told h7 hd p0 (c := c) (p := 0) (k := 2) (by omega), show 207 + 40 * c + 8 + 8 * 0 + 2 = 217 + 40 * c from by omega]
    simp only [kC_ret, Option.toList, List.cons_append, List.nil_append, fix1_int, fix1_ref, fix1_unk, fix1_null, fix1_long]
    rw [Model_takesAlone_57 _ _ _ _ _ _ _ _ _ _ _ h7, mo_told h7 hd p0 (c := c) (p := 0) (k := 1) (by omega), show 207 + 40 * c + 8 + 8 * 0 + 1 = 216 + 40 * c from by omega]
    simp only [kC_ret, Option.toList, List.cons_append, List.nil_append, fix1_int, fix1_ref, fix1_unk, fix1_null, fix1_long]
    rw [Model_takesAlone_66, e, if_neg (nI_nm1 (by omega)), cl_nI (by omega), em, hct, pk_sub (show m ≤ 16 from hm), nI_add]
    have fin : ∀ v l1 l4, go 186 83 [.ref mo, l1, .int (nI t), .int (nI (16 - m)), l4, unk] [.int v] w I L P = some (.inl (some (.int (nI 11 + v * (I d (327 + 22 * t + 1) + nI 9)))), w, I, L, P) := by
      intro v l1 l4
      rw [Model_takesAlone_83 _ _ _ _ _ _ _ _ _ _ _ h7, mo_part h7 hd p0 (c := t) (k := 1) (by omega)]
      simp only [kC_ret, Option.toList, List.cons_append, List.nil_append, fix1_int, fix1_ref, fix1_unk, fix1_null, fix1_long]
      rw [Model_takesAlone_95]
    by_cases g : I d (216 + 40 * c) ≠ 0
    · rw [if_pos g, if_pos g, Model_takesAlone_81, fin]
    · rw [if_neg g, if_neg g, Model_takesAlone_69]
      by_cases g2 : ct ≤ 16 - m
      · rw [if_pos (nI_le g2 (by omega)), if_neg (nI_nlt (by omega) (by omega)), Model_takesAlone_81, fin]
      · rw [if_neg (nI_ge (by omega) (by omega)), Model_takesAlone_75, nI_add, fin]
        by_cases g3 : 16 - m + 1 < ct
        · rw [if_pos (nI_lt g3 (by omega))]
        · rw [if_neg (nI_nlt (by omega) (by omega)), show ct = 16 - m + 1 from by omega]
section
variable {B : Nat} {w : Wd} {I : MI} {L : ML} {P : MP} {N : Nat → Int32} {st : Nat} {Ks : Nat → Nat → Int32} {len : Nat} {tx : Nat → Nat} {T : Nat}
theorem sc_alone (h : CW B w I L P N st Ks len tx T) (x : Int32) : SC B w I L P N st Ks len tx T (fun e => if e = 2 then 1 else 0) (call 97 [.ref B, .int x] w I L P) (fun w1 J K Q => call 187 [.ref (B + 284), .int x] w1 J K Q) := by
  obtain ⟨hw, p0, tb, hst, q, k, n, md, hq, hbc, hlg⟩ := CW_bc h
  have t0 := hw.1
  have hbc' := hbc
  obtain ⟨⟨hk0, hk, h1, i1⟩, ⟨hn, h2, -⟩, -, -, i7, -, hbq, hcs, -, -, hi, hol, -⟩ := hbc'
  obtain ⟨co1, co2⟩ := cl_cOT hw p0 hbq hk I L i1
  rcases cl_ix x (n := k) (by omega) with ⟨c, hck, rfl⟩ | ⟨hx, hx2⟩
  · have tc := tb.2.2.2.2.2.1 c (by omega)
    obtain ⟨s, hs4, e0, -, hom⟩ := hi.1 c (by omega)
    obtain ⟨qq, s', hp, g1, g2, g3, -, -, -, -, g8⟩ := hcs c (by omega)
    have es : s' = s := by
      rw [e0, nI_eq (by omega) (by omega)] at g2
      exact g2.symm
    subst es
    have mo : ∀ v w1 J K Q, MW B w1 J Q N st Ks len tx → call 186 [.ref (B + 284), .int (nI c)] w1 J K Q = some (.inl (some (.int v)), w1, J, K, Q) → call 187 [.ref (B + 284), .int (nI c)] w1 J K Q = call 123 [.ref (B + 284), .int v] w1 J K Q := by
      intro v w1 J K Q hm e
      obtain ⟨J3, K3, d1⟩ := mw_wellE (L := K) hm v
      obtain ⟨⟨w71, wd1, -⟩, ⟨p01, -⟩, m3, -⟩ := hm
      rw [d1, Model_alone_E, Model_alone_0 _ _ _ _ _ _ w71, mo_isCaller w71 wd1 p01, m3, h1, if_pos ((mo_ix (by omega)).mpr ⟨c, hck, rfl⟩)]
      simp only [kC_ret, Option.toList, List.cons_append, List.nil_append, fix1_int, fix1_ref, fix1_unk, fix1_null, fix1_long]
      rw [Model_alone_5, if_neg n10, Model_alone_8 _ _ _ _ _ _ w71, e]
      simp only [kC_ret, Option.toList, List.cons_append, List.nil_append, fix1_int, fix1_ref, fix1_unk, fix1_null, fix1_long]
      rw [Model_alone_14 _ _ _ _ _ _ _ _ w71, d1]
      simp only [kC_ret, Option.toList, List.cons_append, List.nil_append, fix1_int, fix1_ref, fix1_unk, fix1_null, fix1_long]
      rw [Model_alone_17, Model_alone_25]
    by_cases z : s' = 0
    · subst z
      refine SC_tell (v := -1) h ?_ ?_
      · rw [Two_alone_E, Two_alone_0 _ _ _ _ _ _ _ t0, co1 c hck]
        simp only [kC_ret, Option.toList, List.cons_append, List.nil_append, fix1_int, fix1_ref, fix1_unk, fix1_null, fix1_long]
        rw [Two_alone_5 _ _ _ _ _ _ _ _ tc.1, cl_messageAtN tc g1 (by omega) (by omega) I L g3]
        simp only [kC_ret, Option.toList, List.cons_append, List.nil_append, fix1_int, fix1_ref, fix1_unk, fix1_null, fix1_long]
        rw [Two_alone_9_0, Two_alone_14, Two_alone_26]
      · intro w1 J K Q hm
        refine mo _ w1 J K Q hm ?_
        obtain ⟨⟨w71, wd1, -⟩, ⟨p01, -⟩, m3, -⟩ := hm
        rw [Model_takesAlone_E, Model_takesAlone_0 _ _ _ _ _ _ _ _ _ _ w71, mo_of w71 wd1 p01 (c := c) (k := 0) (by omega), m3, show N (207 + 40 * c + 0) = nI 0 from e0]
        simp only [kC_ret, Option.toList, List.cons_append, List.nil_append, fix1_int, fix1_ref, fix1_unk, fix1_null, fix1_long]
        rw [Model_takesAlone_6, if_neg (by decide), Model_takesAlone_9]
    · have hqp := hp.2.2.2.1 0 (by omega)
      have tm := tc.2.2.2 _ hqp
      have hmr := g8 0 (by omega)
      rw [show 207 + 40 * c + 8 + 8 * 0 = 215 + 40 * c from by omega] at hmr
      have ho := hom 0 (by omega)
      rw [Nat.mul_zero, Nat.add_zero] at ho
      refine SC_tell (v := aloV N c n) h ?_ ?_
      · rw [Two_alone_E, Two_alone_0 _ _ _ _ _ _ _ t0, co1 c hck]
        simp only [kC_ret, Option.toList, List.cons_append, List.nil_append, fix1_int, fix1_ref, fix1_unk, fix1_null, fix1_long]
        rw [Two_alone_5 _ _ _ _ _ _ _ _ tc.1, cl_messageAt tc hp g1 (by omega) I L g3]
        simp only [kC_ret, Option.toList, List.cons_append, List.nil_append, fix1_int, fix1_ref, fix1_unk, fix1_null, fix1_long]
        rw [Two_alone_9_1, fix1_int, Two_alone_18 _ _ _ _ _ _ _ t0, p0, rf_some, Two_alone_22_1 _ _ _ _ _ _ _ _ tb.1, cl_slotsAlone tb hbc (by omega) tm hmr ho]
        simp only [kC_ret, Option.toList, List.cons_append, List.nil_append, fix1_int, fix1_ref, fix1_unk, fix1_null, fix1_long]
        rw [Two_alone_26]
      · intro w1 J K Q hm
        refine mo _ w1 J K Q hm ?_
        obtain ⟨⟨w71, wd1, -⟩, ⟨p01, -⟩, m3, -⟩ := hm
        have e := mo_alo w71 wd1 p01 J K (c := c) (n := n) (s := s') (by omega) (by rw [m3]; exact e0) (by omega) hs4 hn (by rw [m3]; exact h2) (by rw [m3]; exact hol) (by rw [m3]; exact ho)
        rw [m3] at e
        exact e
  · refine SC_fail (e := 2) (c := 1) ?_ rfl (by omega) (by omega) ?_
    · rw [Two_alone_E, Two_alone_0 _ _ _ _ _ _ _ t0, co2 x hx2, kC_thr]
    · intro w1 J K Q hm
      obtain ⟨J3, K3, d1⟩ := mw_failsE (L := K) hm 1
      obtain ⟨⟨w71, wd1, -⟩, ⟨p01, -⟩, m3, -⟩ := hm
      rw [Model_alone_E, Model_alone_0 _ _ _ _ _ _ w71, mo_isCaller w71 wd1 p01, m3, h1, if_neg (fun z => hx ((mo_ix (by omega)).mp z))]
      simp only [kC_ret, Option.toList, List.cons_append, List.nil_append, fix1_int, fix1_ref, fix1_unk, fix1_null, fix1_long]
      rw [Model_alone_5, if_pos n00, Model_alone_20 _ _ _ _ _ _ w71, d1]
      simp only [kC_ret, Option.toList, List.cons_append, List.nil_append, fix1_int, fix1_ref, fix1_unk, fix1_null, fix1_long]
      rw [Model_alone_25]
end
/-- the callers that would win -/
def wlN (N : Nat → Int32) : Nat → Nat → Int32 → Int32 → Int32
  | 0, _, _, set => set
  | f + 1, c, lo, set => if N (207 + 40 * c) ≤ 0 then wlN N f (c + 1) lo set else if hdr N c < lo then wlN N f (c + 1) (hdr N c) (nI 1 <<< (nI c &&& 31)) else if hdr N c = lo then wlN N f (c + 1) lo (set ||| (nI 1 <<< (nI c &&& 31))) else wlN N f (c + 1) lo set
theorem hm2_hdr {N : Nat → Int32} {c m : Nat} {I : MI} {L : ML} (h : MR N (215 + 40 * c) I L m) (ho : OM N (215 + 40 * c)) : hm2 (I m 0) (I m 1) = hdr N c := by
  obtain ⟨g0, g1, -⟩ := h
  obtain ⟨-, h01, -⟩ := ho
  rw [show 215 + 40 * c + 1 = 216 + 40 * c from by omega] at g0 h01
  unfold hm2 hdr
  rw [g0, g1]
  rcases h01 with e | e <;> rw [e]
  · rw [if_pos (by decide)]
  · rw [if_neg (by decide)]
theorem cl_wl {w : Wd} {N : Nat → Int32} {b k n md : Nat} {I : MI} {L : ML} {P : MP} (ht : BT w b) (h : BC b N I L P k n md) : ∀ f c, c + f = k → ∀ lo set x, go 40 8 [.ref b, .int lo, .int set, .int (nI c), x] [] w I L P = some (.inl (some (.int (wlN N f c lo set))), w, I, L, P) := by
  obtain ⟨⟨hk0, hk, h1, i1⟩, -, -, -, -, -, hq, hcs, -, -, hi, -⟩ := h
  have t0 := ht.1
  intro f
  induction f with
  | zero =>
    intro c hc lo set x
    rw [Bus_lowestHeaders_8 _ _ _ _ _ _ _ _ _ t0, i1, if_pos (nI_le (by omega) (by omega)), Bus_lowestHeaders_69, wlN]
  | succ f ih =>
    intro c hc lo set x
    have tc := ht.2.2.2.2.2.1 c (by omega)
    obtain ⟨s, hs4, e0, -, hom⟩ := hi.1 c (by omega)
    have hcr := hcs c (by omega)
    obtain ⟨qq, s', hcr⟩ := hcr
    have hcr' := hcr
    obtain ⟨hp, g1, g2, g3, -, -, -, -, g8⟩ := hcr'
    have es : s' = s := by
      rw [e0, nI_eq (by omega) (by omega)] at g2
      exact g2.symm
    subst es
    have nx : ∀ lo set x, go 40 63 [.ref b, .int lo, .int set, .int (nI c), x] [] w I L P = some (.inl (some (.int (wlN N f (c + 1) lo set))), w, I, L, P) := by
      intro lo set x
      rw [Bus_lowestHeaders_63, fix1_int, nI_add, ih (c + 1) (by omega)]
    rw [Bus_lowestHeaders_8 _ _ _ _ _ _ _ _ _ t0, i1, if_neg (nI_ge (by omega) (by omega)), Bus_lowestHeaders_16 _ _ _ _ _ _ _ _ _ t0, cl_firstMessage ht hq hk (by omega) I L i1 hcr, wlN, e0]
    simp only [kC_ret, Option.toList, List.cons_append, List.nil_append, fix1_int, fix1_ref, fix1_unk, fix1_null, fix1_long]
    by_cases z : s' = 0
    · subst z
      rw [if_pos rfl, Bus_lowestHeaders_21_0, fix1_int, nx, if_pos (by decide)]
    · have hqp := hp.2.2.2.1 0 (by omega)
      have tm := tc.2.2.2 _ hqp
      have hmr := g8 0 (by omega)
      rw [show 207 + 40 * c + 8 + 8 * 0 = 215 + 40 * c from by omega] at hmr
      have ho := hom 0 (by omega)
      rw [Nat.mul_zero, Nat.add_zero] at ho
      have ehd := hm2_hdr hmr ho
      rw [if_neg z, if_neg (show ¬ nI s' ≤ 0 from by rw [← nI_0]; exact nI_ge (by omega) (by omega)), Bus_lowestHeaders_21_1, fix1_int, Bus_lowestHeaders_28 _ _ _ _ _ _ _ _ _ tm, cl_header tm, ehd]
      simp only [kC_ret, Option.toList, List.cons_append, List.nil_append, fix1_int, fix1_ref, fix1_unk, fix1_null, fix1_long]
      rw [Bus_lowestHeaders_33]
      by_cases y : hdr N c ≤ lo
      · rw [if_pos y, Bus_lowestHeaders_40 _ _ _ _ _ _ _ _ _ tm, cl_header tm, ehd]
        simp only [kC_ret, Option.toList, List.cons_append, List.nil_append, fix1_int, fix1_ref, fix1_unk, fix1_null, fix1_long]
        rw [Bus_lowestHeaders_45]
        by_cases y2 : lo ≤ hdr N c
        · have e := Int32.le_antisymm y y2
          rw [if_pos y2, Bus_lowestHeaders_57, fix1_int, nx, if_neg (Int32.not_lt.mpr y2), if_pos e]
        · rw [if_neg y2, Bus_lowestHeaders_49 _ _ _ _ _ _ _ _ _ tm, cl_header tm, ehd, if_pos (Int32.not_le.mp y2)]
          simp only [kC_ret, Option.toList, List.cons_append, List.nil_append, fix1_int, fix1_ref, fix1_unk, fix1_null, fix1_long]
          rw [Bus_lowestHeaders_54, fix1_ref, Bus_lowestHeaders_57, fix1_int, nx, nI_0, Int32.zero_or]
      · rw [if_neg y, Bus_lowestHeaders_37, nx, if_neg (fun g => y (Int32.le_of_lt g)), if_neg (fun g => y (by rw [g]; exact Int32.le_refl lo))]
theorem mo_wl {w : Wd} {P : MP} {mo d : Nat} (h7 : w.1 mo = some (7, 0)) (hd : w.1 d = some (8, 459)) (p0 : P mo 0 = some d) (I : MI) (L : ML) {k : Nat} (hk : k ≤ 3) (h1 : I d 1 = nI k) : ∀ f c, c + f = k → ∀ lo set, ∃ lo' x, go 188 8 [.ref mo, .int set, .int lo, .int (nI c)] [] w I L P = go 188 86 [.ref mo, .int (wlN (I d) f c lo set), .int lo', x] [] w I L P := by
  intro f
  induction f with
  | zero =>
    intro c hc lo set
    refine ⟨lo, .int (nI c), ?_⟩
    rw [Model_winners_8 _ _ _ _ _ _ _ _ h7, p0, rf_some, Model_winners_13 _ _ _ _ _ _ _ _ _ _ (inA_nI hd (by omega) (by omega)), cl_nI (by omega), h1, if_pos (nI_le (by omega) (by omega)), wlN]
  | succ f ih =>
    intro c hc lo set
    have nx : ∀ lo set, ∃ lo' x, go 188 80 [.ref mo, .int set, .int lo, .int (nI c)] [] w I L P = go 188 86 [.ref mo, .int (wlN (I d) f (c + 1) lo set), .int lo', x] [] w I L P := by
      intro lo set
      obtain ⟨lo', x, e⟩ := ih (c + 1) (by omega) lo set
      refine ⟨lo', x, ?_⟩
      rw [Model_winners_80, fix1_int, nI_add, e]
    have beg : go 188 8 [.ref mo, .int set, .int lo, .int (nI c)] [] w I L P = if I d (207 + 40 * c) ≤ 0 then go 188 80 [.ref mo, .int set, .int lo, .int (nI c)] [] w I L P else go 188 27 [.ref mo, .int set, .int lo, .int (nI c)] [] w I L P := by
      rw [Model_winners_8 _ _ _ _ _ _ _ _ h7, p0, rf_some, Model_winners_13 _ _ _ _ _ _ _ _ _ _ (inA_nI hd (by omega) (by omega)), cl_nI (by omega), h1, if_neg (nI_ge (by omega) (by omega)), Model_winners_18 _ _ _ _ _ _ _ _ h7, mo_of h7 hd p0 (c := c) (k := 0) (by omega), Nat.add_zero]
      simp only [kC_ret, Option.toList, List.cons_append, List.nil_append, fix1_int, fix1_ref, fix1_unk, fix1_null, fix1_long]
      rw [Model_winners_24]
    have lst : ∀ v, go 188 60 [.ref mo, .int set, .int lo, .int (nI c)] [.int v] w I L P = if lo ≤ hdr (I d) c then go 188 80 [.ref mo, .int v, .int lo, .int (nI c)] [] w I L P else go 188 80 [.ref mo, .int v, .int (hdr (I d) c), .int (nI c)] [] w I L P := by
      intro v
      rw [Model_winners_60 _ _ _ _ _ _ _ _ _ h7, mo_header h7 hd p0 (by omega)]
      simp only [kC_ret, Option.toList, List.cons_append, List.nil_append, fix1_int, fix1_ref, fix1_unk, fix1_null, fix1_long]
      rw [Model_winners_66]
      by_cases y : lo ≤ hdr (I d) c
      · rw [if_pos y, if_pos y, Model_winners_78, Model_winners_79, fix1_int]
      · rw [if_neg y, if_neg y, Model_winners_70 _ _ _ _ _ _ _ _ h7, mo_header h7 hd p0 (by omega)]
        simp only [kC_ret, Option.toList, List.cons_append, List.nil_append, fix1_int, fix1_ref, fix1_unk, fix1_null, fix1_long]
        rw [Model_winners_75, Model_winners_79, fix1_int]
    rw [beg, wlN]
    by_cases z : I d (207 + 40 * c) ≤ 0
    · rw [if_pos z, if_pos z]
      exact nx lo set
    · rw [if_neg z, if_neg z, Model_winners_27 _ _ _ _ _ _ _ _ h7, mo_header h7 hd p0 (by omega)]
      simp only [kC_ret, Option.toList, List.cons_append, List.nil_append, fix1_int, fix1_ref, fix1_unk, fix1_null, fix1_long]
      rw [Model_winners_32]
      by_cases y : lo ≤ hdr (I d) c
      · rw [if_pos y, if_neg (Int32.not_lt.mpr y), Model_winners_42 _ _ _ _ _ _ _ _ h7, mo_header h7 hd p0 (by omega)]
        simp only [kC_ret, Option.toList, List.cons_append, List.nil_append, fix1_int, fix1_ref, fix1_unk, fix1_null, fix1_long]
        rw [Model_winners_47]
        by_cases y2 : hdr (I d) c = lo
        · rw [if_neg (fun g => g y2), if_pos y2, Model_winners_51, lst, if_pos y]
          exact nx lo _
        · rw [if_pos y2, if_neg y2, Model_winners_59, lst, if_pos y]
          exact nx lo _
      · rw [if_neg y, if_pos (Int32.not_le.mp y), Model_winners_36, lst, if_neg y]
        exact nx _ _
section
variable {B : Nat} {w : Wd} {I : MI} {L : ML} {P : MP} {N : Nat → Int32} {st : Nat} {Ks : Nat → Nat → Int32} {len : Nat} {tx : Nat → Nat} {T : Nat}
theorem sc_winners (h : CW B w I L P N st Ks len tx T) : SC B w I L P N st Ks len tx T (fun _ => 0) (call 98 [.ref B] w I L P) (fun w1 J K Q => call 188 [.ref (B + 284)] w1 J K Q) := by
  obtain ⟨hw, p0, tb, hst, q, k, n, md, hq, hbc, hlg⟩ := CW_bc h
  have t0 := hw.1
  have hk := hbc.1.2.1
  have h1 := hbc.1.2.2.1
  refine SC_tell (v := wlN N k 0 (nI 256) (nI 0)) h ?_ ?_
  · rw [Two_winners_E, Two_winners_0 _ _ _ _ _ t0, p0, rf_some, Two_winners_4 _ _ _ _ _ _ tb.1, Bus_lowestHeaders_E, Bus_lowestHeaders_0, fix1_ref, cl_wl tb hbc k 0 (by omega)]
    simp only [kC_ret, Option.toList, List.cons_append, List.nil_append, fix1_int, fix1_ref, fix1_unk, fix1_null, fix1_long]
    rw [Two_winners_7]
  · intro w1 J K Q hm
    obtain ⟨J3, K3, d1⟩ := mw_wellE (L := K) hm (wlN N k 0 (nI 256) (nI 0))
    obtain ⟨⟨w71, wd1, -⟩, ⟨p01, -⟩, m3, -⟩ := hm
    obtain ⟨lo', x, e⟩ := mo_wl w71 wd1 p01 J K hk (by rw [m3]; exact h1) k 0 (by omega) (nI 256) (nI 0)
    rw [m3] at e
    rw [d1, Model_winners_E, Model_winners_0, fix1_ref, e, Model_winners_86 _ _ _ _ _ _ _ _ w71, d1]
    simp only [kC_ret, Option.toList, List.cons_append, List.nil_append, fix1_int, fix1_ref, fix1_unk, fix1_null, fix1_long]
    rw [Model_winners_91]
end
