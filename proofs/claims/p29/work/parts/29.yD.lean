/-! the text: the class's next order -/
section
variable {w : Wd} {P : MP} {t ta len : Nat} {tx : Nat → Nat} {I : MI} {L : ML}
theorem cl_tg (h : TXT w P t ta len tx I) {p : Nat} (hp : p < 500) (h2 : I t 2 = nI p) : ∃ X, call 68 [.ref t] w I L P = some (.inl (some (.int (if tgF len tx p = none then nI 1 else nI 0))), w, wr I t X, L, P) ∧ (∀ k, k ≠ 2 → k ≠ 3 → k ≠ 4 → k ≠ 6 → k ≠ 7 → X k = I t k) ∧ (tgF len tx p = none → X 2 = nI (p + 2 + ndN len tx (p + 2)) ∧ X 3 = I t 3 ∧ X 6 = nI (tx p - 48) ∧ X 7 = nI (vvN tx (p + 2) (ndN len tx (p + 2)))) ∧ ∀ e, tgF len tx p = some e → X 3 = nI e := by
  rw [Text_readTarget_E, Text_readTarget_0 _ _ _ _ _ h.1, cl_rD h (show p < 2000 by omega) (by omega) (by omega) (by omega) h2]
  unfold tgF
  by_cases g1 : p < len ∧ 48 ≤ tx p ∧ tx p ≤ 50
  · rw [if_pos g1, odN_t g1, o1N_n]
    simp only [kC_ret, Option.toList, List.cons_append, List.nil_append, fix1_int, fix1_ref, fix1_unk, fix1_null, fix1_long]
    rw [Text_readTarget_8, if_pos n10, Text_readTarget_13 _ _ _ _ _ h.1, updI_wr, wr_wr, wr_same, sN_ne (show (4 : Nat) ≠ 2 by omega), sN_eq, cl_take (TXT_wr h (by rw [sN_ne (by omega), sN_ne (by omega), sN_ne (by omega)])) (show p + 1 < 2000 by omega) (by omega) (by rw [wr_same, sN_ne (by omega), sN_eq])]
    by_cases g2 : p + 1 < len ∧ tx (p + 1) = 58
    · rw [if_pos g2, osN_t g2, o1N_n]
      simp only [kC_ret, Option.toList, List.cons_append, List.nil_append, fix1_int, fix1_ref, fix1_unk, fix1_null, fix1_long]
      rw [Text_readTarget_27, if_neg n10, Text_readTarget_30 _ _ _ _ _ h.1, wr_wr, wr_same]
      obtain ⟨X, a1, a2, a3, a4⟩ := cl_rN (L := L) (TXT_wr (X := sN (sN (sN (sN (I t) 4 (nI (tx p - 48))) 2 (nI (p + 1))) 6 (nI (tx p - 48))) 2 (nI (p + 1 + 1))) h (by rw [sN_ne (by omega), sN_ne (by omega), sN_ne (by omega), sN_ne (by omega)])) (p := p + 2) (lo := 0) (hi := 127) (by omega) (by omega) (by omega) (by rw [wr_same, sN_eq])
      rw [wr_same] at a2 a3
      rw [wr_wr] at a1
      rw [a1]
      simp only [kC_ret, Option.toList, List.cons_append, List.nil_append, fix1_int, fix1_ref, fix1_unk, fix1_null, fix1_long]
      by_cases g3 : nfN len tx (p + 2) 0 127 = none
      · obtain ⟨b2, b3, b4⟩ := a3 g3
        rw [if_pos g3, Text_readTarget_37, if_pos n10, Text_readTarget_42 _ _ _ _ _ h.1 b11, updI_wr, wr_wr, wr_same, b4]
        refine ⟨_, rfl, ?_, fun _ => ⟨by rw [sN_ne (by omega)]; exact b2, ?_, ?_, by rw [sN_eq]⟩, fun e q => absurd (g3.symm.trans q) (fun z => nomatch z)⟩
        · intro k z1 z2 z3 z4 z5
          rw [sN_ne z5, a2 k z1 z2 z3, sN_ne z1, sN_ne z4, sN_ne z1, sN_ne z3]
        · rw [sN_ne (by omega), b3, sN_ne (by omega), sN_ne (by omega), sN_ne (by omega), sN_ne (by omega)]
        · rw [sN_ne (by omega), a2 6 (by omega) (by omega) (by omega), sN_ne (by omega), sN_eq]
      · rw [if_neg g3, Text_readTarget_37, if_neg (by simp [n00]), Text_readTarget_40 _ _ _ _ _ b01]
        refine ⟨_, rfl, ?_, fun q => absurd q g3, a4⟩
        intro k z1 z2 z3 z4 z5
        rw [a2 k z1 z2 z3, sN_ne z1, sN_ne z4, sN_ne z1, sN_ne z3]
    · rw [if_neg g2, osN_f g2, o1N_s, if_neg sm_ne]
      simp only [kC_ret, Option.toList, List.cons_append, List.nil_append, fix1_int, fix1_ref, fix1_unk, fix1_null, fix1_long]
      rw [Text_readTarget_27, if_pos n00, Text_readTarget_40 _ _ _ _ _ b01, wr_wr, wr_same]
      refine ⟨_, rfl, ?_, fun q => absurd q sm_ne, fun e q => by injection q with q; rw [sN_eq, q]⟩
      intro k z1 z2 z3 z4 z5
      rw [sN_ne z2, sN_ne z4, sN_ne z1, sN_ne z3]
  · rw [if_neg g1, odN_f g1, o1N_s, if_neg sm_ne]
    simp only [kC_ret, Option.toList, List.cons_append, List.nil_append, fix1_int, fix1_ref, fix1_unk, fix1_null, fix1_long]
    rw [Text_readTarget_8, if_neg (by simp [n00]), Text_readTarget_11 _ _ _ _ _ b01]
    refine ⟨_, rfl, ?_, fun q => absurd q sm_ne, fun e q => by injection q with q; rw [sN_eq, q]⟩
    intro k z1 z2 z3 z4 z5
    rw [sN_ne z2]
/-- the last sign, and what is answered then -/
theorem cl_nOe (h : TXT w P t ta len tx I) {p : Nat} (hp : p < 1000) (h2 : I t 2 = nI p) : (p < len ∧ tx p = 59 → go 67 93 [.ref t] [] w I L P = some (.inl (some (.int (nI 1))), w, wr I t (sN (I t) 2 (nI (p + 1))), L, P) ∧ go 67 141 [.ref t] [] w I L P = some (.inl (some (.int (nI 1))), w, wr I t (sN (I t) 2 (nI (p + 1))), L, P) ∧ go 67 173 [.ref t] [] w I L P = some (.inl (some (.int (nI 1))), w, wr I t (sN (I t) 2 (nI (p + 1))), L, P)) ∧ (¬ (p < len ∧ tx p = 59) → go 67 93 [.ref t] [] w I L P = some (.inl (some (.int (nI 0))), w, wr I t (sN (I t) 3 (nI p)), L, P) ∧ go 67 141 [.ref t] [] w I L P = some (.inl (some (.int (nI 0))), w, wr I t (sN (I t) 3 (nI p)), L, P) ∧ go 67 173 [.ref t] [] w I L P = some (.inl (some (.int (nI 0))), w, wr I t (sN (I t) 3 (nI p)), L, P)) := by
  constructor
  · intro g
    refine ⟨?_, ?_, ?_⟩
    · rw [Text_nextOrder_93 _ _ _ _ _ h.1, cl_take h (by omega) (by omega) h2, if_pos g]
      simp only [kC_ret, Option.toList, List.cons_append, List.nil_append, fix1_int, fix1_ref, fix1_unk, fix1_null, fix1_long]
      rw [Text_nextOrder_99, if_neg n10, Text_nextOrder_102, Text_nextOrder_107 _ _ _ _ _ _ b11]
    · rw [Text_nextOrder_141 _ _ _ _ _ h.1, cl_take h (by omega) (by omega) h2, if_pos g]
      simp only [kC_ret, Option.toList, List.cons_append, List.nil_append, fix1_int, fix1_ref, fix1_unk, fix1_null, fix1_long]
      rw [Text_nextOrder_147, if_neg n10, Text_nextOrder_150, Text_nextOrder_155 _ _ _ _ _ _ b11]
    · rw [Text_nextOrder_173 _ _ _ _ _ h.1, cl_take h (by omega) (by omega) h2, if_pos g]
      simp only [kC_ret, Option.toList, List.cons_append, List.nil_append, fix1_int, fix1_ref, fix1_unk, fix1_null, fix1_long]
      rw [Text_nextOrder_179, if_neg n10, Text_nextOrder_182, Text_nextOrder_187 _ _ _ _ _ _ b11]
  · intro g
    refine ⟨?_, ?_, ?_⟩
    · rw [Text_nextOrder_93 _ _ _ _ _ h.1, cl_take h (by omega) (by omega) h2, if_neg g]
      simp only [kC_ret, Option.toList, List.cons_append, List.nil_append, fix1_int, fix1_ref, fix1_unk, fix1_null, fix1_long]
      rw [Text_nextOrder_99, if_pos n00, Text_nextOrder_106, Text_nextOrder_107 _ _ _ _ _ _ b01]
    · rw [Text_nextOrder_141 _ _ _ _ _ h.1, cl_take h (by omega) (by omega) h2, if_neg g]
      simp only [kC_ret, Option.toList, List.cons_append, List.nil_append, fix1_int, fix1_ref, fix1_unk, fix1_null, fix1_long]
      rw [Text_nextOrder_147, if_pos n00, Text_nextOrder_154, Text_nextOrder_155 _ _ _ _ _ _ b01]
    · rw [Text_nextOrder_173 _ _ _ _ _ h.1, cl_take h (by omega) (by omega) h2, if_neg g]
      simp only [kC_ret, Option.toList, List.cons_append, List.nil_append, fix1_int, fix1_ref, fix1_unk, fix1_null, fix1_long]
      rw [Text_nextOrder_179, if_pos n00, Text_nextOrder_186, Text_nextOrder_187 _ _ _ _ _ _ b01]
theorem cl_nO (h : TXT w P t ta len tx I) {p : Nat} (hp : p < len) (h2 : I t 2 = nI p) : ∃ X K, call 67 [.ref t] w I L P = some (.inl (some (.int (if fltN len tx p = none then nI 1 else nI 0))), w, wr I t X, K, P) ∧ X 1 = I t 1 ∧ (∀ x, x ≠ t → K x = L x) ∧ (fltN len tx p = none → X 2 = nI (nxN len tx p) ∧ X 3 = I t 3 ∧ X 5 = nI (tx p) ∧ X 8 = nI (cnN len tx p) ∧ (tx p ≠ 115 → X 6 = nI (whN tx p) ∧ X 7 = nI (adN len tx p) ∧ K t 9 = Int64.ofNat (btN len tx p))) ∧ ∀ e, fltN len tx p = some e → X 3 = nI e := by
  have hl := h.2.2.2.2.1
  have e1 := h.2.2.2.2.2.1
  have hx := TXT_x h p hp
  have hnd := ndN_le len tx (p + 3)
  have hnd1 := ndN_le len tx (p + 1)
  have beg : call 67 [.ref t] w I L P = go 67 25 [.ref t] [.int (nI (tx p))] w (wr I t (sN (I t) 5 (nI (tx p)))) L P := by
    rw [Text_nextOrder_E, Text_nextOrder_0 _ _ _ _ _ h.1, h2, e1, if_pos (nI_lt hp (by omega)), Text_nextOrder_13 _ _ _ _ _ h.1, cl_nB h (show p < 2000 by omega) h2]
    simp only [kC_ret, Option.toList, List.cons_append, List.nil_append, fix1_int, fix1_ref, fix1_unk, fix1_null, fix1_long]
    rw [Text_nextOrder_18 _ _ _ _ _ _ _ h.1 h.1, chN_lt hp, updI_wr, wr_same, sN_eq]
  rw [beg]
  have fl : ∀ (X : Nat → Int32) (K : ML) e, X 1 = I t 1 → (∀ x, x ≠ t → K x = L x) → X 3 = nI e → ∃ Y M, (some ((.inl (some (.int (nI 0))), w, wr I t X, K, P) : Rs)) = some (.inl (some (.int (if (some e : Option Nat) = none then nI 1 else nI 0))), w, wr I t Y, M, P) ∧ Y 1 = I t 1 ∧ (∀ x, x ≠ t → M x = L x) ∧ ((some e : Option Nat) = none → Y 2 = nI (nxN len tx p) ∧ Y 3 = I t 3 ∧ Y 5 = nI (tx p) ∧ Y 8 = nI (cnN len tx p) ∧ (tx p ≠ 115 → Y 6 = nI (whN tx p) ∧ Y 7 = nI (adN len tx p) ∧ M t 9 = Int64.ofNat (btN len tx p))) ∧ ∀ e', (some e : Option Nat) = some e' → Y 3 = nI e' := by
    intro X K e z1 z2 z3
    exact ⟨X, K, by rw [if_neg sm_ne], z1, z2, fun q => absurd q sm_ne, fun e' q => by injection q with q; rw [← q]; exact z3⟩
  -- the target of a message, read
  have tgt : tx p = 119 ∨ tx p = 114 → ∃ X, call 68 [.ref t] w (wr I t (sN (sN (I t) 5 (nI (tx p))) 2 (nI (p + 1)))) L P = some (.inl (some (.int (if tgF len tx (p + 1) = none then nI 1 else nI 0))), w, wr I t X, L, P) ∧ X 1 = I t 1 ∧ X 5 = nI (tx p) ∧ (tgF len tx (p + 1) = none → X 2 = nI (p4N len tx p) ∧ X 3 = I t 3 ∧ X 6 = nI (whN tx p) ∧ X 7 = nI (adN len tx p)) ∧ ∀ e, tgF len tx (p + 1) = some e → X 3 = nI e := by
    intro _
    obtain ⟨X, a1, a2, a3, a4⟩ := cl_tg (L := L) (TXT_wr (X := sN (sN (I t) 5 (nI (tx p))) 2 (nI (p + 1))) h (by rw [sN_ne (by omega), sN_ne (by omega)])) (p := p + 1) (by omega) (by rw [wr_same, sN_eq])
    rw [wr_wr] at a1
    rw [wr_same] at a2 a3
    refine ⟨X, a1, ?_, ?_, ?_, a4⟩
    · rw [a2 1 (by omega) (by omega) (by omega) (by omega) (by omega), sN_ne (by omega), sN_ne (by omega)]
    · rw [a2 5 (by omega) (by omega) (by omega) (by omega) (by omega), sN_ne (by omega), sN_eq]
    · intro q
      obtain ⟨b1, b2, b3, b4⟩ := a3 q
      refine ⟨by rw [b1]; unfold p4N; congr 1, ?_, b3, b4⟩
      rw [b2, sN_ne (by omega), sN_ne (by omega)]
  have hp4 : p4N len tx p ≤ p + 6 := by unfold p4N; omega
  unfold fltN
  by_cases k1 : tx p = 119
  · obtain ⟨X, a1, a2, a5, a3, a4⟩ := tgt (Or.inl k1)
    rw [if_pos k1, k1, Text_nextOrder_25_k119, Text_nextOrder_60 _ _ _ _ _ h.1, updI_wr, wr_wr, wr_same, sN_ne (show (2 : Nat) ≠ 5 by omega), h2, nI_add, ← k1, a1]
    simp only [kC_ret, Option.toList, List.cons_append, List.nil_append, fix1_int, fix1_ref, fix1_unk, fix1_null, fix1_long]
    rw [Text_nextOrder_74]
    by_cases g1 : tgF len tx (p + 1) = none
    · obtain ⟨b2, b3, b6, b7⟩ := a3 g1
      rw [if_pos g1, if_neg n10, Text_nextOrder_77 _ _ _ _ _ h.1, cl_take (TXT_wr h a2) (show p4N len tx p < 2000 by omega) (by omega) (by rw [wr_same]; exact b2), g1, o1N_n]
      by_cases g2 : p4N len tx p < len ∧ tx (p4N len tx p) = 61
      · rw [if_pos g2, osN_t g2, o1N_n]
        simp only [kC_ret, Option.toList, List.cons_append, List.nil_append, fix1_int, fix1_ref, fix1_unk, fix1_null, fix1_long]
        rw [Text_nextOrder_83, if_neg n10, Text_nextOrder_86 _ _ _ _ _ h.1, wr_wr, wr_same]
        obtain ⟨Y, M, c1, c2, c3, c4, c5⟩ := cl_rB (L := L) (TXT_wr (X := sN X 2 (nI (p4N len tx p + 1))) h (by rw [sN_ne (by omega)]; exact a2)) (p := p4N len tx p + 1) (by omega) (by rw [wr_same, sN_eq])
        rw [wr_wr] at c1
        rw [wr_same] at c2 c4
        have hrp := rtN_p len tx 4 (p4N len tx p + 1) 0 0
        have eY1 : Y 1 = I t 1 := by rw [c2 1 (by omega) (by omega) (by omega) (by omega), sN_ne (by omega)]; exact a2
        rw [c1]
        simp only [kC_ret, Option.toList, List.cons_append, List.nil_append, fix1_int, fix1_ref, fix1_unk, fix1_null, fix1_long]
        rw [Text_nextOrder_90]
        by_cases g3 : (rtN len tx 4 (p4N len tx p + 1) 0 0).1 = none
        · obtain ⟨d2, d3, d8, d9⟩ := c4 g3
          rw [if_pos g3, if_neg n10, g3, o1N_n]
          obtain ⟨u1, u2⟩ := cl_nOe (L := M) (TXT_wr (X := Y) h eY1) (p := (rtN len tx 4 (p4N len tx p + 1) 0 0).2.1) (by omega) (by rw [wr_same]; exact d2)
          by_cases g4 : (rtN len tx 4 (p4N len tx p + 1) 0 0).2.1 < len ∧ tx (rtN len tx 4 (p4N len tx p + 1) 0 0).2.1 = 59
          · rw [(u1 g4).1, osN_t g4, wr_wr, wr_same, if_pos rfl]
            refine ⟨_, _, rfl, by rw [sN_ne (by omega)]; exact eY1, c3, fun _ => ⟨?_, ?_, ?_, ?_, fun _ => ⟨?_, ?_, ?_⟩⟩, fun e q => nomatch q⟩
            · rw [sN_eq]; unfold nxN; rw [if_pos k1]
            · rw [sN_ne (by omega), d3, sN_ne (by omega)]; exact b3
            · rw [sN_ne (by omega), c2 5 (by omega) (by omega) (by omega) (by omega), sN_ne (by omega), a5]
            · rw [sN_ne (by omega), d8]; unfold cnN; rw [if_pos k1]
            · rw [sN_ne (by omega), c2 6 (by omega) (by omega) (by omega) (by omega), sN_ne (by omega), b6]
            · rw [sN_ne (by omega), c2 7 (by omega) (by omega) (by omega) (by omega), sN_ne (by omega), b7]
            · rw [d9]; unfold btN; rw [if_pos k1]
          · rw [(u2 g4).1, osN_f g4, wr_wr, wr_same]
            exact fl _ _ _ (by rw [sN_ne (by omega)]; exact eY1) c3 (by rw [sN_eq])
        · obtain ⟨e, he⟩ := Option.ne_none_iff_exists'.mp g3
          rw [if_neg g3, if_pos n00, Text_nextOrder_106, Text_nextOrder_107 _ _ _ _ _ _ b01, he, o1N_s]
          exact fl _ _ _ eY1 c3 (c5 e he)
      · rw [if_neg g2, osN_f g2, o1N_s]
        simp only [kC_ret, Option.toList, List.cons_append, List.nil_append, fix1_int, fix1_ref, fix1_unk, fix1_null, fix1_long]
        rw [Text_nextOrder_83, if_pos n00, Text_nextOrder_106, Text_nextOrder_107 _ _ _ _ _ _ b01, wr_wr, wr_same]
        exact fl _ _ _ (by rw [sN_ne (by omega)]; exact a2) (fun _ _ => rfl) (by rw [sN_eq])
    · obtain ⟨e, he⟩ := Option.ne_none_iff_exists'.mp g1
      rw [if_neg g1, if_pos n00, Text_nextOrder_106, Text_nextOrder_107 _ _ _ _ _ _ b01, he, o1N_s]
      exact fl _ _ _ a2 (fun _ _ => rfl) (a4 e he)
  · rw [if_neg k1]
    by_cases k2 : tx p = 114
    · obtain ⟨X, a1, a2, a5, a3, a4⟩ := tgt (Or.inr k2)
      rw [if_pos k2, k2, Text_nextOrder_25_k114, Text_nextOrder_108 _ _ _ _ _ h.1, updI_wr, wr_wr, wr_same, sN_ne (show (2 : Nat) ≠ 5 by omega), h2, nI_add, ← k2, a1]
      simp only [kC_ret, Option.toList, List.cons_append, List.nil_append, fix1_int, fix1_ref, fix1_unk, fix1_null, fix1_long]
      rw [Text_nextOrder_122]
      by_cases g1 : tgF len tx (p + 1) = none
      · obtain ⟨b2, b3, b6, b7⟩ := a3 g1
        rw [if_pos g1, if_neg n10, Text_nextOrder_125 _ _ _ _ _ h.1, cl_take (TXT_wr h a2) (show p4N len tx p < 2000 by omega) (by omega) (by rw [wr_same]; exact b2), g1, o1N_n]
        by_cases g2 : p4N len tx p < len ∧ tx (p4N len tx p) = 42
        · rw [if_pos g2, osN_t g2, o1N_n]
          simp only [kC_ret, Option.toList, List.cons_append, List.nil_append, fix1_int, fix1_ref, fix1_unk, fix1_null, fix1_long]
          rw [Text_nextOrder_131, if_neg n10, Text_nextOrder_134 _ _ _ _ _ h.1, wr_wr, wr_same, Text_readCount_E, Text_readCount_0 _ _ _ _ _ _ h.1, cl_rD (TXT_wr h (by rw [sN_ne (by omega)]; exact a2)) (show p4N len tx p + 1 < 2000 by omega) (by omega) (by omega) (by omega) (by rw [wr_same, sN_eq]), wr_wr, wr_wr, wr_same]
          have fL : ∀ x, x ≠ t → updL L t 9 0 x = L x := fun x hx => by funext j; unfold updL; rw [if_neg (fun z => hx z.1)]
          by_cases g3 : p4N len tx p + 1 < len ∧ 49 ≤ tx (p4N len tx p + 1) ∧ tx (p4N len tx p + 1) ≤ 52
          · rw [if_pos g3, odN_t g3, o1N_n]
            simp only [kC_ret, Option.toList, List.cons_append, List.nil_append, fix1_int, fix1_ref, fix1_unk, fix1_null, fix1_long]
            rw [Text_readCount_13 _ _ _ _ _ _ _ h.1 b11, updI_wr, wr_wr, wr_same, sN_ne (show (4 : Nat) ≠ 2 by omega), sN_eq]
            simp only [kC_ret, Option.toList, List.cons_append, List.nil_append, fix1_int, fix1_ref, fix1_unk, fix1_null, fix1_long]
            rw [Text_nextOrder_138, if_neg n10]
            obtain ⟨u1, u2⟩ := cl_nOe (L := updL L t 9 0) (TXT_wr (X := sN (sN (sN (sN X 2 (nI (p4N len tx p + 1))) 4 (nI (tx (p4N len tx p + 1) - 48))) 2 (nI (p4N len tx p + 1 + 1))) 8 (nI (tx (p4N len tx p + 1) - 48))) h (by rw [sN_ne (by omega), sN_ne (by omega), sN_ne (by omega), sN_ne (by omega)]; exact a2)) (p := p4N len tx p + 2) (by omega) (by rw [wr_same, sN_ne (by omega), sN_eq])
            by_cases g4 : p4N len tx p + 2 < len ∧ tx (p4N len tx p + 2) = 59
            · rw [(u1 g4).2.1, osN_t g4, wr_wr, wr_same, if_pos rfl]
              refine ⟨_, _, rfl, ?_, fL, fun _ => ⟨?_, ?_, ?_, ?_, fun _ => ⟨?_, ?_, ?_⟩⟩, fun e q => nomatch q⟩
              · rw [sN_ne (by omega), sN_ne (by omega), sN_ne (by omega), sN_ne (by omega), sN_ne (by omega)]; exact a2
              · rw [sN_eq]; unfold nxN; rw [if_neg k1, if_pos k2]
              · rw [sN_ne (by omega), sN_ne (by omega), sN_ne (by omega), sN_ne (by omega), sN_ne (by omega)]; exact b3
              · rw [sN_ne (by omega), sN_ne (by omega), sN_ne (by omega), sN_ne (by omega), sN_ne (by omega)]; exact a5
              · rw [sN_ne (by omega), sN_eq]; unfold cnN; rw [if_neg k1, if_pos k2]
              · rw [sN_ne (by omega), sN_ne (by omega), sN_ne (by omega), sN_ne (by omega), sN_ne (by omega)]; exact b6
              · rw [sN_ne (by omega), sN_ne (by omega), sN_ne (by omega), sN_ne (by omega), sN_ne (by omega)]; exact b7
              · unfold btN updL; rw [if_neg k1, if_pos ⟨rfl, rfl⟩]; rfl
            · rw [(u2 g4).2.1, osN_f g4, wr_wr, wr_same]
              exact fl _ _ _ (by rw [sN_ne (by omega), sN_ne (by omega), sN_ne (by omega), sN_ne (by omega), sN_ne (by omega)]; exact a2) fL (by rw [sN_eq])
          · rw [if_neg g3, odN_f g3, o1N_s]
            simp only [kC_ret, Option.toList, List.cons_append, List.nil_append, fix1_int, fix1_ref, fix1_unk, fix1_null, fix1_long]
            rw [Text_readCount_13 _ _ _ _ _ _ _ h.1 b01, updI_wr, wr_wr, wr_same]
            simp only [kC_ret, Option.toList, List.cons_append, List.nil_append, fix1_int, fix1_ref, fix1_unk, fix1_null, fix1_long]
            rw [Text_nextOrder_138, if_pos n00, Text_nextOrder_154, Text_nextOrder_155 _ _ _ _ _ _ b01]
            exact fl _ _ _ (by rw [sN_ne (by omega), sN_ne (by omega), sN_ne (by omega)]; exact a2) fL (by rw [sN_ne (by omega), sN_eq])
        · rw [if_neg g2, osN_f g2, o1N_s]
          simp only [kC_ret, Option.toList, List.cons_append, List.nil_append, fix1_int, fix1_ref, fix1_unk, fix1_null, fix1_long]
          rw [Text_nextOrder_131, if_pos n00, Text_nextOrder_154, Text_nextOrder_155 _ _ _ _ _ _ b01, wr_wr, wr_same]
          exact fl _ _ _ (by rw [sN_ne (by omega)]; exact a2) (fun _ _ => rfl) (by rw [sN_eq])
      · obtain ⟨e, he⟩ := Option.ne_none_iff_exists'.mp g1
        rw [if_neg g1, if_pos n00, Text_nextOrder_154, Text_nextOrder_155 _ _ _ _ _ _ b01, he, o1N_s]
        exact fl _ _ _ a2 (fun _ _ => rfl) (a4 e he)
    · rw [if_neg k2]
      by_cases k3 : tx p = 115
      · have sw : go 67 25 [.ref t] [.int (nI (tx p))] w (wr I t (sN (I t) 5 (nI (tx p)))) L P = go 67 156 [.ref t] [] w (wr I t (sN (I t) 5 (nI (tx p)))) L P := by rw [k3, Text_nextOrder_25_k115]
        rw [if_pos k3, sw, Text_nextOrder_156 _ _ _ _ _ h.1, updI_wr, wr_wr, wr_same, sN_ne (show (2 : Nat) ≠ 5 by omega), h2, nI_add, Text_readSlots_E, Text_readSlots_0 _ _ _ _ _ _ h.1]
        obtain ⟨X, a1, a2, a3, a4⟩ := cl_rN (L := L) (TXT_wr (X := sN (sN (I t) 5 (nI (tx p))) 2 (nI (p + 1))) h (by rw [sN_ne (by omega), sN_ne (by omega)])) (p := p + 1) (lo := 1) (hi := 200) (by omega) (by omega) (by omega) (by rw [wr_same, sN_eq])
        rw [wr_wr] at a1
        rw [wr_same] at a2 a3
        have eX1 : X 1 = I t 1 := by rw [a2 1 (by omega) (by omega) (by omega), sN_ne (by omega), sN_ne (by omega)]
        rw [a1]
        simp only [kC_ret, Option.toList, List.cons_append, List.nil_append, fix1_int, fix1_ref, fix1_unk, fix1_null, fix1_long]
        by_cases g1 : nfN len tx (p + 1) 1 200 = none
        · obtain ⟨b2, b3, b4⟩ := a3 g1
          rw [if_pos g1, Text_readSlots_8 _ _ _ _ _ _ _ h.1 b11, updI_wr, wr_wr, wr_same, b4, g1, o1N_n]
          simp only [kC_ret, Option.toList, List.cons_append, List.nil_append, fix1_int, fix1_ref, fix1_unk, fix1_null, fix1_long]
          rw [Text_nextOrder_170, if_neg n10]
          obtain ⟨u1, u2⟩ := cl_nOe (L := L) (TXT_wr (X := sN X 8 (nI (vvN tx (p + 1) (ndN len tx (p + 1))))) h (by rw [sN_ne (by omega)]; exact eX1)) (p := p + 1 + ndN len tx (p + 1)) (by omega) (by rw [wr_same, sN_ne (by omega)]; exact b2)
          by_cases g4 : p + 1 + ndN len tx (p + 1) < len ∧ tx (p + 1 + ndN len tx (p + 1)) = 59
          · rw [(u1 g4).2.2, osN_t g4, wr_wr, wr_same, if_pos rfl]
            refine ⟨_, _, rfl, ?_, fun _ _ => rfl, fun _ => ⟨?_, ?_, ?_, ?_, fun q => absurd k3 q⟩, fun e q => nomatch q⟩
            · rw [sN_ne (by omega), sN_ne (by omega)]; exact eX1
            · rw [sN_eq]; unfold nxN; rw [if_neg k1, if_neg k2]
            · rw [sN_ne (by omega), sN_ne (by omega), b3, sN_ne (by omega), sN_ne (by omega)]
            · rw [sN_ne (by omega), sN_ne (by omega), a2 5 (by omega) (by omega) (by omega), sN_ne (by omega), sN_eq]
            · rw [sN_ne (by omega), sN_eq]; unfold cnN; rw [if_neg k1, if_neg k2]
          · rw [(u2 g4).2.2, osN_f g4, wr_wr, wr_same]
            exact fl _ _ _ (by rw [sN_ne (by omega), sN_ne (by omega)]; exact eX1) (fun _ _ => rfl) (by rw [sN_eq])
        · obtain ⟨e, he⟩ := Option.ne_none_iff_exists'.mp g1
          rw [if_neg g1, Text_readSlots_8 _ _ _ _ _ _ _ h.1 b01, updI_wr, wr_wr, wr_same, he, o1N_s]
          simp only [kC_ret, Option.toList, List.cons_append, List.nil_append, fix1_int, fix1_ref, fix1_unk, fix1_null, fix1_long]
          rw [Text_nextOrder_170, if_pos n00, Text_nextOrder_186, Text_nextOrder_187 _ _ _ _ _ _ b01]
          exact fl _ _ _ (by rw [sN_ne (by omega)]; exact eX1) (fun _ _ => rfl) (by rw [sN_ne (by omega)]; exact a4 e he)
      · rw [if_neg k3, Text_nextOrder_25_kd _ _ _ _ _ _ (fun q => k2 (by rw [nI_eq (by omega) (by omega)] at q; exact q)) (fun q => k3 (by rw [nI_eq (by omega) (by omega)] at q; exact q)) (fun q => k1 (by rw [nI_eq (by omega) (by omega)] at q; exact q)), Text_nextOrder_188 _ _ _ _ _ h.1, wr_same, sN_ne (show (2 : Nat) ≠ 5 by omega), h2, cl_tf (TXT_wr h (by rw [sN_ne (by omega)]))]
        simp only [kC_ret, Option.toList, List.cons_append, List.nil_append, fix1_int, fix1_ref, fix1_unk, fix1_null, fix1_long]
        rw [Text_nextOrder_196 _ _ _ _ _ _ b01, wr_wr, wr_same]
        exact fl _ _ _ (by rw [sN_ne (by omega), sN_ne (by omega)]) (fun _ _ => rfl) (by rw [sN_eq])
theorem cl_nO0 (h : TXT w P t ta len tx I) {p : Nat} (hp : len ≤ p) (hp2 : p < 1000) (h2 : I t 2 = nI p) : call 67 [.ref t] w I L P = some (.inl (some (.int (nI 0))), w, I, L, P) := by
  rw [Text_nextOrder_E, Text_nextOrder_0 _ _ _ _ _ h.1, h2, h.2.2.2.2.2.1, if_neg (nI_nlt hp (by omega)), Text_nextOrder_11 _ _ _ _ _ b01]
end
