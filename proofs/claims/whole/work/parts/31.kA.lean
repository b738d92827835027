/-! the law: what it calls -/
def LI (b B Lw : Nat) (xs : Nat → Int32) (i : Nat) (w : Wd) (I : MI) (L : ML) (P : MP) : Prop := b < B ∧ ∃ N st Ks len tx, CW B w I L P N st Ks len tx (4000 * i) ∧ MW B w I P N st Ks len tx ∧ w.1 b = some (14, Lw) ∧ w.1 (B + 289) = some (9, 1) ∧ (∀ k, I b k = xs k) ∧ w.2.2.1 ≤ 290 + i ∧ w.2.2.2 ≤ 6239 + 6 * i
theorem SC_T {B : Nat} {w : Wd} {I : MI} {L : ML} {P : MP} {N : Nat → Int32} {st : Nat} {Ks : Nat → Nat → Int32} {len : Nat} {tx : Nat → Nat} {T T2 : Nat} {f : Nat → Nat} {cc : Option Rs} {mc : Wd → MI → ML → MP → Option Rs} (h : SC B w I L P N st Ks len tx T f cc mc) (hT : T ≤ T2) : SC B w I L P N st Ks len tx T2 f cc mc := by
  rcases h with ⟨v, N', st', Ks', len', tx', ⟨J, K, Q, a1, a2, a3⟩, h2⟩ | h
  · exact Or.inl ⟨v, N', st', Ks', len', tx', ⟨J, K, Q, a1, CW_T a2 hT, a3⟩, h2⟩
  · exact Or.inr h
theorem lg_self (x : Int64) : lg_cmp x x = 0 := by unfold lg_cmp; simp
theorem lw_sc {b B Lw i : Nat} {xs : Nat → Int32} {w : Wd} {I : MI} {L : ML} {P : MP} {N : Nat → Int32} {st : Nat} {Ks : Nat → Nat → Int32} {len : Nat} {tx : Nat → Nat} {T : Nat} (hb : b < B) (hw1 : w.1 b = some (14, Lw)) (hw9 : w.1 (B + 289) = some (9, 1)) (hI : ∀ k, I b k = xs k) (hk1 : w.2.2.1 ≤ 290 + i) (hk2 : w.2.2.2 ≤ 6239 + 6 * i) (hc : CW B w I L P N st Ks len tx T) (hT0 : T ≤ 4000 * (i + 1)) (hm : MW B w I P N st Ks len tx) {T' : Nat} (hT : T' ≤ 4000 * (i + 1)) {f : Nat → Nat} {cc : Option Rs} {mc : Wd → MI → ML → MP → Option Rs} (h : SC B w I L P N st Ks len tx T' f cc mc) : (∃ v J K Q, cc = some (.inl (some (.int v)), w, J, K, Q) ∧ (∀ k, J b k = xs k) ∧ ∀ K', (∀ x, x ≠ B + 289 → K' x = K x) → ∃ J2 K2, mc w J K' Q = some (.inl (some (.int v)), w, J2, K2, Q) ∧ J2 (B + 284) 6 = nI 0 ∧ K2 (B + 289) = K' (B + 289) ∧ LI b B Lw xs (i + 1) w J2 K2 Q) ∨ (∃ e v J2 K2, cc = some (.inr e, thrT w, I, L, P) ∧ 0 < f e ∧ f e < 100 ∧ mc (thrT w) I L P = some (.inl (some (.int v)), thrT w, J2, K2, P) ∧ J2 (B + 284) 6 = nI (f e) ∧ LI b B Lw xs (i + 1) (thrT w) J2 K2 P) := by
  rcases h with ⟨v, N', st', Ks', len', tx', ⟨J, K, Q, a1, a2, a3⟩, h2⟩ | ⟨e, v, a1, f1, f2, h2⟩
  · left
    have hJ : ∀ k, J b k = xs k := fun k => by rw [(a3 b (by omega)).1]; exact hI k
    refine ⟨v, J, K, Q, a1, hJ, ?_⟩
    intro K' hK
    obtain ⟨M, e, J2, K2, b1, b2, b3, b4⟩ := h2 w J K' Q (MW_Fr hm a3)
    refine ⟨J2, K2, b1, b3, (b4 (B + 289) (by omega)).2.1, hb, M, st', Ks', len', tx', ?_, b2, hw1, hw9, fun k => by rw [(b4 b (by omega)).1]; exact hJ k, by omega, by omega⟩
    exact CW_T (CW_N (CW_fr a2 (fun x x1 x2 => ⟨(b4 x (by omega)).1, by rw [(b4 x (by omega)).2.1]; exact hK x (by omega), rfl⟩)) e) hT
  · right
    obtain ⟨M, e', J2, K2, b1, b2, b3, b4⟩ := h2 (thrT w) I L P (MW_w hm rfl)
    refine ⟨e, v, J2, K2, a1, f1, f2, b1, b3, hb, M, st, Ks, len, tx, ?_, b2, hw1, hw9, fun k => by rw [(b4 b (by omega)).1]; exact hI k, ?_, ?_⟩
    · exact CW_T (CW_N (CW_w (w' := thrT w) (CW_fr hc (fun x x1 x2 => ⟨(b4 x (by omega)).1, (b4 x (by omega)).2.1, rfl⟩)) rfl) e') hT0
    · show w.2.2.1 + 1 ≤ _; omega
    · show w.2.2.2 + 6 ≤ _; omega
theorem lh_begin {w w1 : Wd} {I J : MI} {L K : ML} {P Q : MP} {B O : Nat} (t0 : w.1 B = some (6, 0)) (x : Int32) : (∀ v, w1.1 O = some (9, 1) → call 80 [.ref B, .int x] w I L P = some (.inl (some (.int v)), w1, J, K, Q) → call 206 [.ref B, .int x, .ref O] w I L P = some (.inl (some (.int (nI 0))), w1, J, updL K O 0 (Int32.toInt64 v), Q)) ∧ ∀ e, call 80 [.ref B, .int x] w I L P = some (.inr e, w1, J, K, Q) → 0 < (fun e => if e = 0 then 1 else 0) e → call 206 [.ref B, .int x, .ref O] w I L P = some (.inl (some (.int (nI ((fun e => if e = 0 then 1 else 0) e)))), w1, J, K, Q) := by
  constructor
  · intro v h9 hc
    rw [Law_begin_E, Law_begin_0_ret _ _ _ _ _ _ _ _ _ _ _ _ _ t0 hc]
    simp only [kC_ret, Option.toList, List.cons_append, List.nil_append, fix1_int, fix1_ref, fix1_unk, fix1_null, fix1_long]
    rw [Law_begin_7 _ _ _ _ _ _ _ _ _ _ _ (inA_nI h9 (by omega) (by omega)), cl_nI (by omega), Law_begin_15]
  · intro e hc hp
    by_cases h0 : e = 0
    · subst h0
      rw [Law_begin_E, Law_begin_0_thr0 _ _ _ _ _ _ _ _ _ _ _ _ t0 hc, Law_begin_13]
      all_goals rfl
    · skip
      exfalso
      revert hp
      dsimp only
      split <;> (try split) <;> omega
theorem lh_addListener {w w1 : Wd} {I J : MI} {L K : ML} {P Q : MP} {B O : Nat} (t0 : w.1 B = some (6, 0)) (x y : Int32) : (∀ v, w1.1 O = some (9, 1) → call 81 [.ref B, .int x, .int y] w I L P = some (.inl (some (.int v)), w1, J, K, Q) → call 207 [.ref B, .int x, .int y, .ref O] w I L P = some (.inl (some (.int (nI 0))), w1, J, updL K O 0 (Int32.toInt64 v), Q)) ∧ ∀ e, call 81 [.ref B, .int x, .int y] w I L P = some (.inr e, w1, J, K, Q) → 0 < (fun e => if e < 2 then e + 1 else 0) e → call 207 [.ref B, .int x, .int y, .ref O] w I L P = some (.inl (some (.int (nI ((fun e => if e < 2 then e + 1 else 0) e)))), w1, J, K, Q) := by
  constructor
  · intro v h9 hc
    rw [Law_addListener_E, Law_addListener_0_ret _ _ _ _ _ _ _ _ _ _ _ _ _ _ t0 hc]
    simp only [kC_ret, Option.toList, List.cons_append, List.nil_append, fix1_int, fix1_ref, fix1_unk, fix1_null, fix1_long]
    rw [Law_addListener_8 _ _ _ _ _ _ _ _ _ _ _ _ (inA_nI h9 (by omega) (by omega)), cl_nI (by omega), Law_addListener_21]
  · intro e hc hp
    by_cases h0 : e = 0
    · subst h0
      rw [Law_addListener_E, Law_addListener_0_thr0 _ _ _ _ _ _ _ _ _ _ _ _ _ t0 hc, Law_addListener_15]
      all_goals rfl
    · skip
      by_cases h1 : e = 1
      · subst h1
        rw [Law_addListener_E, Law_addListener_0_thr1 _ _ _ _ _ _ _ _ _ _ _ _ _ t0 hc, Law_addListener_19]
        all_goals rfl
      · skip
        exfalso
        revert hp
        dsimp only
        split <;> (try split) <;> omega
theorem lh_turn {w w1 : Wd} {I J : MI} {L K : ML} {P Q : MP} {B O : Nat} (t0 : w.1 B = some (6, 0)) (x y : Int32) : (∀ v, w1.1 O = some (9, 1) → call 82 [.ref B, .int x, .int y] w I L P = some (.inl (some (.int v)), w1, J, K, Q) → call 208 [.ref B, .int x, .int y, .ref O] w I L P = some (.inl (some (.int (nI 0))), w1, J, updL K O 0 (Int32.toInt64 v), Q)) ∧ ∀ e, call 82 [.ref B, .int x, .int y] w I L P = some (.inr e, w1, J, K, Q) → 0 < (fun e => if e = 1 then 2 else if e = 2 then 1 else 0) e → call 208 [.ref B, .int x, .int y, .ref O] w I L P = some (.inl (some (.int (nI ((fun e => if e = 1 then 2 else if e = 2 then 1 else 0) e)))), w1, J, K, Q) := by
  constructor
  · intro v h9 hc
    rw [Law_turn_E, Law_turn_0_ret _ _ _ _ _ _ _ _ _ _ _ _ _ _ t0 hc]
    simp only [kC_ret, Option.toList, List.cons_append, List.nil_append, fix1_int, fix1_ref, fix1_unk, fix1_null, fix1_long]
    rw [Law_turn_8 _ _ _ _ _ _ _ _ _ _ _ _ (inA_nI h9 (by omega) (by omega)), cl_nI (by omega), Law_turn_21]
  · intro e hc hp
    by_cases h1 : e = 1
    · subst h1
      rw [Law_turn_E, Law_turn_0_thr1 _ _ _ _ _ _ _ _ _ _ _ _ _ t0 hc, Law_turn_19]
      all_goals rfl
    · skip
      by_cases h2 : e = 2
      · subst h2
        rw [Law_turn_E, Law_turn_0_thr2 _ _ _ _ _ _ _ _ _ _ _ _ _ t0 hc, Law_turn_15]
        all_goals rfl
      · skip
        exfalso
        revert hp
        dsimp only
        split <;> (try split) <;> omega
theorem lh_empty {w w1 : Wd} {I J : MI} {L K : ML} {P Q : MP} {B O : Nat} (t0 : w.1 B = some (6, 0)) (x : Int32) : (∀ v, w1.1 O = some (9, 1) → call 83 [.ref B, .int x] w I L P = some (.inl (some (.int v)), w1, J, K, Q) → call 209 [.ref B, .int x, .ref O] w I L P = some (.inl (some (.int (nI 0))), w1, J, updL K O 0 (Int32.toInt64 v), Q)) ∧ ∀ e, call 83 [.ref B, .int x] w I L P = some (.inr e, w1, J, K, Q) → 0 < (fun e => if e = 2 then 1 else 0) e → call 209 [.ref B, .int x, .ref O] w I L P = some (.inl (some (.int (nI ((fun e => if e = 2 then 1 else 0) e)))), w1, J, K, Q) := by
  constructor
  · intro v h9 hc
    rw [Law_empty_E, Law_empty_0_ret _ _ _ _ _ _ _ _ _ _ _ _ _ t0 hc]
    simp only [kC_ret, Option.toList, List.cons_append, List.nil_append, fix1_int, fix1_ref, fix1_unk, fix1_null, fix1_long]
    rw [Law_empty_7 _ _ _ _ _ _ _ _ _ _ _ (inA_nI h9 (by omega) (by omega)), cl_nI (by omega), Law_empty_15]
  · intro e hc hp
    by_cases h2 : e = 2
    · subst h2
      rw [Law_empty_E, Law_empty_0_thr2 _ _ _ _ _ _ _ _ _ _ _ _ t0 hc, Law_empty_13]
      all_goals rfl
    · skip
      exfalso
      revert hp
      dsimp only
      split <;> (try split) <;> omega
theorem lh_setLimit {w w1 : Wd} {I J : MI} {L K : ML} {P Q : MP} {B O : Nat} (t0 : w.1 B = some (6, 0)) (x : Int32) : (∀ v, w1.1 O = some (9, 1) → call 84 [.ref B, .int x] w I L P = some (.inl (some (.int v)), w1, J, K, Q) → call 210 [.ref B, .int x, .ref O] w I L P = some (.inl (some (.int (nI 0))), w1, J, updL K O 0 (Int32.toInt64 v), Q)) ∧ ∀ e, call 84 [.ref B, .int x] w I L P = some (.inr e, w1, J, K, Q) → 0 < (fun e => if e = 0 then 1 else 0) e → call 210 [.ref B, .int x, .ref O] w I L P = some (.inl (some (.int (nI ((fun e => if e = 0 then 1 else 0) e)))), w1, J, K, Q) := by
  constructor
  · intro v h9 hc
    rw [Law_setLimit_E, Law_setLimit_0_ret _ _ _ _ _ _ _ _ _ _ _ _ _ t0 hc]
    simp only [kC_ret, Option.toList, List.cons_append, List.nil_append, fix1_int, fix1_ref, fix1_unk, fix1_null, fix1_long]
    rw [Law_setLimit_7 _ _ _ _ _ _ _ _ _ _ _ (inA_nI h9 (by omega) (by omega)), cl_nI (by omega), Law_setLimit_15]
  · intro e hc hp
    by_cases h0 : e = 0
    · subst h0
      rw [Law_setLimit_E, Law_setLimit_0_thr0 _ _ _ _ _ _ _ _ _ _ _ _ t0 hc, Law_setLimit_13]
      all_goals rfl
    · skip
      exfalso
      revert hp
      dsimp only
      split <;> (try split) <;> omega
theorem lh_write {w w1 : Wd} {I J : MI} {L K : ML} {P Q : MP} {B O : Nat} (t0 : w.1 B = some (6, 0)) (x y z : Int32) (l : Int64) : (∀ v, w1.1 O = some (9, 1) → call 85 [.ref B, .int x, .int y, .int z, .long l] w I L P = some (.inl (some (.int v)), w1, J, K, Q) → call 211 [.ref B, .int x, .int y, .int z, .long l, .ref O] w I L P = some (.inl (some (.int (nI 0))), w1, J, updL K O 0 (Int32.toInt64 v), Q)) ∧ ∀ e, call 85 [.ref B, .int x, .int y, .int z, .long l] w I L P = some (.inr e, w1, J, K, Q) → 0 < (fun e => if e = 2 then 1 else if e < 2 then e + 2 else 0) e → call 211 [.ref B, .int x, .int y, .int z, .long l, .ref O] w I L P = some (.inl (some (.int (nI ((fun e => if e = 2 then 1 else if e < 2 then e + 2 else 0) e)))), w1, J, K, Q) := by
  constructor
  · intro v h9 hc
    rw [Law_write_E, Law_write_0_ret _ _ _ _ _ _ _ _ _ _ _ _ _ _ _ _ _ t0 hc]
    simp only [kC_ret, Option.toList, List.cons_append, List.nil_append, fix1_int, fix1_ref, fix1_unk, fix1_null, fix1_long]
    rw [Law_write_12 _ _ _ _ _ _ _ _ _ _ _ _ _ _ _ (inA_nI h9 (by omega) (by omega)), cl_nI (by omega), Law_write_29]
  · intro e hc hp
    by_cases h2 : e = 2
    · subst h2
      rw [Law_write_E, Law_write_0_thr2 _ _ _ _ _ _ _ _ _ _ _ _ _ _ _ _ t0 hc, Law_write_19]
      all_goals rfl
    · skip
      by_cases h0 : e = 0
      · subst h0
        rw [Law_write_E, Law_write_0_thr0 _ _ _ _ _ _ _ _ _ _ _ _ _ _ _ _ t0 hc, Law_write_23]
        all_goals rfl
      · skip
        by_cases h1 : e = 1
        · subst h1
          rw [Law_write_E, Law_write_0_thr1 _ _ _ _ _ _ _ _ _ _ _ _ _ _ _ _ t0 hc, Law_write_27]
          all_goals rfl
        · skip
          exfalso
          revert hp
          dsimp only
          split <;> (try split) <;> omega
theorem lh_read {w w1 : Wd} {I J : MI} {L K : ML} {P Q : MP} {B O : Nat} (t0 : w.1 B = some (6, 0)) (x y z : Int32) : (∀ v, w1.1 O = some (9, 1) → call 86 [.ref B, .int x, .int y, .int z] w I L P = some (.inl (some (.int v)), w1, J, K, Q) → call 212 [.ref B, .int x, .int y, .int z, .ref O] w I L P = some (.inl (some (.int (nI 0))), w1, J, updL K O 0 (Int32.toInt64 v), Q)) ∧ ∀ e, call 86 [.ref B, .int x, .int y, .int z] w I L P = some (.inr e, w1, J, K, Q) → 0 < (fun e => if e = 2 then 1 else if e < 2 then e + 2 else 0) e → call 212 [.ref B, .int x, .int y, .int z, .ref O] w I L P = some (.inl (some (.int (nI ((fun e => if e = 2 then 1 else if e < 2 then e + 2 else 0) e)))), w1, J, K, Q) := by
  constructor
  · intro v h9 hc
    rw [Law_read_E, Law_read_0_ret _ _ _ _ _ _ _ _ _ _ _ _ _ _ _ t0 hc]
    simp only [kC_ret, Option.toList, List.cons_append, List.nil_append, fix1_int, fix1_ref, fix1_unk, fix1_null, fix1_long]
    rw [Law_read_10 _ _ _ _ _ _ _ _ _ _ _ _ _ (inA_nI h9 (by omega) (by omega)), cl_nI (by omega), Law_read_27]
  · intro e hc hp
    by_cases h2 : e = 2
    · subst h2
      rw [Law_read_E, Law_read_0_thr2 _ _ _ _ _ _ _ _ _ _ _ _ _ _ t0 hc, Law_read_17]
      all_goals rfl
    · skip
      by_cases h0 : e = 0
      · subst h0
        rw [Law_read_E, Law_read_0_thr0 _ _ _ _ _ _ _ _ _ _ _ _ _ _ t0 hc, Law_read_21]
        all_goals rfl
      · skip
        by_cases h1 : e = 1
        · subst h1
          rw [Law_read_E, Law_read_0_thr1 _ _ _ _ _ _ _ _ _ _ _ _ _ _ t0 hc, Law_read_25]
          all_goals rfl
        · skip
          exfalso
          revert hp
          dsimp only
          split <;> (try split) <;> omega
theorem lh_cancel {w w1 : Wd} {I J : MI} {L K : ML} {P Q : MP} {B O : Nat} (t0 : w.1 B = some (6, 0)) (x : Int32) : (∀ v, w1.1 O = some (9, 1) → call 87 [.ref B, .int x] w I L P = some (.inl (some (.int v)), w1, J, K, Q) → call 213 [.ref B, .int x, .ref O] w I L P = some (.inl (some (.int (nI 0))), w1, J, updL K O 0 (Int32.toInt64 v), Q)) ∧ ∀ e, call 87 [.ref B, .int x] w I L P = some (.inr e, w1, J, K, Q) → 0 < (fun e => if e = 1 then 2 else if e = 2 then 1 else 0) e → call 213 [.ref B, .int x, .ref O] w I L P = some (.inl (some (.int (nI ((fun e => if e = 1 then 2 else if e = 2 then 1 else 0) e)))), w1, J, K, Q) := by
  constructor
  · intro v h9 hc
    rw [Law_cancel_E, Law_cancel_0_ret _ _ _ _ _ _ _ _ _ _ _ _ _ t0 hc]
    simp only [kC_ret, Option.toList, List.cons_append, List.nil_append, fix1_int, fix1_ref, fix1_unk, fix1_null, fix1_long]
    rw [Law_cancel_7 _ _ _ _ _ _ _ _ _ _ _ (inA_nI h9 (by omega) (by omega)), cl_nI (by omega), Law_cancel_18]
  · intro e hc hp
    by_cases h1 : e = 1
    · subst h1
      rw [Law_cancel_E, Law_cancel_0_thr1 _ _ _ _ _ _ _ _ _ _ _ _ t0 hc, Law_cancel_16]
      all_goals rfl
    · skip
      by_cases h2 : e = 2
      · subst h2
        rw [Law_cancel_E, Law_cancel_0_thr2 _ _ _ _ _ _ _ _ _ _ _ _ t0 hc, Law_cancel_13]
        all_goals rfl
      · skip
        exfalso
        revert hp
        dsimp only
        split <;> (try split) <;> omega
theorem lh_pass {w w1 : Wd} {I J : MI} {L K : ML} {P Q : MP} {B O : Nat} (t0 : w.1 B = some (6, 0)) (x : Int32) : (∀ v, w1.1 O = some (9, 1) → call 88 [.ref B, .int x] w I L P = some (.inl (some (.int v)), w1, J, K, Q) → call 214 [.ref B, .int x, .ref O] w I L P = some (.inl (some (.int (nI 0))), w1, J, updL K O 0 (Int32.toInt64 v), Q)) ∧ ∀ e, call 88 [.ref B, .int x] w I L P = some (.inr e, w1, J, K, Q) → 0 < (fun e => if e = 0 then 1 else 0) e → call 214 [.ref B, .int x, .ref O] w I L P = some (.inl (some (.int (nI ((fun e => if e = 0 then 1 else 0) e)))), w1, J, K, Q) := by
  constructor
  · intro v h9 hc
    rw [Law_pass_E, Law_pass_0_ret _ _ _ _ _ _ _ _ _ _ _ _ _ t0 hc]
    simp only [kC_ret, Option.toList, List.cons_append, List.nil_append, fix1_int, fix1_ref, fix1_unk, fix1_null, fix1_long]
    rw [Law_pass_7 _ _ _ _ _ _ _ _ _ _ _ (inA_nI h9 (by omega) (by omega)), cl_nI (by omega), Law_pass_15]
  · intro e hc hp
    by_cases h0 : e = 0
    · subst h0
      rw [Law_pass_E, Law_pass_0_thr0 _ _ _ _ _ _ _ _ _ _ _ _ t0 hc, Law_pass_13]
      all_goals rfl
    · skip
      exfalso
      revert hp
      dsimp only
      split <;> (try split) <;> omega
theorem lh_caller {w w1 : Wd} {I J : MI} {L K : ML} {P Q : MP} {B O : Nat} (t0 : w.1 B = some (6, 0)) (x y : Int32) : (∀ v, w1.1 O = some (9, 1) → call 90 [.ref B, .int x, .int y] w I L P = some (.inl (some (.int v)), w1, J, K, Q) → call 215 [.ref B, .int x, .int y, .ref O] w I L P = some (.inl (some (.int (nI 0))), w1, J, updL K O 0 (Int32.toInt64 v), Q)) ∧ ∀ e, call 90 [.ref B, .int x, .int y] w I L P = some (.inr e, w1, J, K, Q) → 0 < (fun e => if e = 2 then 1 else if e = 0 then 2 else 0) e → call 215 [.ref B, .int x, .int y, .ref O] w I L P = some (.inl (some (.int (nI ((fun e => if e = 2 then 1 else if e = 0 then 2 else 0) e)))), w1, J, K, Q) := by
  constructor
  · intro v h9 hc
    rw [Law_caller_E, Law_caller_0_ret _ _ _ _ _ _ _ _ _ _ _ _ _ _ t0 hc]
    simp only [kC_ret, Option.toList, List.cons_append, List.nil_append, fix1_int, fix1_ref, fix1_unk, fix1_null, fix1_long]
    rw [Law_caller_8 _ _ _ _ _ _ _ _ _ _ _ _ (inA_nI h9 (by omega) (by omega)), cl_nI (by omega), Law_caller_21]
  · intro e hc hp
    by_cases h2 : e = 2
    · subst h2
      rw [Law_caller_E, Law_caller_0_thr2 _ _ _ _ _ _ _ _ _ _ _ _ _ t0 hc, Law_caller_15]
      all_goals rfl
    · skip
      by_cases h0 : e = 0
      · subst h0
        rw [Law_caller_E, Law_caller_0_thr0 _ _ _ _ _ _ _ _ _ _ _ _ _ t0 hc, Law_caller_19]
        all_goals rfl
      · skip
        exfalso
        revert hp
        dsimp only
        split <;> (try split) <;> omega
theorem lh_message {w w1 : Wd} {I J : MI} {L K : ML} {P Q : MP} {B O : Nat} (t0 : w.1 B = some (6, 0)) (x y z : Int32) : (∀ v, w1.1 O = some (9, 1) → call 91 [.ref B, .int x, .int y, .int z] w I L P = some (.inl (some (.int v)), w1, J, K, Q) → call 216 [.ref B, .int x, .int y, .int z, .ref O] w I L P = some (.inl (some (.int (nI 0))), w1, J, updL K O 0 (Int32.toInt64 v), Q)) ∧ ∀ e, call 91 [.ref B, .int x, .int y, .int z] w I L P = some (.inr e, w1, J, K, Q) → 0 < (fun e => if e = 2 then 1 else if e = 0 then 2 else 0) e → call 216 [.ref B, .int x, .int y, .int z, .ref O] w I L P = some (.inl (some (.int (nI ((fun e => if e = 2 then 1 else if e = 0 then 2 else 0) e)))), w1, J, K, Q) := by
  constructor
  · intro v h9 hc
    rw [Law_message_E, Law_message_0_ret _ _ _ _ _ _ _ _ _ _ _ _ _ _ _ t0 hc]
    simp only [kC_ret, Option.toList, List.cons_append, List.nil_append, fix1_int, fix1_ref, fix1_unk, fix1_null, fix1_long]
    rw [Law_message_10 _ _ _ _ _ _ _ _ _ _ _ _ _ (inA_nI h9 (by omega) (by omega)), cl_nI (by omega), Law_message_23]
  · intro e hc hp
    by_cases h2 : e = 2
    · subst h2
      rw [Law_message_E, Law_message_0_thr2 _ _ _ _ _ _ _ _ _ _ _ _ _ _ t0 hc, Law_message_17]
      all_goals rfl
    · skip
      by_cases h0 : e = 0
      · subst h0
        rw [Law_message_E, Law_message_0_thr0 _ _ _ _ _ _ _ _ _ _ _ _ _ _ t0 hc, Law_message_21]
        all_goals rfl
      · skip
        exfalso
        revert hp
        dsimp only
        split <;> (try split) <;> omega
theorem lh_listener {w w1 : Wd} {I J : MI} {L K : ML} {P Q : MP} {B O : Nat} (t0 : w.1 B = some (6, 0)) (x y : Int32) : (∀ v, w1.1 O = some (9, 1) → call 92 [.ref B, .int x, .int y] w I L P = some (.inl (some (.int v)), w1, J, K, Q) → call 217 [.ref B, .int x, .int y, .ref O] w I L P = some (.inl (some (.int (nI 0))), w1, J, updL K O 0 (Int32.toInt64 v), Q)) ∧ ∀ e, call 92 [.ref B, .int x, .int y] w I L P = some (.inr e, w1, J, K, Q) → 0 < (fun e => if e = 2 then 1 else if e = 0 then 2 else 0) e → call 217 [.ref B, .int x, .int y, .ref O] w I L P = some (.inl (some (.int (nI ((fun e => if e = 2 then 1 else if e = 0 then 2 else 0) e)))), w1, J, K, Q) := by
  constructor
  · intro v h9 hc
    rw [Law_listener_E, Law_listener_0_ret _ _ _ _ _ _ _ _ _ _ _ _ _ _ t0 hc]
    simp only [kC_ret, Option.toList, List.cons_append, List.nil_append, fix1_int, fix1_ref, fix1_unk, fix1_null, fix1_long]
    rw [Law_listener_8 _ _ _ _ _ _ _ _ _ _ _ _ (inA_nI h9 (by omega) (by omega)), cl_nI (by omega), Law_listener_21]
  · intro e hc hp
    by_cases h2 : e = 2
    · subst h2
      rw [Law_listener_E, Law_listener_0_thr2 _ _ _ _ _ _ _ _ _ _ _ _ _ t0 hc, Law_listener_15]
      all_goals rfl
    · skip
      by_cases h0 : e = 0
      · subst h0
        rw [Law_listener_E, Law_listener_0_thr0 _ _ _ _ _ _ _ _ _ _ _ _ _ t0 hc, Law_listener_19]
        all_goals rfl
      · skip
        exfalso
        revert hp
        dsimp only
        split <;> (try split) <;> omega
theorem lh_memory {w w1 : Wd} {I J : MI} {L K : ML} {P Q : MP} {B O : Nat} (t0 : w.1 B = some (6, 0)) (x y : Int32) : (∀ v, w1.1 O = some (9, 1) → call 93 [.ref B, .int x, .int y] w I L P = some (.inl (some (.int v)), w1, J, K, Q) → call 218 [.ref B, .int x, .int y, .ref O] w I L P = some (.inl (some (.int (nI 0))), w1, J, updL K O 0 (Int32.toInt64 v), Q)) ∧ ∀ e, call 93 [.ref B, .int x, .int y] w I L P = some (.inr e, w1, J, K, Q) → 0 < (fun e => if e = 2 then 1 else 0) e → call 218 [.ref B, .int x, .int y, .ref O] w I L P = some (.inl (some (.int (nI ((fun e => if e = 2 then 1 else 0) e)))), w1, J, K, Q) := by
  constructor
  · intro v h9 hc
    rw [Law_memory_E, Law_memory_0_ret _ _ _ _ _ _ _ _ _ _ _ _ _ _ t0 hc]
    simp only [kC_ret, Option.toList, List.cons_append, List.nil_append, fix1_int, fix1_ref, fix1_unk, fix1_null, fix1_long]
    rw [Law_memory_8 _ _ _ _ _ _ _ _ _ _ _ _ (inA_nI h9 (by omega) (by omega)), cl_nI (by omega), Law_memory_17]
  · intro e hc hp
    by_cases h2 : e = 2
    · subst h2
      rw [Law_memory_E, Law_memory_0_thr2 _ _ _ _ _ _ _ _ _ _ _ _ _ t0 hc, Law_memory_15]
      all_goals rfl
    · skip
      exfalso
      revert hp
      dsimp only
      split <;> (try split) <;> omega
theorem lh_value {w w1 : Wd} {I J : MI} {L K : ML} {P Q : MP} {B O : Nat} (t0 : w.1 B = some (6, 0)) (x : Int32) : (∀ v, w1.1 O = some (9, 1) → call 94 [.ref B, .int x] w I L P = some (.inl (some (.int v)), w1, J, K, Q) → call 219 [.ref B, .int x, .ref O] w I L P = some (.inl (some (.int (nI 0))), w1, J, updL K O 0 (Int32.toInt64 v), Q)) ∧ ∀ e, call 94 [.ref B, .int x] w I L P = some (.inr e, w1, J, K, Q) → 0 < (fun e => if e = 0 then 1 else 0) e → call 219 [.ref B, .int x, .ref O] w I L P = some (.inl (some (.int (nI ((fun e => if e = 0 then 1 else 0) e)))), w1, J, K, Q) := by
  constructor
  · intro v h9 hc
    rw [Law_value_E, Law_value_0_ret _ _ _ _ _ _ _ _ _ _ _ _ _ t0 hc]
    simp only [kC_ret, Option.toList, List.cons_append, List.nil_append, fix1_int, fix1_ref, fix1_unk, fix1_null, fix1_long]
    rw [Law_value_7 _ _ _ _ _ _ _ _ _ _ _ (inA_nI h9 (by omega) (by omega)), cl_nI (by omega), Law_value_15]
  · intro e hc hp
    by_cases h0 : e = 0
    · subst h0
      rw [Law_value_E, Law_value_0_thr0 _ _ _ _ _ _ _ _ _ _ _ _ t0 hc, Law_value_13]
      all_goals rfl
    · skip
      exfalso
      revert hp
      dsimp only
      split <;> (try split) <;> omega
theorem lh_log {w w1 : Wd} {I J : MI} {L K : ML} {P Q : MP} {B O : Nat} (t0 : w.1 B = some (6, 0)) (x y : Int32) : (∀ v, w1.1 O = some (9, 1) → call 95 [.ref B, .int x, .int y] w I L P = some (.inl (some (.int v)), w1, J, K, Q) → call 220 [.ref B, .int x, .int y, .ref O] w I L P = some (.inl (some (.int (nI 0))), w1, J, updL K O 0 (Int32.toInt64 v), Q)) ∧ ∀ e, call 95 [.ref B, .int x, .int y] w I L P = some (.inr e, w1, J, K, Q) → 0 < (fun e => if e = 2 then 1 else if e = 0 then 2 else 0) e → call 220 [.ref B, .int x, .int y, .ref O] w I L P = some (.inl (some (.int (nI ((fun e => if e = 2 then 1 else if e = 0 then 2 else 0) e)))), w1, J, K, Q) := by
  constructor
  · intro v h9 hc
    rw [Law_log_E, Law_log_0_ret _ _ _ _ _ _ _ _ _ _ _ _ _ _ t0 hc]
    simp only [kC_ret, Option.toList, List.cons_append, List.nil_append, fix1_int, fix1_ref, fix1_unk, fix1_null, fix1_long]
    rw [Law_log_8 _ _ _ _ _ _ _ _ _ _ _ _ (inA_nI h9 (by omega) (by omega)), cl_nI (by omega), Law_log_21]
  · intro e hc hp
    by_cases h2 : e = 2
    · subst h2
      rw [Law_log_E, Law_log_0_thr2 _ _ _ _ _ _ _ _ _ _ _ _ _ t0 hc, Law_log_15]
      all_goals rfl
    · skip
      by_cases h0 : e = 0
      · subst h0
        rw [Law_log_E, Law_log_0_thr0 _ _ _ _ _ _ _ _ _ _ _ _ _ t0 hc, Law_log_19]
        all_goals rfl
      · skip
        exfalso
        revert hp
        dsimp only
        split <;> (try split) <;> omega
theorem lh_alone {w w1 : Wd} {I J : MI} {L K : ML} {P Q : MP} {B O : Nat} (t0 : w.1 B = some (6, 0)) (x : Int32) : (∀ v, w1.1 O = some (9, 1) → call 97 [.ref B, .int x] w I L P = some (.inl (some (.int v)), w1, J, K, Q) → call 221 [.ref B, .int x, .ref O] w I L P = some (.inl (some (.int (nI 0))), w1, J, updL K O 0 (Int32.toInt64 v), Q)) ∧ ∀ e, call 97 [.ref B, .int x] w I L P = some (.inr e, w1, J, K, Q) → 0 < (fun e => if e = 2 then 1 else 0) e → call 221 [.ref B, .int x, .ref O] w I L P = some (.inl (some (.int (nI ((fun e => if e = 2 then 1 else 0) e)))), w1, J, K, Q) := by
  constructor
  · intro v h9 hc
    rw [Law_alone_E, Law_alone_0_ret _ _ _ _ _ _ _ _ _ _ _ _ _ t0 hc]
    simp only [kC_ret, Option.toList, List.cons_append, List.nil_append, fix1_int, fix1_ref, fix1_unk, fix1_null, fix1_long]
    rw [Law_alone_7 _ _ _ _ _ _ _ _ _ _ _ (inA_nI h9 (by omega) (by omega)), cl_nI (by omega), Law_alone_15]
  · intro e hc hp
    by_cases h2 : e = 2
    · subst h2
      rw [Law_alone_E, Law_alone_0_thr2 _ _ _ _ _ _ _ _ _ _ _ _ t0 hc, Law_alone_13]
      all_goals rfl
    · skip
      exfalso
      revert hp
      dsimp only
      split <;> (try split) <;> omega
theorem lh_delivers {w w1 : Wd} {I J : MI} {L K : ML} {P Q : MP} {B O : Nat} (t0 : w.1 B = some (6, 0)) (x : Int32) : (∀ v, w1.1 O = some (9, 1) → call 99 [.ref B, .int x] w I L P = some (.inl (some (.int v)), w1, J, K, Q) → call 222 [.ref B, .int x, .ref O] w I L P = some (.inl (some (.int (nI 0))), w1, J, updL K O 0 (Int32.toInt64 v), Q)) ∧ ∀ e, call 99 [.ref B, .int x] w I L P = some (.inr e, w1, J, K, Q) → 0 < (fun e => if e = 2 then 1 else 0) e → call 222 [.ref B, .int x, .ref O] w I L P = some (.inl (some (.int (nI ((fun e => if e = 2 then 1 else 0) e)))), w1, J, K, Q) := by
  constructor
  · intro v h9 hc
    rw [Law_delivers_E, Law_delivers_0_ret _ _ _ _ _ _ _ _ _ _ _ _ _ t0 hc]
    simp only [kC_ret, Option.toList, List.cons_append, List.nil_append, fix1_int, fix1_ref, fix1_unk, fix1_null, fix1_long]
    rw [Law_delivers_7 _ _ _ _ _ _ _ _ _ _ _ (inA_nI h9 (by omega) (by omega)), cl_nI (by omega), Law_delivers_15]
  · intro e hc hp
    by_cases h2 : e = 2
    · subst h2
      rw [Law_delivers_E, Law_delivers_0_thr2 _ _ _ _ _ _ _ _ _ _ _ _ t0 hc, Law_delivers_13]
      all_goals rfl
    · skip
      exfalso
      revert hp
      dsimp only
      split <;> (try split) <;> omega
theorem lh_append {w w1 : Wd} {I J : MI} {L K : ML} {P Q : MP} {B O : Nat} (t0 : w.1 B = some (6, 0)) (x : Int32) : (∀ v, w1.1 O = some (9, 1) → call 101 [.ref B, .int x] w I L P = some (.inl (some (.int v)), w1, J, K, Q) → call 223 [.ref B, .int x, .ref O] w I L P = some (.inl (some (.int (nI 0))), w1, J, updL K O 0 (Int32.toInt64 v), Q)) ∧ ∀ e, call 101 [.ref B, .int x] w I L P = some (.inr e, w1, J, K, Q) → 0 < (fun e => if e < 2 then e + 1 else 0) e → call 223 [.ref B, .int x, .ref O] w I L P = some (.inl (some (.int (nI ((fun e => if e < 2 then e + 1 else 0) e)))), w1, J, K, Q) := by
  constructor
  · intro v h9 hc
    rw [Law_append_E, Law_append_0_ret _ _ _ _ _ _ _ _ _ _ _ _ _ t0 hc]
    simp only [kC_ret, Option.toList, List.cons_append, List.nil_append, fix1_int, fix1_ref, fix1_unk, fix1_null, fix1_long]
    rw [Law_append_7 _ _ _ _ _ _ _ _ _ _ _ (inA_nI h9 (by omega) (by omega)), cl_nI (by omega), Law_append_18]
  · intro e hc hp
    by_cases h0 : e = 0
    · subst h0
      rw [Law_append_E, Law_append_0_thr0 _ _ _ _ _ _ _ _ _ _ _ _ t0 hc, Law_append_13]
      all_goals rfl
    · skip
      by_cases h1 : e = 1
      · subst h1
        rw [Law_append_E, Law_append_0_thr1 _ _ _ _ _ _ _ _ _ _ _ _ t0 hc, Law_append_16]
        all_goals rfl
      · skip
        exfalso
        revert hp
        dsimp only
        split <;> (try split) <;> omega
theorem lh_undo {w w1 : Wd} {I J : MI} {L K : ML} {P Q : MP} {B O : Nat} (t0 : w.1 B = some (6, 0)) : (∀ v, w1.1 O = some (9, 1) → call 104 [.ref B] w I L P = some (.inl (some (.int v)), w1, J, K, Q) → call 224 [.ref B, .ref O] w I L P = some (.inl (some (.int (nI 0))), w1, J, updL K O 0 (Int32.toInt64 v), Q)) ∧ ∀ e, call 104 [.ref B] w I L P = some (.inr e, w1, J, K, Q) → 0 < (fun e => if e = 1 then 1 else 0) e → call 224 [.ref B, .ref O] w I L P = some (.inl (some (.int (nI ((fun e => if e = 1 then 1 else 0) e)))), w1, J, K, Q) := by
  constructor
  · intro v h9 hc
    rw [Law_undo_E, Law_undo_0_ret _ _ _ _ _ _ _ _ _ _ _ _ t0 hc]
    simp only [kC_ret, Option.toList, List.cons_append, List.nil_append, fix1_int, fix1_ref, fix1_unk, fix1_null, fix1_long]
    rw [Law_undo_6 _ _ _ _ _ _ _ _ _ _ (inA_nI h9 (by omega) (by omega)), cl_nI (by omega), Law_undo_14]
  · intro e hc hp
    by_cases h1 : e = 1
    · subst h1
      rw [Law_undo_E, Law_undo_0_thr1 _ _ _ _ _ _ _ _ _ _ _ t0 hc, Law_undo_12]
      all_goals rfl
    · skip
      exfalso
      revert hp
      dsimp only
      split <;> (try split) <;> omega
