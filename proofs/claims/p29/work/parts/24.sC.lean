/-! the class: messages and callers -/
def wrP (P : MP) (a : Nat) (R : Nat → Option Nat) : MP := fun b j => if b = a then R j else P b j
def sP (R : Nat → Option Nat) (k : Nat) (v : Option Nat) : Nat → Option Nat := fun j => if j = k then v else R j
theorem updP_wr (P : MP) (a k : Nat) (v : Option Nat) : updP P a k v = wrP P a (sP (P a) k v) := by
  funext b j; unfold updP wrP sP
  by_cases h : b = a
  · subst h; simp
  · simp [h]
theorem wrP_same (P : MP) (a : Nat) (R : Nat → Option Nat) : (wrP P a R) a = R := by funext j; simp [wrP]
theorem wrP_ne (P : MP) {a b : Nat} (R : Nat → Option Nat) (h : b ≠ a) : (wrP P a R) b = P b := by funext j; simp [wrP, h]
theorem wrP_wrP (P : MP) (a : Nat) (R S : Nat → Option Nat) : wrP (wrP P a R) a S = wrP P a S := by
  funext b j; unfold wrP; by_cases h : b = a <;> simp [h]
theorem sP_ne {R : Nat → Option Nat} {a k : Nat} {v : Option Nat} (h : k ≠ a) : sP R a v k = R k := by unfold sP; rw [if_neg h]
theorem sP_eq {R : Nat → Option Nat} {a : Nat} {v : Option Nat} : sP R a v a = v := by unfold sP; rw [if_pos rfl]
def mbyte (r c : Int32) (b : Int64) (x : Int32) : Int32 := if r &&& 1 ≠ 0 then -1 else if x < 0 then -1 else if x < c then (Int64.toInt32 (b >>> (Int32.toInt64 ((nI 8) * ((c - (nI 1)) - x)) &&& 63))) &&& (nI 255) else -1
theorem cl_byteAt {w : Wd} {m : Nat} (hm : w.1 m = some (3, 0)) (x : Int32) (I : MI) (L : ML) (P : MP) : call 3 [.ref m, .int x] w I L P = some (.inl (some (.int (mbyte (I m 0) (I m 2) (L m 4) x))), w, I, L, P) := by
  rw [Message_byteAt_E, Message_byteAt_0 _ _ _ _ _ _ hm]
  unfold mbyte
  by_cases h1 : I m 0 &&& 1 ≠ 0
  · rw [if_pos h1, if_pos h1, Message_byteAt_19]
  · rw [if_neg h1, if_neg h1, Message_byteAt_7]
    by_cases h2 : x < 0
    · rw [if_pos h2, if_pos h2, Message_byteAt_19]
    · rw [if_neg h2, if_neg h2, Message_byteAt_11 _ _ _ _ _ _ hm]
      by_cases h3 : x < I m 2
      · rw [if_pos h3, if_pos h3, Message_byteAt_21 _ _ _ _ _ _ hm]
      · rw [if_neg h3, if_neg h3, Message_byteAt_19]
def hm2 (r a : Int32) : Int32 := nI 2 * a + (if r &&& 1 = 0 then nI 0 else nI 1)
theorem cl_header {w : Wd} {m : Nat} (hm : w.1 m = some (3, 0)) (I : MI) (L : ML) (P : MP) : call 2 [.ref m] w I L P = some (.inl (some (.int (hm2 (I m 0) (I m 1)))), w, I, L, P) := by
  rw [Message_header_E, Message_header_0 _ _ _ _ _ hm]
  unfold hm2
  split
  · rw [Message_header_17, Message_header_18]
  · rw [Message_header_13, Message_header_18]
/-- a caller with its queue: what its addresses hold -/
def CT (w : Wd) (a : Nat) : Prop := w.1 a = some (1, 0) ∧ w.1 (a + 1) = some (13, 4) ∧ w.1 (a + 2) = some (8, 5) ∧ ∀ i, i < 4 → w.1 (a + 3 + i) = some (3, 0)
def CP (P : MP) (a : Nat) (q : Nat → Nat) : Prop := P a 0 = some (a + 1) ∧ P a 2 = some (a + 2) ∧ (∀ i, i < 4 → P (a + 1) i = some (a + 3 + q i)) ∧ (∀ i, i < 4 → q i < 4) ∧ ∀ i j, i < 4 → j < 4 → q i = q j → i = j
theorem cl_messageAt {w : Wd} {P : MP} {a : Nat} {q : Nat → Nat} (ht : CT w a) (hp : CP P a q) {s p : Nat} (hs : s ≤ 4) (hps : p < s) (I : MI) (L : ML) (h1 : I a 1 = nI s) : call 7 [.ref a, .int (nI p)] w I L P = some (.inl (some (.ref (a + 3 + q p))), w, I, L, P) := by
  obtain ⟨ha, ha1, ha2, hms⟩ := ht
  obtain ⟨hp0, hp2, hq, _, _⟩ := hp
  rw [Caller_messageAt_E, Caller_messageAt_0, if_neg (nI_pos (by omega)), Caller_messageAt_4 _ _ _ _ _ _ ha, h1, if_neg (nI_ge hps (by omega)), Caller_messageAt_12 _ _ _ _ _ _ ha, hp0, rf_some, Caller_messageAt_17 _ _ _ _ _ _ _ _ (isAr_of ha1), alen_of ha1, if_neg (nI_ge (by omega) (by omega)), Caller_messageAt_21 _ _ _ _ _ _ ha, hp0, rf_some, Caller_messageAt_25 _ _ _ _ _ _ _ (inA_nI ha1 (by omega) (by omega)), cl_nI (by omega), hq p (by omega), rf_some, Caller_messageAt_27, Caller_messageAt_31_1]
theorem cl_messageAtN {w : Wd} {P : MP} {a : Nat} (ht : CT w a) {s p : Nat} (hs : s ≤ 4) (hps : s ≤ p) (hp : p < 2147483648) (I : MI) (L : ML) (h1 : I a 1 = nI s) : call 7 [.ref a, .int (nI p)] w I L P = some (.inl (some .null), w, I, L, P) := by
  obtain ⟨ha, ha1, ha2, hms⟩ := ht
  rw [Caller_messageAt_E, Caller_messageAt_0, if_neg (nI_pos (by omega)), Caller_messageAt_4 _ _ _ _ _ _ ha, h1, if_pos (nI_le hps (by omega)), Caller_messageAt_30, Caller_messageAt_31_0]
theorem cl_endFirst_1 {w : Wd} {a : Nat} (ht : CT w a) (I : MI) (L : ML) (x : Value) (y : Nat) {P : MP} {m : Nat} (hp0 : P a 0 = some (a + 1)) (j : Nat) (hj0 : 0 < j) (hj : j < 4) (hq : P (a + 1) j = some m) (hm : w.1 m = some (3, 0)) : go 10 30 [.ref a, x, .ref y, .int (nI j)] [] w I L P = go 10 30 [.ref a, x, .ref y, .int (nI (j + 1))] [] w I L (wrP P (a + 1) (sP (P (a + 1)) (j - 1) (some m))) := by
  obtain ⟨ha, ha1, ha2, hms⟩ := ht
  rw [Caller_endFirst_30 _ _ _ _ _ _ _ _ ha, hp0, rf_some, Caller_endFirst_35 _ _ _ _ _ _ _ _ _ _ (isAr_of ha1), alen_of ha1, if_neg (nI_ge hj (by omega)), Caller_endFirst_39 _ _ _ _ _ _ _ _ ha, hp0, rf_some, Caller_endFirst_43 _ _ _ _ _ _ _ _ _ ha, hp0, rf_some, pk_sub hj0, Caller_endFirst_50 _ _ _ _ _ _ _ _ _ _ _ (inA_nI ha1 hj (by omega)), cl_nI (by omega), hq, rf_some, Caller_endFirst_52 _ _ _ _ _ _ _ _ _ _ _ (inA_nI ha1 (by omega) (by omega)) hm, cl_nI (by omega), nI_add, fix1_ref, updP_wr]
def rotP (R : Nat → Option Nat) : Nat → Option Nat := sP (sP (sP (sP R 0 (R 1)) 1 (R 2)) 2 (R 3)) 3 (R 0)
theorem cl_endFirst {w : Wd} {P : MP} {a : Nat} {q : Nat → Nat} (ht : CT w a) (hp : CP P a q) {s o : Nat} (hs : s < 4) (ho : o < 5) (I : MI) (L : ML) (h1 : I a 1 = nI (s + 1)) : call 10 [.ref a, .int (nI o)] w I L P = some (.inl none, w, wr (wr I a (sN (I a) 1 (nI s))) (a + 2) (sN (I (a + 2)) o (I (a + 2) o + nI 1)), L, wrP P (a + 1) (rotP (P (a + 1)))) := by
  have ht' := ht
  obtain ⟨ha, ha1, ha2, hms⟩ := ht'
  obtain ⟨hp0, hp2, hq, hq4, _⟩ := hp
  have hm : ∀ i, i < 4 → w.1 (a + 3 + q i) = some (3, 0) := fun i hi => hms _ (hq4 i hi)
  rw [Caller_endFirst_E, Caller_endFirst_0 _ _ _ _ _ _ _ _ ha, h1, if_neg (nI_nle (by omega) (by omega)), Caller_endFirst_7, if_neg (nI_pos (by omega)), Caller_endFirst_11 _ _ _ _ _ _ _ _ ha, hp2, rf_some, Caller_endFirst_16 _ _ _ _ _ _ _ _ _ _ (isAr_of ha2), alen_of ha2, if_pos (nI_lt ho (by omega)), Caller_endFirst_21 _ _ _ _ _ _ _ _ ha, hp0, rf_some, Caller_endFirst_25 _ _ _ _ _ _ _ _ _ (inA_nI ha1 (by omega) (by omega)), cl_nI (by omega), hq 0 (by omega), rf_some, Caller_endFirst_27_1, fix1_int]
  rw [cl_endFirst_1 ht _ _ _ _ hp0 1 (by omega) (by omega) (hq 1 (by omega)) (hm 1 (by omega))]
  rw [cl_endFirst_1 ht _ _ _ _ (by rw [wrP_ne _ _ (by omega)]; exact hp0) 2 (by omega) (by omega) (m := a + 3 + q 2) (by rw [wrP_same, sP_ne (by omega)]; exact hq 2 (by omega)) (hm 2 (by omega)), wrP_wrP, wrP_same]
  rw [cl_endFirst_1 ht _ _ _ _ (by rw [wrP_ne _ _ (by omega)]; exact hp0) 3 (by omega) (by omega) (m := a + 3 + q 3) (by rw [wrP_same, sP_ne (by omega), sP_ne (by omega)]; exact hq 3 (by omega)) (hm 3 (by omega)), wrP_wrP, wrP_same]
  have hpx : ∀ R, (wrP P (a + 1) R) a 0 = some (a + 1) := fun R => by rw [wrP_ne _ _ (by omega)]; exact hp0
  have hpy : ∀ R, (wrP P (a + 1) R) a 2 = some (a + 2) := fun R => by rw [wrP_ne _ _ (by omega)]; exact hp2
  rw [Caller_endFirst_30 _ _ _ _ _ _ _ _ ha, hpx, rf_some, Caller_endFirst_35 _ _ _ _ _ _ _ _ _ _ (isAr_of ha1), alen_of ha1, if_pos (nI_le (by omega) (by omega)), Caller_endFirst_59 _ _ _ _ _ _ _ _ ha, hpx, rf_some, Caller_endFirst_63 _ _ _ _ _ _ _ _ _ ha, hpx, rf_some, Caller_endFirst_67 _ _ _ _ _ _ _ _ _ _ (isAr_of ha1) (by rw [alen_of ha1, pk_sub (show 1 ≤ 4 by omega)]; exact inA_nI ha1 (by omega) (by omega)) (hm 0 (by omega)) ha, alen_of ha1, pk_sub (by omega), cl_nI (by omega), updP_wr, wrP_wrP, wrP_same, hpy, rf_some, Caller_endFirst_86 _ _ _ _ _ _ _ _ _ (inA_nI ha2 ho (by omega)), cl_nI (by omega)]
  simp only [updI_wr, wr_ne _ _ (show a + 2 ≠ a by omega), h1, pk_sub (show 1 ≤ s + 1 by omega), Nat.add_sub_cancel, rotP, hq 0 (by omega), hq 1 (by omega), hq 2 (by omega), hq 3 (by omega)]
def MR (N : Nat → Int32) (o : Nat) (I : MI) (L : ML) (m : Nat) : Prop := I m 0 = N (o + 1) ∧ I m 1 = N o ∧ I m 2 = N (o + 2) ∧ I m 3 = N (o + 3) ∧ ∀ k, k < 4 → mbyte (I m 0) (I m 2) (L m 4) (nI k) = N (o + 4 + k)
def CR (N : Nat → Int32) (o : Nat) (I : MI) (L : ML) (P : MP) (a : Nat) (q : Nat → Nat) (s : Nat) : Prop := CP P a q ∧ s ≤ 4 ∧ N o = nI s ∧ I a 1 = nI s ∧ (∀ k, 0 < k → k < 5 → I (a + 2) k = N (o + k)) ∧ I a 3 = N (o + 5) ∧ I a 4 = N (o + 6) ∧ I a 5 = N (o + 7) ∧ ∀ i, i < s → MR N (o + 8 + 8 * i) I L (a + 3 + q i)
theorem MR_N {N M : Nat → Int32} {o : Nat} {I : MI} {L : ML} {m : Nat} (h : MR N o I L m) (e : ∀ k, o ≤ k → k < o + 8 → M k = N k) : MR M o I L m := by
  obtain ⟨h0, h1, h2, h3, h4⟩ := h
  refine ⟨?_, ?_, ?_, ?_, ?_⟩
  · rw [e _ (by omega) (by omega)]; exact h0
  · rw [e _ (by omega) (by omega)]; exact h1
  · rw [e _ (by omega) (by omega)]; exact h2
  · rw [e _ (by omega) (by omega)]; exact h3
  · intro k hk; rw [e _ (by omega) (by omega)]; exact h4 k hk
theorem MR_I {N : Nat → Int32} {o : Nat} {I J : MI} {L K : ML} {m : Nat} (h : MR N o I L m) (e : J m = I m) (e2 : K m = L m) : MR N o J K m := by
  unfold MR at *; rw [e, e2]; exact h
theorem CR_N {N M : Nat → Int32} {o : Nat} {I : MI} {L : ML} {P : MP} {a : Nat} {q : Nat → Nat} {s : Nat} (h : CR N o I L P a q s) (e : ∀ k, o ≤ k → k < o + 40 → M k = N k) : CR M o I L P a q s := by
  obtain ⟨h0, h1, h2, h3, h4, h5, h6, h7, h8⟩ := h
  refine ⟨h0, h1, ?_, h3, ?_, ?_, ?_, ?_, ?_⟩
  · rw [e _ (by omega) (by omega)]; exact h2
  · intro k hk hk5; rw [e _ (by omega) (by omega)]; exact h4 k hk hk5
  · rw [e _ (by omega) (by omega)]; exact h5
  · rw [e _ (by omega) (by omega)]; exact h6
  · rw [e _ (by omega) (by omega)]; exact h7
  · intro i hi; exact MR_N (h8 i hi) (fun k hk hk2 => e k (by omega) (by omega))
theorem CR_I {N : Nat → Int32} {o : Nat} {I J : MI} {L K : ML} {P Q : MP} {a : Nat} {q : Nat → Nat} {s : Nat} (h : CR N o I L P a q s) (e : ∀ x, a ≤ x → x < a + 7 → J x = I x ∧ K x = L x ∧ Q x = P x) : CR N o J K Q a q s := by
  obtain ⟨⟨g1, g2, g3, g4, g5⟩, h1, h2, h3, h4, h5, h6, h7, h8⟩ := h
  have e0 := e a (by omega) (by omega)
  have e1 := e (a + 1) (by omega) (by omega)
  have e2 := e (a + 2) (by omega) (by omega)
  refine ⟨⟨?_, ?_, ?_, g4, g5⟩, h1, h2, ?_, ?_, ?_, ?_, ?_, ?_⟩
  · rw [e0.2.2]; exact g1
  · rw [e0.2.2]; exact g2
  · rw [e1.2.2]; exact g3
  · rw [e0.1]; exact h3
  · rw [e2.1]; exact h4
  · rw [e0.1]; exact h5
  · rw [e0.1]; exact h6
  · rw [e0.1]; exact h7
  · intro i hi
    have := e (a + 3 + q i) (by omega) (by have := g4 i (by omega); omega)
    exact MR_I (h8 i hi) this.1 this.2.1
/-- nothing but the addresses of this caller has changed -/
def Fr (a b : Nat) (I J : MI) (L K : ML) (P Q : MP) : Prop := ∀ x, (x < a ∨ b ≤ x) → J x = I x ∧ K x = L x ∧ Q x = P x
theorem Fr_trans {a b : Nat} {I J H : MI} {L K G : ML} {P Q R : MP} (h : Fr a b I J L K P Q) (g : Fr a b J H K G Q R) : Fr a b I H L G P R := fun x hx => ⟨(g x hx).1.trans (h x hx).1, (g x hx).2.1.trans (h x hx).2.1, (g x hx).2.2.trans (h x hx).2.2⟩
theorem Fr_mono {a b c e : Nat} {I J : MI} {L K : ML} {P Q : MP} (h : Fr a b I J L K P Q) (h1 : c ≤ a) (h2 : b ≤ e) : Fr c e I J L K P Q := fun x hx => h x (by omega)
theorem Fr_refl {a b : Nat} {I : MI} {L : ML} {P : MP} : Fr a b I I L L P P := fun x hx => ⟨rfl, rfl, rfl⟩
def rotq (q : Nat → Nat) : Nat → Nat := fun i => if i < 3 then q (i + 1) else q 0
theorem rotq_lt {q : Nat → Nat} (h : ∀ i, i < 4 → q i < 4) : ∀ i, i < 4 → rotq q i < 4 := by
  intro i hi; unfold rotq; split
  · exact h _ (by omega)
  · exact h _ (by omega)
theorem rotq_inj {q : Nat → Nat} (h : ∀ i j, i < 4 → j < 4 → q i = q j → i = j) : ∀ i j, i < 4 → j < 4 → rotq q i = rotq q j → i = j := by
  intro i j hi hj; unfold rotq; split <;> split <;> intro e <;> have := h _ _ (by omega) (by omega) e <;> omega
theorem CP_rot {P : MP} {a : Nat} {q : Nat → Nat} (h : CP P a q) : CP (wrP P (a + 1) (rotP (P (a + 1)))) a (rotq q) := by
  obtain ⟨h0, h2, hq, h4, h5⟩ := h
  refine ⟨?_, ?_, ?_, rotq_lt h4, rotq_inj h5⟩
  · rw [wrP_ne _ _ (by omega)]; exact h0
  · rw [wrP_ne _ _ (by omega)]; exact h2
  · intro i hi
    rw [wrP_same]
    unfold rotP rotq
    rcases (show i = 0 ∨ i = 1 ∨ i = 2 ∨ i = 3 by omega) with rfl | rfl | rfl | rfl
    · rw [sP_ne (by omega), sP_ne (by omega), sP_ne (by omega), sP_eq, if_pos (by omega)]; exact hq 1 (by omega)
    · rw [sP_ne (by omega), sP_ne (by omega), sP_eq, if_pos (by omega)]; exact hq 2 (by omega)
    · rw [sP_ne (by omega), sP_eq, if_pos (by omega)]; exact hq 3 (by omega)
    · rw [sP_eq, if_neg (by omega)]; exact hq 0 (by omega)
theorem leavesN_at {N : Nat → Int32} {c as k : Nat} (hc : as < 5) : leavesN N c as k = (if 215 + 40 * c ≤ k ∧ k < 239 + 40 * c then N (k + 8) else if k = 207 + 40 * c + as then (if as = 0 then N k + (-1) + nI 1 else N k + nI 1) else if k = 207 + 40 * c then N k + (-1) else N k) := by
  unfold leavesN
  by_cases h1 : 215 + 40 * c ≤ k ∧ k < 239 + 40 * c
  · rw [if_pos h1, sN_ne (by omega), sN_ne (by omega)]; unfold shN; rw [if_pos (by omega)]
  · rw [if_neg h1]
    by_cases h2 : k = 207 + 40 * c + as
    · subst h2
      rw [if_pos rfl, sN_eq]
      by_cases h3 : as = 0
      · subst h3; rw [if_pos rfl, Nat.add_zero, sN_eq, shN_lo (by omega)]
      · rw [if_neg h3, sN_ne (by omega), shN_lo (by omega)]
    · rw [if_neg h2, sN_ne h2]
      by_cases h3 : k = 207 + 40 * c
      · subst h3; rw [if_pos rfl, sN_eq, shN_lo (by omega)]
      · rw [if_neg h3, sN_ne h3]; unfold shN; rw [if_neg (by omega)]
theorem CR_leaves {N : Nat → Int32} {c : Nat} {I : MI} {L : ML} {P : MP} {a : Nat} {q : Nat → Nat} {s as : Nat} (h : CR N (207 + 40 * c) I L P a q (s + 1)) (h0 : 0 < as) (has : as < 5) : CR (leavesN N c as) (207 + 40 * c) (wr (wr I a (sN (I a) 1 (nI s))) (a + 2) (sN (I (a + 2)) as (I (a + 2) as + nI 1))) L (wrP P (a + 1) (rotP (P (a + 1)))) a (rotq q) s := by
  obtain ⟨hc, h1, h2, h3, h4, h5, h6, h7, h8⟩ := h
  have hq := hc.2.2.2.1
  refine ⟨CP_rot hc, by omega, ?_, ?_, ?_, ?_, ?_, ?_, ?_⟩
  · rw [leavesN_at has, if_neg (by omega), if_neg (by omega), if_pos rfl, h2, pk_m1]
  · rw [wr_ne _ _ (by omega), wr_same, sN_eq]
  · intro k hk hk5
    rw [wr_same, leavesN_at has, if_neg (by omega)]
    by_cases e : k = as
    · subst e; rw [sN_eq, if_pos rfl, if_neg (by omega), h4 _ hk hk5]
    · rw [sN_ne e, if_neg (by omega), if_neg (by omega), h4 _ hk hk5]
  · rw [wr_ne _ _ (by omega), wr_same, sN_ne (by omega), leavesN_at has, if_neg (by omega), if_neg (by omega), if_neg (by omega)]; exact h5
  · rw [wr_ne _ _ (by omega), wr_same, sN_ne (by omega), leavesN_at has, if_neg (by omega), if_neg (by omega), if_neg (by omega)]; exact h6
  · rw [wr_ne _ _ (by omega), wr_same, sN_ne (by omega), leavesN_at has, if_neg (by omega), if_neg (by omega), if_neg (by omega)]; exact h7
  · intro i hi
    have hm := h8 (i + 1) (by omega)
    have e1 : rotq q i = q (i + 1) := by unfold rotq; rw [if_pos (by omega)]
    rw [e1]
    have hl := hq (i + 1) (by omega)
    have hm2 : MR (leavesN N c as) (207 + 40 * c + 8 + 8 * i) I L (a + 3 + q (i + 1)) := by
      obtain ⟨g0, g1, g2, g3, g4⟩ := hm
      have ee : ∀ k, k < 8 → leavesN N c as (207 + 40 * c + 8 + 8 * i + k) = N (207 + 40 * c + 8 + 8 * (i + 1) + k) := by
        intro k hk
        rw [leavesN_at has, if_pos (by omega)]
        congr 1; omega
      refine ⟨?_, ?_, ?_, ?_, ?_⟩
      · rw [ee 1 (by omega)]; exact g0
      · rw [show 207 + 40 * c + 8 + 8 * i = 207 + 40 * c + 8 + 8 * i + 0 from rfl, ee 0 (by omega)]; exact g1
      · rw [ee 2 (by omega)]; exact g2
      · rw [ee 3 (by omega)]; exact g3
      · intro k hk
        rw [show 207 + 40 * c + 8 + 8 * i + 4 + k = 207 + 40 * c + 8 + 8 * i + (4 + k) from by omega, ee (4 + k) (by omega), g4 k hk]
        congr 1; omega
    exact MR_I hm2 (by rw [wr_ne _ _ (by omega), wr_ne _ _ (by omega)]) rfl
theorem Fr_end {I : MI} {L : ML} {P : MP} {a : Nat} (X Y : Nat → Int32) (R : Nat → Option Nat) : Fr a (a + 7) I (wr (wr I a X) (a + 2) Y) L L P (wrP P (a + 1) R) := by
  intro x hx
  refine ⟨?_, rfl, ?_⟩
  · rw [wr_ne _ _ (by omega), wr_ne _ _ (by omega)]
  · rw [wrP_ne _ _ (by omega)]
theorem rel_endFirst {w : Wd} {N : Nat → Int32} {c : Nat} {I : MI} {L : ML} {P : MP} {a : Nat} {q : Nat → Nat} {s as : Nat} (ht : CT w a) (h : CR N (207 + 40 * c) I L P a q (s + 1)) (h0 : 0 < as) (has : as < 5) : ∃ J Q q', call 10 [.ref a, .int (nI as)] w I L P = some (.inl none, w, J, L, Q) ∧ CR (leavesN N c as) (207 + 40 * c) J L Q a q' s ∧ Fr a (a + 7) I J L L P Q := 
  ⟨_, _, _, cl_endFirst ht h.1 (by have := h.2.1; omega) has I L h.2.2.2.1, CR_leaves h h0 has, Fr_end _ _ _⟩
theorem losesN_c {N : Nat → Int32} {c : Nat} : losesN N c = (let M := sN (sN (sN N 5 (N 5 &&& ((nI 1 <<< (nI c &&& 31)) ^^^ (-1)))) (218 + 40 * c) (N (218 + 40 * c) + nI 1)) (212 + 40 * c) (N (212 + 40 * c) + nI 1); if N (218 + 40 * c) + nI 1 < N 3 then M else leavesN M c 4) := by
  unfold losesN
  dsimp only
  rw [sN_ne (show 218 + 40 * c ≠ 5 by omega), sN_ne (show 212 + 40 * c ≠ 218 + 40 * c by omega), sN_ne (show 212 + 40 * c ≠ 5 by omega), sN_ne (show 218 + 40 * c ≠ 212 + 40 * c by omega), sN_eq, sN_ne (show 3 ≠ 212 + 40 * c by omega), sN_ne (show 3 ≠ 218 + 40 * c by omega), sN_ne (show 3 ≠ 5 by omega)]
theorem rel_loseBit {w : Wd} {N : Nat → Int32} {c : Nat} {I : MI} {L : ML} {P : MP} {a : Nat} {q : Nat → Nat} {s : Nat} (ht : CT w a) (h : CR N (207 + 40 * c) I L P a q (s + 1)) : ∃ J Q q' s', call 11 [.ref a, .int (N 3)] w I L P = some (.inl none, w, J, L, Q) ∧ CR (losesN N c) (207 + 40 * c) J L Q a q' s' ∧ Fr a (a + 7) I J L L P Q := by
  have ht' := ht
  obtain ⟨ha, ha1, ha2, hms⟩ := ht'
  have h' := h
  obtain ⟨hc, h1, h2, h3, h4, h5, h6, h7, h8⟩ := h'
  have hq4 := hc.2.2.2.1
  have hq0 : q 0 < 4 := hq4 0 (by omega)
  have hm0 : w.1 (a + 3 + q 0) = some (3, 0) := hms _ hq0
  have m0 := h8 0 (by omega)
  obtain ⟨g0, g1, g2, g3, g4⟩ := m0
  rw [show 207 + 40 * c + 8 + 8 * 0 + 3 = 218 + 40 * c from by omega] at g3
  rw [show 207 + 40 * c + 5 = 212 + 40 * c from by omega] at h5
  -- the memory behind the counts
  have hR : CR (sN (sN (sN N 5 (N 5 &&& ((nI 1 <<< (nI c &&& 31)) ^^^ (-1)))) (218 + 40 * c) (N (218 + 40 * c) + nI 1)) (212 + 40 * c) (N (212 + 40 * c) + nI 1)) (207 + 40 * c) (wr (wr I (a + 3 + q 0) (sN (I (a + 3 + q 0)) 3 (I (a + 3 + q 0) 3 + nI 1))) a (sN (I a) 3 (I a 3 + nI 1))) L P a q (s + 1) := by
    refine ⟨hc, h1, ?_, ?_, ?_, ?_, ?_, ?_, ?_⟩
    · rw [sN_ne (by omega), sN_ne (by omega), sN_ne (by omega)]; exact h2
    · rw [wr_same, sN_ne (by omega)]; exact h3
    · intro k hk hk5
      rw [wr_ne _ _ (by omega), wr_ne _ _ (by omega), sN_ne (by omega), sN_ne (by omega), sN_ne (by omega)]; exact h4 k hk hk5
    · rw [wr_same, sN_eq, show 207 + 40 * c + 5 = 212 + 40 * c from by omega, sN_eq, h5]
    · rw [wr_same, sN_ne (by omega), sN_ne (by omega), sN_ne (by omega), sN_ne (by omega)]; exact h6
    · rw [wr_same, sN_ne (by omega), sN_ne (by omega), sN_ne (by omega), sN_ne (by omega)]; exact h7
    · intro i hi
      have hqi := hq4 i (by omega)
      by_cases hi0 : i = 0
      · subst hi0
        obtain ⟨g0, g1, g2, g3, g4⟩ := h8 0 hi
        refine ⟨?_, ?_, ?_, ?_, ?_⟩
        · rw [wr_ne _ _ (by omega), wr_same, sN_ne (by omega), sN_ne (by omega), sN_ne (by omega), sN_ne (by omega)]; exact g0
        · rw [wr_ne _ _ (by omega), wr_same, sN_ne (by omega), sN_ne (by omega), sN_ne (by omega), sN_ne (by omega)]; exact g1
        · rw [wr_ne _ _ (by omega), wr_same, sN_ne (by omega), sN_ne (by omega), sN_ne (by omega), sN_ne (by omega)]; exact g2
        · rw [wr_ne _ _ (by omega), wr_same, sN_eq, sN_ne (by omega), show 207 + 40 * c + 8 + 8 * 0 + 3 = 218 + 40 * c from by omega, sN_eq]; rw [g3]; rw [show 207 + 40 * c + 8 + 8 * 0 + 3 = 218 + 40 * c from by omega]
        · intro k hk
          rw [wr_ne _ _ (by omega), wr_same, sN_ne (by omega), sN_ne (by omega), sN_ne (by omega), sN_ne (by omega), sN_ne (by omega)]; exact g4 k hk
      · have hne : q i ≠ q 0 := fun e => hi0 (hc.2.2.2.2 i 0 (by omega) (by omega) e)
        refine MR_N (MR_I (h8 i hi) ?_ rfl) ?_
        · rw [wr_ne _ _ (by omega), wr_ne _ _ (by omega)]
        · intro k hk1 hk2
          rw [sN_ne (by omega), sN_ne (by omega), sN_ne (by omega)]
  have hF : Fr a (a + 7) I (wr (wr I (a + 3 + q 0) (sN (I (a + 3 + q 0)) 3 (I (a + 3 + q 0) 3 + nI 1))) a (sN (I a) 3 (I a 3 + nI 1))) L L P P := by
    intro x hx
    refine ⟨?_, rfl, rfl⟩
    rw [wr_ne _ _ (by omega), wr_ne _ _ (by omega)]
  rw [losesN_c, Caller_loseBit_E, Caller_loseBit_0 _ _ _ _ _ _ _ ha, cl_messageAt ht hc h1 (show 0 < s + 1 by omega) _ _ h3]
  simp only [kC_ret, Option.toList, List.cons_append, List.nil_append, fix1_int, fix1_ref, fix1_unk, fix1_null, fix1_long]
  rw [Caller_loseBit_5_1, fix1_int, Caller_loseBit_11 _ _ _ _ _ _ _ hm0 ha]
  simp only [updI_wr, wr_ne _ _ (show a ≠ a + 3 + q 0 by omega)]
  rw [wr_ne _ _ (show a + 3 + q 0 ≠ a by omega), wr_same, sN_eq, g3]
  rw [g3] at hR hF
  by_cases hl : N (218 + 40 * c) + nI 1 < N 3
  · rw [if_pos hl, if_pos hl, Caller_loseBit_44]
    exact ⟨_, _, _, _, rfl, hR, hF⟩
  · rw [if_neg hl, if_neg hl, Caller_loseBit_39 _ _ _ _ _ _ _ ha]
    obtain ⟨J, Q, q', e1, e2, e3⟩ := rel_endFirst ht hR (show 0 < 4 by omega) (show 4 < 5 by omega)
    rw [e1]
    simp only [kC_ret, Option.toList, List.cons_append, List.nil_append, fix1_int, fix1_ref, fix1_unk, fix1_null, fix1_long]
    rw [Caller_loseBit_44]
    exact ⟨_, _, _, _, rfl, e2, Fr_trans hF e3⟩
/-! the class: a bus and its callers -/
def BT (w : Wd) (b : Nat) : Prop := w.1 b = some (0, 0) ∧ w.1 (b + 1) = some (11, 3) ∧ w.1 (b + 2) = some (12, 6) ∧ w.1 (b + 3) = some (5, 0) ∧ (w.1 (b + 4) = some (8, 64) ∧ w.1 (b + 5) = some (8, 64) ∧ w.1 (b + 6) = some (8, 64)) ∧ (∀ c, c < 3 → CT w (b + 7 + 7 * c)) ∧ ∀ l, l < 6 → w.1 (b + 28 + 2 * l) = some (2, 0) ∧ w.1 (b + 29 + 2 * l) = some (8, 16)
def BQ (P : MP) (b : Nat) : Prop := P b 0 = some (b + 1) ∧ P b 2 = some (b + 2) ∧ P b 5 = some (b + 3) ∧ (∀ c, c < 3 → P (b + 1) c = some (b + 7 + 7 * c)) ∧ (∀ l, l < 6 → P (b + 2) l = some (b + 28 + 2 * l) ∧ P (b + 28 + 2 * l) 4 = some (b + 29 + 2 * l)) ∧ P (b + 3) 3 = some (b + 4) ∧ P (b + 3) 4 = some (b + 5) ∧ P (b + 3) 5 = some (b + 6)
def CS (N : Nat → Int32) (b : Nat) (I : MI) (L : ML) (P : MP) : Prop := ∀ c, c < 3 → ∃ q s, CR N (207 + 40 * c) I L P (b + 7 + 7 * c) q s
theorem BQ_fr {P Q : MP} {b c : Nat} {I J : MI} {L K : ML} (h : BQ P b) (hc : c < 3) (f : Fr (b + 7 + 7 * c) (b + 7 + 7 * c + 7) I J L K P Q) : BQ Q b := by
  obtain ⟨h1, h2, h3, h4, h5, h6, h7, h8⟩ := h
  refine ⟨?_, ?_, ?_, ?_, ?_, ?_, ?_, ?_⟩
  · rw [(f b (by omega)).2.2]; exact h1
  · rw [(f b (by omega)).2.2]; exact h2
  · rw [(f b (by omega)).2.2]; exact h3
  · intro c hc; rw [(f (b + 1) (by omega)).2.2]; exact h4 c hc
  · intro l hl; rw [(f (b + 2) (by omega)).2.2, (f (b + 28 + 2 * l) (by omega)).2.2]; exact h5 l hl
  · rw [(f (b + 3) (by omega)).2.2]; exact h6
  · rw [(f (b + 3) (by omega)).2.2]; exact h7
  · rw [(f (b + 3) (by omega)).2.2]; exact h8
theorem cl_callerAt {w : Wd} {P : MP} {b : Nat} (ht : BT w b) (hq : BQ P b) {k c : Nat} (hk : k ≤ 3) (hc : c < k) (I : MI) (L : ML) (h1 : I b 1 = nI k) : call 30 [.ref b, .int (nI c)] w I L P = some (.inl (some (.ref (b + 7 + 7 * c))), w, I, L, P) := by
  obtain ⟨t0, t1, _⟩ := ht
  obtain ⟨p1, _, _, p4, _⟩ := hq
  rw [Bus_callerAt_E, Bus_callerAt_0, if_neg (nI_pos (by omega)), Bus_callerAt_4 _ _ _ _ _ _ t0, h1, if_neg (nI_ge hc (by omega)), Bus_callerAt_12 _ _ _ _ _ _ t0, p1, rf_some, Bus_callerAt_17 _ _ _ _ _ _ _ _ (isAr_of t1), alen_of t1, if_neg (nI_ge (by omega) (by omega)), Bus_callerAt_21 _ _ _ _ _ _ t0, p1, rf_some, Bus_callerAt_25 _ _ _ _ _ _ _ (inA_nI t1 (by omega) (by omega)), cl_nI (by omega), p4 c (by omega), rf_some, Bus_callerAt_27, Bus_callerAt_31_1]
theorem cl_callerAtN {w : Wd} {P : MP} {b : Nat} (ht : BT w b) {x : Int32} (I : MI) (L : ML) (h1 : x < 0 ∨ I b 1 ≤ x) : call 30 [.ref b, .int x] w I L P = some (.inl (some .null), w, I, L, P) := by
  obtain ⟨t0, t1, _⟩ := ht
  rw [Bus_callerAt_E, Bus_callerAt_0]
  by_cases h : x < 0
  · rw [if_pos h, Bus_callerAt_30, Bus_callerAt_31_0]
  · rcases h1 with h1 | h1
    · exact absurd h1 h
    · rw [if_neg h, Bus_callerAt_4 _ _ _ _ _ _ t0, if_pos h1, Bus_callerAt_30, Bus_callerAt_31_0]
theorem cl_firstMessage {w : Wd} {N : Nat → Int32} {P : MP} {b : Nat} (ht : BT w b) (hq : BQ P b) {k c : Nat} (hk : k ≤ 3) (hc : c < k) (I : MI) (L : ML) (h1 : I b 1 = nI k) {q : Nat → Nat} {s : Nat} (h : CR N (207 + 40 * c) I L P (b + 7 + 7 * c) q s) : call 32 [.ref b, .int (nI c)] w I L P = some (.inl (some (if s = 0 then .null else .ref (b + 7 + 7 * c + 3 + q 0))), w, I, L, P) := by
  have t0 := ht.1
  have tc := ht.2.2.2.2.2.1 c (by omega)
  rw [Bus_firstMessage_E, Bus_firstMessage_0 _ _ _ _ _ _ _ t0, cl_callerAt ht hq hk hc I L h1]
  simp only [kC_ret, Option.toList, List.cons_append, List.nil_append, fix1_int, fix1_ref, fix1_unk, fix1_null, fix1_long]
  rw [Bus_firstMessage_5_1, fix1_int, Bus_firstMessage_14 _ _ _ _ _ _ _ tc.1]
  by_cases hs : s = 0
  · subst hs
    rw [cl_messageAtN tc h.2.1 (Nat.le_refl 0) (by omega) I L h.2.2.2.1, if_pos rfl]
    simp only [kC_ret, Option.toList, List.cons_append, List.nil_append, fix1_int, fix1_ref, fix1_unk, fix1_null, fix1_long]
    rw [Bus_firstMessage_19_0]
  · rw [cl_messageAt tc h.1 h.2.1 (by omega) I L h.2.2.2.1, if_neg hs]
    simp only [kC_ret, Option.toList, List.cons_append, List.nil_append, fix1_int, fix1_ref, fix1_unk, fix1_null, fix1_long]
    rw [Bus_firstMessage_19_1]
theorem cl_contends {w : Wd} {P : MP} {b : Nat} (ht : BT w b) (x : Int32) (I : MI) (L : ML) : call 33 [.ref b, .int x] w I L P = some (.inl (some (.int (if conB' (I b 7) x then nI 1 else nI 0))), w, I, L, P) := by
  have t0 := ht.1
  rw [Bus_contends_E, Bus_contends_0 _ _ _ _ _ _ t0]
  by_cases h : conB' (I b 7) x
  · rw [if_neg (by simpa using h), if_pos h, Bus_contends_12, Bus_contends_17 _ _ _ _ _ _ _ b11]
  · rw [if_pos h, if_neg h, Bus_contends_16, Bus_contends_17 _ _ _ _ _ _ _ b01]
theorem or0 (x : Int32) : x ||| nI 0 = x := by
  rw [nI_0]; exact Int32.or_zero
theorem cl_cwm_1 {w : Wd} {N : Nat → Int32} {P : MP} {b : Nat} (ht : BT w b) (hq : BQ P b) {k c : Nat} (hk : k ≤ 3) (hc : c < k) (I : MI) (L : ML) (h1 : I b 1 = nI k) (hs : CS N b I L P) (s : Int32) : go 39 4 [.ref b, .int s, .int (nI c)] [] w I L P = go 39 4 [.ref b, .int (beg1 N s c), .int (nI (c + 1))] [] w I L P := by
  have t0 := ht.1
  obtain ⟨q, n, h⟩ := hs c (by omega)
  have hn := h.2.1
  rw [Bus_callersWithMessages_4 _ _ _ _ _ _ _ t0, h1, if_neg (nI_ge hc (by omega)), Bus_callersWithMessages_12 _ _ _ _ _ _ _ t0, cl_firstMessage ht hq hk hc I L h1 h]
  simp only [kC_ret, Option.toList, List.cons_append, List.nil_append, fix1_int, fix1_ref, fix1_unk, fix1_null, fix1_long]
  unfold beg1
  rw [h.2.2.1]
  by_cases hz : n = 0
  · subst hz
    rw [if_pos rfl, if_pos (by decide), or0, Bus_callersWithMessages_17_0, Bus_callersWithMessages_26, fix1_int, nI_add]
  · rw [if_neg hz, if_neg (nI_nle (by omega) (by omega)), Bus_callersWithMessages_17_1, Bus_callersWithMessages_20, Bus_callersWithMessages_26, fix1_int, fix1_ref, nI_add]
theorem cl_cwm {w : Wd} {N : Nat → Int32} {P : MP} {b : Nat} (ht : BT w b) (hq : BQ P b) {k : Nat} (hk0 : 0 < k) (hk : k ≤ 3) (I : MI) (L : ML) (h1 : I b 1 = nI k) (hs : CS N b I L P) : call 39 [.ref b] w I L P = some (.inl (some (.int (begS N k))), w, I, L, P) := by
  have t0 := ht.1
  have fin : ∀ s : Int32, go 39 4 [.ref b, .int s, .int (nI k)] [] w I L P = some (.inl (some (.int s)), w, I, L, P) := by
    intro s
    rw [Bus_callersWithMessages_4 _ _ _ _ _ _ _ t0, h1, if_pos (nI_le (Nat.le_refl k) (by omega)), Bus_callersWithMessages_32]
  rw [Bus_callersWithMessages_E, Bus_callersWithMessages_0, fix1_ref, cl_cwm_1 ht hq hk hk0 I L h1 hs]
  unfold begS
  rcases (show k = 1 ∨ k = 2 ∨ k = 3 by omega) with rfl | rfl | rfl
  · rw [fin]; rfl
  · rw [cl_cwm_1 ht hq hk (show 1 < 2 by omega) I L h1 hs, fin]; rfl
  · rw [cl_cwm_1 ht hq hk (show 1 < 3 by omega) I L h1 hs, cl_cwm_1 ht hq hk (show 2 < 3 by omega) I L h1 hs, fin]; rfl
/-- the phase of the class while bits are sent: a header (h = 1) or a byte of a write (h = 0) -/
def BitPh (N : Nat → Int32) (I : MI) (b : Nat) (h : Int32) : Prop := I b 10 = N 6 ∧ ((h = nI 1 ∧ I b 6 = nI 2) ∨ (h = nI 0 ∧ I b 6 = nI 4 ∧ ∃ dn, dn < 4 ∧ I b 12 = nI dn ∧ N 7 = nI dn))
theorem cl_sentBit {w : Wd} {N : Nat → Int32} {P : MP} {b m c : Nat} (ht : BT w b) (hm : w.1 m = some (3, 0)) (h : Int32) (I : MI) (L : ML) (hr : MR N (215 + 40 * c) I L m) (hp : BitPh N I b h) (h01 : N (216 + 40 * c) = nI 0 ∨ N (216 + 40 * c) = nI 1) : call 48 [.ref b, .ref m] w I L P = some (.inl (some (.int (sbt N h c))), w, I, L, P) := by
  have t0 := ht.1
  obtain ⟨g0, g1, g2, g3, g4⟩ := hr
  rw [show 215 + 40 * c + 1 = 216 + 40 * c from by omega] at g0
  obtain ⟨hb, ⟨rfl, h6⟩ | ⟨rfl, h6, dn, hdn, h12, h7⟩⟩ := hp
  · rw [Bus_sentBit_E, Bus_sentBit_0_1, Bus_sentBit_6 _ _ _ _ _ _ _ t0, h6, if_neg (by simp), Bus_sentBit_14 _ _ _ _ _ _ _ hm, cl_header hm]
    simp only [kC_ret, Option.toList, List.cons_append, List.nil_append, fix1_int, fix1_ref, fix1_unk, fix1_null, fix1_long]
    rw [Bus_sentBit_18, Bus_sentBit_29 _ _ _ _ _ _ _ _ t0, hb]
    unfold sbt snt
    rw [if_neg (by decide)]
    have : hm2 (I m 0) (I m 1) = hdr N c := by
      unfold hm2 hdr
      rw [g0, g1]
      rcases h01 with e | e <;> rw [e]
      · rw [if_pos (by decide)]
      · rw [if_neg (by decide)]
    rw [this]
  · rw [Bus_sentBit_E, Bus_sentBit_0_1, Bus_sentBit_6 _ _ _ _ _ _ _ t0, h6, if_pos (by decide), Bus_sentBit_21 _ _ _ _ _ _ _ t0 hm, h12, cl_byteAt hm]
    simp only [kC_ret, Option.toList, List.cons_append, List.nil_append, fix1_int, fix1_ref, fix1_unk, fix1_null, fix1_long]
    rw [Bus_sentBit_29 _ _ _ _ _ _ _ _ t0, hb]
    unfold sbt snt
    rw [if_pos (by decide), h7, cl_nI (by omega), g4 dn hdn, show 215 + 40 * c + 4 + dn = 219 + 40 * c + dn from by omega]
def ones1 (N : Nat → Int32) (h o : Int32) (c : Nat) : Int32 := if conB N (nI c) ∧ sbt N h c = nI 1 then o ||| (nI 1 <<< (nI c &&& 31)) else o
/-- the callers of a row in order: who contends has a message, and its flags are flags -/
def CO (N : Nat → Int32) (k : Nat) : Prop := ∀ c, c < 3 → (∃ s, s ≤ 4 ∧ N (207 + 40 * c) = nI s ∧ (0 < s → N (216 + 40 * c) = nI 0 ∨ N (216 + 40 * c) = nI 1)) ∧ (conB N (nI c) → c < k ∧ ∃ s, s < 4 ∧ N (207 + 40 * c) = nI (s + 1))
theorem cl_sendBits_1 {w : Wd} {N : Nat → Int32} {P : MP} {b : Nat} (ht : BT w b) (hq : BQ P b) {k c : Nat} (hk : k ≤ 3) (hc : c < k) (I : MI) (L : ML) (h1 : I b 1 = nI k) (h7 : I b 7 = N 5) (hs : CS N b I L P) (hco : CO N k) (h : Int32) (hp : BitPh N I b h) (o : Int32) : go 47 4 [.ref b, .int o, .int (nI c)] [] w I L P = go 47 4 [.ref b, .int (ones1 N h o c), .int (nI (c + 1))] [] w I L P := by
  have t0 := ht.1
  obtain ⟨q, n, hr⟩ := hs c (by omega)
  rw [Bus_sendBits_4 _ _ _ _ _ _ _ t0, h1, if_neg (nI_ge hc (by omega)), Bus_sendBits_12 _ _ _ _ _ _ _ t0, cl_contends ht, h7]
  simp only [kC_ret, Option.toList, List.cons_append, List.nil_append, fix1_int, fix1_ref, fix1_unk, fix1_null, fix1_long]
  rw [Bus_sendBits_17]
  unfold ones1
  by_cases hcon : conB N (nI c)
  · have hcon' : conB' (N 5) (nI c) := hcon
    obtain ⟨_, s, hs4, hs1⟩ := (hco c (by omega)).2 hcon
    obtain ⟨⟨s', _, hs', h01⟩, _⟩ := hco c (by omega)
    have hn : n = s + 1 := by
      have := hr.2.2.1
      rw [hs1, nI_eq (by omega) (by have := hr.2.1; omega)] at this
      exact this.symm
    subst hn
    have hs'' : 0 < s' := by
      rw [hs1, nI_eq (by omega) (by omega)] at hs'
      omega
    have tc := ht.2.2.2.2.2.1 c (by omega)
    have hq4 := hr.1.2.2.2.1 0 (by omega)
    have hm := tc.2.2.2 _ hq4
    have hmr := hr.2.2.2.2.2.2.2.2 0 (by omega)
    rw [show 207 + 40 * c + 8 + 8 * 0 = 215 + 40 * c from by omega] at hmr
    rw [if_pos hcon', if_neg n10, Bus_sendBits_20 _ _ _ _ _ _ _ t0, cl_firstMessage ht hq hk hc I L h1 hr, if_neg (by omega)]
    simp only [kC_ret, Option.toList, List.cons_append, List.nil_append, fix1_int, fix1_ref, fix1_unk, fix1_null, fix1_long]
    rw [Bus_sendBits_26_1 _ _ _ _ _ _ _ _ _ t0, cl_sentBit ht hm h I L hmr hp (h01 hs'')]
    simp only [kC_ret, Option.toList, List.cons_append, List.nil_append, fix1_int, fix1_ref, fix1_unk, fix1_null, fix1_long]
    rw [Bus_sendBits_29]
    by_cases hb : sbt N h c = nI 1
    · rw [if_neg (by simp [hb]), if_pos ⟨hcon, hb⟩, Bus_sendBits_33, fix1_ref, Bus_sendBits_39, fix1_int, nI_add]
    · rw [if_pos hb, if_neg (by simp [hb]), Bus_sendBits_39, fix1_int, nI_add]
  · have hcon' : ¬ conB' (N 5) (nI c) := hcon
    rw [if_neg hcon', if_pos n00, if_neg (by simp [hcon']), Bus_sendBits_39, fix1_int, nI_add]
def onesK (N : Nat → Int32) (h : Int32) (k : Nat) : Int32 := if k = 1 then ones1 N h (nI 0) 0 else if k = 2 then ones1 N h (ones1 N h (nI 0) 0) 1 else ones1 N h (ones1 N h (ones1 N h (nI 0) 0) 1) 2
theorem cl_sendBits_2 {w : Wd} {N : Nat → Int32} {P : MP} {b : Nat} (ht : BT w b) (hq : BQ P b) {k : Nat} (hk0 : 0 < k) (hk : k ≤ 3) (I : MI) (L : ML) (h1 : I b 1 = nI k) (h7 : I b 7 = N 5) (hs : CS N b I L P) (hco : CO N k) (h : Int32) (hp : BitPh N I b h) : call 47 [.ref b] w I L P = if onesK N h k ≠ N 5 then go 47 55 [.ref b, .int (onesK N h k), .int (nI k)] [] w I L P else some (.inl (some (.int (nI 1))), w, I, L, P) := by
  have t0 := ht.1
  have fin : ∀ s : Int32, go 47 4 [.ref b, .int s, .int (nI k)] [] w I L P = if s ≠ N 5 then go 47 55 [.ref b, .int s, .int (nI k)] [] w I L P else some (.inl (some (.int (nI 1))), w, I, L, P) := by
    intro s
    rw [Bus_sendBits_4 _ _ _ _ _ _ _ t0, h1, if_pos (nI_le (Nat.le_refl k) (by omega)), Bus_sendBits_45 _ _ _ _ _ _ _ t0, h7, Bus_sendBits_53]
  have st := fun c (hc : c < k) o => cl_sendBits_1 ht hq hk hc I L h1 h7 hs hco h hp o
  rw [Bus_sendBits_E, Bus_sendBits_0, fix1_ref, st 0 hk0]
  unfold onesK
  rcases (show k = 1 ∨ k = 2 ∨ k = 3 by omega) with rfl | rfl | rfl
  · rw [fin]; rfl
  · rw [st 1 (by omega), fin]; rfl
  · rw [st 1 (by omega), st 2 (by omega), fin]; rfl
theorem leavesN_out {N : Nat → Int32} {c as k : Nat} (has : as < 5) (h : k < 207 + 40 * c ∨ 247 + 40 * c ≤ k) : leavesN N c as k = N k := by
  rw [leavesN_at has, if_neg (by omega), if_neg (by omega), if_neg (by omega)]
theorem losesN_out {N : Nat → Int32} {c k : Nat} (h : k < 207 + 40 * c ∨ 247 + 40 * c ≤ k) (h5 : k ≠ 5) : losesN N c k = N k := by
  rw [losesN_c]
  dsimp only
  split
  · rw [sN_ne (by omega), sN_ne (by omega), sN_ne h5]
  · rw [leavesN_out (by omega) h, sN_ne (by omega), sN_ne (by omega), sN_ne h5]
theorem losesN_5 {N : Nat → Int32} {c : Nat} : losesN N c 5 = N 5 &&& ((nI 1 <<< (nI c &&& 31)) ^^^ (-1)) := by
  rw [losesN_c]
  dsimp only
  split
  · rw [sN_ne (by omega), sN_ne (by omega), sN_eq]
  · rw [leavesN_out (by omega) (by omega), sN_ne (by omega), sN_ne (by omega), sN_eq]
/-- one caller has changed: the others' part stands -/
theorem CS_set {N M : Nat → Int32} {b c : Nat} {I J : MI} {L K : ML} {P Q : MP} (hc : c < 3) (h : CS N b I L P) (f : Fr (b + 7 + 7 * c) (b + 7 + 7 * c + 7) I J L K P Q) (e : ∀ k, 207 ≤ k → k < 327 → (k < 207 + 40 * c ∨ 247 + 40 * c ≤ k) → M k = N k) (hn : ∃ q s, CR M (207 + 40 * c) J K Q (b + 7 + 7 * c) q s) : CS M b J K Q := by
  intro c' hc'
  by_cases hcc : c' = c
  · subst hcc; exact hn
  · obtain ⟨q, s, hr⟩ := h c' hc'
    exact ⟨q, s, CR_I (CR_N hr (fun k h1 h2 => e k (by omega) (by omega) (by omega))) (fun x h1 h2 => f x (by omega))⟩
theorem Fr_caller {b c : Nat} {I J : MI} {L K : ML} {P Q : MP} (hc : c < 3) (f : Fr (b + 7 + 7 * c) (b + 7 + 7 * c + 7) I J L K P Q) : Fr (b + 7) (b + 28) I J L K P Q := Fr_mono f (by omega) (by omega)
def lo1 (M : Nat → Int32) (o : Int32) (c : Nat) : Nat → Int32 := if conB' o (nI c) then losesN M c else M
theorem cl_loseBits_1 {w : Wd} {M : Nat → Int32} {P : MP} {b : Nat} (ht : BT w b) (hq : BQ P b) {k c : Nat} (hk : k ≤ 3) (hc : c < k) (I : MI) (L : ML) (h1 : I b 1 = nI k) (h4 : I b 4 = M 3) (hs : CS M b I L P) (o : Int32) (ho : conB' o (nI c) → ∃ s, s < 4 ∧ M (207 + 40 * c) = nI (s + 1)) (v : Value) : ∃ v' J Q, go 49 14 [.ref b, .int o, .int (nI c), v] [] w I L P = go 49 14 [.ref b, .int o, .int (nI (c + 1)), v'] [] w J L Q ∧ CS (lo1 M o c) b J L Q ∧ BQ Q b ∧ Fr (b + 7) (b + 28) I J L L P Q := by
  have t0 := ht.1
  have tc := ht.2.2.2.2.2.1 c (by omega)
  rw [Bus_loseBits_14 _ _ _ _ _ _ _ _ t0, h1, if_neg (nI_ge hc (by omega)), Bus_loseBits_22 _ _ _ _ _ _ _ _ t0, cl_callerAt ht hq hk hc I L h1]
  simp only [kC_ret, Option.toList, List.cons_append, List.nil_append, fix1_int, fix1_ref, fix1_unk, fix1_null, fix1_long]
  rw [Bus_loseBits_27_1, fix1_int, Bus_loseBits_32]
  unfold lo1
  by_cases hcon : conB' o (nI c)
  · obtain ⟨q, n, hr⟩ := hs c (by omega)
    obtain ⟨s, hs4, hs1⟩ := ho hcon
    have hn : n = s + 1 := by
      have := hr.2.2.1
      rw [hs1, nI_eq (by omega) (by have := hr.2.1; omega)] at this
      exact this.symm
    subst hn
    obtain ⟨J, Q, q', s', e1, e2, e3⟩ := rel_loseBit tc hr
    rw [if_neg (by simpa using hcon), Bus_loseBits_41 _ _ _ _ _ _ _ _ t0 tc.1, h4, e1]
    simp only [kC_ret, Option.toList, List.cons_append, List.nil_append, fix1_int, fix1_ref, fix1_unk, fix1_null, fix1_long]
    rw [Bus_loseBits_49, fix1_int, nI_add, if_pos hcon]
    exact ⟨_, J, Q, rfl, CS_set (by omega) hs e3 (fun k h1 h2 h3 => losesN_out h3 (by omega)) ⟨_, _, e2⟩, BQ_fr hq (by omega) e3, Fr_caller (by omega) e3⟩
  · rw [if_pos hcon, Bus_loseBits_49, fix1_int, nI_add, if_neg hcon]
    exact ⟨_, I, P, rfl, hs, hq, Fr_refl⟩
def loK (N : Nat → Int32) (o : Int32) (k : Nat) : Nat → Int32 := if k = 1 then lo1 N o 0 else if k = 2 then lo1 (lo1 N o 0) o 1 else lo1 (lo1 (lo1 N o 0) o 1) o 2
theorem lo1_out {M : Nat → Int32} {o : Int32} {c k : Nat} (h : k < 207 + 40 * c ∨ 247 + 40 * c ≤ k) (h5 : k ≠ 5) : lo1 M o c k = M k := by
  unfold lo1; split
  · exact losesN_out h h5
  · rfl
theorem CS_5 {N M : Nat → Int32} {b : Nat} {I J : MI} {L : ML} {P : MP} (h : CS N b I L P) (e : ∀ k, 207 ≤ k → k < 327 → M k = N k) (eI : ∀ x, b + 7 ≤ x → x < b + 28 → J x = I x) : CS M b J L P := by
  intro c hc
  obtain ⟨q, s, hr⟩ := h c hc
  exact ⟨q, s, CR_I (CR_N hr (fun k h1 h2 => e k (by omega) (by omega))) (fun x h1 h2 => ⟨eI x (by omega) (by omega), rfl, rfl⟩)⟩
theorem cl_loseBits {w : Wd} {N : Nat → Int32} {P : MP} {b : Nat} (ht : BT w b) (hq : BQ P b) {k : Nat} (hk0 : 0 < k) (hk : k ≤ 3) (I : MI) (L : ML) (h1 : I b 1 = nI k) (h4 : I b 4 = N 3) (hs : CS N b I L P) (o : Int32) (ho : ∀ c, c < k → conB' o (nI c) → ∃ s, s < 4 ∧ N (207 + 40 * c) = nI (s + 1)) : ∃ J Q, call 49 [.ref b, .int o] w I L P = some (.inl none, w, J, L, Q) ∧ CS (loK N o k) b J L Q ∧ BQ Q b ∧ J b = sN (I b) 7 (I b 7 &&& (o ^^^ (-1))) ∧ Fr (b + 7) (b + 28) (wr I b (sN (I b) 7 (I b 7 &&& (o ^^^ (-1))))) J L L P Q := by
  have t0 := ht.1
  rw [Bus_loseBits_E, Bus_loseBits_0 _ _ _ _ _ _ _ _ t0, updI_wr]
  generalize hI' : wr I b (sN (I b) 7 (I b 7 &&& (o ^^^ (-1)))) = I'
  have hI1 : I' b 1 = nI k := by rw [← hI', wr_same, sN_ne (by omega)]; exact h1
  have hI4 : I' b 4 = N 3 := by rw [← hI', wr_same, sN_ne (by omega)]; exact h4
  have hs' : CS N b I' L P := CS_5 hs (fun _ _ _ => rfl) (fun x h1 h2 => by rw [← hI', wr_ne _ _ (by omega)])
  have hIb : I' b = sN (I b) 7 (I b 7 &&& (o ^^^ (-1))) := by rw [← hI', wr_same]
  have fin : ∀ v J Q, J b 1 = nI k → go 49 14 [.ref b, .int o, .int (nI k), v] [] w J L Q = some (.inl none, w, J, L, Q) := by
    intro v J Q hJ
    rw [Bus_loseBits_14 _ _ _ _ _ _ _ _ t0, hJ, if_pos (nI_le (Nat.le_refl k) (by omega)), Bus_loseBits_55]
  obtain ⟨v1, J1, Q1, e1, c1, b1, f1⟩ := cl_loseBits_1 ht hq hk hk0 I' L hI1 hI4 hs' o (ho 0 hk0) unk
  rw [e1]
  have g1 : J1 b = I' b := (f1 b (by omega)).1
  rcases (show k = 1 ∨ k = 2 ∨ k = 3 by omega) with rfl | rfl | rfl
  · rw [fin _ _ _ (by rw [g1]; exact hI1)]
    exact ⟨J1, Q1, rfl, c1, b1, g1.trans hIb, f1⟩
  · obtain ⟨v2, J2, Q2, e2, c2, b2, f2⟩ := cl_loseBits_1 ht b1 hk (show 1 < 2 by omega) J1 L (by rw [g1]; exact hI1) (by rw [g1, lo1_out (by omega) (by omega)]; exact hI4) c1 o (fun hh => by rw [lo1_out (by omega) (by omega)]; exact ho 1 (by omega) hh) v1
    have g2 : J2 b = I' b := ((f2 b (by omega)).1).trans g1
    rw [e2, fin _ _ _ (by rw [g2]; exact hI1)]
    exact ⟨J2, Q2, rfl, c2, b2, g2.trans hIb, Fr_trans f1 f2⟩
  · obtain ⟨v2, J2, Q2, e2, c2, b2, f2⟩ := cl_loseBits_1 ht b1 hk (show 1 < 3 by omega) J1 L (by rw [g1]; exact hI1) (by rw [g1, lo1_out (by omega) (by omega)]; exact hI4) c1 o (fun hh => by rw [lo1_out (by omega) (by omega)]; exact ho 1 (by omega) hh) v1
    have g2 : J2 b = I' b := ((f2 b (by omega)).1).trans g1
    obtain ⟨v3, J3, Q3, e3, c3, b3, f3⟩ := cl_loseBits_1 ht b2 hk (show 2 < 3 by omega) J2 L (by rw [g2]; exact hI1) (by rw [g2, lo1_out (by omega) (by omega), lo1_out (by omega) (by omega)]; exact hI4) c2 o (fun hh => by rw [lo1_out (by omega) (by omega), lo1_out (by omega) (by omega)]; exact ho 2 (by omega) hh) v2
    have g3 : J3 b = I' b := ((f3 b (by omega)).1).trans g2
    rw [e2, e3, fin _ _ _ (by rw [g3]; exact hI1)]
    exact ⟨J3, Q3, rfl, c3, b3, g3.trans hIb, Fr_trans (Fr_trans f1 f2) f3⟩
def en1 (M : Nat → Int32) (o : Int32) (as c : Nat) : Nat → Int32 := if conB' o (nI c) then leavesN M c as else M
theorem en1_out {M : Nat → Int32} {o : Int32} {as c k : Nat} (has : as < 5) (h : k < 207 + 40 * c ∨ 247 + 40 * c ≤ k) : en1 M o as c k = M k := by
  unfold en1; split
  · exact leavesN_out has h
  · rfl
theorem cl_endM_1 {w : Wd} {M : Nat → Int32} {P : MP} {b : Nat} (ht : BT w b) (hq : BQ P b) {k c as : Nat} (hk : k ≤ 3) (hc : c < k) (ha0 : 0 < as) (has : as < 5) (I : MI) (L : ML) (h1 : I b 1 = nI k) (hs : CS M b I L P) (o : Int32) (ho : conB' o (nI c) → ∃ s, s < 4 ∧ M (207 + 40 * c) = nI (s + 1)) (v : Value) : ∃ v' J Q, go 59 14 [.ref b, .int o, .int (nI as), .int (nI c), v] [] w I L P = go 59 14 [.ref b, .int o, .int (nI as), .int (nI (c + 1)), v'] [] w J L Q ∧ CS (en1 M o as c) b J L Q ∧ BQ Q b ∧ Fr (b + 7) (b + 28) I J L L P Q := by
  have t0 := ht.1
  have tc := ht.2.2.2.2.2.1 c (by omega)
  rw [Bus_endMessages_14 _ _ _ _ _ _ _ _ _ t0, h1, if_neg (nI_ge hc (by omega)), Bus_endMessages_22 _ _ _ _ _ _ _ _ _ t0, cl_callerAt ht hq hk hc I L h1]
  simp only [kC_ret, Option.toList, List.cons_append, List.nil_append, fix1_int, fix1_ref, fix1_unk, fix1_null, fix1_long]
  rw [Bus_endMessages_27_1, fix1_int, Bus_endMessages_34]
  unfold en1
  by_cases hcon : conB' o (nI c)
  · obtain ⟨q, n, hr⟩ := hs c (by omega)
    obtain ⟨s, hs4, hs1⟩ := ho hcon
    have hn : n = s + 1 := by
      have := hr.2.2.1
      rw [hs1, nI_eq (by omega) (by have := hr.2.1; omega)] at this
      exact this.symm
    subst hn
    obtain ⟨J, Q, q', e1, e2, e3⟩ := rel_endFirst tc hr ha0 has
    rw [if_neg (by simpa using hcon), Bus_endMessages_43 _ _ _ _ _ _ _ _ _ tc.1, e1]
    simp only [kC_ret, Option.toList, List.cons_append, List.nil_append, fix1_int, fix1_ref, fix1_unk, fix1_null, fix1_long]
    rw [Bus_endMessages_49, fix1_int, nI_add, if_pos hcon]
    exact ⟨_, J, Q, rfl, CS_set (by omega) hs e3 (fun k h1 h2 h3 => leavesN_out has h3) ⟨_, _, e2⟩, BQ_fr hq (by omega) e3, Fr_caller (by omega) e3⟩
  · rw [if_pos hcon, Bus_endMessages_49, fix1_int, nI_add, if_neg hcon]
    exact ⟨_, I, P, rfl, hs, hq, Fr_refl⟩
def enK (N : Nat → Int32) (o : Int32) (as k : Nat) : Nat → Int32 := if k = 1 then en1 N o as 0 else if k = 2 then en1 (en1 N o as 0) o as 1 else en1 (en1 (en1 N o as 0) o as 1) o as 2
theorem cl_endMessages {w : Wd} {N : Nat → Int32} {P : MP} {b : Nat} (ht : BT w b) (hq : BQ P b) {k as : Nat} (hk0 : 0 < k) (hk : k ≤ 3) (ha0 : 0 < as) (has : as < 5) (I : MI) (L : ML) (h1 : I b 1 = nI k) (hs : CS N b I L P) (o : Int32) (ho : ∀ c, c < k → conB' o (nI c) → ∃ s, s < 4 ∧ N (207 + 40 * c) = nI (s + 1)) : ∃ J Q, call 59 [.ref b, .int o, .int (nI as)] w I L P = some (.inl none, w, J, L, Q) ∧ CS (enK N o as k) b J L Q ∧ BQ Q b ∧ J b = sN (I b) 7 (I b 7 &&& (o ^^^ (-1))) ∧ Fr (b + 7) (b + 28) (wr I b (sN (I b) 7 (I b 7 &&& (o ^^^ (-1))))) J L L P Q := by
  have t0 := ht.1
  rw [Bus_endMessages_E, Bus_endMessages_0 _ _ _ _ _ _ _ _ _ t0, updI_wr, fix1_int]
  generalize hI' : wr I b (sN (I b) 7 (I b 7 &&& (o ^^^ (-1)))) = I'
  have hI1 : I' b 1 = nI k := by rw [← hI', wr_same, sN_ne (by omega)]; exact h1
  have hs' : CS N b I' L P := CS_5 hs (fun _ _ _ => rfl) (fun x h1 h2 => by rw [← hI', wr_ne _ _ (by omega)])
  have hIb : I' b = sN (I b) 7 (I b 7 &&& (o ^^^ (-1))) := by rw [← hI', wr_same]
  have fin : ∀ v J Q, J b 1 = nI k → go 59 14 [.ref b, .int o, .int (nI as), .int (nI k), v] [] w J L Q = some (.inl none, w, J, L, Q) := by
    intro v J Q hJ
    rw [Bus_endMessages_14 _ _ _ _ _ _ _ _ _ t0, hJ, if_pos (nI_le (Nat.le_refl k) (by omega)), Bus_endMessages_55]
  obtain ⟨v1, J1, Q1, e1, c1, b1, f1⟩ := cl_endM_1 ht hq hk hk0 ha0 has I' L hI1 hs' o (ho 0 hk0) unk
  rw [e1]
  have g1 : J1 b = I' b := (f1 b (by omega)).1
  rcases (show k = 1 ∨ k = 2 ∨ k = 3 by omega) with rfl | rfl | rfl
  · rw [fin _ _ _ (by rw [g1]; exact hI1)]
    exact ⟨J1, Q1, rfl, c1, b1, g1.trans hIb, f1⟩
  · obtain ⟨v2, J2, Q2, e2, c2, b2, f2⟩ := cl_endM_1 ht b1 hk (show 1 < 2 by omega) ha0 has J1 L (by rw [g1]; exact hI1) c1 o (fun hh => by rw [en1_out has (by omega)]; exact ho 1 (by omega) hh) v1
    have g2 : J2 b = I' b := ((f2 b (by omega)).1).trans g1
    rw [e2, fin _ _ _ (by rw [g2]; exact hI1)]
    exact ⟨J2, Q2, rfl, c2, b2, g2.trans hIb, Fr_trans f1 f2⟩
  · obtain ⟨v2, J2, Q2, e2, c2, b2, f2⟩ := cl_endM_1 ht b1 hk (show 1 < 3 by omega) ha0 has J1 L (by rw [g1]; exact hI1) c1 o (fun hh => by rw [en1_out has (by omega)]; exact ho 1 (by omega) hh) v1
    have g2 : J2 b = I' b := ((f2 b (by omega)).1).trans g1
    obtain ⟨v3, J3, Q3, e3, c3, b3, f3⟩ := cl_endM_1 ht b2 hk (show 2 < 3 by omega) ha0 has J2 L (by rw [g2]; exact hI1) c2 o (fun hh => by rw [en1_out has (by omega), en1_out has (by omega)]; exact ho 2 (by omega) hh) v2
    have g3 : J3 b = I' b := ((f3 b (by omega)).1).trans g2
    rw [e2, e3, fin _ _ _ (by rw [g3]; exact hI1)]
    exact ⟨J3, Q3, rfl, c3, b3, g3.trans hIb, Fr_trans (Fr_trans f1 f2) f3⟩
def more1 (N : Nat → Int32) (dn o : Int32) (c : Nat) : Int32 := if conB N (nI c) ∧ ¬ N (217 + 40 * c) ≤ dn then o ||| (nI 1 <<< (nI c &&& 31)) else o
theorem cl_more_1 {w : Wd} {N : Nat → Int32} {P : MP} {b : Nat} (ht : BT w b) (hq : BQ P b) {k c : Nat} (hk : k ≤ 3) (hc : c < k) (I : MI) (L : ML) (h1 : I b 1 = nI k) (h7 : I b 7 = N 5) (hs : CS N b I L P) (hco : CO N k) (o : Int32) (v : Value) : ∃ v', go 57 4 [.ref b, .int o, .int (nI c), v] [] w I L P = go 57 4 [.ref b, .int (more1 N (I b 12) o c), .int (nI (c + 1)), v'] [] w I L P := by
  have t0 := ht.1
  obtain ⟨q, n, hr⟩ := hs c (by omega)
  rw [Bus_contendersWithMoreBytes_4 _ _ _ _ _ _ _ _ t0, h1, if_neg (nI_ge hc (by omega)), Bus_contendersWithMoreBytes_12 _ _ _ _ _ _ _ _ t0, cl_firstMessage ht hq hk hc I L h1 hr]
  simp only [kC_ret, Option.toList, List.cons_append, List.nil_append, fix1_int, fix1_ref, fix1_unk, fix1_null, fix1_long]
  unfold more1
  by_cases hcon : conB N (nI c)
  · have hcon' : conB' (N 5) (nI c) := hcon
    obtain ⟨_, s, hs4, hs1⟩ := (hco c (by omega)).2 hcon
    have hn : n = s + 1 := by
      have := hr.2.2.1
      rw [hs1, nI_eq (by omega) (by have := hr.2.1; omega)] at this
      exact this.symm
    subst hn
    have tc := ht.2.2.2.2.2.1 c (by omega)
    have hq4 := hr.1.2.2.2.1 0 (by omega)
    have hm := tc.2.2.2 _ hq4
    have hmr := (hr.2.2.2.2.2.2.2.2 0 (by omega)).2.2.1
    rw [show 207 + 40 * c + 8 + 8 * 0 + 2 = 217 + 40 * c from by omega] at hmr
    rw [if_neg (by omega), Bus_contendersWithMoreBytes_17_1 _ _ _ _ _ _ _ _ _ t0, cl_contends ht, h7, if_pos hcon']
    simp only [kC_ret, Option.toList, List.cons_append, List.nil_append, fix1_int, fix1_ref, fix1_unk, fix1_null, fix1_long]
    rw [Bus_contendersWithMoreBytes_23, if_neg n10, Bus_contendersWithMoreBytes_26_1, Bus_contendersWithMoreBytes_30 _ _ _ _ _ _ _ _ hm t0, hmr]
    by_cases hb : N (217 + 40 * c) ≤ I b 12
    · rw [if_pos hb, if_neg (by simp [hb]), Bus_contendersWithMoreBytes_47, fix1_int, nI_add]
      exact ⟨_, rfl⟩
    · rw [if_neg hb, if_pos ⟨hcon, hb⟩, Bus_contendersWithMoreBytes_41, fix1_ref, Bus_contendersWithMoreBytes_47, fix1_int, nI_add]
      exact ⟨_, rfl⟩
  · have hcon' : ¬ conB' (N 5) (nI c) := hcon
    rw [if_neg (show ¬ (conB N (nI c) ∧ ¬ N (217 + 40 * c) ≤ I b 12) from fun h => hcon h.1)]
    by_cases hn : n = 0
    · rw [if_pos hn, Bus_contendersWithMoreBytes_17_0 _ _ _ _ _ _ _ _ t0, cl_contends ht, h7, if_neg hcon']
      simp only [kC_ret, Option.toList, List.cons_append, List.nil_append, fix1_int, fix1_ref, fix1_unk, fix1_null, fix1_long]
      rw [Bus_contendersWithMoreBytes_23, if_pos n00, Bus_contendersWithMoreBytes_47, fix1_int, nI_add]
      exact ⟨_, rfl⟩
    · rw [if_neg hn, Bus_contendersWithMoreBytes_17_1 _ _ _ _ _ _ _ _ _ t0, cl_contends ht, h7, if_neg hcon']
      simp only [kC_ret, Option.toList, List.cons_append, List.nil_append, fix1_int, fix1_ref, fix1_unk, fix1_null, fix1_long]
      rw [Bus_contendersWithMoreBytes_23, if_pos n00, Bus_contendersWithMoreBytes_47, fix1_int, nI_add]
      exact ⟨_, rfl⟩
def moreK (N : Nat → Int32) (dn : Int32) (k : Nat) : Int32 := if k = 1 then more1 N dn (nI 0) 0 else if k = 2 then more1 N dn (more1 N dn (nI 0) 0) 1 else more1 N dn (more1 N dn (more1 N dn (nI 0) 0) 1) 2
theorem cl_more {w : Wd} {N : Nat → Int32} {P : MP} {b : Nat} (ht : BT w b) (hq : BQ P b) {k : Nat} (hk0 : 0 < k) (hk : k ≤ 3) (I : MI) (L : ML) (h1 : I b 1 = nI k) (h7 : I b 7 = N 5) (hs : CS N b I L P) (hco : CO N k) : call 57 [.ref b] w I L P = some (.inl (some (.int (moreK N (I b 12) k))), w, I, L, P) := by
  have t0 := ht.1
  have fin : ∀ (s : Int32) v, go 57 4 [.ref b, .int s, .int (nI k), v] [] w I L P = some (.inl (some (.int s)), w, I, L, P) := by
    intro s v
    rw [Bus_contendersWithMoreBytes_4 _ _ _ _ _ _ _ _ t0, h1, if_pos (nI_le (Nat.le_refl k) (by omega)), Bus_contendersWithMoreBytes_53]
  have st := fun c (hc : c < k) o v => cl_more_1 ht hq hk hc I L h1 h7 hs hco o v
  rw [Bus_contendersWithMoreBytes_E, Bus_contendersWithMoreBytes_0, fix1_ref]
  obtain ⟨v1, e1⟩ := st 0 hk0 (nI 0) unk
  rw [e1]
  unfold moreK
  rcases (show k = 1 ∨ k = 2 ∨ k = 3 by omega) with rfl | rfl | rfl
  · rw [fin]; rfl
  · obtain ⟨v2, e2⟩ := st 1 (by omega) (more1 N (I b 12) (nI 0) 0) v1
    rw [e2, fin]; rfl
  · obtain ⟨v2, e2⟩ := st 1 (by omega) (more1 N (I b 12) (nI 0) 0) v1
    obtain ⟨v3, e3⟩ := st 2 (by omega) (more1 N (I b 12) (more1 N (I b 12) (nI 0) 0) 1) v2
    rw [e2, e3, fin]; rfl
/-! the class: listeners -/
def LR (N : Nat → Int32) (o : Nat) (I : MI) (a : Nat) (m : Nat) : Prop := m ≤ 16 ∧ I a 0 = N o ∧ I a 1 = N (o + 1) ∧ I a 2 = N (o + 4) ∧ I a 3 = N (o + 5) ∧ I a 5 = nI m ∧ N (o + 2) = nI m ∧ I a 6 = N (o + 3) ∧ ∀ k, k < m → I (a + 1) k = N (o + 6 + k)
def LiS (N : Nat → Int32) (b n : Nat) (I : MI) : Prop := ∀ l, l < n → ∃ m, LR N (327 + 22 * l) I (b + 28 + 2 * l) m
theorem cl_listenerAt {w : Wd} {P : MP} {b : Nat} (ht : BT w b) (hq : BQ P b) {n l : Nat} (hn : n ≤ 6) (hl : l < n) (I : MI) (L : ML) (h3 : I b 3 = nI n) : call 31 [.ref b, .int (nI l)] w I L P = some (.inl (some (.ref (b + 28 + 2 * l))), w, I, L, P) := by
  obtain ⟨t0, _, t2, _⟩ := ht
  obtain ⟨_, p2, _, _, p5, _⟩ := hq
  rw [Bus_listenerAt_E, Bus_listenerAt_0, if_neg (nI_pos (by omega)), Bus_listenerAt_4 _ _ _ _ _ _ t0, h3, if_neg (nI_ge hl (by omega)), Bus_listenerAt_12 _ _ _ _ _ _ t0, p2, rf_some, Bus_listenerAt_17 _ _ _ _ _ _ _ _ (isAr_of t2), alen_of t2, if_neg (nI_ge (by omega) (by omega)), Bus_listenerAt_21 _ _ _ _ _ _ t0, p2, rf_some, Bus_listenerAt_25 _ _ _ _ _ _ _ (inA_nI t2 (by omega) (by omega)), cl_nI (by omega), (p5 l (by omega)).1, rf_some, Bus_listenerAt_27, Bus_listenerAt_31_1]
theorem cl_listenerAtN {w : Wd} {P : MP} {b : Nat} (ht : BT w b) {x : Int32} (I : MI) (L : ML) (h1 : x < 0 ∨ I b 3 ≤ x) : call 31 [.ref b, .int x] w I L P = some (.inl (some .null), w, I, L, P) := by
  obtain ⟨t0, t1, _⟩ := ht
  rw [Bus_listenerAt_E, Bus_listenerAt_0]
  by_cases h : x < 0
  · rw [if_pos h, Bus_listenerAt_30, Bus_listenerAt_31_0]
  · rcases h1 with h1 | h1
    · exact absurd h1 h
    · rw [if_neg h, Bus_listenerAt_4 _ _ _ _ _ _ t0, if_pos h1, Bus_listenerAt_30, Bus_listenerAt_31_0]
theorem cl_lW_loop {w : Wd} {N : Nat → Int32} {P : MP} {b : Nat} (ht : BT w b) (hq : BQ P b) {n : Nat} (hn : n ≤ 6) (I : MI) (L : ML) (h3 : I b 3 = nI n) (hs : LiS N b n I) (a : Int32) : ∀ f l, l + f = n → ∀ v, go 34 2 [.ref b, .int a, .int (nI l), v] [] w I L P = some (.inl (some (.int (wFrom N a l f))), w, I, L, P) := by
  have t0 := ht.1
  intro f
  induction f with
  | zero =>
    intro l hl v
    rw [Bus_listenerWith_2 _ _ _ _ _ _ _ _ t0, h3, if_pos (nI_le (by omega) (by omega)), Bus_listenerWith_36]
    rfl
  | succ f ih =>
    intro l hl v
    obtain ⟨m, hr⟩ := hs l (by omega)
    have tl := (ht.2.2.2.2.2.2 l (by omega)).1
    rw [Bus_listenerWith_2 _ _ _ _ _ _ _ _ t0, h3, if_neg (nI_ge (by omega) (by omega)), Bus_listenerWith_10 _ _ _ _ _ _ _ _ t0, cl_listenerAt ht hq hn (by omega) I L h3]
    simp only [kC_ret, Option.toList, List.cons_append, List.nil_append, fix1_int, fix1_ref, fix1_unk, fix1_null, fix1_long]
    rw [Bus_listenerWith_15_1, fix1_int, Bus_listenerWith_20 _ _ _ _ _ _ _ _ tl, hr.2.1, wFrom]
    by_cases he : N (327 + 22 * l) = a
    · rw [if_neg (by simp [he]), if_pos he, Bus_listenerWith_28]
    · rw [if_pos he, if_neg he, Bus_listenerWith_30, nI_add, fix1_int, ih (l + 1) (by omega)]
theorem cl_listenerWith {w : Wd} {N : Nat → Int32} {P : MP} {b : Nat} (ht : BT w b) (hq : BQ P b) {n : Nat} (hn : n ≤ 6) (I : MI) (L : ML) (h3 : I b 3 = nI n) (hs : LiS N b n I) (a : Int32) : call 34 [.ref b, .int a] w I L P = some (.inl (some (.int (wFrom N a 0 n))), w, I, L, P) := by
  rw [Bus_listenerWith_E, Bus_listenerWith_0]
  simp only [kC_ret, Option.toList, List.cons_append, List.nil_append, fix1_int, fix1_ref, fix1_unk, fix1_null, fix1_long]
  exact cl_lW_loop ht hq hn I L h3 hs a n 0 (by omega) unk
/-- the listener that answers, or -1 -/
def ansN (N : Nat → Int32) (a : Int32) (n : Nat) : Int32 := if wFrom N a 0 n = -1 ∨ N (327 + 22 * Int32.toNatClampNeg (wFrom N a 0 n) + 4) = 0 then -1 else wFrom N a 0 n
def onOk (N : Nat → Int32) (n : Nat) : Prop := ∀ l, l < n → N (327 + 22 * l + 4) = nI 0 ∨ N (327 + 22 * l + 4) = nI 1
theorem cl_answererTo {w : Wd} {N : Nat → Int32} {P : MP} {b : Nat} (ht : BT w b) (hq : BQ P b) {n : Nat} (hn : n ≤ 6) (I : MI) (L : ML) (h3 : I b 3 = nI n) (hs : LiS N b n I) (hon : onOk N n) (a : Int32) : call 35 [.ref b, .int a] w I L P = some (.inl (some (.int (ansN N a n))), w, I, L, P) := by
  have t0 := ht.1
  rw [Bus_answererTo_E, Bus_answererTo_0 _ _ _ _ _ _ _ _ t0, cl_listenerWith ht hq hn I L h3 hs]
  simp only [kC_ret, Option.toList, List.cons_append, List.nil_append, fix1_int, fix1_ref, fix1_unk, fix1_null, fix1_long]
  rw [Bus_answererTo_5 _ _ _ _ _ _ _ _ _ t0]
  unfold ansN
  rcases wFrom_spec N a n 0 with h | ⟨t, _, h2, h4, _⟩
  · rw [h, cl_listenerAtN ht I L (Or.inl (by decide)), if_pos (Or.inl rfl)]
    simp only [kC_ret, Option.toList, List.cons_append, List.nil_append, fix1_int, fix1_ref, fix1_unk, fix1_null, fix1_long]
    rw [Bus_answererTo_11_0, Bus_answererTo_27, Bus_answererTo_28]
  · obtain ⟨m, hr⟩ := hs t (by omega)
    have tl := (ht.2.2.2.2.2.2 t (by omega)).1
    have hm1 : ¬ nI t = -1 := nI_nm1 (by omega)
    rw [h4, cl_nI (by omega), cl_listenerAt ht hq hn (by omega) I L h3]
    simp only [kC_ret, Option.toList, List.cons_append, List.nil_append, fix1_int, fix1_ref, fix1_unk, fix1_null, fix1_long]
    rw [Bus_answererTo_11_1, fix1_int, Bus_answererTo_16 _ _ _ _ _ _ _ _ tl, hr.2.2.2.1]
    rcases hon t (by omega) with e | e
    · rw [e, if_pos (by decide), if_pos (Or.inr (by decide)), Bus_answererTo_27, Bus_answererTo_28]
    · rw [e, if_neg (by decide), if_neg (by rintro (h | h); exact hm1 h; exact absurd h (by decide)), Bus_answererTo_23, Bus_answererTo_28]
theorem cl_lbyte {w : Wd} {N : Nat → Int32} {P : MP} {b l : Nat} (ht : BT w b) (hq : BQ P b) (hl : l < 6) (I : MI) (L : ML) {m p : Nat} (hr : LR N (327 + 22 * l) I (b + 28 + 2 * l) m) (hp : p < 2147483648) : call 17 [.ref (b + 28 + 2 * l), .int (nI p)] w I L P = some (.inl (some (.int (if m ≤ p then nI 255 else N (327 + 22 * l + (6 + p))))), w, I, L, P) := by
  have tl := ht.2.2.2.2.2.2 l hl
  have p5 := (hq.2.2.2.2.1 l hl).2
  obtain ⟨hm, _, _, _, _, h5, _, _, hb⟩ := hr
  rw [Listener_byteAt_E, Listener_byteAt_0, if_neg (nI_pos (by omega)), Listener_byteAt_4 _ _ _ _ _ _ tl.1, h5]
  by_cases h : m ≤ p
  · rw [if_pos (nI_le h (by omega)), if_pos h, Listener_byteAt_30, Listener_byteAt_33]
  · rw [if_neg (nI_ge (by omega) (by omega)), if_neg h, Listener_byteAt_12 _ _ _ _ _ _ tl.1, p5, rf_some, Listener_byteAt_17 _ _ _ _ _ _ _ _ (isAr_of tl.2), alen_of tl.2, if_neg (nI_ge (by omega) (by omega)), Listener_byteAt_21 _ _ _ _ _ _ tl.1, p5, rf_some, Listener_byteAt_25 _ _ _ _ _ _ _ (inA_nI tl.2 (by omega) (by omega)), cl_nI (by omega), Listener_byteAt_33]
    have := hb p (by omega)
    rw [show b + 28 + 2 * l + 1 = b + 29 + 2 * l from by omega] at this
    rw [this, show 327 + 22 * l + 6 + p = 327 + 22 * l + (6 + p) from by omega]
theorem cl_store {w : Wd} {N : Nat → Int32} {P : MP} {b l : Nat} (ht : BT w b) (hq : BQ P b) (hl : l < 6) (I : MI) (L : ML) {m : Nat} (hr : LR N (327 + 22 * l) I (b + 28 + 2 * l) m) (v : Int32) : call 18 [.ref (b + 28 + 2 * l), .int v] w I L P = some (if m = 16 then (.inl (some (.int (nI 0))), w, I, L, P) else (.inl (some (.int (nI 1))), w, wr (wr I (b + 29 + 2 * l) (sN (I (b + 29 + 2 * l)) m v)) (b + 28 + 2 * l) (sN (I (b + 28 + 2 * l)) 5 (nI (m + 1))), L, P)) := by
  have tl := ht.2.2.2.2.2.2 l hl
  have p5 := (hq.2.2.2.2.1 l hl).2
  obtain ⟨hm, _, _, _, _, h5, _, _, hb⟩ := hr
  rw [Listener_storeByte_E, Listener_storeByte_0 _ _ _ _ _ _ tl.1, h5, if_neg (nI_pos (by omega)), Listener_storeByte_7 _ _ _ _ _ _ tl.1, p5, rf_some, h5, Listener_storeByte_15 _ _ _ _ _ _ _ _ (isAr_of tl.2), alen_of tl.2]
  by_cases h : m = 16
  · rw [if_pos h, if_neg (nI_nlt (by omega) (by omega)), Listener_storeByte_19 _ _ _ _ _ _ b01]
  · rw [if_neg h, if_pos (nI_lt (by omega) (by omega)), Listener_storeByte_21 _ _ _ _ _ _ tl.1, p5, rf_some, Listener_storeByte_25 _ _ _ _ _ _ _ tl.1 (by rw [h5]; exact inA_nI tl.2 (by omega) (by omega)) b11, h5, cl_nI (by omega)]
    simp only [updI_wr, wr_ne _ _ (show b + 28 + 2 * l ≠ b + 29 + 2 * l by omega), h5, nI_add]
theorem cl_move {w : Wd} {P : MP} {a : Nat} (ht : w.1 a = some (2, 0)) (I : MI) (L : ML) : call 19 [.ref a] w I L P = some (.inl none, w, wr I a (sN (I a) 6 (if I a 6 + nI 1 < I a 5 then I a 6 + nI 1 else nI 0)), L, P) := by
  rw [Listener_movePointer_E, Listener_movePointer_0 _ _ _ _ _ ht, updI_wr, wr_same, sN_eq, sN_ne (show 5 ≠ 6 by omega)]
  split
  · rw [Listener_movePointer_26]
  · rw [Listener_movePointer_21 _ _ _ _ _ ht, Listener_movePointer_26, updI_wr, wr_wr, wr_same, sN_sN]
/-! the class: slots -/
def exB (R : Nat → Int32) (x : Int32) : Nat → Int32 := sN (sN (sN R 6 x) 10 (nI 0)) 11 (nI 0)
theorem cl_expectBits {w : Wd} {P : MP} {b : Nat} (ht : BT w b) (x : Int32) (I : MI) (L : ML) : call 46 [.ref b, .int x] w I L P = some (.inl none, w, wr I b (exB (I b) x), L, P) := by
  rw [Bus_expectBits_E, Bus_expectBits_0 _ _ _ _ _ _ ht.1]
  simp only [updI_wr, wr_wr, wr_same]
  rfl
def hoB (R : Nat → Int32) (h : Int32) : Nat → Int32 := if h ≤ 0 then exB (sN R 13 h) (nI 4) else sN (sN R 13 h) 6 (nI 6)
theorem cl_holdLine {w : Wd} {N : Nat → Int32} {P : MP} {b : Nat} (ht : BT w b) (hq : BQ P b) {n t : Nat} (hn : n ≤ 6) (hl : t < n) (I : MI) (L : ML) (h3 : I b 3 = nI n) (h8 : I b 8 = nI t) (hs : I (b + 28 + 2 * t) 1 = N (327 + 22 * t + 1)) : call 60 [.ref b] w I L P = some (.inl none, w, wr I b (hoB (I b) (N (327 + 22 * t + 1))), L, P) := by
  have t0 := ht.1
  have tl := (ht.2.2.2.2.2.2 t (by omega)).1
  rw [Bus_holdLine_E, Bus_holdLine_0 _ _ _ _ _ _ t0, h8, cl_listenerAt ht hq hn hl I L h3]
  simp only [kC_ret, Option.toList, List.cons_append, List.nil_append, fix1_int, fix1_ref, fix1_unk, fix1_null, fix1_long]
  rw [Bus_holdLine_8_3, Bus_holdLine_18 _ _ _ _ _ _ _ tl, hs, Bus_holdLine_22 _ _ _ _ _ _ _ _ t0 t0, updI_wr, wr_same, sN_eq]
  unfold hoB
  split
  · rw [Bus_holdLine_41 _ _ _ _ _ _ t0, cl_expectBits ht]
    simp only [kC_ret, Option.toList, List.cons_append, List.nil_append, fix1_int, fix1_ref, fix1_unk, fix1_null, fix1_long]
    rw [Bus_holdLine_46, wr_wr, wr_same]
  · rw [Bus_holdLine_32 _ _ _ _ _ _ t0, Bus_holdLine_46, updI_wr, wr_wr, wr_same]
def hsB (R : Nat → Int32) : Nat → Int32 := if 0 < R 13 - nI 1 then sN R 13 (R 13 - nI 1) else exB (sN R 13 (R 13 - nI 1)) (nI 4)
theorem cl_holdSlot {w : Wd} {P : MP} {b : Nat} (ht : BT w b) (hq : BQ P b) {n t : Nat} (hn : n ≤ 6) (hl : t < n) (I : MI) (L : ML) (h3 : I b 3 = nI n) (h8 : I b 8 = nI t) : call 61 [.ref b] w I L P = some (.inl (some (.int (nI 0))), w, wr (wr I (b + 28 + 2 * t) (sN (I (b + 28 + 2 * t)) 3 (I (b + 28 + 2 * t) 3 + nI 1))) b (hsB (I b)), L, P) := by
  have t0 := ht.1
  have tl := (ht.2.2.2.2.2.2 t (by omega)).1
  rw [Bus_holdSlot_E, Bus_holdSlot_0 _ _ _ _ _ _ t0, h8, cl_listenerAt ht hq hn hl I L h3]
  simp only [kC_ret, Option.toList, List.cons_append, List.nil_append, fix1_int, fix1_ref, fix1_unk, fix1_null, fix1_long]
  rw [Bus_holdSlot_8_1, fix1_ref, Bus_holdSlot_13 _ _ _ _ _ _ tl, updI_wr, Bus_holdSlot_23 _ _ _ _ _ _ t0]
  simp only [updI_wr, wr_ne _ _ (show b ≠ b + 28 + 2 * t by omega), wr_same, sN_eq]
  unfold hsB
  split
  · rw [Bus_holdSlot_45]
  · rw [Bus_holdSlot_40 _ _ _ _ _ _ t0, cl_expectBits ht]
    simp only [kC_ret, Option.toList, List.cons_append, List.nil_append, fix1_int, fix1_ref, fix1_unk, fix1_null, fix1_long]
    rw [Bus_holdSlot_45, wr_wr, wr_same]
theorem cl_keep {w : Wd} {P : MP} {b q : Nat} (ht : BT w b) (hq : BQ P b) (hq2 : q < 2147483648) (I : MI) (L : ML) (h0 : I (b + 3) 0 = nI q) (kind level cont : Int32) : call 24 [.ref (b + 3), .int kind, .int level, .int cont] w I L P = some (.inl none, w, wr (wr (wr (wr I (b + 4) (sN (I (b + 4)) (q % 64) level)) (b + 5) (sN (I (b + 5)) (q % 64) cont)) (b + 6) (sN (I (b + 6)) (q % 64) kind)) (b + 3) (sN (sN (sN (I (b + 3)) 0 (nI (q + 1))) 1 (I (b + 3) 1 + (if kind = 0 then nI 0 else nI 1))) 2 (I (b + 3) 2 + (if kind = nI 6 then nI 1 else nI 0))), L, P) := by
  obtain ⟨t0, _, _, t3, ⟨t4, t5, t6⟩, _, _⟩ := ht
  obtain ⟨_, _, _, _, _, p3, p4, p5⟩ := hq
  have hr : q % 64 < 64 := Nat.mod_lt _ (by omega)
  have ha : nI q &&& nI 63 = nI (q % 64) := pk_andN (by omega) 6 (by decide)
  rw [Log_keep_E, Log_keep_0 _ _ _ _ _ _ _ _ _ t3, h0, ha, p3, rf_some]
  simp only [kC_ret, Option.toList, List.cons_append, List.nil_append, fix1_int, fix1_ref, fix1_unk, fix1_null, fix1_long]
  rw [Log_keep_13 _ _ _ _ _ _ _ _ _ _ (inA_nI t4 hr (by omega)) t3, p4, rf_some, Log_keep_21 _ _ _ _ _ _ _ _ _ _ (inA_nI t5 hr (by omega)) t3, p5, rf_some, Log_keep_29 _ _ _ _ _ _ _ _ _ _ (inA_nI t6 hr (by omega)) t3, cl_nI (by omega)]
  simp only [updI_wr, wr_ne _ _ (show b + 3 ≠ b + 4 by omega), wr_ne _ _ (show b + 3 ≠ b + 5 by omega), wr_ne _ _ (show b + 3 ≠ b + 6 by omega), wr_ne _ _ (show b + 5 ≠ b + 4 by omega), wr_ne _ _ (show b + 6 ≠ b + 4 by omega), wr_ne _ _ (show b + 6 ≠ b + 5 by omega), wr_same, h0, nI_add]
  have z : ∀ x : Int32, x + nI 0 = x := by intro x; rw [nI_0]; exact Int32.add_zero x
  by_cases hk : kind = 0
  · subst hk
    rw [if_pos rfl, if_pos rfl, if_neg (show ¬ (0 : Int32) = nI 6 by decide), Log_keep_57, if_pos (by decide), Log_keep_73, z, z]
    congr 5
    funext j
    unfold sN
    by_cases h2 : j = 2
    · subst h2; simp
    · by_cases h1 : j = 1
      · subst h1; simp
      · simp [h1, h2]
  · rw [if_neg hk, if_neg hk, Log_keep_47 _ _ _ _ _ _ _ _ _ t3, Log_keep_57]
    by_cases h6 : kind = nI 6
    · subst h6
      rw [if_neg (by simp), if_pos rfl, Log_keep_63 _ _ _ _ _ _ _ _ _ t3, Log_keep_73]
      simp only [updI_wr, wr_wr, wr_same, sN_ne (show 1 ≠ 0 by omega), sN_ne (show 2 ≠ 1 by omega), sN_ne (show 2 ≠ 0 by omega)]
    · rw [if_pos h6, if_neg h6, Log_keep_73, z]
      simp only [updI_wr, wr_wr, wr_same, sN_ne (show 1 ≠ 0 by omega)]
      congr 5
      funext j
      unfold sN
      by_cases h2 : j = 2
      · subst h2; simp
      · simp [h2]
/-! what the class's sets and the model's conditions have to do with each other -/
theorem bitv (N : Nat → Int32) (h : Int32) (c : Nat) : sbt N h c = nI 0 ∨ sbt N h c = nI 1 := by
  unfold sbt
  obtain ⟨j, hj, e⟩ := pk_andE (snt N h c >>> ((nI 7 - N 6) &&& 31)) (m := nI 1) 1 (by decide)
  rw [e]
  rcases (show j = 0 ∨ j = 1 by omega) with rfl | rfl
  · exact Or.inl rfl
  · exact Or.inr rfl
theorem ones1_no {N : Nat → Int32} {h o : Int32} {c : Nat} (hn : ¬ conB N (nI c)) : ones1 N h o c = o := by
  unfold ones1; rw [if_neg (fun q => hn q.1)]
theorem onesK_3 {N : Nat → Int32} {h : Int32} {k : Nat} (hk0 : 0 < k) (hk : k ≤ 3) (hco : ∀ c, c < 3 → conB N (nI c) → c < k) : onesK N h k = onesK N h 3 := by
  unfold onesK
  rcases (show k = 1 ∨ k = 2 ∨ k = 3 by omega) with rfl | rfl | rfl
  · simp only [if_true, show ¬ (3 = 1) by decide, show ¬ (3 = 2) by decide, if_false]
    rw [ones1_no (c := 2) (fun q => absurd (hco 2 (by omega) q) (by omega)), ones1_no (c := 1) (fun q => absurd (hco 1 (by omega) q) (by omega))]
  · simp only [if_true, show ¬ (2 = 1) by decide, show ¬ (3 = 1) by decide, show ¬ (3 = 2) by decide, if_false]
    rw [ones1_no (c := 2) (fun q => absurd (hco 2 (by omega) q) (by omega))]
  · rfl
/-- a set out of three flags -/
def set3 (p q r : Bool) : Int32 := nI ((if p then 1 else 0) + (if q then 2 else 0) + (if r then 4 else 0))
theorem set3_bit : ∀ p q r : Bool, (conB' (set3 p q r) (nI 0) ↔ p = true) ∧ (conB' (set3 p q r) (nI 1) ↔ q = true) ∧ (conB' (set3 p q r) (nI 2) ↔ r = true) := by decide +kernel
theorem set3_of : ∀ s, s < 8 → nI s = set3 (decide (conB' (nI s) (nI 0))) (decide (conB' (nI s) (nI 1))) (decide (conB' (nI s) (nI 2))) := by decide +kernel
theorem set3_or : ∀ p q r : Bool, (if r = true then (if q = true then (if p = true then nI 0 ||| (nI 1 <<< (nI 0 &&& 31)) else nI 0) ||| (nI 1 <<< (nI 1 &&& 31)) else (if p = true then nI 0 ||| (nI 1 <<< (nI 0 &&& 31)) else nI 0)) ||| (nI 1 <<< (nI 2 &&& 31)) else (if q = true then (if p = true then nI 0 ||| (nI 1 <<< (nI 0 &&& 31)) else nI 0) ||| (nI 1 <<< (nI 1 &&& 31)) else (if p = true then nI 0 ||| (nI 1 <<< (nI 0 &&& 31)) else nI 0))) = set3 p q r := by decide +kernel
theorem set3_inj : ∀ p q r p' q' r' : Bool, set3 p q r = set3 p' q' r' → p = p' ∧ q = q' ∧ r = r' := by decide +kernel
theorem set3_diff : ∀ p q r p' q' r' : Bool, set3 p q r &&& (set3 p' q' r' ^^^ (-1)) = set3 (p && !p') (q && !q') (r && !r') := by decide +kernel
theorem set3_clr0 : ∀ p q r : Bool, set3 p q r &&& ((nI 1 <<< (nI 0 &&& 31)) ^^^ (-1)) = set3 false q r := by decide +kernel
theorem set3_clr1 : ∀ p q r : Bool, set3 p q r &&& ((nI 1 <<< (nI 1 &&& 31)) ^^^ (-1)) = set3 p false r := by decide +kernel
theorem set3_clr2 : ∀ p q r : Bool, set3 p q r &&& ((nI 1 <<< (nI 2 &&& 31)) ^^^ (-1)) = set3 p q false := by decide +kernel
theorem onesK_set (N : Nat → Int32) (h : Int32) : onesK N h 3 = set3 (decide (conB N (nI 0) ∧ sbt N h 0 = nI 1)) (decide (conB N (nI 1) ∧ sbt N h 1 = nI 1)) (decide (conB N (nI 2) ∧ sbt N h 2 = nI 1)) := by
  rw [← set3_or]
  unfold onesK ones1
  simp only [decide_eq_true_eq, show ¬ (3 = 1) by decide, show ¬ (3 = 2) by decide, if_false]
theorem and01 : nI 0 &&& nI 0 = nI 0 ∧ nI 0 &&& nI 1 = nI 0 ∧ nI 1 &&& nI 0 = nI 0 ∧ nI 1 &&& nI 1 = nI 1 := by decide
theorem z1 : ¬ nI 0 = nI 1 := by decide
theorem lvl_aux (p0 p1 p2 : Prop) [Decidable p0] [Decidable p1] [Decidable p2] (x0 x1 x2 : Int32) (b0 : x0 = nI 0 ∨ x0 = nI 1) (b1 : x1 = nI 0 ∨ x1 = nI 1) (b2 : x2 = nI 0 ∨ x2 = nI 1) : (((nI 1 &&& (if p0 then x0 else nI 1)) &&& (if p1 then x1 else nI 1)) &&& (if p2 then x2 else nI 1)) = (if (p0 → x0 = nI 1) ∧ (p1 → x1 = nI 1) ∧ (p2 → x2 = nI 1) then nI 1 else nI 0) := by
  obtain ⟨a0, a1, a2, a3⟩ := and01
  rcases b0 with rfl | rfl <;> rcases b1 with rfl | rfl <;> rcases b2 with rfl | rfl <;> by_cases c0 : p0 <;> by_cases c1 : p1 <;> by_cases c2 : p2 <;> simp only [c0, c1, c2, a0, a1, a2, a3, z1, if_true, if_false, true_implies, false_implies, and_true, and_false, true_and, false_and, and_self, implies_true]
/-- the level is 1 just when every contender sends 1 -/
theorem lvl_1 (N : Nat → Int32) (h : Int32) : lvl N h = (if (conB N (nI 0) → sbt N h 0 = nI 1) ∧ (conB N (nI 1) → sbt N h 1 = nI 1) ∧ (conB N (nI 2) → sbt N h 2 = nI 1) then nI 1 else nI 0) := by
  unfold lvl lvl1
  exact lvl_aux _ _ _ _ _ _ (bitv N h 0) (bitv N h 1) (bitv N h 2)
theorem ones_lvl {N : Nat → Int32} {h : Int32} {k s : Nat} (hk0 : 0 < k) (hk : k ≤ 3) (hco : ∀ c, c < 3 → conB N (nI c) → c < k) (hs : s < 8) (h5 : N 5 = nI s) : onesK N h k = N 5 ↔ lvl N h = nI 1 := by
  rw [onesK_3 hk0 hk hco, onesK_set, lvl_1]
  have e : N 5 = set3 (decide (conB N (nI 0))) (decide (conB N (nI 1))) (decide (conB N (nI 2))) := by
    have := set3_of s hs
    rw [← h5] at this
    exact this
  constructor
  · intro he
    obtain ⟨e0, e1, e2⟩ := set3_inj _ _ _ _ _ _ (he.trans e)
    simp only [decide_eq_decide, and_iff_left_iff_imp] at e0 e1 e2
    rw [if_pos ⟨e0, e1, e2⟩]
  · intro he
    by_cases hh : (conB N (nI 0) → sbt N h 0 = nI 1) ∧ (conB N (nI 1) → sbt N h 1 = nI 1) ∧ (conB N (nI 2) → sbt N h 2 = nI 1)
    · obtain ⟨e0, e1, e2⟩ := hh
      refine Eq.trans ?_ e.symm
      congr 1 <;> simp only [decide_eq_decide, and_iff_left_iff_imp] <;> assumption
    · rw [if_neg hh] at he; exact absurd he z1
theorem clr_bit : ∀ s, s < 8 → ∀ c, c < 3 → ∀ c', c' < 3 → c ≠ c' → (conB' (nI s &&& ((nI 1 <<< (nI c &&& 31)) ^^^ (-1))) (nI c') ↔ conB' (nI s) (nI c')) := by decide +kernel
theorem clr_lt : ∀ s, s < 8 → ∀ c, c < 3 → ∃ s', s' < 8 ∧ nI s &&& ((nI 1 <<< (nI c &&& 31)) ^^^ (-1)) = nI s' := by decide +kernel
def S8 (N : Nat → Int32) : Prop := ∃ s, s < 8 ∧ N 5 = nI s
theorem S8_loses {N : Nat → Int32} {c : Nat} (hc : c < 3) (h : S8 N) : S8 (losesN N c) := by
  obtain ⟨s, hs, h5⟩ := h
  obtain ⟨s', hs', e⟩ := clr_lt s hs c hc
  exact ⟨s', hs', by rw [losesN_5, h5, e]⟩
theorem con_loses {N : Nat → Int32} {c c' : Nat} (hc : c < 3) (hc' : c' < 3) (hn : c ≠ c') (h : S8 N) : conB (losesN N c) (nI c') ↔ conB N (nI c') := by
  obtain ⟨s, hs, h5⟩ := h
  unfold conB
  rw [losesN_5, h5]
  exact clr_bit s hs c hc c' hc' hn
theorem sbt_loses {N : Nat → Int32} {c c' : Nat} {h : Int32} (hc : c < 3) (hc' : c' < 3) (hn : c ≠ c') (hd : h = 0 → dnOk N) : sbt (losesN N c) h c' = sbt N h c' := by
  unfold sbt snt hdr
  rw [losesN_out (k := 7) (by omega) (by omega), losesN_out (k := 6) (by omega) (by omega), losesN_out (k := 215 + 40 * c') (by omega) (by omega), losesN_out (k := 216 + 40 * c') (by omega) (by omega)]
  by_cases hh : h = 0
  · obtain ⟨dn, hdn, e⟩ := hd hh
    rw [if_pos hh, if_pos hh, e, cl_nI (by omega), losesN_out (by omega) (by omega)]
  · rw [if_neg hh, if_neg hh]
theorem dnOk_lo {N : Nat → Int32} {o : Int32} {c : Nat} (hd : dnOk N) : dnOk (lo1 N o c) := by
  obtain ⟨dn, hdn, e⟩ := hd
  exact ⟨dn, hdn, by rw [lo1_out (by omega) (by omega)]; exact e⟩
theorem lo1_facts {N : Nat → Int32} {o h : Int32} {c c' : Nat} (hc : c < 3) (hc' : c' < 3) (hn : c ≠ c') (h8 : S8 N) (hd : h = 0 → dnOk N) : (conB (lo1 N o c) (nI c') ↔ conB N (nI c')) ∧ sbt (lo1 N o c) h c' = sbt N h c' ∧ S8 (lo1 N o c) ∧ (h = 0 → dnOk (lo1 N o c)) := by
  refine ⟨?_, ?_, ?_, fun q => dnOk_lo (hd q)⟩
  · unfold lo1; split
    · exact con_loses hc hc' hn h8
    · exact Iff.rfl
  · unfold lo1; split
    · exact sbt_loses hc hc' hn hd
    · rfl
  · unfold lo1; split
    · exact S8_loses hc h8
    · exact h8
theorem loseIf_lo1 {N M : Nat → Int32} {h o : Int32} {c : Nat} (e1 : conB M (nI c) ↔ conB N (nI c)) (e2 : sbt M h c = sbt N h c) (eo : conB' o (nI c) ↔ (conB N (nI c) ∧ sbt N h c = nI 1)) : loseIf M h (nI 0) c = lo1 M o c := by
  unfold loseIf lo1
  have : (conB M (nI c) ∧ sbt M h c ≠ nI 0) ↔ conB' o (nI c) := by
    rw [eo, e1, e2]
    rcases bitv N h c with b | b <;> rw [b]
    · simp only [ne_eq, not_true_eq_false, and_false, z1]
    · simp only [ne_eq, show ¬ nI 1 = nI 0 by decide, not_false_eq_true, and_true]
  by_cases q : conB' o (nI c)
  · rw [if_pos (this.mpr q), if_pos q]
  · rw [if_neg (fun z => q (this.mp z)), if_neg q]
/-- the model's losers are the class's ones -/
theorem loseAll_lo {N : Nat → Int32} {h : Int32} (h8 : S8 N) (hd : h = 0 → dnOk N) : loseAll N h (nI 0) = loK N (onesK N h 3) 3 := by
  have hb := set3_bit (decide (conB N (nI 0) ∧ sbt N h 0 = nI 1)) (decide (conB N (nI 1) ∧ sbt N h 1 = nI 1)) (decide (conB N (nI 2) ∧ sbt N h 2 = nI 1))
  rw [← onesK_set N h] at hb
  simp only [decide_eq_true_eq] at hb
  obtain ⟨o0, o1, o2⟩ := hb
  generalize onesK N h 3 = o at *
  unfold loseAll loK
  simp only [show ¬ (3 = 1) by decide, show ¬ (3 = 2) by decide, if_false]
  rw [loseIf_lo1 Iff.rfl rfl o0]
  obtain ⟨a1, a2, a3, a4⟩ := lo1_facts (o := o) (c := 0) (c' := 1) (h := h) (by omega) (by omega) (by omega) h8 hd
  obtain ⟨b1, b2, _, _⟩ := lo1_facts (o := o) (c := 0) (c' := 2) (h := h) (by omega) (by omega) (by omega) h8 hd
  rw [loseIf_lo1 a1 a2 o1]
  obtain ⟨c1, c2, _, _⟩ := lo1_facts (N := lo1 N o 0) (o := o) (c := 1) (c' := 2) (h := h) (by omega) (by omega) (by omega) a3 a4
  rw [loseIf_lo1 (c1.trans b1) (c2.trans b2) o2]
theorem loseAll_1 {N : Nat → Int32} {h : Int32} (hl : lvl N h = nI 1) : loseAll N h (nI 1) = N := by
  rw [lvl_1] at hl
  by_cases hh : (conB N (nI 0) → sbt N h 0 = nI 1) ∧ (conB N (nI 1) → sbt N h 1 = nI 1) ∧ (conB N (nI 2) → sbt N h 2 = nI 1)
  · obtain ⟨e0, e1, e2⟩ := hh
    unfold loseAll
    have s0 : loseIf N h (nI 1) 0 = N := by unfold loseIf; rw [if_neg (fun q => q.2 (e0 q.1))]
    have s1 : loseIf N h (nI 1) 1 = N := by unfold loseIf; rw [if_neg (fun q => q.2 (e1 q.1))]
    have s2 : loseIf N h (nI 1) 2 = N := by unfold loseIf; rw [if_neg (fun q => q.2 (e2 q.1))]
    rw [s0, s1, s2]
  · rw [if_neg hh] at hl; exact absurd hl z1
theorem loK_5 {N : Nat → Int32} (h8 : S8 N) (p q r : Bool) : loK N (set3 p q r) 3 5 = N 5 &&& (set3 p q r ^^^ (-1)) := by
  obtain ⟨s, hs, h5⟩ := h8
  have hb := set3_bit p q r
  rw [h5, set3_of s hs, set3_diff]
  unfold loK lo1
  simp only [show ¬ (3 = 1) by decide, show ¬ (3 = 2) by decide, if_false, hb.1, hb.2.1, hb.2.2]
  generalize e0 : decide (conB' (nI s) (nI 0)) = x0
  generalize e1 : decide (conB' (nI s) (nI 1)) = x1
  generalize e2 : decide (conB' (nI s) (nI 2)) = x2
  have h5' : N 5 = set3 x0 x1 x2 := by rw [h5, set3_of s hs, e0, e1, e2]
  cases p <;> cases q <;> cases r <;> simp only [if_true, if_false, losesN_5, h5', set3_clr0, set3_clr1, set3_clr2, Bool.not_true, Bool.not_false, Bool.and_true, Bool.and_false, Bool.false_eq_true]
theorem cl_receive {w : Wd} {P : MP} {a : Nat} (ht : CT w a) (v : Int32) (I : MI) (L : ML) : call 12 [.ref a, .int v] w I L P = some (.inl none, w, wr I a (sN (sN (I a) 4 (I a 4 + nI 1)) 5 v), L, P) := by
  rw [Caller_receiveByte_E, Caller_receiveByte_0 _ _ _ _ _ _ ht.1]
  simp only [updI_wr, wr_wr, wr_same]
theorem CR_rc {N : Nat → Int32} {c : Nat} {I : MI} {L : ML} {P : MP} {a : Nat} {q : Nat → Nat} {s : Nat} {v : Int32} (h : CR N (207 + 40 * c) I L P a q s) (hv : v = N 13) : CR (sN (sN N (213 + 40 * c) (N (213 + 40 * c) + nI 1)) (214 + 40 * c) (N 13)) (207 + 40 * c) (wr I a (sN (sN (I a) 4 (I a 4 + nI 1)) 5 v)) L P a q s := by
  obtain ⟨hc, h1, h2, h3, h4, h5, h6, h7, h8⟩ := h
  refine ⟨hc, h1, ?_, ?_, ?_, ?_, ?_, ?_, ?_⟩
  · rw [sN_ne (by omega), sN_ne (by omega)]; exact h2
  · rw [wr_same, sN_ne (by omega), sN_ne (by omega)]; exact h3
  · intro k hk hk5
    rw [wr_ne _ _ (by omega), sN_ne (by omega), sN_ne (by omega)]; exact h4 k hk hk5
  · rw [wr_same, sN_ne (by omega), sN_ne (by omega), sN_ne (by omega), sN_ne (by omega)]; exact h5
  · rw [wr_same, sN_ne (by omega), sN_eq, sN_ne (by omega), show 207 + 40 * c + 6 = 213 + 40 * c from by omega, sN_eq, h6, show 207 + 40 * c + 6 = 213 + 40 * c from by omega]
  · rw [wr_same, sN_eq, show 207 + 40 * c + 7 = 214 + 40 * c from by omega, sN_eq]; exact hv
  · intro i hi
    refine MR_N (MR_I (h8 i hi) ?_ rfl) ?_
    · rw [wr_ne _ _ (by omega)]
    · intro k hk1 hk2
      rw [sN_ne (by omega), sN_ne (by omega)]
theorem rc1_out {M : Nat → Int32} {c k : Nat} (h : k < 207 + 40 * c ∨ 247 + 40 * c ≤ k) : rc1 M c k = M k := by
  unfold rc1; split
  · rw [sN_ne (by omega), sN_ne (by omega)]
  · rfl
theorem cl_recv_1 {w : Wd} {M : Nat → Int32} {P : MP} {b : Nat} (ht : BT w b) (hq : BQ P b) {k c : Nat} (hk : k ≤ 3) (hc : c < k) (I : MI) (L : ML) (h1 : I b 1 = nI k) (h7 : I b 7 = M 5) (h11 : I b 11 = M 13) (hs : CS M b I L P) (x : Nat) (v : Value) : ∃ v' J, go 53 19 [.ref b, .ref x, .int (nI c), v] [] w I L P = go 53 19 [.ref b, .ref x, .int (nI (c + 1)), v'] [] w J L P ∧ CS (rc1 M c) b J L P ∧ Fr (b + 7) (b + 28) I J L L P P := by
  have t0 := ht.1
  have tc := ht.2.2.2.2.2.1 c (by omega)
  rw [Bus_receiveLevels_19 _ _ _ _ _ _ _ _ t0, h1, if_neg (nI_ge hc (by omega)), Bus_receiveLevels_27 _ _ _ _ _ _ _ _ t0, cl_callerAt ht hq hk hc I L h1]
  simp only [kC_ret, Option.toList, List.cons_append, List.nil_append, fix1_int, fix1_ref, fix1_unk, fix1_null, fix1_long]
  rw [Bus_receiveLevels_32_1, fix1_int, Bus_receiveLevels_37 _ _ _ _ _ _ _ _ t0, cl_contends ht, h7]
  simp only [kC_ret, Option.toList, List.cons_append, List.nil_append, fix1_int, fix1_ref, fix1_unk, fix1_null, fix1_long]
  rw [Bus_receiveLevels_42]
  unfold rc1
  by_cases hcon : conB M (nI c)
  · obtain ⟨q, s, hr⟩ := hs c (by omega)
    have f : Fr (b + 7 + 7 * c) (b + 7 + 7 * c + 7) I (wr I (b + 7 + 7 * c) (sN (sN (I (b + 7 + 7 * c)) 4 (I (b + 7 + 7 * c) 4 + nI 1)) 5 (I b 11))) L L P P := by
      intro y hy
      exact ⟨by rw [wr_ne _ _ (by omega)], rfl, rfl⟩
    rw [if_pos (show conB' (M 5) (nI c) from hcon), if_neg n10, Bus_receiveLevels_45 _ _ _ _ _ _ _ _ t0 tc.1, cl_receive tc]
    simp only [kC_ret, Option.toList, List.cons_append, List.nil_append, fix1_int, fix1_ref, fix1_unk, fix1_null, fix1_long]
    rw [Bus_receiveLevels_53, fix1_ref, nI_add, if_pos hcon]
    exact ⟨_, _, rfl, CS_set (by omega) hs f (fun k h1 h2 h3 => by rw [sN_ne (by omega), sN_ne (by omega)]) ⟨q, s, CR_rc hr h11⟩, Fr_caller (by omega) f⟩
  · rw [if_neg (show ¬ conB' (M 5) (nI c) from hcon), if_pos n00, Bus_receiveLevels_53, fix1_ref, nI_add, if_neg hcon]
    exact ⟨_, I, rfl, hs, Fr_refl⟩
def rcK (N : Nat → Int32) (k : Nat) : Nat → Int32 := if k = 1 then rc1 N 0 else if k = 2 then rc1 (rc1 N 0) 1 else rc1 (rc1 (rc1 N 0) 1) 2
theorem cl_recv {w : Wd} {N : Nat → Int32} {P : MP} {b : Nat} (ht : BT w b) (hq : BQ P b) {k : Nat} (hk0 : 0 < k) (hk : k ≤ 3) (I : MI) (L : ML) (h1 : I b 1 = nI k) (h7 : I b 7 = N 5) (h11 : I b 11 = N 13) (hs : CS N b I L P) (x : Nat) (v : Value) : ∃ J, go 53 19 [.ref b, .ref x, .int (nI 0), v] [] w I L P = some (.inl none, w, J, L, P) ∧ CS (rcK N k) b J L P ∧ Fr (b + 7) (b + 28) I J L L P P := by
  have t0 := ht.1
  have fin : ∀ v J, J b 1 = nI k → go 53 19 [.ref b, .ref x, .int (nI k), v] [] w J L P = some (.inl none, w, J, L, P) := by
    intro v J hJ
    rw [Bus_receiveLevels_19 _ _ _ _ _ _ _ _ t0, hJ, if_pos (nI_le (Nat.le_refl k) (by omega)), Bus_receiveLevels_59]
  obtain ⟨v1, J1, e1, c1, f1⟩ := cl_recv_1 ht hq hk hk0 I L h1 h7 h11 hs x v
  have g1 : J1 b = I b := (f1 b (by omega)).1
  rw [e1]
  unfold rcK
  rcases (show k = 1 ∨ k = 2 ∨ k = 3 by omega) with rfl | rfl | rfl
  · rw [fin _ _ (by rw [g1]; exact h1)]
    exact ⟨J1, rfl, c1, f1⟩
  · obtain ⟨v2, J2, e2, c2, f2⟩ := cl_recv_1 ht hq hk (show 1 < 2 by omega) J1 L (by rw [g1]; exact h1) (by rw [g1, rc1_out (by omega)]; exact h7) (by rw [g1, rc1_out (by omega)]; exact h11) c1 x v1
    have g2 : J2 b = I b := ((f2 b (by omega)).1).trans g1
    rw [e2, fin _ _ (by rw [g2]; exact h1)]
    exact ⟨J2, rfl, c2, Fr_trans f1 f2⟩
  · obtain ⟨v2, J2, e2, c2, f2⟩ := cl_recv_1 ht hq hk (show 1 < 3 by omega) J1 L (by rw [g1]; exact h1) (by rw [g1, rc1_out (by omega)]; exact h7) (by rw [g1, rc1_out (by omega)]; exact h11) c1 x v1
    have g2 : J2 b = I b := ((f2 b (by omega)).1).trans g1
    obtain ⟨v3, J3, e3, c3, f3⟩ := cl_recv_1 ht hq hk (show 2 < 3 by omega) J2 L (by rw [g2]; exact h1) (by rw [g2, rc1_out (by omega), rc1_out (by omega)]; exact h7) (by rw [g2, rc1_out (by omega), rc1_out (by omega)]; exact h11) c2 x v2
    have g3 : J3 b = I b := ((f3 b (by omega)).1).trans g2
    rw [e2, e3, fin _ _ (by rw [g3]; exact h1)]
    exact ⟨J3, rfl, c3, Fr_trans (Fr_trans f1 f2) f3⟩
theorem cl_readBit {w : Wd} {N : Nat → Int32} {P : MP} {b : Nat} (ht : BT w b) (hq : BQ P b) {n t m p : Nat} (hn : n ≤ 6) (hl : t < n) (hp : p < 16) (I : MI) (L : ML) (h3 : I b 3 = nI n) (h8 : I b 8 = nI t) (h10 : I b 10 = N 6) (hr : LR N (327 + 22 * t) I (b + 28 + 2 * t) m) (hpp : N (327 + 22 * t + 3) = nI p) (h0 : m = 0 ∨ p < m) : call 50 [.ref b] w I L P = some (.inl (some (.int (rbV N t m))), w, I, L, P) := by
  have t0 := ht.1
  have tl := (ht.2.2.2.2.2.2 t (by omega)).1
  have hr' := hr
  obtain ⟨hm, _, _, _, _, h5, _, h6, _⟩ := hr'
  rw [hpp] at h6
  rw [Bus_readBit_E, Bus_readBit_0 _ _ _ _ _ _ _ t0, h8, cl_listenerAt ht hq hn hl I L h3]
  simp only [kC_ret, Option.toList, List.cons_append, List.nil_append, fix1_int, fix1_ref, fix1_unk, fix1_null, fix1_long]
  rw [Bus_readBit_8_1, fix1_ref, Bus_readBit_19 _ _ _ _ _ _ _ tl, h6, cl_lbyte ht hq (show t < 6 by omega) I L hr (show p < 2147483648 by omega)]
  simp only [kC_ret, Option.toList, List.cons_append, List.nil_append, fix1_int, fix1_ref, fix1_unk, fix1_null, fix1_long]
  rw [Bus_readBit_27 _ _ _ _ _ _ _ _ t0, h10]
  unfold rbV rbB
  rcases h0 with e | e
  · rw [if_pos (by omega), if_pos e]
  · rw [if_neg (by omega), if_neg (by omega), hpp, cl_nI (by omega)]
theorem cl_stop {w : Wd} {P : MP} {b : Nat} (ht : BT w b) (I : MI) (L : ML) : call 62 [.ref b] w I L P = some (.inl none, w, wr I b (sN (sN (I b) 8 (-1)) 6 (nI 0)), L, P) := by
  rw [Bus_stopTransfer_E, Bus_stopTransfer_0 _ _ _ _ _ ht.1]
  simp only [updI_wr, wr_wr, wr_same]
theorem cl_start {w : Wd} {N : Nat → Int32} {P : MP} {b : Nat} (ht : BT w b) (hq : BQ P b) {k : Nat} (hk0 : 0 < k) (hk : k ≤ 3) (I : MI) (L : ML) (h1 : I b 1 = nI k) (hs : CS N b I L P) : call 45 [.ref b] w I L P = some (.inl (some (.int (nI 0))), w, wr I b (exB (sN (sN (I b) 7 (begS N k)) 12 (nI 0)) (nI 2)), L, P) := by
  have t0 := ht.1
  rw [Bus_startTransfer_E, Bus_startTransfer_0 _ _ _ _ _ t0, cl_cwm ht hq hk0 hk I L h1 hs]
  simp only [kC_ret, Option.toList, List.cons_append, List.nil_append, fix1_int, fix1_ref, fix1_unk, fix1_null, fix1_long]
  rw [Bus_startTransfer_5 _ _ _ _ _ _ _ t0 t0, cl_expectBits ht]
  simp only [kC_ret, Option.toList, List.cons_append, List.nil_append, fix1_int, fix1_ref, fix1_unk, fix1_null, fix1_long]
  rw [Bus_startTransfer_18]
  simp only [updI_wr, wr_wr, wr_same]
/-- a bit is taken -/
def tkB (R : Nat → Int32) (v : Int32) : Nat → Int32 := sN (sN R 11 (nI 2 * R 11 + v)) 10 (R 10 + nI 1)
theorem cl_takeBit0 {w : Wd} {P : MP} {b : Nat} (ht : BT w b) (v : Int32) (I : MI) (L : ML) : call 51 [.ref b, .int v] w I L P = if I b 10 + nI 1 ≠ nI 8 then some (.inl (some (.int v)), w, wr I b (tkB (I b) v), L, P) else go 51 31 [.ref b, .int v] [] w (wr I b (tkB (I b) v)) L P := by
  have t0 := ht.1
  rw [Bus_takeBit_E, Bus_takeBit_0 _ _ _ _ _ _ t0]
  simp only [updI_wr, wr_wr, wr_same, sN_eq, sN_ne (show 10 ≠ 11 by omega)]
  unfold tkB
  split
  · rw [Bus_takeBit_35]
  · rfl
/-- the end of a header -/
theorem cl_endBitsH {w : Wd} {P : MP} {b : Nat} (ht : BT w b) (I : MI) (L : ML) (h6 : I b 6 = nI 2) : call 52 [.ref b] w I L P = some (.inl none, w, wr I b (sN (I b) 6 (nI 3)), L, P) := by
  have t0 := ht.1
  rw [Bus_endBits_E, Bus_endBits_0 _ _ _ _ _ t0, h6, if_neg (by simp), Bus_endBits_8 _ _ _ _ _ t0, updI_wr]
/-- the end of a byte of a write -/
theorem cl_endBitsW {w : Wd} {P : MP} {b : Nat} (ht : BT w b) (I : MI) (L : ML) (h6 : I b 6 = nI 4) (h9 : I b 9 = nI 0) : call 52 [.ref b] w I L P = some (.inl none, w, wr I b (sN (sN (I b) 6 (nI 5)) 12 (I b 12 + nI 1)), L, P) := by
  have t0 := ht.1
  rw [Bus_endBits_E, Bus_endBits_0 _ _ _ _ _ t0, h6, if_pos (by decide), Bus_endBits_14 _ _ _ _ _ t0]
  simp only [updI_wr, wr_wr, wr_same, sN_ne (show 12 ≠ 6 by omega), sN_ne (show 9 ≠ 12 by omega), sN_ne (show 9 ≠ 6 by omega), h9]
  rw [if_pos (by decide), Bus_endBits_40]
theorem cl_takeBitH {w : Wd} {P : MP} {b : Nat} (ht : BT w b) (v : Int32) (I : MI) (L : ML) (h6 : I b 6 = nI 2) : call 51 [.ref b, .int v] w I L P = some (.inl (some (.int v)), w, wr I b (if I b 10 + nI 1 ≠ nI 8 then tkB (I b) v else sN (tkB (I b) v) 6 (nI 3)), L, P) := by
  have t0 := ht.1
  rw [cl_takeBit0 ht]
  split
  · rfl
  · rw [Bus_takeBit_31 _ _ _ _ _ _ t0, cl_endBitsH ht _ _ (by rw [wr_same]; unfold tkB; rw [sN_ne (by omega), sN_ne (by omega)]; exact h6)]
    simp only [kC_ret, Option.toList, List.cons_append, List.nil_append, fix1_int, fix1_ref, fix1_unk, fix1_null, fix1_long]
    rw [Bus_takeBit_35, wr_wr, wr_same]
theorem cl_takeBitW {w : Wd} {P : MP} {b : Nat} (ht : BT w b) (v : Int32) (I : MI) (L : ML) (h6 : I b 6 = nI 4) (h9 : I b 9 = nI 0) : call 51 [.ref b, .int v] w I L P = some (.inl (some (.int v)), w, wr I b (if I b 10 + nI 1 ≠ nI 8 then tkB (I b) v else sN (sN (tkB (I b) v) 6 (nI 5)) 12 (I b 12 + nI 1)), L, P) := by
  have t0 := ht.1
  rw [cl_takeBit0 ht]
  split
  · rfl
  · rw [Bus_takeBit_31 _ _ _ _ _ _ t0, cl_endBitsW ht _ _ (by rw [wr_same]; unfold tkB; rw [sN_ne (by omega), sN_ne (by omega)]; exact h6) (by rw [wr_same]; unfold tkB; rw [sN_ne (by omega), sN_ne (by omega)]; exact h9)]
    simp only [kC_ret, Option.toList, List.cons_append, List.nil_append, fix1_int, fix1_ref, fix1_unk, fix1_null, fix1_long]
    rw [Bus_takeBit_35, wr_wr, wr_same, show tkB (I b) v 12 = I b 12 from by unfold tkB; rw [sN_ne (by omega), sN_ne (by omega)]]
/-! the model's sets of all callers, and what each method of the class makes of them -/
theorem lo1_no {N : Nat → Int32} {o : Int32} {c : Nat} (h : ¬ conB' o (nI c)) : lo1 N o c = N := by unfold lo1; rw [if_neg h]
theorem loK_3 {N : Nat → Int32} {o : Int32} {k : Nat} (hk0 : 0 < k) (hk : k ≤ 3) (ho : ∀ c, c < 3 → conB' o (nI c) → c < k) : loK N o k = loK N o 3 := by
  unfold loK
  rcases (show k = 1 ∨ k = 2 ∨ k = 3 by omega) with rfl | rfl | rfl
  · simp only [if_true, show ¬ (3 = 1) by decide, show ¬ (3 = 2) by decide, if_false]
    rw [lo1_no (c := 2) (fun q => absurd (ho 2 (by omega) q) (by omega)), lo1_no (c := 1) (fun q => absurd (ho 1 (by omega) q) (by omega))]
  · simp only [if_true, show ¬ (2 = 1) by decide, show ¬ (3 = 1) by decide, show ¬ (3 = 2) by decide, if_false]
    rw [lo1_no (c := 2) (fun q => absurd (ho 2 (by omega) q) (by omega))]
  · rfl
theorem en1_no {N : Nat → Int32} {o : Int32} {as c : Nat} (h : ¬ conB' o (nI c)) : en1 N o as c = N := by unfold en1; rw [if_neg h]
theorem enK_3 {N : Nat → Int32} {o : Int32} {as k : Nat} (hk0 : 0 < k) (hk : k ≤ 3) (ho : ∀ c, c < 3 → conB' o (nI c) → c < k) : enK N o as k = enK N o as 3 := by
  unfold enK
  rcases (show k = 1 ∨ k = 2 ∨ k = 3 by omega) with rfl | rfl | rfl
  · simp only [if_true, show ¬ (3 = 1) by decide, show ¬ (3 = 2) by decide, if_false]
    rw [en1_no (c := 2) (fun q => absurd (ho 2 (by omega) q) (by omega)), en1_no (c := 1) (fun q => absurd (ho 1 (by omega) q) (by omega))]
  · simp only [if_true, show ¬ (2 = 1) by decide, show ¬ (3 = 1) by decide, show ¬ (3 = 2) by decide, if_false]
    rw [en1_no (c := 2) (fun q => absurd (ho 2 (by omega) q) (by omega))]
  · rfl
theorem rc1_no {N : Nat → Int32} {c : Nat} (h : ¬ conB N (nI c)) : rc1 N c = N := by unfold rc1; rw [if_neg h]
theorem con_en1 {N : Nat → Int32} {o x : Int32} {as c : Nat} (has : as < 5) : conB (en1 N o as c) x ↔ conB N x := by
  unfold conB; rw [en1_out has (by omega)]
theorem lvIf_en1 {M N : Nat → Int32} {as c : Nat} (e : conB M (nI c) ↔ conB N (nI c)) : lvIf M c as = en1 M (N 5) as c := by
  unfold lvIf en1
  by_cases q : conB M (nI c)
  · rw [if_pos q, if_pos (show conB' (N 5) (nI c) from e.mp q)]
  · rw [if_neg q, if_neg (show ¬ conB' (N 5) (nI c) from fun z => q (e.mpr z))]
/-- all leave: the class ends the messages of all contenders -/
theorem allLeave_en {N : Nat → Int32} {as : Nat} (has : as < 5) : allLeaveN N as = sN (sN (enK N (N 5) as 3) 5 (nI 0)) 4 (nI 8) := by
  unfold allLeaveN enK
  simp only [show ¬ (3 = 1) by decide, show ¬ (3 = 2) by decide, if_false]
  rw [lvIf_en1 (N := N) Iff.rfl, lvIf_en1 (N := N) (con_en1 has), lvIf_en1 (N := N) ((con_en1 has).trans (con_en1 has))]
