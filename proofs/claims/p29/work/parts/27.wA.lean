/-! the whole object, the whole model -/
theorem BC_fr {N : Nat → Int32} {b k n md : Nat} {I J : MI} {L K : ML} {P Q : MP} (h : BC b N I L P k n md) (e : ∀ x, b ≤ x → x < b + 40 → J x = I x ∧ K x = L x ∧ Q x = P x) : BC b N J K Q k n md := by
  have hbs : BS b P := ⟨h.2.2.2.2.2.2.1, fun c hc => by obtain ⟨q, s, hr⟩ := h.2.2.2.2.2.2.2.1 c hc; exact ⟨q, hr.1⟩⟩
  have hbs' := BS_fr hbs (fun x g1 g2 => (e x g1 g2).2.2)
  obtain ⟨⟨hk0, hk, h1, i1⟩, ⟨hn, h2, i3⟩, i4, h4, i7, i8, hq, hs, hl, hu, hi, ho, hp⟩ := h
  have eb := (e b (by omega) (by omega)).1
  refine ⟨⟨hk0, hk, h1, by rw [eb]; exact i1⟩, ⟨hn, h2, by rw [eb]; exact i3⟩, by rw [eb]; exact i4, h4, by rw [eb]; exact i7, by rw [eb]; exact i8, hbs'.1, ?_, LiS_N hn hl (fun _ _ _ => rfl) (fun x g1 g2 => (e x (by omega) (by omega)).1), LU_I hu (fun x g1 g2 => (e x (by omega) (by omega)).1), hi, ho, by rw [eb]; exact hp⟩
  intro c hc
  obtain ⟨q, s, hr⟩ := hs c hc
  exact ⟨q, s, CR_I hr (fun x g1 g2 => e x (by omega) (by omega))⟩
theorem BR_fr {N : Nat → Int32} {b q : Nat} {I J : MI} {L K : ML} {P Q : MP} (h : BR b N I L P q) (e : ∀ x, b ≤ x → x < b + 40 → J x = I x ∧ K x = L x ∧ Q x = P x) : BR b N J K Q q := by
  obtain ⟨⟨k, n, md, hbc⟩, l0, l1, l2, l3, l4, l5⟩ := h
  refine ⟨⟨k, n, md, BC_fr hbc e⟩, l0, ?_, ?_, ?_, ?_, l5⟩
  · rw [(e _ (by omega) (by omega)).1]; exact l1
  · rw [(e _ (by omega) (by omega)).1]; exact l2
  · rw [(e _ (by omega) (by omega)).1]; exact l3
  · intro i hi
    rw [(e (b + 4) (by omega) (by omega)).1, (e (b + 5) (by omega) (by omega)).1, (e (b + 6) (by omega) (by omega)).1]
    exact l4 i hi
theorem BR_N {N M : Nat → Int32} {b q : Nat} {I : MI} {L : ML} {P : MP} (h : BR b N I L P q) (e : ∀ x, x < 459 → M x = N x) : BR b M I L P q := by
  obtain ⟨⟨k, n, md, hbc⟩, l0, l1, l2, l3, l4, l5⟩ := h
  refine ⟨⟨k, n, md, BC_N hbc (fun x g => e x (by omega)) (fun _ _ => rfl)⟩, by rw [e 0 (by omega)]; exact l0, l1, by rw [e 10 (by omega)]; exact l2, by rw [e 11 (by omega)]; exact l3, ?_, ?_⟩
  · intro i hi
    rw [e _ (by omega), e _ (by omega), e _ (by omega)]
    exact l4 i hi
  · rw [e 12 (by omega), l5]
    split
    · rfl
    · have : (q - 1) % 64 < 64 := Nat.mod_lt _ (by omega)
      rw [e _ (by omega)]
theorem BT_w {w w' : Wd} {b : Nat} (h : BT w b) (e : w'.1 = w.1) : BT w' b := by
  obtain ⟨h1, h2, h3, h4, h5, h6, h7⟩ := h
  unfold BT CT
  rw [e]
  exact ⟨h1, h2, h3, h4, h5, h6, h7⟩
def WT (w : Wd) (B : Nat) : Prop := w.1 B = some (6, 0) ∧ (∀ i, i < 3 → BT w (B + 1 + 40 * i)) ∧ (∀ i, i < 4 → BT w (B + 124 + 40 * i)) ∧ w.1 (B + 121) = some (10, 4) ∧ w.1 (B + 122) = some (4, 0) ∧ w.1 (B + 123) = some (8, 100)
/-- the pointers of the object; r tells where the saved states lie -/
def PC (P : MP) (B : Nat) (r : Nat → Nat) : Prop := P B 0 = some (B + 1) ∧ P B 1 = some (B + 41) ∧ P B 2 = some (B + 81) ∧ P B 3 = some (B + 121) ∧ P B 5 = some (B + 122) ∧ P (B + 122) 0 = some (B + 123) ∧ (∀ i, i < 4 → P (B + 121) i = some (B + 124 + 40 * r i)) ∧ (∀ i, i < 4 → r i < 4) ∧ ∀ i j, i < 4 → j < 4 → r i = r j → i = j
/-- the row of a fresh bus with k callers -/
def frN (k : Nat) : Nat → Int32 := fun j => if j = 1 then nI k else if j = 3 then nI 4 else if j = 8 ∨ j = 214 ∨ j = 254 ∨ j = 294 then -1 else if j = 12 then nI 1 else nI 0
/-- the object stands for: the row N, st saved rows Ks, a text of len bytes tx; no slot's number is above T -/
def CW (B : Nat) (w : Wd) (I : MI) (L : ML) (P : MP) (N : Nat → Int32) (st : Nat) (Ks : Nat → Nat → Int32) (len : Nat) (tx : Nat → Nat) (T : Nat) : Prop := WT w B ∧ (∃ r, PC P B r ∧ I B 4 = nI st ∧ ∀ i, i < st → ∃ q, q ≤ T ∧ BR (B + 124 + 40 * r i) (Ks i) I L P q) ∧ st ≤ 4 ∧ (∃ q, q ≤ T ∧ BR (B + 1) N I L P q) ∧ BS (B + 41) P ∧ BR (B + 81) (frN 2) I L P 0 ∧ (∀ i, i < 4 → BS (B + 124 + 40 * i) P) ∧ len ≤ 100 ∧ I (B + 122) 1 = nI len ∧ ∀ j, j < len → tx j < 128 ∧ I (B + 123) j = nI (tx j)
theorem CW_fr {B : Nat} {w : Wd} {I J : MI} {L K : ML} {P Q : MP} {N : Nat → Int32} {st : Nat} {Ks : Nat → Nat → Int32} {len : Nat} {tx : Nat → Nat} {T : Nat} (h : CW B w I L P N st Ks len tx T) (e : ∀ x, B ≤ x → x < B + 284 → J x = I x ∧ K x = L x ∧ Q x = P x) : CW B w J K Q N st Ks len tx T := by
  obtain ⟨h1, ⟨r, ⟨p0, p1, p2, p3, p5, p6, p7, p8, p9⟩, h2, h3⟩, h4, ⟨q, h5, h6⟩, h7, h8, h9, h10, h11, h12⟩ := h
  refine ⟨h1, ⟨r, ⟨?_, ?_, ?_, ?_, ?_, ?_, ?_, p8, p9⟩, ?_, ?_⟩, h4, ⟨q, h5, BR_fr h6 (fun x g1 g2 => e x (by omega) (by omega))⟩, BS_fr h7 (fun x g1 g2 => (e x (by omega) (by omega)).2.2), BR_fr h8 (fun x g1 g2 => e x (by omega) (by omega)), fun i hi => BS_fr (h9 i hi) (fun x g1 g2 => (e x (by omega) (by omega)).2.2), h10, ?_, ?_⟩
  · rw [(e B (by omega) (by omega)).2.2]; exact p0
  · rw [(e B (by omega) (by omega)).2.2]; exact p1
  · rw [(e B (by omega) (by omega)).2.2]; exact p2
  · rw [(e B (by omega) (by omega)).2.2]; exact p3
  · rw [(e B (by omega) (by omega)).2.2]; exact p5
  · rw [(e (B + 122) (by omega) (by omega)).2.2]; exact p6
  · intro i hi; rw [(e (B + 121) (by omega) (by omega)).2.2]; exact p7 i hi
  · rw [(e B (by omega) (by omega)).1]; exact h2
  · intro i hi
    obtain ⟨q, g1, g2⟩ := h3 i hi
    have := p8 i (by omega)
    exact ⟨q, g1, BR_fr g2 (fun x z1 z2 => e x (by omega) (by omega))⟩
  · rw [(e (B + 122) (by omega) (by omega)).1]; exact h11
  · intro j hj; rw [(e (B + 123) (by omega) (by omega)).1]; exact h12 j hj
theorem CW_w {B : Nat} {w w' : Wd} {I : MI} {L : ML} {P : MP} {N : Nat → Int32} {st : Nat} {Ks : Nat → Nat → Int32} {len : Nat} {tx : Nat → Nat} {T : Nat} (h : CW B w I L P N st Ks len tx T) (e : w'.1 = w.1) : CW B w' I L P N st Ks len tx T := by
  obtain ⟨⟨h1, h2, h3, h4, h5, h6⟩, h7⟩ := h
  refine ⟨⟨?_, fun i hi => BT_w (h2 i hi) e, fun i hi => BT_w (h3 i hi) e, ?_, ?_, ?_⟩, h7⟩
  · rw [e]; exact h1
  · rw [e]; exact h4
  · rw [e]; exact h5
  · rw [e]; exact h6
/-- after a state is saved -/
def svS (st : Nat) : Nat := if st = 4 then 4 else st + 1
def svK (st : Nat) (Ks : Nat → Nat → Int32) (A : Nat → Int32) : Nat → Nat → Int32 := fun i => if st = 4 then (if i < 3 then Ks (i + 1) else A) else (if i = st then A else Ks i)
theorem cl_savedAt {w : Wd} {B : Nat} {P : MP} {r : Nat → Nat} (hw : WT w B) (hp : PC P B r) {s : Nat} (hs : s < 4) (I : MI) (L : ML) : call 118 [.ref B, .int (nI s)] w I L P = some (.inl (some (.ref (B + 124 + 40 * r s))), w, I, L, P) := by
  obtain ⟨t0, _, _, t3, _⟩ := hw
  obtain ⟨_, _, _, p3, _, _, p7, _, _⟩ := hp
  rw [Two_savedAt_E, Two_savedAt_0, if_neg (nI_pos (by omega)), Two_savedAt_4 _ _ _ _ _ _ t0, p3, rf_some, Two_savedAt_9 _ _ _ _ _ _ _ _ (isAr_of t3), alen_of t3, if_neg (nI_ge hs (by omega)), Two_savedAt_13 _ _ _ _ _ _ t0, p3, rf_some, Two_savedAt_17 _ _ _ _ _ _ _ (inA_nI t3 hs (by omega)), cl_nI (by omega), p7 s hs, rf_some, Two_savedAt_19, Two_savedAt_23_1]
theorem cl_savedAtN {w : Wd} {B : Nat} {P : MP} {x : Int32} (hx : x < 0) (I : MI) (L : ML) : call 118 [.ref B, .int x] w I L P = some (.inl (some .null), w, I, L, P) := by
  rw [Two_savedAt_E, Two_savedAt_0, if_pos hx, Two_savedAt_22, Two_savedAt_23_0]
theorem cl_drop_1 {w : Wd} {B : Nat} (hw : WT w B) (I : MI) (L : ML) (x : Value) {P : MP} {m : Nat} (hp0 : P B 3 = some (B + 121)) (j : Nat) (hj0 : 0 < j) (hj : j < 4) (hq : P (B + 121) j = some m) (hm : w.1 m = some (0, 0)) : go 117 9 [.ref B, x, .int (nI j)] [] w I L P = go 117 9 [.ref B, fix1 x, .int (nI (j + 1))] [] w I L (wrP P (B + 121) (sP (P (B + 121)) (j - 1) (some m))) := by
  obtain ⟨t0, _, _, t3, _⟩ := hw
  rw [Two_dropOldestState_9 _ _ _ _ _ _ _ t0, hp0, rf_some, Two_dropOldestState_14 _ _ _ _ _ _ _ _ _ (isAr_of t3), alen_of t3, if_neg (nI_ge hj (by omega)), Two_dropOldestState_18 _ _ _ _ _ _ _ t0, hp0, rf_some, Two_dropOldestState_22 _ _ _ _ _ _ _ _ t0, hp0, rf_some, pk_sub hj0, Two_dropOldestState_29 _ _ _ _ _ _ _ _ _ _ (inA_nI t3 hj (by omega)), cl_nI (by omega), hq, rf_some, Two_dropOldestState_31 _ _ _ _ _ _ _ _ _ _ (inA_nI t3 (by omega) (by omega)) hm, cl_nI (by omega), nI_add, updP_wr]
theorem cl_drop {w : Wd} {B : Nat} {P : MP} {r : Nat → Nat} (hw : WT w B) (hp : PC P B r) (I : MI) (L : ML) (h4 : I B 4 = nI 4) : call 117 [.ref B] w I L P = some (.inl none, w, wr I B (sN (I B) 4 (nI 3)), L, wrP P (B + 121) (rotP (P (B + 121)))) := by
  have hw' := hw
  obtain ⟨t0, _, tb, t3, _⟩ := hw'
  obtain ⟨_, _, _, p3, _, _, p7, p8, _⟩ := hp
  have hm : ∀ i, i < 4 → w.1 (B + 124 + 40 * r i) = some (0, 0) := fun i hi => (tb _ (p8 i hi)).1
  rw [Two_dropOldestState_E, Two_dropOldestState_0 _ _ _ _ _ _ _ t0, p3, rf_some, Two_dropOldestState_4 _ _ _ _ _ _ _ _ (inA_nI t3 (by omega) (by omega)), cl_nI (by omega), p7 0 (by omega), rf_some, Two_dropOldestState_6_1]
  simp only [fix1_ref]
  rw [cl_drop_1 hw _ _ _ p3 1 (by omega) (by omega) (p7 1 (by omega)) (hm 1 (by omega)), fix1_ref]
  rw [cl_drop_1 hw _ _ _ (by rw [wrP_ne _ _ (by omega)]; exact p3) 2 (by omega) (by omega) (m := B + 124 + 40 * r 2) (by rw [wrP_same, sP_ne (by omega)]; exact p7 2 (by omega)) (hm 2 (by omega)), wrP_wrP, wrP_same, fix1_ref]
  rw [cl_drop_1 hw _ _ _ (by rw [wrP_ne _ _ (by omega)]; exact p3) 3 (by omega) (by omega) (m := B + 124 + 40 * r 3) (by rw [wrP_same, sP_ne (by omega), sP_ne (by omega)]; exact p7 3 (by omega)) (hm 3 (by omega)), wrP_wrP, wrP_same, fix1_ref]
  have hpx : ∀ R, (wrP P (B + 121) R) B 3 = some (B + 121) := fun R => by rw [wrP_ne _ _ (by omega)]; exact p3
  rw [Two_dropOldestState_9 _ _ _ _ _ _ _ t0, hpx, rf_some, Two_dropOldestState_14 _ _ _ _ _ _ _ _ _ (isAr_of t3), alen_of t3, if_pos (nI_le (by omega) (by omega)), Two_dropOldestState_38 _ _ _ _ _ _ _ t0, hpx, rf_some, Two_dropOldestState_42 _ _ _ _ _ _ _ _ t0, hpx, rf_some, Two_dropOldestState_46 _ _ _ _ _ _ _ _ _ (isAr_of t3) (by rw [alen_of t3, pk_sub (show 1 ≤ 4 by omega)]; exact inA_nI t3 (by omega) (by omega)) (hm 0 (by omega)) t0, alen_of t3, pk_sub (by omega), cl_nI (by omega), updP_wr, wrP_wrP, wrP_same, updI_wr, h4, pk_sub (by omega)]
  simp only [rotP, p7 0 (by omega), p7 1 (by omega), p7 2 (by omega), p7 3 (by omega)]
