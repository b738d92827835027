/-! states are saved and brought back: the model -/
/-- a call of the class answers o, and the object stands for .. -/
def Cok (B : Nat) (w : Wd) (I : MI) (L : ML) (P : MP) (o : Value) (N : Nat → Int32) (st : Nat) (Ks : Nat → Nat → Int32) (len : Nat) (tx : Nat → Nat) (T : Nat) (r : Option Rs) : Prop := ∃ J K Q, r = some (.inl (some o), w, J, K, Q) ∧ CW B w J K Q N st Ks len tx T ∧ Fr B (B + 284) I J L K P Q
/-- a call of the model answers o with this code, and the model stands for .. -/
def Mok (B : Nat) (w : Wd) (I : MI) (L : ML) (P : MP) (o : Value) (code : Nat) (N : Nat → Int32) (st : Nat) (Ks : Nat → Nat → Int32) (len : Nat) (tx : Nat → Nat) (r : Option Rs) : Prop := ∃ J K, r = some (.inl (some o), w, J, K, P) ∧ MW B w J P N st Ks len tx ∧ J (B + 284) 6 = nI code ∧ Fr (B + 284) (B + 289) I J L K P P
theorem CW_Fr {B : Nat} {w : Wd} {I J : MI} {L K : ML} {P Q : MP} {N : Nat → Int32} {st : Nat} {Ks : Nat → Nat → Int32} {len : Nat} {tx : Nat → Nat} {T : Nat} (h : CW B w I L P N st Ks len tx T) (f : Fr (B + 284) (B + 289) I J L K P Q) : CW B w J K Q N st Ks len tx T := CW_fr h (fun x g1 g2 => f x (by omega))
theorem MW_Fr {B : Nat} {w : Wd} {I J : MI} {L K : ML} {P Q : MP} {N : Nat → Int32} {st : Nat} {Ks : Nat → Nat → Int32} {len : Nat} {tx : Nat → Nat} (h : MW B w I P N st Ks len tx) (f : Fr B (B + 284) I J L K P Q) : MW B w J Q N st Ks len tx := MW_fr h (fun x g1 g2 => ⟨(f x (by omega)).1, (f x (by omega)).2.2⟩)
theorem FvS_Fr {B : Nat} {I J : MI} {L K : ML} {P Q : MP} (h : FvS B I J L K P Q) : Fr B (B + 284) I J L K P Q := fun x hx => h x (by omega)
section
variable {B : Nat} {w : Wd} {I : MI} {L : ML} {P : MP} {N : Nat → Int32} {st : Nat} {Ks : Nat → Nat → Int32} {len : Nat} {tx : Nat → Nat} {T : Nat}
theorem MW_set (h : MW B w I P N st Ks len tx) {k : Nat} (hk : k ≠ 2 ∧ k ≠ 5) (v : Int32) : MW B w (wr I (B + 284) (sN (I (B + 284)) k v)) P N st Ks len tx := by
  obtain ⟨h1, h2, h3, h4, h5, h6, h7⟩ := h
  refine ⟨h1, h2, ?_, ?_, ?_, ?_, ?_⟩
  · rw [wr_ne _ _ (by omega)]; exact h3
  · rw [wr_same, sN_ne (by omega)]; exact h4
  · intro i hi j hj; rw [wr_ne _ _ (by omega)]; exact h5 i hi j hj
  · rw [wr_same, sN_ne (by omega)]; exact h6
  · intro j hj; rw [wr_ne _ _ (by omega)]; exact h7 j hj
theorem Fr_mo {X : Nat → Int32} : Fr (B + 284) (B + 289) I (wr I (B + 284) X) L L P P := fun x hx => ⟨wr_ne _ _ (by omega), rfl, rfl⟩
theorem mw_well (h : MW B w I P N st Ks len tx) (v : Int32) : Mok B w I L P (.int v) 0 N st Ks len tx (call 123 [.ref (B + 284), .int v] w I L P) := by
  refine ⟨_, L, ?_, MW_set h (k := 6) (by omega) (nI 0), by rw [wr_same, sN_eq], Fr_mo⟩
  rw [Model_well_E, Model_well_0 _ _ _ _ _ _ h.1.1, updI_wr]
theorem mw_fails (h : MW B w I P N st Ks len tx) (c : Nat) : Mok B w I L P (.int (nI 0)) c N st Ks len tx (call 122 [.ref (B + 284), .int (nI c)] w I L P) := by
  refine ⟨_, L, ?_, MW_set h (k := 6) (by omega) (nI c), by rw [wr_same, sN_eq], Fr_mo⟩
  rw [Model_fails_E, Model_fails_0 _ _ _ _ _ _ h.1.1, updI_wr]
theorem mw_asides (h : MW B w I P N st Ks len tx) : ∃ J, call 134 [.ref (B + 284)] w I L P = some (.inl none, w, J, L, P) ∧ MW B w J P N st Ks len tx ∧ (∀ j, j < 459 → J (B + 287) j = N j) ∧ (∀ x, x ≠ B + 287 → J x = I x) ∧ Fr (B + 284) (B + 289) I J L L P P := by
  have h' := h
  obtain ⟨⟨w1, w2, w3, w4, w5⟩, ⟨p0, p1, p3, p4⟩, h3, h4, h5, h6, h7⟩ := h'
  have f : ∀ x, x ≠ B + 287 → (wr I (B + 287) (fun j => if j < 459 then I (B + 285) j else I (B + 287) j)) x = I x := fun x g => wr_ne _ _ g
  refine ⟨_, mo_asides w1 w2 p0 w4 p3 (by omega) I L, ?_, ?_, f, fun x hx => ⟨f x (by omega), rfl, rfl⟩⟩
  · refine ⟨⟨w1, w2, w3, w4, w5⟩, ⟨p0, p1, p3, p4⟩, ?_, ?_, ?_, ?_, ?_⟩
    · rw [f _ (by omega)]; exact h3
    · rw [f _ (by omega)]; exact h4
    · intro i hi j hj; rw [f _ (by omega)]; exact h5 i hi j hj
    · rw [f _ (by omega)]; exact h6
    · intro j hj; rw [f _ (by omega)]; exact h7 j hj
  · intro j hj
    rw [wr_same, if_pos hj, h3]
theorem mw_backs {A : Nat → Int32} (h : MW B w I P N st Ks len tx) (hA : ∀ j, j < 459 → I (B + 287) j = A j) : ∃ J M, call 135 [.ref (B + 284)] w I L P = some (.inl none, w, J, L, P) ∧ MW B w J P M st Ks len tx ∧ (∀ j, j < 459 → M j = A j) ∧ (∀ x, x ≠ B + 285 → J x = I x) ∧ Fr (B + 284) (B + 289) I J L L P P := by
  have h' := h
  obtain ⟨⟨w1, w2, w3, w4, w5⟩, ⟨p0, p1, p3, p4⟩, h3, h4, h5, h6, h7⟩ := h'
  have f : ∀ x, x ≠ B + 285 → (wr I (B + 285) (fun j => if j < 459 then I (B + 287) j else I (B + 285) j)) x = I x := fun x g => wr_ne _ _ g
  refine ⟨_, fun j => if j < 459 then I (B + 287) j else I (B + 285) j, mo_backs w1 w2 p0 w4 p3 (by omega) I L, ?_, ?_, f, fun x hx => ⟨f x (by omega), rfl, rfl⟩⟩
  · refine ⟨⟨w1, w2, w3, w4, w5⟩, ⟨p0, p1, p3, p4⟩, ?_, ?_, ?_, ?_, ?_⟩
    · rw [wr_same]
    · rw [f _ (by omega)]; exact h4
    · intro i hi j hj; rw [f _ (by omega)]; exact h5 i hi j hj
    · rw [f _ (by omega)]; exact h6
    · intro j hj; rw [f _ (by omega)]; exact h7 j hj
  · intro j hj
    dsimp only
    rw [if_pos hj, hA j hj]
theorem mo_sv_shift {mo kp : Nat} (h7 : w.1 mo = some (7, 0)) (hk : w.1 kp = some (8, 1836)) (p1 : P mo 1 = some kp) (I : MI) (L : ML) (R : Nat → Int32) : ∀ f k, 459 ≤ k → k + f = 1836 → go 136 12 [.ref mo, .int (nI k)] [] w (wr I kp (fun j => if j + 459 < k then R (j + 459) else R j)) L P = go 136 41 [.ref mo, .int (nI 1836)] [] w (wr I kp (fun j => if j + 459 < 1836 then R (j + 459) else R j)) L P := by
  intro f
  induction f with
  | zero =>
    intro k _ hk
    have : k = 1836 := by omega
    subst this
    rw [Model_saves_12, if_pos (nI_le (by omega) (by omega))]
  | succ f ih =>
    intro k hk4 hkf
    rw [Model_saves_12, if_neg (nI_ge (by omega) (by omega)), Model_saves_19 _ _ _ _ _ _ h7, p1, rf_some, Model_saves_23 _ _ _ _ _ _ _ h7, p1, rf_some, pk_sub hk4, Model_saves_32 _ _ _ _ _ _ _ _ _ (inA_nI hk (by omega) (by omega)) (inA_nI hk (by omega) (by omega)), fix1_ref, nI_add, cl_nI (by omega), cl_nI (by omega), updI_wr, wr_wr, wr_same]
    rw [← ih (k + 1) (by omega) (by omega)]
    congr 2
    funext j
    unfold sN
    dsimp only
    by_cases e : j = k - 459
    · rw [if_pos e, if_neg (by omega), if_pos (by omega), show j + 459 = k from by omega]
    · rw [if_neg e]
      by_cases z : j + 459 < k
      · rw [if_pos z, if_pos (by omega)]
      · rw [if_neg z, if_neg (by omega)]
theorem mo_sv_store {mo kp c s : Nat} (h7 : w.1 mo = some (7, 0)) (hk : w.1 kp = some (8, 1836)) (p1 : P mo 1 = some kp) (hc : w.1 c = some (8, 459)) (p3 : P mo 3 = some c) (n1 : mo ≠ kp) (n2 : c ≠ kp) (hs : s < 4) (I : MI) (L : ML) (h2 : I mo 2 = nI s) (R : Nat → Int32) : ∀ f k, k + f = 459 → go 136 48 [.ref mo, .int (nI k)] [] w (wr I kp (fun j => if 459 * s ≤ j ∧ j < 459 * s + k then I c (j - 459 * s) else R j)) L P = go 136 82 [.ref mo, .int (nI 459)] [] w (wr I kp (fun j => if 459 * s ≤ j ∧ j < 459 * s + 459 then I c (j - 459 * s) else R j)) L P := by
  intro f
  induction f with
  | zero =>
    intro k hkf
    have : k = 459 := by omega
    subst this
    rw [Model_saves_48, if_pos (nI_le (by omega) (by omega))]
  | succ f ih =>
    intro k hkf
    rw [Model_saves_48, if_neg (nI_ge (by omega) (by omega)), Model_saves_55 _ _ _ _ _ _ h7, p1, rf_some, Model_saves_59 _ _ _ _ _ _ _ h7, p3, rf_some, wr_ne _ _ n1, h2, pk_mul, nI_add, Model_saves_73 _ _ _ _ _ _ _ _ _ (inA_nI hc (by omega) (by omega)) (inA_nI hk (by omega) (by omega)), fix1_ref, nI_add, cl_nI (by omega), cl_nI (by omega), updI_wr, wr_wr, wr_same, wr_ne _ _ n2]
    rw [← ih (k + 1) (by omega)]
    congr 2
    funext j
    unfold sN
    dsimp only
    by_cases e : j = 459 * s + k
    · subst e
      rw [if_pos rfl, if_pos (by omega), show 459 * s + k - 459 * s = k from by omega]
    · rw [if_neg e]
      by_cases z : 459 * s ≤ j ∧ j < 459 * s + k
      · rw [if_pos z, if_pos (by omega)]
      · rw [if_neg z, if_neg (by omega)]
theorem mw_saves {A : Nat → Int32} (h : MW B w I P N st Ks len tx) (hst : st ≤ 4) (hA : ∀ j, j < 459 → I (B + 287) j = A j) : ∃ J, call 136 [.ref (B + 284)] w I L P = some (.inl none, w, J, L, P) ∧ MW B w J P N (svS st) (svK st Ks A) len tx ∧ (∀ x, x ≠ B + 284 → x ≠ B + 286 → J x = I x) ∧ (∀ k, k ≠ 2 → J (B + 284) k = I (B + 284) k) ∧ Fr (B + 284) (B + 289) I J L L P P := by
  obtain ⟨⟨w1, w2, w3, w4, w5⟩, ⟨p0, p1, p3, p4⟩, h3, h4, h5, h6, h7⟩ := h
  -- the common end
  have fin : ∀ (I1 : MI) (R : Nat → Int32) (s : Nat) (v : Value), s < 4 → I1 (B + 284) 2 = nI s → I1 (B + 286) = R → I1 (B + 287) = I (B + 287) → (∀ x, x ≠ B + 284 → x ≠ B + 286 → I1 x = I x) → (∀ k, k ≠ 2 → I1 (B + 284) k = I (B + 284) k) → ∃ J, go 136 46 [.ref (B + 284), v] [] w I1 L P = some (.inl none, w, J, L, P) ∧ (∀ x, x ≠ B + 284 → x ≠ B + 286 → J x = I x) ∧ (∀ k, k ≠ 2 → J (B + 284) k = I (B + 284) k) ∧ J (B + 284) 2 = nI (s + 1) ∧ ∀ j, J (B + 286) j = if 459 * s ≤ j ∧ j < 459 * s + 459 then I (B + 287) (j - 459 * s) else R j := by
    intro I1 R s v hs e2 eR eA ex ek
    have e0 : wr I1 (B + 286) (fun j => if 459 * s ≤ j ∧ j < 459 * s + 0 then I1 (B + 287) (j - 459 * s) else R j) = I1 := by
      have : (fun j => if 459 * s ≤ j ∧ j < 459 * s + 0 then I1 (B + 287) (j - 459 * s) else R j) = I1 (B + 286) := by
        funext j; rw [if_neg (by omega), eR]
      rw [this, wr_id]
    have st := mo_sv_store w1 w3 p1 w4 p3 (by omega) (by omega) hs I1 L e2 R 459 0 (by omega)
    rw [e0] at st
    rw [Model_saves_46, fix1_ref, st, Model_saves_82 _ _ _ _ _ _ w1, updI_wr, wr_ne _ _ (show B + 284 ≠ B + 286 by omega), e2, nI_add, eA]
    refine ⟨_, rfl, ?_, ?_, ?_, ?_⟩
    · intro x g1 g2; rw [wr_ne _ _ g1, wr_ne _ _ g2]; exact ex x g1 g2
    · intro k hk; rw [wr_same, sN_ne hk]; exact ek k hk
    · rw [wr_same, sN_eq]
    · intro j; rw [wr_ne _ _ (by omega), wr_same]
  by_cases e : st = 4
  · subst e
    have sh := mo_sv_shift w1 w3 p1 I L (I (B + 286)) 1377 459 (by omega) (by omega)
    have e0 : wr I (B + 286) (fun j => if j + 459 < 459 then I (B + 286) (j + 459) else I (B + 286) j) = I := by
      have : (fun j => if j + 459 < 459 then I (B + 286) (j + 459) else I (B + 286) j) = I (B + 286) := by
        funext j; rw [if_neg (by omega)]
      rw [this, wr_id]
    rw [e0] at sh
    obtain ⟨J, a1, a2, a3, a4, a5⟩ := fin (wr (wr I (B + 286) (fun j => if j + 459 < 1836 then I (B + 286) (j + 459) else I (B + 286) j)) (B + 284) (sN (I (B + 284)) 2 (nI 3))) (fun j => if j + 459 < 1836 then I (B + 286) (j + 459) else I (B + 286) j) 3 (.int (nI 1836)) (by omega) (by rw [wr_same, sN_eq]) (by rw [wr_ne _ _ (by omega), wr_same]) (by rw [wr_ne _ _ (by omega), wr_ne _ _ (by omega)]) (fun x g1 g2 => by rw [wr_ne _ _ g1, wr_ne _ _ g2]) (fun k hk => by rw [wr_same, sN_ne hk])
    refine ⟨J, ?_, ?_, a2, a3, fun x hx => ⟨a2 x (by omega) (by omega), rfl, rfl⟩⟩
    · rw [Model_saves_E, Model_saves_0 _ _ _ _ _ _ w1, h4, if_neg (by simp), Model_saves_8, fix1_ref, sh, Model_saves_41 _ _ _ _ _ _ w1, updI_wr, wr_ne _ _ (show B + 284 ≠ B + 286 by omega)]
      exact a1
    · refine ⟨⟨w1, w2, w3, w4, w5⟩, ⟨p0, p1, p3, p4⟩, ?_, ?_, ?_, ?_, ?_⟩
      · rw [a2 _ (by omega) (by omega)]; exact h3
      · rw [a4]; rfl
      · intro i hi j hj
        have hi4 : i < 4 := hi
        rw [a5]
        unfold svK
        rw [if_pos rfl]
        by_cases z : i < 3
        · rw [if_neg (by omega), if_pos z]
          rw [if_pos (by omega), show 459 * i + j + 459 = 459 * (i + 1) + j from by omega]
          exact h5 (i + 1) (by omega) j hj
        · have : i = 3 := by omega
          subst this
          rw [if_pos (by omega), if_neg (by omega), show 459 * 3 + j - 459 * 3 = j from by omega]
          exact hA j hj
      · rw [a3 _ (by omega)]; exact h6
      · intro j hj; rw [a2 _ (by omega) (by omega)]; exact h7 j hj
  · obtain ⟨J, a1, a2, a3, a4, a5⟩ := fin I (I (B + 286)) st unk (by omega) h4 rfl rfl (fun x _ _ => rfl) (fun k _ => rfl)
    have hss : svS st = st + 1 := by unfold svS; rw [if_neg e]
    refine ⟨J, ?_, ?_, a2, a3, fun x hx => ⟨a2 x (by omega) (by omega), rfl, rfl⟩⟩
    · have hne : nI st ≠ nI 4 := fun q => by rw [nI_eq (by omega) (by omega)] at q; exact e q
      rw [Model_saves_E, Model_saves_0 _ _ _ _ _ _ w1, h4, if_pos hne]
      exact a1
    · refine ⟨⟨w1, w2, w3, w4, w5⟩, ⟨p0, p1, p3, p4⟩, ?_, ?_, ?_, ?_, ?_⟩
      · rw [a2 _ (by omega) (by omega)]; exact h3
      · rw [a4, hss]
      · intro i hi j hj
        rw [hss] at hi
        rw [a5]
        unfold svK
        rw [if_neg e]
        by_cases z : i = st
        · subst z
          rw [if_pos (by omega), if_pos rfl, show 459 * i + j - 459 * i = j from by omega]
          exact hA j hj
        · rw [if_neg (by omega), if_neg z]
          exact h5 i (by omega) j hj
      · rw [a3 _ (by omega)]; exact h6
      · intro j hj; rw [a2 _ (by omega) (by omega)]; exact h7 j hj
/-- asides(); saves() -/
theorem mw_as (h : MW B w I P N st Ks len tx) (hst : st ≤ 4) : ∃ J J2, call 134 [.ref (B + 284)] w I L P = some (.inl none, w, J, L, P) ∧ call 136 [.ref (B + 284)] w J L P = some (.inl none, w, J2, L, P) ∧ MW B w J2 P N (svS st) (svK st Ks N) len tx ∧ Fr (B + 284) (B + 289) I J2 L L P P := by
  obtain ⟨J, a1, a2, a3, a4, a5⟩ := mw_asides (L := L) h
  obtain ⟨J2, b1, b2, b3, b4, b5⟩ := mw_saves (L := L) a2 hst a3
  exact ⟨J, J2, a1, b1, b2, Fr_trans a5 b5⟩
end
