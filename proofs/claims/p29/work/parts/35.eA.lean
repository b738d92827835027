/-! the world, its saved states too; slots to the end -/
def qz (N : Nat → Int32) : Nat := zc N 0 + zc N 1 + zc N 2
def FN (N : Nat → Int32) (f : Nat) : Prop := f ≤ 1291 ∧ doneN (slotsN N f) ∧ ∀ j, j < f → ¬ doneN (slotsN N j)
theorem slots_add (N : Nat → Int32) (s : Nat) : ∀ j, slotsN N (s + j) = slotsN (slotsN N s) j := by
  intro j
  induction j with
  | zero => rfl
  | succ j ih =>
    show slotN (slotsN N (s + j)) = slotN (slotsN (slotsN N s) j)
    rw [ih]
theorem FN_uniq {N : Nat → Int32} {f g : Nat} (h : FN N f) (k : FN N g) : f = g := by
  obtain ⟨-, h1, h2⟩ := h
  obtain ⟨-, k1, k2⟩ := k
  rcases Nat.lt_trichotomy f g with z | z | z
  · exact absurd h1 (k2 f z)
  · exact z
  · exact absurd k1 (h2 g z)
theorem FN_0 {N : Nat → Int32} (h : doneN N) : FN N 0 := ⟨by omega, h, fun j hj => absurd hj (by omega)⟩
theorem done_slot {N : Nat → Int32} {q : Nat} (hg : GN N q) (hq : q < 2147483648) (h : doneN N) : doneN (slotN N) := by
  obtain ⟨ho, h0⟩ := GN_ok hg
  obtain ⟨w, b, I, L, P, ht, ⟨k, n, md, hbc⟩, -⟩ := hg
  obtain ⟨⟨hk0, hk, h1, -⟩, -, -, h4, -, -, -, -, -, -, hi, -, hp⟩ := hbc
  have h8 := PH_8 hp
  obtain ⟨z4, zs⟩ := h
  have em : md = 0 := by
    rw [h4, ← nI_0, nI_eq (by omega) (by omega)] at z4
    exact z4
  subst em
  have hr64 : q % 64 < 64 := Nat.mod_lt _ (by omega)
  have es : stepN N = begN N k := by
    unfold stepN
    rw [cl_of h4 (by omega)]
    change begN N (cl N 1) = _
    rw [cl_of h1 (by omega)]
  have e : ∀ x, 207 ≤ x → slotN N x = N x := fun x hx => by
    rw [slotN_out ho h0 hq (by omega) (by omega), es]
    exact begN_out (by omega)
  refine ⟨?_, ?_⟩
  · rw [slotN_out ho h0 hq (by omega) (by omega), es]
    unfold begN
    rw [sN_ne (by omega), sN_eq, if_pos ((begS_0 hk0 hk hi.1).mpr zs), nI_0]
  · rw [e 207 (by omega), e 247 (by omega), e 287 (by omega)]
    exact zs
theorem done_slots {N : Nat → Int32} {q : Nat} (hg : GN N q) (h : doneN N) : ∀ j, q + j < 2147483648 → doneN (slotsN N j) := by
  intro j
  induction j with
  | zero => intro _; exact h
  | succ j ih =>
    intro hj
    exact done_slot (GN_slots hg j (by omega)) (by omega) (ih (by omega))
theorem FN_ex {N : Nat → Int32} {q : Nat} (hg : GN N q) (hq : q < 2147480000) : ∃ f, FN N f := fin_ex hg hq
theorem FN_after {N : Nat → Int32} {q f s : Nat} (hg : GN N q) (hq : q + f + s < 2147480000) (h : FN N f) : FN (slotsN N s) (if s < f then f - s else 0) := by
  obtain ⟨h0, h1, h2⟩ := h
  by_cases z : s < f
  · rw [if_pos z]
    refine ⟨by omega, ?_, ?_⟩
    · rw [← slots_add, show s + (f - s) = f from by omega]; exact h1
    · intro j hj
      rw [← slots_add]
      exact h2 _ (by omega)
  · rw [if_neg z]
    refine FN_0 ?_
    rw [show s = f + (s - f) from by omega, slots_add]
    exact done_slots (GN_slots hg f (by omega)) h1 _ (by omega)
theorem qz_done {N : Nat → Int32} {k : Nat} (hi : ∀ c, c < 3 → OC N k c) : doneN N ↔ N 4 = 0 ∧ qz N = 0 := by
  obtain ⟨e, z0, z1, z2, -⟩ := OC_sum hi
  unfold doneN qz
  rw [e, ← nI_0, nI_eq (by omega) (by omega)]
section
variable {B : Nat} {w : Wd} {I : MI} {L : ML} {P : MP} {N : Nat → Int32} {st : Nat} {Ks : Nat → Nat → Int32} {len : Nat} {tx : Nat → Nat} {T : Nat}
def WI (B : Nat) (w : Wd) (I : MI) (L : ML) (P : MP) (N : Nat → Int32) (st : Nat) (Ks : Nat → Nat → Int32) (len : Nat) (tx : Nat → Nat) (T : Nat) : Prop := CW B w I L P N st Ks len tx T ∧ SQ N ∧ ∀ i, i < st → SQ (Ks i)
def Wok (B : Nat) (w : Wd) (I : MI) (L : ML) (P : MP) (o : Value) (N : Nat → Int32) (st : Nat) (Ks : Nat → Nat → Int32) (len : Nat) (tx : Nat → Nat) (T : Nat) (r : Option Rs) : Prop := ∃ J K Q, r = some (.inl (some o), w, J, K, Q) ∧ WI B w J K Q N st Ks len tx T ∧ Fr B (B + 284) I J L K P Q
theorem WI_th {n : Nat} {w' : Wd} (h : WI B w I L P N st Ks len tx T) (g : TH n w w') : WI B w' I L P N st Ks len tx T := ⟨CW_th h.1 g, h.2⟩
theorem WI_T {T' : Nat} (h : WI B w I L P N st Ks len tx T) (ht : T ≤ T') : WI B w I L P N st Ks len tx T' := ⟨CW_T h.1 ht, h.2⟩
theorem WI_t0 (h : WI B w I L P N st Ks len tx T) : w.1 B = some (6, 0) := h.1.1.1
theorem SQ_sv {A : Nat → Int32} (hst : st ≤ 4) (h : SQ A) (hk : ∀ i, i < st → SQ (Ks i)) : ∀ i, i < svS st → SQ (svK st Ks A i) := by
  intro i hi
  unfold svS at hi
  unfold svK
  by_cases z : st = 4
  · rw [if_pos z] at hi ⊢
    by_cases y : i < 3
    · rw [if_pos y]; exact hk _ (by omega)
    · rw [if_neg y]; exact h
  · rw [if_neg z] at hi ⊢
    by_cases y : i = st
    · rw [if_pos y]; exact h
    · rw [if_neg y]; exact hk _ (by omega)
theorem WI_st (h : WI B w I L P N st Ks len tx T) : st ≤ 4 := h.1.2.2.1
/-- a call that saves and changes the row -/
theorem Wok_sv {o : Value} {M : Nat → Int32} {T' : Nat} {r : Option Rs} (h : WI B w I L P N st Ks len tx T) (g : Cok B w I L P o M (svS st) (svK st Ks N) len tx T' r) (hm : SQ M) : Wok B w I L P o M (svS st) (svK st Ks N) len tx T' r := by
  obtain ⟨J, K, Q, a, b, c⟩ := g
  exact ⟨J, K, Q, a, ⟨b, hm, SQ_sv (WI_st h) h.2.1 h.2.2⟩, c⟩
/-- a call that leaves rows and saved states -/
theorem Wok_id {o : Value} {len' : Nat} {tx' : Nat → Nat} {T' : Nat} {r : Option Rs} (h : WI B w I L P N st Ks len tx T) (g : Cok B w I L P o N st Ks len' tx' T' r) : Wok B w I L P o N st Ks len' tx' T' r := by
  obtain ⟨J, K, Q, a, b, c⟩ := g
  exact ⟨J, K, Q, a, ⟨b, h.2⟩, c⟩
theorem svS_1 (st : Nat) : ∃ s, svS st = s + 1 := by
  unfold svS
  split
  · exact ⟨3, rfl⟩
  · exact ⟨st, rfl⟩
theorem svK_1 {s : Nat} {A : Nat → Int32} (e : svS st = s + 1) : svK st Ks A s = A := by
  unfold svS at e
  unfold svK
  by_cases z : st = 4
  · rw [if_pos z] at e ⊢
    rw [if_neg (by omega)]
  · rw [if_neg z] at e ⊢
    rw [if_pos (by omega)]
/-- undo, one step back to a row that is known -/
theorem wi_undo {s : Nat} {A : Nat → Int32} (h : WI B w I L P N st Ks len tx T) (e : st = s + 1) (ea : Ks s = A) : Wok B w I L P (.int (nI s)) A s Ks len tx T (call 138 [.ref B] w I L P) := by
  subst e
  obtain ⟨J, K, Q, a, b, c⟩ := cc_undo h.1
  rw [ea] at b
  refine ⟨J, K, Q, lr_undo (WI_t0 h) a, ⟨b, ?_, fun i hi => h.2.2 i (by omega)⟩, c⟩
  rw [← ea]
  exact h.2.2 s (by omega)
theorem SA_N {N M : Nat → Int32} (h : SA N) (e2 : M 2 = N 2) (e : ∀ l, l < 6 → M (327 + 22 * l) = N (327 + 22 * l)) : SA M := by
  intro n l h2 hn hl
  rw [e l (by omega)]
  exact h n l (by rw [← e2]; exact h2) hn hl
theorem SA_slots {q : Nat} (hg : GN N q) (h : SA N) : ∀ f, q + f < 2147483647 → SA (slotsN N f) := by
  intro f
  induction f with
  | zero => intro _; exact h
  | succ f ih =>
    intro hf
    have g := GN_slots hg f (by omega)
    obtain ⟨ho, h0⟩ := GN_ok g
    have hr64 : (q + f) % 64 < 64 := Nat.mod_lt _ (by omega)
    refine SA_N (ih (by omega)) ?_ (fun l hl => ?_)
    · show slotN (slotsN N f) 2 = _
      rw [slotN_out ho h0 (by omega) (by omega) (by omega), step_same ho (SX_13 (by omega))]
    · show slotN (slotsN N f) (327 + 22 * l) = _
      rw [slotN_out ho h0 (by omega) (by omega) (by omega)]
      exact step_same ho (SX_l (o := 0) (Or.inl rfl))
theorem SQ_slots {q f : Nat} (h : SQ N) (hg : GN N q) (h0 : N 0 = nI q) (hq : q + f < 2147400000) : SQ (slotsN N f) := ⟨⟨q + f, hq, SI_slots hg (SQ_q h h0 (by omega)) f (by omega)⟩, SA_slots hg h.2 f (by omega)⟩
theorem wi_pass (h : WI B w I L P N st Ks len tx T) (hT : T < 2147000000) {f : Nat} (hf1 : 1 ≤ f) (hf2 : f ≤ 200) : Wok B w I L P (.int (slotsN N f 0)) (slotsN N f) (svS st) (svK st Ks N) len tx (T + 4000) (call 128 [.ref B, .int (nI f)] w I L P) := by
  obtain ⟨q, hq, hg, h0⟩ := CW_GN h.1
  obtain ⟨J, K, Q, a, b, c⟩ := Wok_sv h (cc_pass h.1 hT hf1 hf2) (SQ_slots h.2.1 hg h0 (by omega))
  exact ⟨J, K, Q, lr_pass (WI_t0 h) a, b, c⟩
theorem wi_finish (h : WI B w I L P N st Ks len tx T) (hT : T < 2147000000) {f : Nat} (hf : FN N f) : Wok B w I L P (.int (nI f)) (slotsN N f) (svS st) (svK st Ks N) len tx (T + 4000) (call 89 [.ref B] w I L P) := by
  obtain ⟨q, hq, hg, h0⟩ := CW_GN h.1
  exact Wok_sv h (cc_finish h.1 hT hf.1 hf.2.1 hf.2.2) (SQ_slots h.2.1 hg h0 (by have := hf.1; omega))
theorem wi_stf (h : WI B w I L P N st Ks len tx T) (hT : T < 2147000000) {f : Nat} (hf : FN N f) : Wok B w I L P (.int (nI f)) N st Ks len tx T (call 96 [.ref B] w I L P) := Wok_id h (cc_slotsToFinish h.1 hT hf.1 hf.2.1 hf.2.2)
theorem wi_delivers (h : WI B w I L P N st Ks len tx T) (hT : T < 2147000000) {k c f : Nat} (hk1 : N 1 = nI k) (hk3 : k ≤ 3) (hck : c < k) (hf : FN N f) : Wok B w I L P (.int (slotsN N f (207 + 40 * c + 1) - N (207 + 40 * c + 1))) N st Ks len tx T (call 136 [.ref B, .int (nI c)] w I L P) := by
  obtain ⟨J, K, Q, a, b, c⟩ := Wok_id h (cc_delivers h.1 hT hk1 hk3 hck hf.1 hf.2.1 hf.2.2)
  exact ⟨J, K, Q, lr_delivers (WI_t0 h) a, b, c⟩
/-- what the law's queued answers -/
theorem lq_queued {q k n : Nat} (h : CW B w I L P N st Ks len tx T) (hT : T < 2147000000) (hk : KN N T q k n) : call 139 [.ref B] w I L P = some (.inl (some (.int (nI (qz N)))), w, I, L, P) := by
  obtain ⟨hq, h0, hk0, hk3, h1, hn, h2, hi, hol, -, hmb, -, -⟩ := hk
  have t0 := h.1.1
  obtain ⟨-, z0, z1, z2, ez⟩ := OC_sum hi.1
  have zk : ∀ c, c < 3 → k ≤ c → zc N c = 0 := fun c hc hkc => by
    obtain ⟨s, s4, e, e2, -⟩ := hi.1 c hc
    rw [ez c hc, nI_eq (by have : zc N c ≤ 4 := by rcases (show c = 0 ∨ c = 1 ∨ c = 2 by omega) with rfl | rfl | rfl <;> assumption
                           omega) (by omega)] at e
    rw [e, e2 hkc]
  have e1 : numV N 1 = nI k := h1
  have loop : ∀ f c a, c + f = k → go 139 4 [.ref B, .int (nI a), .int (nI c)] [] w I L P = some (.inl (some (.int (nI (a + ((if c ≤ 0 ∧ 0 < k then zc N 0 else 0) + (if c ≤ 1 ∧ 1 < k then zc N 1 else 0) + (if c ≤ 2 ∧ 2 < k then zc N 2 else 0)))))), w, I, L, P) := by
    intro f
    induction f with
    | zero =>
      intro c a hc
      have : c = k := by omega
      subst this
      rw [if_neg (by omega), if_neg (by omega), if_neg (by omega), Nat.add_zero]
      rw [Law_queued_4_1, (lr_value t0 (cv_value h hT (v := 1) (by omega))), e1]
      simp only [kC_ret, Option.toList, List.cons_append, List.nil_append, fix1_int, fix1_ref, fix1_unk, fix1_null, fix1_long]
      rw [Law_queued_10, if_pos (nI_le (Nat.le_refl _) (by omega)), Law_queued_28]
    | succ f ih =>
      intro c a hc
      have cal := lr_caller t0 (cv_caller h h1 hk3 (show c < k by omega) (show 0 < 9 by omega))
      have ec : calV N c 0 = nI (zc N c) := by
        unfold calV
        rw [if_pos (by omega), Nat.add_zero]
        exact ez c (by omega)
      have e2 := ih (c + 1) (a + zc N c) (by omega)
      rw [Law_queued_4_1, (lr_value t0 (cv_value h hT (v := 1) (by omega))), e1]
      simp only [kC_ret, Option.toList, List.cons_append, List.nil_append, fix1_int, fix1_ref, fix1_unk, fix1_null, fix1_long]
      rw [Law_queued_10, if_neg (nI_ge (by omega) (by omega)), Law_queued_13_1, cal, ec]
      simp only [kC_ret, Option.toList, List.cons_append, List.nil_append, fix1_int, fix1_ref, fix1_unk, fix1_null, fix1_long]
      rw [Law_queued_20]
      simp only [fix1_int, fix1_ref, fix1_unk, fix1_null, fix1_long]
      rw [nI_add, nI_add, e2]
      have ee : a + zc N c + ((if c + 1 ≤ 0 ∧ 0 < k then zc N 0 else 0) + (if c + 1 ≤ 1 ∧ 1 < k then zc N 1 else 0) + (if c + 1 ≤ 2 ∧ 2 < k then zc N 2 else 0)) = a + ((if c ≤ 0 ∧ 0 < k then zc N 0 else 0) + (if c ≤ 1 ∧ 1 < k then zc N 1 else 0) + (if c ≤ 2 ∧ 2 < k then zc N 2 else 0)) := by
        rcases (show c = 0 ∨ c = 1 ∨ c = 2 by omega) with rfl | rfl | rfl <;> (repeat' split) <;> omega
      rw [ee]
  have e2 := loop k 0 0 (by omega)
  have e3 : 0 + ((if 0 ≤ 0 ∧ 0 < k then zc N 0 else 0) + (if 0 ≤ 1 ∧ 1 < k then zc N 1 else 0) + (if 0 ≤ 2 ∧ 2 < k then zc N 2 else 0)) = qz N := by
    unfold qz
    have y1 := zk 1 (by omega)
    have y2 := zk 2 (by omega)
    (repeat' split) <;> omega
  rw [e3] at e2
  rw [Law_queued_E, Law_queued_0]
  simp only [fix1_int, fix1_ref, fix1_unk, fix1_null, fix1_long]
  exact e2
end
