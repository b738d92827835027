/-! calls: finish, slotsToFinish, delivers -/
theorem GN_1 {N : Nat → Int32} {q : Nat} (h : GN N q) (hq : q < 2147483648) : slotN N 1 = N 1 := by
  have h' := h
  obtain ⟨ho, h0⟩ := GN_ok h
  obtain ⟨w, b, I, L, P, ht, ⟨k, n, md, hbc⟩, -⟩ := h'
  obtain ⟨J, Q, md', -, a2, -⟩ := st_all ht hbc
  rw [slotN_out ho h0 hq (by omega) (by omega), a2.1.2.2.1, hbc.1.2.2.1]
theorem GN_1s {N : Nat → Int32} {q : Nat} (h : GN N q) : ∀ f, q + f < 2147483648 → slotsN N f 1 = N 1 := by
  intro f
  induction f with
  | zero => intro _; rfl
  | succ f ih =>
    intro hf
    rw [← ih (by omega)]
    exact GN_1 (GN_slots h f (by omega)) (by omega)
section
variable {B : Nat} {w : Wd} {I : MI} {L : ML} {P : MP} {N : Nat → Int32} {st : Nat} {Ks : Nat → Nat → Int32} {len : Nat} {tx : Nat → Nat} {T : Nat}
/-- the trial bus alone has changed -/
theorem CW_tri {J : MI} {K : ML} {Q : MP} (h : CW B w I L P N st Ks len tx T) (f : Fr (B + 41) (B + 81) I J L K P Q) (hs : BS (B + 41) Q) : CW B w J K Q N st Ks len tx T := by
  obtain ⟨h1, ⟨r, ⟨p0, p1, p2, p3, p5, p6, p7, p8, p9⟩, h2, h3⟩, h4, ⟨q, h5, h6⟩, -, h8, h9, h10, h11, h12⟩ := h
  refine ⟨h1, ⟨r, ⟨?_, ?_, ?_, ?_, ?_, ?_, ?_, p8, p9⟩, ?_, ?_⟩, h4, ⟨q, h5, BR_fr h6 (fun x g1 g2 => f x (by omega))⟩, hs, BR_fr h8 (fun x g1 g2 => f x (by omega)), fun i hi => BS_fr (h9 i hi) (fun x g1 g2 => (f x (by omega)).2.2), h10, ?_, ?_⟩
  · rw [(f B (by omega)).2.2]; exact p0
  · rw [(f B (by omega)).2.2]; exact p1
  · rw [(f B (by omega)).2.2]; exact p2
  · rw [(f B (by omega)).2.2]; exact p3
  · rw [(f B (by omega)).2.2]; exact p5
  · rw [(f (B + 122) (by omega)).2.2]; exact p6
  · intro i hi; rw [(f (B + 121) (by omega)).2.2]; exact p7 i hi
  · rw [(f B (by omega)).1]; exact h2
  · intro i hi
    obtain ⟨q, g1, g2⟩ := h3 i hi
    exact ⟨q, g1, BR_fr g2 (fun x z1 z2 => f x (by omega))⟩
  · rw [(f (B + 122) (by omega)).1]; exact h11
  · intro j hj; rw [(f (B + 123) (by omega)).1]; exact h12 j hj
theorem cl_trial (h : CW B w I L P N st Ks len tx T) (hT : T < 2147000000) {q f : Nat} (h0 : N 0 = nI q) (hq : q + f < 2147483647) (hf9 : f < 1000000) (hf : doneN (slotsN N f)) (hn : ∀ j, j < f → ¬ doneN (slotsN N j)) : ∃ J K Q, call 115 [.ref B] w I L P = some (.inl (some (.int (nI f))), w, J, K, Q) ∧ CW B w J K Q N st Ks len tx T ∧ BR (B + 41) (slotsN N f) J K Q (q + f) ∧ Fr (B + 41) (B + 81) I J L K P Q := by
  have h' := h
  obtain ⟨hw, ⟨r, hp, -⟩, -, ⟨q', hq', hbr⟩, hbs, -⟩ := h'
  have t0 := hw.1
  have tt : BT w (B + 41) := hw.2.1 1 (by omega)
  have tb : BT w (B + 1) := hw.2.1 0 (by omega)
  have eq : q' = q := by
    have := hbr.2.1
    rw [h0, nI_eq (by omega) (by omega)] at this
    exact this.symm
  subst eq
  obtain ⟨J, K, c1, c2, c3⟩ := cl_copyB tb tt (by omega) hbs hbr
  obtain ⟨J2, Q2, d1, d2, d3⟩ := cl_rest tt c2 hq hf9 hf hn
  have fr : Fr (B + 41) (B + 81) I J2 L K P Q2 := Fr_trans c3 d3
  refine ⟨J2, K, Q2, ?_, CW_tri h fr (BR_BS d2), d2, fr⟩
  rw [Two_runTrial_E, Two_runTrial_0 _ _ _ _ _ t0, hp.2.1, rf_some, Two_runTrial_4 _ _ _ _ _ _ t0, hp.1, rf_some, Two_runTrial_8_1 _ _ _ _ _ _ _ tt.1, c1]
  simp only [kC_ret, Option.toList, List.cons_append, List.nil_append, fix1_int, fix1_ref, fix1_unk, fix1_null, fix1_long]
  rw [Two_runTrial_11 _ _ _ _ _ t0, hp.2.1, rf_some, Two_runTrial_15 _ _ _ _ _ _ tt.1, d1]
  simp only [kC_ret, Option.toList, List.cons_append, List.nil_append, fix1_int, fix1_ref, fix1_unk, fix1_null, fix1_long]
  rw [Two_runTrial_18]
end
