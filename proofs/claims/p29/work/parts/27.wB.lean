/-! states are saved -/
def rot4 (r : Nat → Nat) : Nat → Nat := fun i => if i < 3 then r (i + 1) else r 0
theorem PC_rot {P : MP} {B : Nat} {r : Nat → Nat} (h : PC P B r) : PC (wrP P (B + 121) (rotP (P (B + 121)))) B (rot4 r) := by
  obtain ⟨p0, p1, p2, p3, p5, p6, p7, p8, p9⟩ := h
  refine ⟨?_, ?_, ?_, ?_, ?_, ?_, ?_, ?_, ?_⟩
  · rw [wrP_ne _ _ (by omega)]; exact p0
  · rw [wrP_ne _ _ (by omega)]; exact p1
  · rw [wrP_ne _ _ (by omega)]; exact p2
  · rw [wrP_ne _ _ (by omega)]; exact p3
  · rw [wrP_ne _ _ (by omega)]; exact p5
  · rw [wrP_ne _ _ (by omega)]; exact p6
  · intro i hi
    rw [wrP_same]
    unfold rotP rot4
    rcases (show i = 0 ∨ i = 1 ∨ i = 2 ∨ i = 3 by omega) with rfl | rfl | rfl | rfl
    · rw [sP_ne (by omega), sP_ne (by omega), sP_ne (by omega), sP_eq, if_pos (by omega)]; exact p7 1 (by omega)
    · rw [sP_ne (by omega), sP_ne (by omega), sP_eq, if_pos (by omega)]; exact p7 2 (by omega)
    · rw [sP_ne (by omega), sP_eq, if_pos (by omega)]; exact p7 3 (by omega)
    · rw [sP_eq, if_neg (by omega)]; exact p7 0 (by omega)
  · intro i hi; unfold rot4; split
    · exact p8 _ (by omega)
    · exact p8 _ (by omega)
  · intro i j hi hj; unfold rot4; split <;> split <;> intro e <;> have := p9 _ _ (by omega) (by omega) e <;> omega
/-- the saved buses and what lies ahead of the text: the rest is left alone by saving -/
def FvS (B : Nat) (I J : MI) (L K : ML) (P Q : MP) : Prop := ∀ x, (x < B ∨ (B + 1 ≤ x ∧ x < B + 121) ∨ (B + 122 ≤ x ∧ x < B + 124) ∨ B + 284 ≤ x) → J x = I x ∧ K x = L x ∧ Q x = P x
theorem cl_save12 {B : Nat} {w : Wd} {I : MI} {L : ML} {P : MP} {N : Nat → Int32} {s : Nat} {Ks : Nat → Nat → Int32} {len : Nat} {tx : Nat → Nat} {T : Nat} (h : CW B w I L P N s Ks len tx T) (hs : s < 4) (v : Value) : ∃ J K, go 116 12 [.ref B, v] [] w I L P = some (.inl none, w, J, K, P) ∧ CW B w J K P N (s + 1) (fun i => if i = s then N else Ks i) len tx T ∧ FvS B I J L K P P := by
  obtain ⟨hw, ⟨r, hp, h2, h3⟩, h4, ⟨q, h5, h6⟩, h7, h8, h9, h10, h11, h12⟩ := h
  have t0 := hw.1
  have p8 := hp.2.2.2.2.2.2.2.1
  have p9 := hp.2.2.2.2.2.2.2.2
  have hr := p8 s hs
  have tb : BT w (B + 1) := hw.2.1 0 (by omega)
  obtain ⟨J, K, c1, c2, c3⟩ := cl_copyB tb (hw.2.2.1 _ hr) (by omega) (h9 _ hr) h6
  have cf : ∀ x, (x < B + 124 + 40 * r s ∨ B + 124 + 40 * r s + 40 ≤ x) → J x = I x ∧ K x = L x ∧ P x = P x := fun x g => c3 x g
  rw [Two_saveState_12 _ _ _ _ _ _ t0, h2, cl_savedAt hw hp hs]
  simp only [kC_ret, Option.toList, List.cons_append, List.nil_append, fix1_int, fix1_ref, fix1_unk, fix1_null, fix1_long]
  rw [Two_saveState_20_1, fix1_ref, Two_saveState_25_1 _ _ _ _ _ _ t0, hp.1, rf_some, Two_saveState_30_1 _ _ _ _ _ _ _ _ (hw.2.2.1 _ hr).1, c1]
  simp only [kC_ret, Option.toList, List.cons_append, List.nil_append, fix1_int, fix1_ref, fix1_unk, fix1_null, fix1_long]
  rw [Two_saveState_33 _ _ _ _ _ _ t0, Two_saveState_43, updI_wr]
  have eB : J B = I B := (cf B (by omega)).1
  have ff : ∀ x, (x < B + 124 + 40 * r s ∨ B + 124 + 40 * r s + 40 ≤ x) → x ≠ B → wr J B (sN (J B) 4 (J B 4 + nI 1)) x = I x := fun x g g2 => by rw [wr_ne _ _ g2]; exact (cf x g).1
  refine ⟨_, K, rfl, ⟨hw, ⟨r, hp, ?_, ?_⟩, by omega, ⟨q, h5, ?_⟩, h7, ?_, h9, h10, ?_, ?_⟩, ?_⟩
  · rw [wr_same, sN_eq, eB, h2, nI_add]
  · intro i hi
    by_cases e : i = s
    · subst e
      refine ⟨q, h5, ?_⟩
      rw [show (fun i' => if i' = i then N else Ks i') i = N from if_pos rfl]
      exact BR_fr c2 (fun x g1 g2 => ⟨wr_ne _ _ (by omega), rfl, rfl⟩)
    · obtain ⟨q', g1, g2⟩ := h3 i (by omega)
      refine ⟨q', g1, ?_⟩
      rw [show (fun i' => if i' = s then N else Ks i') i = Ks i from if_neg e]
      have hne : r i ≠ r s := fun z => e (p9 i s (by omega) (by omega) z)
      exact BR_fr g2 (fun x z1 z2 => ⟨ff x (by omega) (by omega), (cf x (by omega)).2.1, rfl⟩)
  · exact BR_fr h6 (fun x g1 g2 => ⟨ff x (by omega) (by omega), (cf x (by omega)).2.1, rfl⟩)
  · exact BR_fr h8 (fun x g1 g2 => ⟨ff x (by omega) (by omega), (cf x (by omega)).2.1, rfl⟩)
  · rw [ff _ (by omega) (by omega)]; exact h11
  · intro j hj; rw [ff _ (by omega) (by omega)]; exact h12 j hj
  · intro x hx
    exact ⟨ff x (by omega) (by omega), (cf x (by omega)).2.1, rfl⟩
theorem cl_save {B : Nat} {w : Wd} {I : MI} {L : ML} {P : MP} {N : Nat → Int32} {st : Nat} {Ks : Nat → Nat → Int32} {len : Nat} {tx : Nat → Nat} {T : Nat} (h : CW B w I L P N st Ks len tx T) : ∃ J K Q, call 116 [.ref B] w I L P = some (.inl none, w, J, K, Q) ∧ CW B w J K Q N (svS st) (svK st Ks N) len tx T ∧ FvS B I J L K P Q := by
  have h' := h
  obtain ⟨hw, ⟨r, hp, h2, h3⟩, h4, ⟨q, h5, h6⟩, h7, h8, h9, h10, h11, h12⟩ := h'
  have t0 := hw.1
  by_cases e : st = 4
  · subst e
    have p8 := hp.2.2.2.2.2.2.2.1
    have pf : ∀ x, x ≠ B + 121 → (wrP P (B + 121) (rotP (P (B + 121)))) x = P x := fun x g => wrP_ne _ _ g
    have jf : ∀ x, x ≠ B → (wr I B (sN (I B) 4 (nI 3))) x = I x := fun x g => wr_ne _ _ g
    have h' : CW B w (wr I B (sN (I B) 4 (nI 3))) L (wrP P (B + 121) (rotP (P (B + 121)))) N 3 (fun i => Ks (i + 1)) len tx T := by
      refine ⟨hw, ⟨rot4 r, PC_rot hp, by rw [wr_same, sN_eq], ?_⟩, by omega, ⟨q, h5, BR_fr h6 (fun x g1 g2 => ⟨jf x (by omega), rfl, pf x (by omega)⟩)⟩, BS_fr h7 (fun x g1 g2 => pf x (by omega)), BR_fr h8 (fun x g1 g2 => ⟨jf x (by omega), rfl, pf x (by omega)⟩), fun i hi => BS_fr (h9 i hi) (fun x g1 g2 => pf x (by omega)), h10, by rw [jf _ (by omega)]; exact h11, fun j hj => by rw [jf _ (by omega)]; exact h12 j hj⟩
      intro i hi
      obtain ⟨q', g1, g2⟩ := h3 (i + 1) (by omega)
      refine ⟨q', g1, ?_⟩
      have : rot4 r i = r (i + 1) := by unfold rot4; rw [if_pos (by omega)]
      rw [this]
      exact BR_fr g2 (fun x z1 z2 => ⟨jf x (by omega), rfl, pf x (by omega)⟩)
    obtain ⟨J, K, c1, c2, c3⟩ := cl_save12 h' (by omega) unk
    refine ⟨J, K, wrP P (B + 121) (rotP (P (B + 121))), ?_, ?_, ?_⟩
    · rw [Two_saveState_E, Two_saveState_0 _ _ _ _ _ _ t0, h2, if_neg (nI_nlt (by omega) (by omega)), Two_saveState_8 _ _ _ _ _ _ t0, cl_drop hw hp I L h2]
      simp only [kC_ret, Option.toList, List.cons_append, List.nil_append, fix1_int, fix1_ref, fix1_unk, fix1_null, fix1_long]
      exact c1
    · have e2 : svK 4 Ks N = fun i => if i = 3 then N else if i < 3 then Ks (i + 1) else N := by
        funext i
        unfold svK
        rw [if_pos rfl]
        by_cases z : i = 3
        · rw [if_pos z, if_neg (by omega)]
        · rw [if_neg z]
      have e3 : CW B w J K (wrP P (B + 121) (rotP (P (B + 121)))) N 4 (svK 4 Ks N) len tx T := by
        rw [e2]
        obtain ⟨k1, ⟨r', k2, k3, k4⟩, k5⟩ := c2
        refine ⟨k1, ⟨r', k2, k3, ?_⟩, k5⟩
        intro i hi
        obtain ⟨q', g1, g2⟩ := k4 i hi
        refine ⟨q', g1, ?_⟩
        dsimp only at g2 ⊢
        by_cases z : i = 3
        · rw [if_pos z] at g2 ⊢; exact g2
        · rw [if_neg z] at g2 ⊢; rw [if_pos (by omega)]; exact g2
      exact e3
    · intro x hx
      obtain ⟨g1, g2, g3⟩ := c3 x hx
      exact ⟨g1.trans (jf x (by omega)), g2, g3.trans (pf x (by omega))⟩
  · obtain ⟨J, K, c1, c2, c3⟩ := cl_save12 h (by omega) unk
    refine ⟨J, K, P, ?_, ?_, c3⟩
    · rw [Two_saveState_E, Two_saveState_0 _ _ _ _ _ _ t0, h2, if_pos (nI_lt (by omega) (by omega))]
      exact c1
    · have e1 : svS st = st + 1 := by unfold svS; rw [if_neg e]
      have e2 : svK st Ks N = fun i => if i = st then N else Ks i := by
        funext i; unfold svK; rw [if_neg e]
      rw [e1, e2]; exact c2
