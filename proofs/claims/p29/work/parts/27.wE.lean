/-! calls: begin, setLimit, undo -/
theorem PH_S {N R S : Nat → Int32} {n n' md : Nat} (h : PH N R n md) (hn : n ≤ n') (e : ∀ x, 6 ≤ x → S x = R x) : PH N S n' md := by
  have bf : BF N n → BF N n' := by
    rintro ⟨⟨t, ht, h8⟩, hr⟩
    exact ⟨⟨t, by omega, h8⟩, hr⟩
  unfold PH at h ⊢
  rw [e 6 (by omega), e 9 (by omega), e 10 (by omega), e 11 (by omega), e 12 (by omega), e 13 (by omega)]
  split at h
  · exact h
  · exact h
  · exact h
  · exact ⟨h.1, h.2.1, bf h.2.2.1, h.2.2.2⟩
  · exact ⟨h.1, h.2.1, bf h.2.2.1, h.2.2.2⟩
  · exact ⟨h.1, h.2.1, bf h.2.2.1, h.2.2.2⟩
  · exact ⟨h.1, h.2.1, bf h.2.2.1, h.2.2.2⟩
  · exact ⟨h.1, h.2.1, bf h.2.2.1, h.2.2.2⟩
  · exact h
  · exact h
theorem BC_upd {N M : Nat → Int32} {b k n n' md : Nat} {I J : MI} {L : ML} {P : MP} (h : BC b N I L P k n md) (eM : ∀ x, ((4 ≤ x ∧ x ≤ 9) ∨ x = 13 ∨ x = 14 ∨ (207 ≤ x ∧ x < 327)) → M x = N x) (eb : ∀ x, 5 ≤ x → J b x = I b x) (ec : ∀ x, b + 7 ≤ x → x < b + 28 → J x = I x) (m1 : M 1 = N 1) (j1 : J b 1 = I b 1) (hn : n ≤ n') (hn6 : n' ≤ 6) (m2 : M 2 = nI n') (j3 : J b 3 = nI n') (j4 : J b 4 = M 3) (hl : LiS M b n' J) (hu : LU b n' J) (ho : OL M n') : BC b M J L P k n' md := by
  obtain ⟨⟨hk0, hk, h1, i1⟩, -, -, h4, i7, i8, hq, hs, -, -, hi, -, hp⟩ := h
  refine ⟨⟨hk0, hk, m1.trans h1, j1.trans i1⟩, ⟨hn6, m2, j3⟩, j4, by rw [eM 4 (by omega)]; exact h4, by rw [eb 7 (by omega), eM 5 (by omega)]; exact i7, by rw [eb 8 (by omega), eM 8 (by omega)]; exact i8, hq, CS_5 hs (fun x g1 g2 => eM x (by omega)) ec, hl, hu, IV_N hi (eM 5 (by omega)) (fun x g1 g2 => eM x (by omega)), ho, ?_⟩
  exact PH_S (PH_N hp (eM 5 (by omega)) (eM 6 (by omega)) (eM 7 (by omega)) (eM 8 (by omega)) (eM 9 (by omega)) (eM 13 (by omega)) (eM 14 (by omega)) (fun x g1 g2 => eM x (by omega))) hn (fun x g => eb x (by omega))
theorem BR_limit {N : Nat → Int32} {b q : Nat} {I : MI} {L : ML} {P : MP} (h : BR b N I L P q) (v : Int32) : BR b (sN N 3 v) (wr I b (sN (I b) 4 v)) L P q := by
  obtain ⟨⟨k, n, md, hbc⟩, hlg⟩ := h
  have hbc' := hbc
  obtain ⟨-, ⟨hn, h2, i3⟩, -, -, -, -, -, -, hl, hu, -, ho, -⟩ := hbc'
  refine ⟨⟨k, n, md, BC_upd hbc (fun x g => sN_ne (by omega)) (fun x g => by rw [wr_same, sN_ne (by omega)]) (fun x g1 g2 => wr_ne _ _ (by omega)) (sN_ne (by omega)) (by rw [wr_same, sN_ne (by omega)]) (Nat.le_refl n) hn (by rw [sN_ne (by omega)]; exact h2) (by rw [wr_same, sN_ne (by omega)]; exact i3) (by rw [wr_same, sN_eq, sN_eq]) (LiS_N hn hl (fun x g1 g2 => sN_ne (by omega)) (fun x g1 g2 => wr_ne _ _ (by omega))) (LU_I hu (fun x g1 g2 => wr_ne _ _ (by omega))) (OL_N ho (fun x g1 g2 => sN_ne (by omega)))⟩, LG_N hlg (fun x g => sN_ne (by omega)) (fun x g1 g2 => wr_ne _ _ (by omega))⟩
theorem BR_begin {b k : Nat} {I : MI} {L : ML} {P : MP} (h : BR b (frN 2) I L P 0) (hk0 : 0 < k) (hk : k ≤ 3) : BR b (frN k) (wr I b (sN (I b) 1 (nI k))) L P 0 := by
  obtain ⟨⟨k', n, md, ⟨⟨-, -, -, -⟩, ⟨hn, h2, i3⟩, i4, h4, i7, i8, hq, hs, hl, hu, hi, ho, hp⟩⟩, hlg⟩ := h
  have e : ∀ x, x ≠ 1 → frN k x = frN 2 x := by
    intro x g
    unfold frN
    rw [if_neg g, if_neg g]
  have e5 : frN 2 5 = nI 0 := rfl
  refine ⟨⟨k, n, md, ⟨hk0, hk, rfl, by rw [wr_same, sN_eq]⟩, ⟨hn, by rw [e 2 (by omega)]; exact h2, by rw [wr_same, sN_ne (by omega)]; exact i3⟩, by rw [wr_same, sN_ne (by omega), e 3 (by omega)]; exact i4, by rw [e 4 (by omega)]; exact h4, by rw [wr_same, sN_ne (by omega), e 5 (by omega)]; exact i7, by rw [wr_same, sN_ne (by omega), e 8 (by omega)]; exact i8, hq, CS_5 hs (fun x g1 g2 => e x (by omega)) (fun x g1 g2 => wr_ne _ _ (by omega)), LiS_N hn hl (fun x g1 g2 => e x (by omega)) (fun x g1 g2 => wr_ne _ _ (by omega)), LU_I hu (fun x g1 g2 => wr_ne _ _ (by omega)), ?_, OL_N ho (fun x g1 g2 => e x (by omega)), ?_⟩, LG_N hlg (fun x g => e x (by omega)) (fun x g1 g2 => wr_ne _ _ (by omega))⟩
  · refine IV_0 (N := frN k) (fun c hc => ⟨0, by omega, ?_, fun _ => rfl, fun i hi => absurd hi (by omega)⟩) e5 (fun _ _ _ => rfl)
    rcases (show c = 0 ∨ c = 1 ∨ c = 2 by omega) with rfl | rfl | rfl <;> rfl
  · rw [wr_same]
    exact PH_S (PH_N hp (e 5 (by omega)) (e 6 (by omega)) (e 7 (by omega)) (e 8 (by omega)) (e 9 (by omega)) (e 13 (by omega)) (e 14 (by omega)) (fun x g1 g2 => e x (by omega))) (Nat.le_refl n) (fun x g => sN_ne (by omega))
section
variable {B : Nat} {w : Wd} {I : MI} {L : ML} {P : MP} {N : Nat → Int32} {st : Nat} {Ks : Nat → Nat → Int32} {len : Nat} {tx : Nat → Nat} {T : Nat}
theorem CW_bc (h : CW B w I L P N st Ks len tx T) : WT w B ∧ P B 0 = some (B + 1) ∧ BT w (B + 1) ∧ st ≤ 4 ∧ ∃ q k n md, q ≤ T ∧ BC (B + 1) N I L P k n md ∧ LG (B + 1) N I q := by
  obtain ⟨h1, ⟨r, hp, -⟩, h3, ⟨q, hq, ⟨k, n, md, hb⟩, hl⟩, -⟩ := h
  exact ⟨h1, hp.1, h1.2.1 0 (by omega), h3, q, k, n, md, hq, hb, hl⟩
theorem Fr_bus {b : Nat} {X : Nat → Int32} : Fr b (b + 40) I (wr I b X) L L P P := fun x hx => ⟨wr_ne _ _ (by omega), rfl, rfl⟩
theorem Fr_B {J : MI} {K : ML} {Q : MP} (f : Fr (B + 1) (B + 41) I J L K P Q) : Fr B (B + 284) I J L K P Q := Fr_mono f (by omega) (by omega)
end
