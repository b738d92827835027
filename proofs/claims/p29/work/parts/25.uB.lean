/-! a bus of the class and a row of the model -/
def LU (b n : Nat) (I : MI) : Prop := ∀ l, n ≤ l → l < 6 → I (b + 28 + 2 * l) 2 = nI 1 ∧ I (b + 28 + 2 * l) 3 = nI 0 ∧ I (b + 28 + 2 * l) 5 = nI 0 ∧ I (b + 28 + 2 * l) 6 = nI 0
/-- the phase of the class (its row R) and the mode md of the model (its row N) -/
def PH (N R : Nat → Int32) (n : Nat) : Nat → Prop
  | 0 => R 6 = nI 0 ∧ N 5 = nI 0 ∧ N 8 = -1
  | 1 => R 6 = nI 2 ∧ N 5 ≠ nI 0 ∧ N 8 = -1 ∧ R 12 = nI 0 ∧ ∃ j lv, j < 8 ∧ N 6 = nI j ∧ R 10 = nI j ∧ R 11 = nI lv ∧ LV N (nI 1) j lv
  | 2 => R 6 = nI 3 ∧ N 5 ≠ nI 0 ∧ N 8 = -1 ∧ R 12 = nI 0 ∧ ∃ lv, R 11 = nI lv ∧ LV N (nI 1) 8 lv
  | 3 => R 6 = nI 4 ∧ N 5 ≠ nI 0 ∧ BF N n ∧ N 14 = nI 0 ∧ R 9 = nI 0 ∧ R 12 = N 7 ∧ ∃ j lv, j < 8 ∧ N 6 = nI j ∧ R 10 = nI j ∧ R 11 = nI lv ∧ LV N (nI 0) j lv
  | 4 => R 6 = nI 5 ∧ N 5 ≠ nI 0 ∧ BF N n ∧ N 14 = nI 0 ∧ R 9 = nI 0 ∧ R 12 = N 7 + nI 1 ∧ ∃ lv, R 11 = nI lv ∧ LV N (nI 0) 8 lv
  | 5 => R 6 = nI 4 ∧ N 5 ≠ nI 0 ∧ BF N n ∧ N 14 = nI 1 ∧ R 9 = nI 1 ∧ R 12 = N 7 ∧ R 11 = N 13 ∧ ∃ j, j < 8 ∧ N 6 = nI j ∧ R 10 = nI j
  | 6 => R 6 = nI 5 ∧ N 5 ≠ nI 0 ∧ BF N n ∧ N 14 = nI 1 ∧ R 9 = nI 1 ∧ R 12 = N 7 + nI 1
  | 7 => R 6 = nI 6 ∧ N 5 ≠ nI 0 ∧ BF N n ∧ R 9 = N 14 ∧ R 12 = N 7 ∧ ∃ h, 0 < h ∧ h ≤ 9 ∧ N 9 = nI h ∧ R 13 = nI h
  | 8 => R 6 = nI 7 ∧ N 5 = nI 0
  | _ => False
def BC (b : Nat) (N : Nat → Int32) (I : MI) (L : ML) (P : MP) (k n md : Nat) : Prop := (0 < k ∧ k ≤ 3 ∧ N 1 = nI k ∧ I b 1 = nI k) ∧ (n ≤ 6 ∧ N 2 = nI n ∧ I b 3 = nI n) ∧ I b 4 = N 3 ∧ N 4 = nI md ∧ I b 7 = N 5 ∧ I b 8 = N 8 ∧ BQ P b ∧ CS N b I L P ∧ LiS N b n I ∧ LU b n I ∧ IV N k ∧ OL N n ∧ PH N (I b) n md
/-- nothing has changed but this bus, and not its log -/
def Fs (b : Nat) (I J : MI) (L K : ML) (P Q : MP) : Prop := ∀ x, (x < b ∨ (b + 3 ≤ x ∧ x < b + 7) ∨ b + 40 ≤ x) → J x = I x ∧ K x = L x ∧ Q x = P x
theorem Fs_refl {b : Nat} {I : MI} {L : ML} {P : MP} : Fs b I I L L P P := fun x hx => ⟨rfl, rfl, rfl⟩
theorem Fs_trans {b : Nat} {I J H : MI} {L K G : ML} {P Q R : MP} (h : Fs b I J L K P Q) (g : Fs b J H K G Q R) : Fs b I H L G P R := fun x hx => ⟨(g x hx).1.trans (h x hx).1, (g x hx).2.1.trans (h x hx).2.1, (g x hx).2.2.trans (h x hx).2.2⟩
theorem Fs_Fr {b : Nat} {I J : MI} {L K : ML} {P Q : MP} (h : Fr (b + 7) (b + 28) I J L K P Q) : Fs b I J L K P Q := fun x hx => h x (by omega)
theorem Fs_wr {b : Nat} {I : MI} {L : ML} {P : MP} {X : Nat → Int32} : Fs b I (wr I b X) L L P P := fun x hx => ⟨wr_ne _ _ (by omega), rfl, rfl⟩
theorem Fs_wrl {b l : Nat} {I : MI} {L : ML} {P : MP} {X : Nat → Int32} (hl : l < 12) : Fs b I (wr I (b + 28 + l) X) L L P P := fun x hx => ⟨wr_ne _ _ (by omega), rfl, rfl⟩
theorem con_N {N M : Nat → Int32} (e5 : M 5 = N 5) {c : Nat} : conB M (nI c) ↔ conB N (nI c) := by unfold conB; rw [e5]
theorem IV_N {N M : Nat → Int32} {k : Nat} (h : IV N k) (e5 : M 5 = N 5) (e : ∀ x, 207 ≤ x → x < 327 → M x = N x) : IV M k := by
  obtain ⟨h1, h2, h3⟩ := h
  refine ⟨fun c hc => OC_N (h1 c hc) (fun x g1 g2 => e x (by omega) (by omega)), ?_, ?_⟩
  · intro c hc hcon
    obtain ⟨r1, s, r2, r3⟩ := h2 c hc ((con_N e5).mp hcon)
    exact ⟨r1, s, r2, by rw [e _ (by omega) (by omega)]; exact r3⟩
  · obtain ⟨s, hs, h5⟩ := h3
    exact ⟨s, hs, e5.trans h5⟩
theorem con0 {M : Nat → Int32} (h : M 5 = nI 0) {c : Nat} (hc : c < 3) : ¬ conB M (nI c) := by
  unfold conB
  rw [h]
  rcases (show c = 0 ∨ c = 1 ∨ c = 2 by omega) with rfl | rfl | rfl <;> decide
/-- callers in order, nobody contends -/
theorem IV_0 {N M : Nat → Int32} {k : Nat} (h : ∀ c, c < 3 → OC N k c) (e5 : M 5 = nI 0) (e : ∀ x, 207 ≤ x → x < 327 → M x = N x) : IV M k := 
  ⟨fun c hc => OC_N (h c hc) (fun x g1 g2 => e x (by omega) (by omega)), fun c hc hcon => absurd hcon (con0 e5 hc), 0, by omega, e5⟩
theorem OL_N {N M : Nat → Int32} {n : Nat} (h : OL N n) (e : ∀ x, 327 ≤ x → x < 459 → M x = N x) : OL M n := by
  intro l hl
  rw [e _ (by omega) (by omega), e _ (by omega) (by omega), e _ (by omega) (by omega), e _ (by omega) (by omega), e _ (by omega) (by omega)]
  exact h l hl
theorem LR_N {N M : Nat → Int32} {o a m : Nat} {I J : MI} (h : LR N o I a m) (e : ∀ x, o ≤ x → x < o + 22 → M x = N x) (eI : J a = I a) (eI1 : J (a + 1) = I (a + 1)) : LR M o J a m := by
  obtain ⟨h0, h1, h2, h3, h4, h5, h6, h7, h8⟩ := h
  refine ⟨h0, ?_, ?_, ?_, ?_, ?_, ?_, ?_, ?_⟩
  · rw [eI, e _ (by omega) (by omega)]; exact h1
  · rw [eI, e _ (by omega) (by omega)]; exact h2
  · rw [eI, e _ (by omega) (by omega)]; exact h3
  · rw [eI, e _ (by omega) (by omega)]; exact h4
  · rw [eI]; exact h5
  · rw [e _ (by omega) (by omega)]; exact h6
  · rw [eI, e _ (by omega) (by omega)]; exact h7
  · intro k hk; rw [eI1, e _ (by omega) (by omega)]; exact h8 k hk
theorem LiS_N {N M : Nat → Int32} {b n : Nat} {I J : MI} (hn : n ≤ 6) (h : LiS N b n I) (e : ∀ x, 327 ≤ x → x < 459 → M x = N x) (eI : ∀ x, b + 28 ≤ x → x < b + 40 → J x = I x) : LiS M b n J := by
  intro l hl
  obtain ⟨m, hr⟩ := h l hl
  exact ⟨m, LR_N hr (fun x g1 g2 => e x (by omega) (by omega)) (eI _ (by omega) (by omega)) (eI _ (by omega) (by omega))⟩
theorem LU_I {b n : Nat} {I J : MI} (h : LU b n I) (eI : ∀ x, b + 28 ≤ x → x < b + 40 → J x = I x) : LU b n J := by
  intro l g1 g2
  rw [eI _ (by omega) (by omega)]
  exact h l g1 g2
theorem LV_N {N M : Nat → Int32} {h : Int32} {j lv : Nat} (hv : LV N h j lv) (hd : h = 0 → dnOk N) (e5 : M 5 = N 5) (e7 : M 7 = N 7) (e : ∀ x, 207 ≤ x → x < 327 → M x = N x) : LV M h j lv := by
  intro c hc hcon
  obtain ⟨x, hx, ex, ev⟩ := hv c hc ((con_N e5).mp hcon)
  refine ⟨x, hx, ?_, ev⟩
  rw [← ex]
  unfold snt hdr
  rw [e7, e (215 + 40 * c) (by omega) (by omega), e (216 + 40 * c) (by omega) (by omega)]
  by_cases hh : h = 0
  · obtain ⟨dn, hdn, ed⟩ := hd hh
    rw [if_pos hh, if_pos hh, ed, cl_nI (by omega), e _ (by omega) (by omega)]
  · rw [if_neg hh, if_neg hh]
theorem BF_N {N M : Nat → Int32} {n : Nat} (h : BF N n) (e5 : M 5 = N 5) (e7 : M 7 = N 7) (e8 : M 8 = N 8) (e14 : M 14 = N 14) (e : ∀ x, 207 ≤ x → x < 327 → M x = N x) : BF M n := by
  obtain ⟨⟨t, ht, h8⟩, h14, d, hd, h7, hc⟩ := h
  refine ⟨⟨t, ht, e8.trans h8⟩, by rw [e14]; exact h14, d, hd, e7.trans h7, ?_⟩
  intro c hc3 hcon
  rw [e (216 + 40 * c) (by omega) (by omega), e (217 + 40 * c) (by omega) (by omega), e14]
  exact hc c hc3 ((con_N e5).mp hcon)
theorem BF_dn {N : Nat → Int32} {n : Nat} (h : BF N n) : dnOk N := by
  obtain ⟨_, _, d, hd, h7, _⟩ := h
  exact ⟨d, hd, h7⟩
theorem CO_of {N : Nat → Int32} {k : Nat} (h : IV N k) : CO N k := by
  intro c hc
  obtain ⟨s, hs, h1, h2, h3⟩ := h.1 c hc
  refine ⟨⟨s, hs, h1, fun q => ?_⟩, h.2.1 c hc⟩
  have := (h3 0 q).2.1
  rw [show 215 + 40 * c + 8 * 0 + 1 = 216 + 40 * c from by omega] at this
  exact this
theorem hdr_256 {N : Nat → Int32} {k c : Nat} (hc : c < 3) (h : IV N k) (hcon : conB N (nI c)) : ∃ x, x < 256 ∧ hdr N c = nI x ∧ (N (216 + 40 * c) = nI 0 ∧ x % 2 = 0 ∨ N (216 + 40 * c) = nI 1 ∧ x % 2 = 1) := by
  obtain ⟨s, hs, h1, h2, h3⟩ := h.1 c hc
  obtain ⟨_, s', hs', h1'⟩ := h.2.1 c hc hcon
  have : s = s' + 1 := by
    rw [h1, nI_eq (by omega) (by omega)] at h1'
    exact h1'
  obtain ⟨⟨a, ha, e0⟩, e1, _⟩ := h3 0 (by omega)
  rw [Nat.mul_zero, Nat.add_zero] at e0 e1
  rw [show 215 + 40 * c + 1 = 216 + 40 * c from by omega] at e1
  unfold hdr
  rw [e0]
  rcases e1 with e | e <;> rw [e, pk_mul, nI_add]
  · exact ⟨_, by omega, rfl, Or.inl ⟨rfl, by omega⟩⟩
  · exact ⟨_, by omega, rfl, Or.inr ⟨rfl, by omega⟩⟩
theorem byte_256 {N : Nat → Int32} {k c d : Nat} (hc : c < 3) (h : IV N k) (hcon : conB N (nI c)) (h0 : N (216 + 40 * c) = nI 0) (he : ∃ e, d < e ∧ e ≤ 4 ∧ N (217 + 40 * c) = nI e) : ∃ x, x < 256 ∧ N (219 + 40 * c + d) = nI x := by
  obtain ⟨s, hs, h1, h2, h3⟩ := h.1 c hc
  obtain ⟨_, s', hs', h1'⟩ := h.2.1 c hc hcon
  have : s = s' + 1 := by
    rw [h1, nI_eq (by omega) (by omega)] at h1'
    exact h1'
  obtain ⟨_, e1, m, hm0, hm, e2, e3⟩ := h3 0 (by omega)
  rw [Nat.mul_zero, Nat.add_zero] at e1 e2 e3
  obtain ⟨e, hde, he4, ee⟩ := he
  rw [show 215 + 40 * c + 2 = 217 + 40 * c from by omega, ee, nI_eq (by omega) (by omega)] at e2
  rw [show 215 + 40 * c + 1 = 216 + 40 * c from by omega] at e3
  obtain ⟨x, hx, ex⟩ := e3 h0 d (by omega)
  exact ⟨x, hx, by rw [show 219 + 40 * c + d = 215 + 40 * c + 4 + d from by omega]; exact ex⟩
/-- the line may be held: what comes then -/
theorem PH_holds {N R : Nat → Int32} {n k h : Nat} (hi : IV N k) (h5 : N 5 ≠ nI 0) (hb : BF N n) (h9 : R 9 = N 14) (h12 : R 12 = N 7) (hh : h ≤ 9) : ∃ md, PH (nextByteN (sN N 9 (nI h))) (hoB R (nI h)) n md ∧ nextByteN (sN N 9 (nI h)) 4 = nI md ∧ 3 ≤ md ∧ md ≤ 7 := by
  have hb' := hb
  obtain ⟨⟨t, ht, h8⟩, h14, d, hd, h7, hc⟩ := hb'
  have e : ∀ x, x ≠ 4 → x ≠ 6 → x ≠ 13 → x ≠ 9 → nextByteN (sN N 9 (nI h)) x = N x := by
    intro x g4 g6 g13 g9
    unfold nextByteN
    rw [sN_ne g4, sN_ne g13, sN_ne g6, sN_ne g9]
  have e9 : nextByteN (sN N 9 (nI h)) 9 = nI h := by
    unfold nextByteN; rw [sN_ne (by omega), sN_ne (by omega), sN_ne (by omega), sN_eq]
  have e6 : nextByteN (sN N 9 (nI h)) 6 = nI 0 := by
    unfold nextByteN; rw [sN_ne (by omega), sN_ne (by omega), sN_eq]
  have e13 : nextByteN (sN N 9 (nI h)) 13 = nI 0 := by
    unfold nextByteN; rw [sN_ne (by omega), sN_eq]
  have e4 : nextByteN (sN N 9 (nI h)) 4 = if nI h ≤ 0 then (if N 14 ≠ nI 1 then nI 3 else nI 5) else nI 7 := by
    unfold nextByteN; rw [sN_eq, sN_ne (by omega), sN_ne (by omega), sN_eq, sN_ne (show 14 ≠ 13 by omega), sN_ne (show 14 ≠ 6 by omega), sN_ne (show 14 ≠ 9 by omega)]
  have hbf : BF (nextByteN (sN N 9 (nI h))) n := BF_N hb (e 5 (by omega) (by omega) (by omega) (by omega)) (e 7 (by omega) (by omega) (by omega) (by omega)) (e 8 (by omega) (by omega) (by omega) (by omega)) (e 14 (by omega) (by omega) (by omega) (by omega)) (fun x g1 g2 => e x (by omega) (by omega) (by omega) (by omega))
  have e5 := e 5 (by omega) (by omega) (by omega) (by omega)
  have e7 := e 7 (by omega) (by omega) (by omega) (by omega)
  have e14 := e 14 (by omega) (by omega) (by omega) (by omega)
  have ec : ∀ x, 207 ≤ x → x < 327 → nextByteN (sN N 9 (nI h)) x = N x := fun x g1 g2 => e x (by omega) (by omega) (by omega) (by omega)
  rw [e4]
  generalize nextByteN (sN N 9 (nI h)) = M at *
  by_cases hz : h = 0
  · subst hz
    have z : nI 0 ≤ 0 := by decide
    rw [if_pos z]
    have r6 : hoB R (nI 0) 6 = nI 4 := by unfold hoB; rw [if_pos z]; unfold exB; rw [sN_ne (by omega), sN_ne (by omega), sN_eq]
    have r10 : hoB R (nI 0) 10 = nI 0 := by unfold hoB; rw [if_pos z]; unfold exB; rw [sN_ne (by omega), sN_eq]
    have r11 : hoB R (nI 0) 11 = nI 0 := by unfold hoB; rw [if_pos z]; unfold exB; rw [sN_eq]
    have r9 : hoB R (nI 0) 9 = R 9 := by unfold hoB; rw [if_pos z]; unfold exB; rw [sN_ne (by omega), sN_ne (by omega), sN_ne (by omega), sN_ne (by omega)]
    have r12 : hoB R (nI 0) 12 = R 12 := by unfold hoB; rw [if_pos z]; unfold exB; rw [sN_ne (by omega), sN_ne (by omega), sN_ne (by omega), sN_ne (by omega)]
    rcases h14 with q | q
    · refine ⟨3, ⟨r6, by rw [e5]; exact h5, hbf, e14.trans q, ?_, ?_, 0, 0, by omega, e6, r10, r11, ?_⟩, ?_, by omega, by omega⟩
      · rw [r9, h9, q]
      · rw [r12, h12, e7]
      · refine LV_N ?_ (fun _ => ⟨d, hd, h7⟩) e5 e7 ec
        intro c hc3 hcon
        obtain ⟨f1, f2⟩ := hc c hc3 hcon
        obtain ⟨x, hx, ex⟩ := byte_256 hc3 hi hcon (f1.trans q) f2
        refine ⟨x, hx, ?_, by omega⟩
        unfold snt
        rw [if_pos nI_0, h7, cl_nI (by omega)]
        exact ex
      · rw [if_pos (by rw [q]; decide)]
    · refine ⟨5, ⟨r6, by rw [e5]; exact h5, hbf, e14.trans q, ?_, ?_, ?_, 0, by omega, e6, r10⟩, ?_, by omega, by omega⟩
      · rw [r9, h9, q]
      · rw [r12, h12, e7]
      · rw [r11, e13]
      · rw [if_neg (by simp [q])]
  · have z : ¬ nI h ≤ 0 := nI_nle (by omega) (by omega)
    rw [if_neg z]
    have r6 : hoB R (nI h) 6 = nI 6 := by unfold hoB; rw [if_neg z, sN_eq]
    have r13 : hoB R (nI h) 13 = nI h := by unfold hoB; rw [if_neg z, sN_ne (by omega), sN_eq]
    have r9 : hoB R (nI h) 9 = R 9 := by unfold hoB; rw [if_neg z, sN_ne (by omega), sN_ne (by omega)]
    have r12 : hoB R (nI h) 12 = R 12 := by unfold hoB; rw [if_neg z, sN_ne (by omega), sN_ne (by omega)]
    refine ⟨7, ⟨r6, by rw [e5]; exact h5, hbf, ?_, ?_, h, by omega, hh, e9, r13⟩, rfl, by omega, by omega⟩
    · rw [r9, h9, e14]
    · rw [r12, h12, e7]
theorem hoB_out {R : Nat → Int32} {h : Int32} {x : Nat} (g : x ≠ 6 ∧ x ≠ 10 ∧ x ≠ 11 ∧ x ≠ 13) : hoB R h x = R x := by
  unfold hoB exB
  split
  · rw [sN_ne (by omega), sN_ne (by omega), sN_ne (by omega), sN_ne (by omega)]
  · rw [sN_ne (by omega), sN_ne (by omega)]
theorem nbN_out {N : Nat → Int32} {x : Nat} (g : x ≠ 4 ∧ x ≠ 6 ∧ x ≠ 13) : nextByteN N x = N x := by
  unfold nextByteN
  rw [sN_ne (by omega), sN_ne (by omega), sN_ne (by omega)]
theorem CS_N {N M : Nat → Int32} {b : Nat} {I : MI} {L : ML} {P : MP} (h : CS N b I L P) (e : ∀ k, 207 ≤ k → k < 327 → M k = N k) : CS M b I L P := CS_5 h e (fun _ _ _ => rfl)
theorem sN_id (R : Nat → Int32) (k : Nat) : sN R k (R k) = R := by
  funext j; unfold sN; split
  · next h => rw [h]
  · rfl
