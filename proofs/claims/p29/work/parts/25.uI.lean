/-! slots come to an end -/
def zc (N : Nat → Int32) (c : Nat) : Nat := cl N (207 + 40 * c)
def rk (N : Nat → Int32) : Nat := match cl N 4 with
  | 0 => 90
  | 1 => 89 - cl N 6
  | 2 => 81
  | 3 => 20 * (3 - cl N 7) + 9 - cl N 6
  | 4 => 20 * (3 - cl N 7) + 1
  | 5 => 20 * (3 - cl N 7) + 9 - cl N 6
  | 6 => 20 * (3 - cl N 7) + 1
  | 7 => 20 * (3 - cl N 7) + 10 + cl N 9
  | _ => 91
def mu (N : Nat → Int32) : Nat := 100 * (zc N 0 + zc N 1 + zc N 2) + rk N
theorem zc_eq {N M : Nat → Int32} {c : Nat} (e : M (207 + 40 * c) = N (207 + 40 * c)) : zc M c = zc N c := by unfold zc cl; rw [e]
theorem zc_leaves {N : Nat → Int32} {c as : Nat} (h0 : 0 < as) (has : as < 5) (h : ∃ s, s < 4 ∧ N (207 + 40 * c) = nI (s + 1)) : zc (leavesN N c as) c < zc N c := by
  obtain ⟨s, hs, e⟩ := h
  have e1 : leavesN N c as (207 + 40 * c) = nI s := by rw [leavesN_at has, if_neg (by omega), if_neg (by omega), if_pos rfl, e, pk_m1]
  unfold zc
  rw [cl_of e1 (by omega), cl_of e (by omega)]
  omega
theorem zc_loses {N : Nat → Int32} {c : Nat} (h : ∃ s, s < 4 ∧ N (207 + 40 * c) = nI (s + 1)) : zc (losesN N c) c ≤ zc N c := by
  rw [losesN_c]
  dsimp only
  have e : (sN (sN (sN N 5 (N 5 &&& ((nI 1 <<< (nI c &&& 31)) ^^^ (-1)))) (218 + 40 * c) (N (218 + 40 * c) + nI 1)) (212 + 40 * c) (N (212 + 40 * c) + nI 1)) (207 + 40 * c) = N (207 + 40 * c) := by
    rw [sN_ne (by omega), sN_ne (by omega), sN_ne (by omega)]
  split
  · exact Nat.le_of_eq (zc_eq e)
  · refine Nat.le_trans (Nat.le_of_lt (zc_leaves (by omega) (by omega) ?_)) (Nat.le_of_eq (zc_eq e))
    obtain ⟨s, hs, e1⟩ := h
    exact ⟨s, hs, e.trans e1⟩
theorem zc_loseIf {N : Nat → Int32} {h lv : Int32} {k c c' : Nat} (hi : IV N k) (hc : c < 3) : zc (loseIf N h lv c) c' ≤ zc N c' := by
  unfold loseIf
  split
  · next q =>
    by_cases e : c' = c
    · subst e; exact zc_loses (hi.2.1 c' hc q.1).2
    · exact Nat.le_of_eq (zc_eq (losesN_out (by omega) (by omega)))
  · exact Nat.le_refl _
theorem zc_loseAll {N : Nat → Int32} {h lv : Int32} {k : Nat} (hi : IV N k) (c : Nat) : zc (loseAll N h lv) c ≤ zc N c := by
  have i1 := IV_loseIf (h := h) (lv := lv) (show 0 < 3 by omega) hi
  have i2 := IV_loseIf (h := h) (lv := lv) (show 1 < 3 by omega) i1
  exact Nat.le_trans (zc_loseIf i2 (by omega)) (Nat.le_trans (zc_loseIf i1 (by omega)) (zc_loseIf hi (by omega)))
theorem zc_fin1 {N : Nat → Int32} {k c c' : Nat} (hi : IV N k) (hc : c < 3) : zc (fin1 N c) c' ≤ zc N c' ∧ (c' = c → conB N (nI c) → N (217 + 40 * c) = N 7 → zc (fin1 N c) c' < zc N c') := by
  by_cases e : c' = c
  · subst e
    unfold fin1
    split
    · next q =>
      have := zc_leaves (N := N) (c := c') (as := 1) (by omega) (by omega) (hi.2.1 c' hc q.1).2
      rw [zc_eq (c := c') (M := sN (leavesN N c' 1) 5 _) (N := leavesN N c' 1) (sN_ne (by omega))]
      exact ⟨Nat.le_of_lt this, fun _ _ _ => this⟩
    · next q => exact ⟨Nat.le_refl _, fun _ h1 h2 => absurd ⟨h1, h2⟩ q⟩
  · exact ⟨Nat.le_of_eq (zc_eq (fin1_out (by omega) (by omega))), fun h => absurd h e⟩
theorem zc_finN {N : Nat → Int32} {k c : Nat} (hi : IV N k) (hc : c < 3) : zc (finN N) c ≤ zc N c ∧ (conB N (nI c) → N (217 + 40 * c) = N 7 → zc (finN N) c < zc N c) := by
  have i1 := IV_fin1 (show 0 < 3 by omega) hi
  have i2 := IV_fin1 (show 1 < 3 by omega) i1
  have z0 := zc_fin1 (c' := c) hi (show 0 < 3 by omega)
  have z1 := zc_fin1 (c' := c) i1 (show 1 < 3 by omega)
  have z2 := zc_fin1 (c' := c) i2 (show 2 < 3 by omega)
  unfold finN
  refine ⟨Nat.le_trans z2.1 (Nat.le_trans z1.1 z0.1), fun h1 h2 => ?_⟩
  rcases (show c = 0 ∨ c = 1 ∨ c = 2 by omega) with rfl | rfl | rfl
  · exact Nat.lt_of_le_of_lt z2.1 (Nat.lt_of_le_of_lt z1.1 (z0.2 rfl h1 h2))
  · refine Nat.lt_of_le_of_lt z2.1 (Nat.lt_of_lt_of_le (z1.2 rfl ?_ ?_) z0.1)
    · exact (con_fin1 (by omega) (by omega) hi.2.2).mpr ⟨h1, fun q => absurd q (by omega)⟩
    · rw [fin1_out (by omega) (by omega), fin1_out (k := 7) (by omega) (by omega)]; exact h2
  · refine Nat.lt_of_lt_of_le (z2.2 rfl ?_ ?_) (Nat.le_trans z1.1 z0.1)
    · exact (con_fin1 (by omega) (by omega) i1.2.2).mpr ⟨(con_fin1 (by omega) (by omega) hi.2.2).mpr ⟨h1, fun q => absurd q (by omega)⟩, fun q => absurd q (by omega)⟩
    · rw [fin1_out (N := fin1 N 0) (by omega) (by omega), fin1_out (N := N) (k := 217 + 40 * 2) (by omega) (by omega), fin1_out (N := fin1 N 0) (k := 7) (by omega) (by omega), fin1_out (N := N) (k := 7) (by omega) (by omega)]; exact h2
theorem zc_allLeave {N : Nat → Int32} {k c as : Nat} (h0 : 0 < as) (has : as < 5) (hi : IV N k) (hc : c < 3) : zc (allLeaveN N as) c ≤ zc N c ∧ (conB N (nI c) → zc (allLeaveN N as) c < zc N c) := by
  rw [zc_eq (allLeave_reg (N := N) (as := as) has hc (207 + 40 * c) (by omega) (by omega))]
  unfold lvIf
  by_cases q : conB N (nI c)
  · rw [if_pos q]
    have := zc_leaves h0 has (hi.2.1 c hc q).2
    exact ⟨Nat.le_of_lt this, fun _ => this⟩
  · rw [if_neg q]
    exact ⟨Nat.le_refl _, fun z => absurd z q⟩
theorem sum_lt {a0 a1 a2 b0 b1 b2 c : Nat} (f g : Nat → Nat) (hf : f 0 = a0 ∧ f 1 = a1 ∧ f 2 = a2) (hg : g 0 = b0 ∧ g 1 = b1 ∧ g 2 = b2) (hle : ∀ c, c < 3 → f c ≤ g c) (hc : c < 3) (hlt : f c < g c) : a0 + a1 + a2 < b0 + b1 + b2 := by
  have h0 := hle 0 (by omega)
  have h1 := hle 1 (by omega)
  have h2 := hle 2 (by omega)
  rcases (show c = 0 ∨ c = 1 ∨ c = 2 by omega) with rfl | rfl | rfl <;> omega
theorem sum_le {a0 a1 a2 b0 b1 b2 : Nat} (f g : Nat → Nat) (hf : f 0 = a0 ∧ f 1 = a1 ∧ f 2 = a2) (hg : g 0 = b0 ∧ g 1 = b1 ∧ g 2 = b2) (hle : ∀ c, c < 3 → f c ≤ g c) : a0 + a1 + a2 ≤ b0 + b1 + b2 := by
  have h0 := hle 0 (by omega)
  have h1 := hle 1 (by omega)
  have h2 := hle 2 (by omega)
  omega
theorem rk_holds {M : Nat → Int32} {d h : Nat} (hd : d < 4) (h7 : M 7 = nI d) (hh : h ≤ 9) : rk (nextByteN (sN M 9 (nI h))) ≤ 20 * (3 - d) + (if h = 0 then 9 else 10 + h) := by
  have e7 : nextByteN (sN M 9 (nI h)) 7 = nI d := by rw [nbN_out (by omega), sN_ne (by omega)]; exact h7
  have e9 : nextByteN (sN M 9 (nI h)) 9 = nI h := by rw [nbN_out (by omega), sN_eq]
  have e6 : nextByteN (sN M 9 (nI h)) 6 = nI 0 := by
    unfold nextByteN; rw [sN_ne (by omega), sN_ne (by omega), sN_eq]
  have e4 : nextByteN (sN M 9 (nI h)) 4 = if nI h ≤ 0 then (if M 14 ≠ nI 1 then nI 3 else nI 5) else nI 7 := by
    unfold nextByteN; rw [sN_eq, sN_ne (by omega), sN_ne (by omega), sN_eq, sN_ne (show 14 ≠ 13 by omega), sN_ne (show 14 ≠ 6 by omega), sN_ne (show 14 ≠ 9 by omega)]
  generalize nextByteN (sN M 9 (nI h)) = M2 at *
  unfold rk
  rw [cl_of e7 (by omega), cl_of e9 (by omega), cl_of e6 (by omega)]
  by_cases hz : h = 0
  · subst hz
    rw [if_pos (by decide)] at e4
    rw [if_pos rfl]
    split at e4
    · rw [cl_of e4 (by omega)]
      change 20 * (3 - d) + 9 - 0 ≤ _
      omega
    · rw [cl_of e4 (by omega)]
      change 20 * (3 - d) + 9 - 0 ≤ _
      omega
  · rw [if_neg (nI_nle (by omega) (by omega))] at e4
    rw [if_neg hz, cl_of e4 (by omega)]
    change 20 * (3 - d) + 10 + h ≤ _
    omega
theorem OC_sum {N : Nat → Int32} {k : Nat} (hi : ∀ c, c < 3 → OC N k c) : N 207 + N 247 + N 287 = nI (zc N 0 + zc N 1 + zc N 2) ∧ zc N 0 ≤ 4 ∧ zc N 1 ≤ 4 ∧ zc N 2 ≤ 4 ∧ ∀ c, c < 3 → N (207 + 40 * c) = nI (zc N c) := by
  have f : ∀ c, c < 3 → zc N c ≤ 4 ∧ N (207 + 40 * c) = nI (zc N c) := by
    intro c hc
    obtain ⟨s, hs, e, _⟩ := hi c hc
    have : zc N c = s := cl_of e (by omega)
    rw [this]
    exact ⟨hs, e⟩
  have f0 := f 0 (by omega)
  have f1 := f 1 (by omega)
  have f2 := f 2 (by omega)
  refine ⟨?_, f0.1, f1.1, f2.1, fun c hc => (f c hc).2⟩
  rw [show N 207 = nI (zc N 0) from f0.2, show N 247 = nI (zc N 1) from f1.2, show N 287 = nI (zc N 2) from f2.2, nI_add, nI_add]
theorem begS_0 {N : Nat → Int32} {k : Nat} (hk0 : 0 < k) (hk : k ≤ 3) (hi : ∀ c, c < 3 → OC N k c) : begS N k = 0 ↔ N 207 + N 247 + N 287 = 0 := by
  obtain ⟨⟨s, hs8, hsb⟩, hcon⟩ := begS_con hk0 hk hi
  obtain ⟨e, z0, z1, z2, ez⟩ := OC_sum hi
  have key : begS N k ≠ nI 0 ↔ (∃ c, c < 3 ∧ zc N c ≠ 0) := by
    have d := con_exD s hs8
    rw [hsb] at hcon ⊢
    rw [d]
    have f : ∀ c, c < 3 → (conB' (nI s) (nI c) ↔ zc N c ≠ 0) := by
      intro c hc
      rw [hcon c hc, ez c hc, ← nI_0, nI_leI (by have := (OC_sum hi).2; rcases (show c = 0 ∨ c = 1 ∨ c = 2 by omega) with rfl | rfl | rfl <;> omega) (by omega)]
      omega
    constructor
    · rintro (q | q | q)
      · exact ⟨0, by omega, (f 0 (by omega)).mp q⟩
      · exact ⟨1, by omega, (f 1 (by omega)).mp q⟩
      · exact ⟨2, by omega, (f 2 (by omega)).mp q⟩
    · rintro ⟨c, hc, q⟩
      rcases (show c = 0 ∨ c = 1 ∨ c = 2 by omega) with rfl | rfl | rfl
      · exact Or.inl ((f 0 (by omega)).mpr q)
      · exact Or.inr (Or.inl ((f 1 (by omega)).mpr q))
      · exact Or.inr (Or.inr ((f 2 (by omega)).mpr q))
  rw [e, ← nI_0, nI_eq (by omega) (by omega)]
  constructor
  · intro q
    have n : ¬ ∃ c, c < 3 ∧ zc N c ≠ 0 := fun z => key.mpr z q
    have a0 : zc N 0 = 0 := Classical.byContradiction (fun z => n ⟨0, by omega, z⟩)
    have a1 : zc N 1 = 0 := Classical.byContradiction (fun z => n ⟨1, by omega, z⟩)
    have a2 : zc N 2 = 0 := Classical.byContradiction (fun z => n ⟨2, by omega, z⟩)
    omega
  · intro q
    refine Classical.byContradiction (fun z => ?_)
    obtain ⟨c, hc, y⟩ := key.mp z
    rcases (show c = 0 ∨ c = 1 ∨ c = 2 by omega) with rfl | rfl | rfl <;> omega
theorem rk_at {N : Nat → Int32} {md : Nat} (h : N 4 = nI md) (hm : md < 100) : cl N 4 = md := cl_of h (by omega)
/-- a step of a bus that is not at rest brings it nearer to rest -/
theorem mu_step {N : Nat → Int32} {b k n md : Nat} {I : MI} {L : ML} {P : MP} (h : BC b N I L P k n md) (hnd : ¬ doneN N) : mu (stepN N) < mu N := by
  have h8 := PH_8 h.2.2.2.2.2.2.2.2.2.2.2.2
  obtain ⟨⟨hk0, hk, h1, -⟩, ⟨hn, h2, -⟩, -, h4, -, -, -, -, -, -, hi, ho, hp⟩ := h
  have c4 := cl_of h4 (by omega)
  have c1 := cl_of h1 (by omega)
  rcases (show md = 0 ∨ md = 1 ∨ md = 2 ∨ md = 3 ∨ md = 4 ∨ md = 5 ∨ md = 6 ∨ md = 7 ∨ md = 8 by omega) with rfl | rfl | rfl | rfl | rfl | rfl | rfl | rfl | rfl
  · have est : stepN N = begN N k := by unfold stepN; rw [c4, c1]; rfl
    have hb : ¬ begS N k = 0 := fun q => hnd ⟨h4.trans nI_0, (begS_0 hk0 hk hi.1).mp q⟩
    have e4 : begN N k 4 = nI 1 := by unfold begN; rw [sN_ne (by omega), sN_eq, if_neg hb]
    have e6 : begN N k 6 = nI 0 := by unfold begN; rw [sN_eq]
    have z : ∀ c, c < 3 → zc (begN N k) c = zc N c := fun c hc => zc_eq (begN_out (by omega))
    rw [est]
    unfold mu
    rw [z 0 (by omega), z 1 (by omega), z 2 (by omega)]
    have r1 : rk (begN N k) = 89 - 0 := by unfold rk; rw [cl_of e4 (by omega), cl_of e6 (by omega)]; rfl
    have r0 : rk N = 90 := by unfold rk; rw [c4]; rfl
    omega
  · obtain ⟨-, h5, -, -, j, lv, hj, h6, -⟩ := hp
    have est : stepN N = sN (sN (loseAll N (nI 1) (lvl N (nI 1))) 6 (nI (j + 1))) 4 (if nI (j + 1) ≠ nI 8 then nI 1 else nI 2) := by
      unfold stepN; rw [c4]
      change sN (bitOfN N (nI 1)) 4 (if bitOfN N (nI 1) 6 ≠ nI 8 then nI 1 else nI 2) = _
      rw [show bitOfN N (nI 1) = sN (loseAll N (nI 1) (lvl N (nI 1))) 6 (loseAll N (nI 1) (lvl N (nI 1)) 6 + nI 1) from rfl, sN_eq, loseAll_out (by omega) (by omega), h6, nI_add]
    have z : ∀ c, c < 3 → zc (stepN N) c ≤ zc N c := fun c hc => by
      rw [est, zc_eq (N := loseAll N (nI 1) (lvl N (nI 1))) (by rw [sN_ne (by omega), sN_ne (by omega)])]
      exact zc_loseAll hi c
    have hs := sum_le (fun c => zc (stepN N) c) (fun c => zc N c) ⟨rfl, rfl, rfl⟩ ⟨rfl, rfl, rfl⟩ z
    have r0 : rk N = 89 - j := by unfold rk; rw [c4, cl_of h6 (by omega)]; rfl
    have e6 : stepN N 6 = nI (j + 1) := by rw [est, sN_ne (by omega), sN_eq]
    have r1 : rk (stepN N) < 89 - j := by
      by_cases q : j = 7
      · have e4 : stepN N 4 = nI 2 := by rw [est, sN_eq, q, if_neg (by simp)]
        unfold rk; rw [cl_of e4 (by omega)]
        change 81 < _
        omega
      · have hne : nI (j + 1) ≠ nI 8 := fun q => by rw [nI_eq (by omega) (by omega)] at q; omega
        have e4 : stepN N 4 = nI 1 := by rw [est, sN_eq, if_pos hne]
        unfold rk; rw [cl_of e4 (by omega), cl_of e6 (by omega)]
        change 89 - (j + 1) < _
        omega
    unfold mu
    omega
  · obtain ⟨-, h5, -⟩ := hp
    obtain ⟨c0, hc0, hcon0⟩ := (con_ex hi.2.2).mp h5
    have est : stepN N = haN N (cl N 2) := by unfold stepN; rw [c4]; rfl
    have r0 : rk N = 81 := by unfold rk; rw [c4]; rfl
    rw [est]
    unfold haN
    split
    · have hs := sum_lt (fun c => zc (allLeaveN N 2) c) (fun c => zc N c) ⟨rfl, rfl, rfl⟩ ⟨rfl, rfl, rfl⟩ (fun c hc => (zc_allLeave (by omega) (by omega) hi hc).1) hc0 ((zc_allLeave (by omega) (by omega) hi hc0).2 hcon0)
      have e4 : allLeaveN N 2 4 = nI 8 := by unfold allLeaveN; rw [sN_eq]
      have r1 : rk (allLeaveN N 2) = 91 := by unfold rk; rw [cl_of e4 (by omega)]; rfl
      unfold mu
      omega
    · next hz =>
      obtain ⟨t, ht6, e⟩ : ∃ t, t < 6 ∧ haT N (cl N 2) = nI t := by
        rw [cl_of h2 (by omega)] at hz ⊢
        rcases wFrom_spec N (hdr N (anyc N) / nI 2) n 0 with q | ⟨t, _, q2, q3, _⟩
        · exact absurd (Or.inl q) hz
        · exact ⟨t, by omega, q3⟩
      rw [e, cl_nI (by omega)]
      obtain ⟨⟨hd, hd9, ehd9⟩, _⟩ := ho t ht6
      have hh9 : ∀ v, holdsN (sN (sN (sN N 8 (nI t)) 14 v) 7 (nI 0)) t = nextByteN (sN (sN (sN (sN N 8 (nI t)) 14 v) 7 (nI 0)) 9 (nI hd)) := by
        intro v
        unfold holdsN
        rw [show (sN (sN (sN N 8 (nI t)) 14 v) 7 (nI 0)) (327 + 22 * t + 1) = nI hd from by rw [sN_ne (by omega), sN_ne (by omega), sN_ne (by omega)]; exact ehd9]
      have z : ∀ v c, c < 3 → zc (holdsN (sN (sN (sN N 8 (nI t)) 14 v) 7 (nI 0)) t) c = zc N c := fun v c hc => zc_eq (by rw [holds_out (by omega), sN_ne (by omega), sN_ne (by omega), sN_ne (by omega)])
      have r1 : ∀ v, rk (holdsN (sN (sN (sN N 8 (nI t)) 14 v) 7 (nI 0)) t) ≤ 79 := by
        intro v
        rw [hh9]
        refine Nat.le_trans (rk_holds (d := 0) (by omega) (by rw [sN_eq]) hd9) ?_
        split <;> omega
      unfold mu
      rw [z _ 0 (by omega), z _ 1 (by omega), z _ 2 (by omega)]
      have := r1 (hdr N (anyc N) - hdr N (anyc N) / nI 2 * nI 2)
      omega
  · obtain ⟨-, h5, hbf, -, -, -, j, lv, hj, h6, -⟩ := hp
    obtain ⟨_, _, d, hd4, h7, _⟩ := hbf
    have est : stepN N = sN (sN (loseAll N (nI 0) (lvl N (nI 0))) 6 (nI (j + 1))) 4 (if nI (j + 1) ≠ nI 8 then nI 3 else nI 4) := by
      unfold stepN; rw [c4]
      change sN (bitOfN N (nI 0)) 4 (if bitOfN N (nI 0) 6 ≠ nI 8 then nI 3 else nI 4) = _
      rw [show bitOfN N (nI 0) = sN (loseAll N (nI 0) (lvl N (nI 0))) 6 (loseAll N (nI 0) (lvl N (nI 0)) 6 + nI 1) from rfl, sN_eq, loseAll_out (by omega) (by omega), h6, nI_add]
    have z : ∀ c, c < 3 → zc (stepN N) c ≤ zc N c := fun c hc => by
      rw [est, zc_eq (N := loseAll N (nI 0) (lvl N (nI 0))) (by rw [sN_ne (by omega), sN_ne (by omega)])]
      exact zc_loseAll hi c
    have hs := sum_le (fun c => zc (stepN N) c) (fun c => zc N c) ⟨rfl, rfl, rfl⟩ ⟨rfl, rfl, rfl⟩ z
    have r0 : rk N = 20 * (3 - d) + 9 - j := by unfold rk; rw [c4, cl_of h6 (by omega), cl_of h7 (by omega)]; rfl
    have e6 : stepN N 6 = nI (j + 1) := by rw [est, sN_ne (by omega), sN_eq]
    have e7 : stepN N 7 = nI d := by rw [est, sN_ne (by omega), sN_ne (by omega), loseAll_out (by omega) (by omega)]; exact h7
    have r1 : rk (stepN N) < 20 * (3 - d) + 9 - j := by
      by_cases q : j = 7
      · have e4 : stepN N 4 = nI 4 := by rw [est, sN_eq, q, if_neg (by simp)]
        unfold rk; rw [cl_of e4 (by omega), cl_of e7 (by omega)]
        change 20 * (3 - d) + 1 < _
        omega
      · have hne : nI (j + 1) ≠ nI 8 := fun q => by rw [nI_eq (by omega) (by omega)] at q; omega
        have e4 : stepN N 4 = nI 3 := by rw [est, sN_eq, if_pos hne]
        unfold rk; rw [cl_of e4 (by omega), cl_of e6 (by omega), cl_of e7 (by omega)]
        change 20 * (3 - d) + 9 - (j + 1) < _
        omega
    unfold mu
    omega
  · obtain ⟨-, h5, hbf, -⟩ := hp
    obtain ⟨⟨t, htn, h8'⟩, _, d, hd4, h7, hc⟩ := hbf
    obtain ⟨c0, hc0, hcon0⟩ := (con_ex hi.2.2).mp h5
    have est : ∃ m, stepN N = waN N t m := by
      refine ⟨cl N (327 + 22 * t + 2), ?_⟩
      unfold stepN; rw [c4, cl_of h8' (by omega)]; rfl
    obtain ⟨m, est⟩ := est
    have r0 : rk N = 20 * (3 - d) + 1 := by unfold rk; rw [c4, cl_of h7 (by omega)]; rfl
    rw [est]
    unfold waN
    split
    · have hs := sum_lt (fun c => zc (allLeaveN N 3) c) (fun c => zc N c) ⟨rfl, rfl, rfl⟩ ⟨rfl, rfl, rfl⟩ (fun c hc => (zc_allLeave (by omega) (by omega) hi hc).1) hc0 ((zc_allLeave (by omega) (by omega) hi hc0).2 hcon0)
      have e4 : allLeaveN N 3 4 = nI 8 := by unfold allLeaveN; rw [sN_eq]
      have r1 : rk (allLeaveN N 3) = 91 := by unfold rk; rw [cl_of e4 (by omega)]; rfl
      unfold mu
      omega
    · have m7 : waN1 N t m 7 = nI (d + 1) := by unfold waN1; rw [sN_eq, sN_ne (by omega), sN_ne (by omega), h7, nI_add]
      have eM : ∀ y, y < 327 → y ≠ 7 → waN1 N t m y = N y := by
        intro y g1 g2
        unfold waN1; rw [sN_ne g2, sN_ne (by omega), sN_ne (by omega)]
      have mh : waN1 N t m (327 + 22 * t + 1) = N (327 + 22 * t + 1) := by unfold waN1; rw [sN_ne (by omega), sN_ne (by omega), sN_ne (by omega)]
      generalize waN1 N t m = M at *
      have m5 : M 5 = N 5 := eM 5 (by omega) (by omega)
      have hiv : IV M k := IV_N hi m5 (fun y g1 g2 => eM y (by omega) (by omega))
      have zz : ∀ c, c < 3 → zc M c = zc N c := fun c hc => zc_eq (eM _ (by omega) (by omega))
      have hle : ∀ c, c < 3 → zc (finN M) c ≤ zc N c := fun c hc => by rw [← zz c hc]; exact (zc_finN hiv hc).1
      by_cases hz : finN M 5 = nI 0
      · rw [if_pos ((finV_5 hiv.2.2).mpr hz)]
        have hlt : zc (finN M) c0 < zc N c0 := by
          rw [← zz c0 hc0]
          refine (zc_finN hiv hc0).2 ((con_N m5).mpr hcon0) ?_
          refine Classical.byContradiction (fun q => ?_)
          exact (con_ex (IV_finN hiv).2.2).mpr ⟨c0, hc0, (con_finN hc0 hiv.2.2).mpr ⟨(con_N m5).mpr hcon0, q⟩⟩ hz
        have z4 : ∀ c, c < 3 → zc (sN (finN M) 4 (nI 8)) c = zc (finN M) c := fun c hc => zc_eq (sN_ne (by omega))
        have hs := sum_lt (fun c => zc (finN M) c) (fun c => zc N c) ⟨rfl, rfl, rfl⟩ ⟨rfl, rfl, rfl⟩ hle hc0 hlt
        have r1 : rk (sN (finN M) 4 (nI 8)) = 91 := by unfold rk; rw [cl_of (j := 8) sN_eq (by omega)]; rfl
        unfold mu
        rw [z4 0 (by omega), z4 1 (by omega), z4 2 (by omega)]
        omega
      · rw [if_neg (fun q => hz ((finV_5 hiv.2.2).mp q))]
        obtain ⟨c1', hc1, hcon1⟩ := (con_ex (IV_finN hiv).2.2).mp hz
        have hlt : d + 1 < 4 := by
          obtain ⟨z1, z2⟩ := (con_finN hc1 hiv.2.2).mp hcon1
          obtain ⟨_, e, g1, g2, g3⟩ := hc c1' hc1 ((con_N m5).mp z1)
          rw [eM _ (by omega) (by omega), g3, m7, ne_eq, nI_eq (by omega) (by omega)] at z2
          omega
        obtain ⟨⟨hd, hd9, ehd9⟩, _⟩ := ho t (by omega)
        have z4 : ∀ c, c < 3 → zc (holdsN (finN M) t) c = zc (finN M) c := fun c hc => zc_eq (holds_out (by omega))
        have hs := sum_le (fun c => zc (finN M) c) (fun c => zc N c) ⟨rfl, rfl, rfl⟩ ⟨rfl, rfl, rfl⟩ hle
        have r1 : rk (holdsN (finN M) t) ≤ 20 * (3 - (d + 1)) + 19 := by
          unfold holdsN
          rw [finN_out (by omega) (by omega), mh, ehd9]
          refine Nat.le_trans (rk_holds (d := d + 1) hlt (by rw [finN_out (by omega) (by omega)]; exact m7) hd9) ?_
          split <;> omega
        unfold mu
        rw [z4 0 (by omega), z4 1 (by omega), z4 2 (by omega)]
        omega
  · obtain ⟨-, h5, hbf, -, -, -, -, j, hj, h6, -⟩ := hp
    obtain ⟨⟨t, htn, h8'⟩, _, d, hd4, h7, hc⟩ := hbf
    have est : ∃ m, stepN N = rbN N t m := by
      refine ⟨cl N (327 + 22 * t + 2), ?_⟩
      unfold stepN; rw [c4, cl_of h8' (by omega)]; rfl
    obtain ⟨m, est⟩ := est
    have r0 : rk N = 20 * (3 - d) + 9 - j := by unfold rk; rw [c4, cl_of h6 (by omega), cl_of h7 (by omega)]; rfl
    rw [est]
    unfold rbN
    have eM : ∀ y, y ≠ 6 → y ≠ 13 → rb2 N t m y = N y := fun y g1 g2 => by unfold rb2; rw [sN_ne g1, sN_ne g2]
    have e6 : rb2 N t m 6 = nI (j + 1) := by unfold rb2; rw [sN_eq, h6, nI_add]
    rw [h6, nI_add]
    by_cases q : j = 7
    · subst q
      rw [if_neg (by simp)]
      have z : ∀ c, c < 3 → zc (sN (rc1 (rc1 (rc1 (rb3 N t m) 0) 1) 2) 4 (nI 6)) c = zc N c := fun c hc => zc_eq (by
        rw [sN_ne (by omega), rc1_ne (by omega), rc1_ne (by omega), rc1_ne (by omega)]
        unfold rb3
        rw [sN_ne (by omega), eM _ (by omega) (by omega)])
      have e7 : sN (rc1 (rc1 (rc1 (rb3 N t m) 0) 1) 2) 4 (nI 6) 7 = nI d := by
        rw [sN_ne (by omega), rc1_ne (by omega), rc1_ne (by omega), rc1_ne (by omega)]
        unfold rb3
        rw [sN_ne (by omega), eM _ (by omega) (by omega)]; exact h7
      have r1 : rk (sN (rc1 (rc1 (rc1 (rb3 N t m) 0) 1) 2) 4 (nI 6)) = 20 * (3 - d) + 1 := by unfold rk; rw [cl_of (j := 6) sN_eq (by omega), cl_of e7 (by omega)]; rfl
      unfold mu
      rw [z 0 (by omega), z 1 (by omega), z 2 (by omega)]
      omega
    · have hne : nI (j + 1) ≠ nI 8 := fun q => by rw [nI_eq (by omega) (by omega)] at q; omega
      rw [if_pos hne]
      have z : ∀ c, c < 3 → zc (rb2 N t m) c = zc N c := fun c hc => zc_eq (eM _ (by omega) (by omega))
      have r1 : rk (rb2 N t m) = 20 * (3 - d) + 9 - (j + 1) := by unfold rk; rw [cl_of ((eM 4 (by omega) (by omega)).trans h4) (by omega), cl_of e6 (by omega), cl_of ((eM 7 (by omega) (by omega)).trans h7) (by omega)]; rfl
      unfold mu
      rw [z 0 (by omega), z 1 (by omega), z 2 (by omega)]
      omega
  · obtain ⟨-, h5, hbf, -⟩ := hp
    obtain ⟨⟨t, htn, h8'⟩, _, d, hd4, h7, hc⟩ := hbf
    obtain ⟨c0, hc0, hcon0⟩ := (con_ex hi.2.2).mp h5
    have est : stepN N = raN N t := by unfold stepN; rw [c4, cl_of h8' (by omega)]; rfl
    have r0 : rk N = 20 * (3 - d) + 1 := by unfold rk; rw [c4, cl_of h7 (by omega)]; rfl
    rw [est]
    unfold raN
    have m7 : raN1 N 7 = nI (d + 1) := by unfold raN1; rw [sN_eq, h7, nI_add]
    have eM : ∀ y, y ≠ 7 → raN1 N y = N y := by
      intro y g2
      unfold raN1; rw [sN_ne g2]
    generalize raN1 N = M at *
    have m5 : M 5 = N 5 := eM 5 (by omega)
    have hiv : IV M k := IV_N hi m5 (fun y g1 g2 => eM y (by omega))
    have zz : ∀ c, c < 3 → zc M c = zc N c := fun c hc => zc_eq (eM _ (by omega))
    have hle : ∀ c, c < 3 → zc (finN M) c ≤ zc N c := fun c hc => by rw [← zz c hc]; exact (zc_finN hiv hc).1
    by_cases hz : finN M 5 = nI 0
    · rw [if_pos ((finV_5 hiv.2.2).mpr hz)]
      have hlt : zc (finN M) c0 < zc N c0 := by
        rw [← zz c0 hc0]
        refine (zc_finN hiv hc0).2 ((con_N m5).mpr hcon0) ?_
        refine Classical.byContradiction (fun q => ?_)
        exact (con_ex (IV_finN hiv).2.2).mpr ⟨c0, hc0, (con_finN hc0 hiv.2.2).mpr ⟨(con_N m5).mpr hcon0, q⟩⟩ hz
      have z4 : ∀ c, c < 3 → zc (sN (finN M) 4 (nI 8)) c = zc (finN M) c := fun c hc => zc_eq (sN_ne (by omega))
      have hs := sum_lt (fun c => zc (finN M) c) (fun c => zc N c) ⟨rfl, rfl, rfl⟩ ⟨rfl, rfl, rfl⟩ hle hc0 hlt
      have r1 : rk (sN (finN M) 4 (nI 8)) = 91 := by unfold rk; rw [cl_of (j := 8) sN_eq (by omega)]; rfl
      unfold mu
      rw [z4 0 (by omega), z4 1 (by omega), z4 2 (by omega)]
      omega
    · rw [if_neg (fun q => hz ((finV_5 hiv.2.2).mp q))]
      obtain ⟨c1', hc1, hcon1⟩ := (con_ex (IV_finN hiv).2.2).mp hz
      have hlt : d + 1 < 4 := by
        obtain ⟨z1, z2⟩ := (con_finN hc1 hiv.2.2).mp hcon1
        obtain ⟨_, e, g1, g2, g3⟩ := hc c1' hc1 ((con_N m5).mp z1)
        rw [eM _ (by omega), g3, m7, ne_eq, nI_eq (by omega) (by omega)] at z2
        omega
      obtain ⟨⟨hd, hd9, ehd9⟩, _⟩ := ho t (by omega)
      have z4 : ∀ c, c < 3 → zc (holdsN (finN M) t) c = zc (finN M) c := fun c hc => zc_eq (holds_out (by omega))
      have hs := sum_le (fun c => zc (finN M) c) (fun c => zc N c) ⟨rfl, rfl, rfl⟩ ⟨rfl, rfl, rfl⟩ hle
      have r1 : rk (holdsN (finN M) t) ≤ 20 * (3 - (d + 1)) + 19 := by
        unfold holdsN
        rw [finN_out (by omega) (by omega), eM _ (by omega), ehd9]
        refine Nat.le_trans (rk_holds (d := d + 1) hlt (by rw [finN_out (by omega) (by omega)]; exact m7) hd9) ?_
        split <;> omega
      unfold mu
      rw [z4 0 (by omega), z4 1 (by omega), z4 2 (by omega)]
      omega
  · obtain ⟨-, h5, hbf, -, -, h, hh0, hh9, n9, -⟩ := hp
    obtain ⟨⟨t, htn, h8'⟩, _, d, hd4, h7, hc⟩ := hbf
    have est : stepN N = holdStep N t := by unfold stepN; rw [c4, cl_of h8' (by omega)]; rfl
    have r0 : rk N = 20 * (3 - d) + 10 + h := by unfold rk; rw [c4, cl_of n9 (by omega), cl_of h7 (by omega)]; rfl
    have est2 : holdStep N t = nextByteN (sN (sN (sN N 11 (N 11 + nI 1)) (327 + 22 * t + 5) (N (327 + 22 * t + 5) + nI 1)) 9 (nI (h - 1))) := by
      have e : sN (sN (sN N 9 (N 9 - nI 1)) 11 (N 11 + nI 1)) (327 + 22 * t + 5) ((sN (sN N 9 (N 9 - nI 1)) 11 (N 11 + nI 1)) (327 + 22 * t + 5) + nI 1) = sN (sN (sN N 11 (N 11 + nI 1)) (327 + 22 * t + 5) (N (327 + 22 * t + 5) + nI 1)) 9 (nI (h - 1)) := by
        rw [sN_ne (show 327 + 22 * t + 5 ≠ 11 by omega), sN_ne (show 327 + 22 * t + 5 ≠ 9 by omega), n9, pk_sub (by omega)]
        funext y
        unfold sN
        by_cases y9 : y = 9
        · rw [if_neg (by omega), if_neg (by omega), if_pos y9, if_pos y9]
        · rw [if_neg y9]
          by_cases y5 : y = 327 + 22 * t + 5
          · rw [if_pos y5, if_neg y9]
          · rw [if_neg y5, if_neg y9]
      exact congrArg nextByteN e
    rw [est, est2]
    have z : ∀ c, c < 3 → zc (nextByteN (sN (sN (sN N 11 (N 11 + nI 1)) (327 + 22 * t + 5) (N (327 + 22 * t + 5) + nI 1)) 9 (nI (h - 1)))) c = zc N c := fun c hc => zc_eq (by rw [nbN_out (by omega), sN_ne (by omega), sN_ne (by omega), sN_ne (by omega)])
    have r1 := rk_holds (M := sN (sN N 11 (N 11 + nI 1)) (327 + 22 * t + 5) (N (327 + 22 * t + 5) + nI 1)) (d := d) (h := h - 1) hd4 (by rw [sN_ne (by omega), sN_ne (by omega)]; exact h7) (by omega)
    have r2 : (if h - 1 = 0 then 9 else 10 + (h - 1)) < 10 + h := by split <;> omega
    unfold mu
    rw [z 0 (by omega), z 1 (by omega), z 2 (by omega)]
    omega
  · have est : stepN N = sN (sN N 4 (nI 0)) 8 (-1) := by unfold stepN; rw [c4]; rfl
    have r0 : rk N = 91 := by unfold rk; rw [c4]; rfl
    have e4 : sN (sN N 4 (nI 0)) 8 (-1) 4 = nI 0 := by rw [sN_ne (by omega), sN_eq]
    have r1 : rk (sN (sN N 4 (nI 0)) 8 (-1)) = 90 := by unfold rk; rw [cl_of e4 (by omega)]; rfl
    have z : ∀ c, c < 3 → zc (sN (sN N 4 (nI 0)) 8 (-1)) c = zc N c := fun c hc => zc_eq (by rw [sN_ne (by omega), sN_ne (by omega)])
    rw [est]
    unfold mu
    rw [z 0 (by omega), z 1 (by omega), z 2 (by omega)]
    omega
