/-! the world with what holds of its rows; what a walk of the law leaves -/
/-- the listeners' addresses -/
def SA (N : Nat → Int32) : Prop := ∀ n l, N 2 = nI n → n ≤ 6 → l < n → ∃ a, a < 128 ∧ N (327 + 22 * l) = nI a
def SQ (N : Nat → Int32) : Prop := (∃ q, q < 2147400000 ∧ SI N q) ∧ SA N
def TH (n : Nat) (w w' : Wd) : Prop := w'.1 = w.1 ∧ w'.2.2.1 ≤ w.2.2.1 + n ∧ w'.2.2.2 ≤ w.2.2.2 + 6 * n
theorem TH_refl {w : Wd} : TH 0 w w := ⟨rfl, Nat.le_refl _, Nat.le_refl _⟩
theorem TH_thr {w : Wd} : TH 1 w (thrT w) := ⟨rfl, Nat.le_refl _, Nat.le_refl _⟩
theorem TH_trans {n m : Nat} {w w1 w2 : Wd} (h : TH n w w1) (g : TH m w1 w2) : TH (n + m) w w2 := by
  obtain ⟨a, b, c⟩ := h
  obtain ⟨d, e, f⟩ := g
  exact ⟨d.trans a, by omega, by omega⟩
theorem TH_le {n m : Nat} {w w1 : Wd} (h : TH n w w1) (hm : n ≤ m) : TH m w w1 := ⟨h.1, by have := h.2.1; omega, by have := h.2.2; omega⟩
def RS (B n : Nat) (w w' : Wd) (I J : MI) (L K : ML) (P Q : MP) : Prop := TH n w w' ∧ Fr B (B + 284) I J L K P Q
theorem RS_trans {B n m : Nat} {w w1 w2 : Wd} {I J H : MI} {L K G : ML} {P Q R : MP} (h : RS B n w w1 I J L K P Q) (g : RS B m w1 w2 J H K G Q R) : RS B (n + m) w w2 I H L G P R := ⟨TH_trans h.1 g.1, Fr_trans h.2 g.2⟩
theorem RS_le {B n m : Nat} {w w1 : Wd} {I J : MI} {L K : ML} {P Q : MP} (h : RS B n w w1 I J L K P Q) (hm : n ≤ m) : RS B m w w1 I J L K P Q := ⟨TH_le h.1 hm, h.2⟩
theorem RS_th {B n : Nat} {w w1 : Wd} {I : MI} {L : ML} {P : MP} (h : TH n w w1) : RS B n w w1 I I L L P P := ⟨h, Fr_refl⟩
theorem RS_fr {B : Nat} {w : Wd} {I J : MI} {L K : ML} {P Q : MP} (h : Fr B (B + 284) I J L K P Q) : RS B 0 w w I J L K P Q := ⟨TH_refl, h⟩
/-- a message's bytes, as the row tells them -/
def MB (N : Nat → Int32) (o : Nat) : Prop := (N (o + 4) = -1 ↔ N (o + 1) = nI 1) ∧ ∀ n, N (o + 2) = nI n → n < 4 → N (o + 4 + n) = -1
theorem MB_of {N : Nat → Int32} {o m : Nat} {I : MI} {L : ML} (h : MR N o I L m) (g : OM N o) : MB N o := by
  obtain ⟨h0, h1, h2, h3, h4⟩ := h
  obtain ⟨-, gr, n, g1, g2, g3, g4⟩ := g
  rcases gr with gr | gr
  · refine ⟨⟨fun z => ?_, fun z => ?_⟩, ?_⟩
    · obtain ⟨x, hx, e⟩ := g4 gr 0 g1
      rw [Nat.add_zero, z] at e
      exact absurd e.symm (nI_m1 (by omega))
    · rw [gr] at z; exact absurd z (by decide)
    · intro n' e hn'
      have := h4 n' hn'
      rw [h0, h2, gr, e] at this
      rw [← this]
      unfold mbyte
      rw [if_neg (by decide), if_neg (nI_pos (by omega)), if_neg (nI_nlt (Nat.le_refl _) (by omega))]
  · have e : ∀ k, k < 4 → N (o + 4 + k) = -1 := by
      intro k hk
      have := h4 k hk
      rw [h0, gr] at this
      rw [← this]
      unfold mbyte
      rw [if_pos (by decide)]
    exact ⟨⟨fun _ => gr, fun _ => e 0 (by omega)⟩, fun n' _ hn' => e n' hn'⟩
section
variable {B : Nat} {w : Wd} {I : MI} {L : ML} {P : MP} {N : Nat → Int32} {st : Nat} {Ks : Nat → Nat → Int32} {len : Nat} {tx : Nat → Nat} {T : Nat}
/-- what is known of the row of a world -/
def KN (N : Nat → Int32) (T q k n : Nat) : Prop := q ≤ T ∧ N 0 = nI q ∧ 0 < k ∧ k ≤ 3 ∧ N 1 = nI k ∧ n ≤ 6 ∧ N 2 = nI n ∧ IV N k ∧ OL N n ∧ (N 4 = 0 → N 5 = nI 0 ∧ N 8 = -1) ∧ (∀ c, c < 3 → ∀ s p, N (207 + 40 * c) = nI s → s ≤ 4 → p < s → MB N (215 + 40 * c + 8 * p)) ∧ (N 12 = if q = 0 then nI 1 else N (15 + 3 * ((q - 1) % 64))) ∧ GN N q
theorem CW_KN (h : CW B w I L P N st Ks len tx T) (hT : T < 2147000000) : ∃ q k n, KN N T q k n := by
  obtain ⟨q', hqT', hg', h0'⟩ := CW_GN h
  obtain ⟨hw, p0, tb, hst, q, k, n, md, hqT, hbc, hlg⟩ := CW_bc h
  have eq : q' = q := by
    have := hlg.1
    rw [h0', nI_eq (by omega) (by omega)] at this
    exact this
  subst eq
  have h8 := PH_8 hbc.2.2.2.2.2.2.2.2.2.2.2.2
  obtain ⟨⟨hk0, hk, h1, i1⟩, ⟨hn, h2, i3⟩, i4, h4, i7, i8, hq, hs, hl, hu, hi, ho, hp⟩ := hbc
  refine ⟨q', k, n, hqT, h0', hk0, hk, h1, hn, h2, hi, ho, ?_, ?_, hlg.2.2.2.2.2, hg'⟩
  · intro z
    rw [h4, ← nI_0, nI_eq (by omega) (by omega)] at z
    subst z
    exact hp.2
  · intro c hc s p e hs4 hps
    obtain ⟨s1, z1, z2, -, z4⟩ := hi.1 c hc
    have es1 : s1 = s := by
      rw [e, nI_eq (by omega) (by omega)] at z2
      exact z2.symm
    subst es1
    obtain ⟨qq, s2, y0, y1, y2, y3, -, -, -, -, y8⟩ := hs c hc
    have es2 : s2 = s1 := by
      rw [e, nI_eq (by omega) (by omega)] at y2
      exact y2.symm
    subst es2
    have := y8 p hps
    rw [show 207 + 40 * c + 8 + 8 * p = 215 + 40 * c + 8 * p from by omega] at this
    exact MB_of this (z4 p hps)
theorem SQ_q {q : Nat} (h : SQ N) (h0 : N 0 = nI q) (hq : q < 2147483648) : SI N q := by
  obtain ⟨⟨q', h1, h2⟩, -⟩ := h
  have : q' = q := by
    have := h2.1
    rw [h0, nI_eq (by omega) (by omega)] at this
    exact this.symm
  subst this
  exact h2
end
/-- how long a message takes alone, as a number -/
theorem aloV_eq {N : Nat → Int32} {c n : Nat} (hn : n ≤ 6) (hol : OL N n) (ho : OM N (215 + 40 * c)) : (ansN N (N (215 + 40 * c)) n = -1 ∧ aloV N c n = nI 11) ∨ ∃ t m h cnt, t < n ∧ ansN N (N (215 + 40 * c)) n = nI t ∧ N (327 + 22 * t + 2) = nI m ∧ m ≤ 16 ∧ N (327 + 22 * t + 1) = nI h ∧ h ≤ 9 ∧ N (217 + 40 * c) = nI cnt ∧ 0 < cnt ∧ cnt ≤ 4 ∧ aloV N c n = nI (11 + (if N (216 + 40 * c) = nI 0 then (if 17 - m < cnt then 17 - m else cnt) else cnt) * (h + 9)) := by
  obtain ⟨-, hr, cnt, c0, c4, hc, -⟩ := ho
  rw [show 215 + 40 * c + 1 = 216 + 40 * c from by omega] at hr
  rw [show 215 + 40 * c + 2 = 217 + 40 * c from by omega] at hc
  rcases ansN_ex N (N (215 + 40 * c)) hn with ⟨e, -⟩ | ⟨t, ht, e, -, -⟩
  · left
    refine ⟨e, ?_⟩
    unfold aloV
    rw [if_pos e]
  · right
    obtain ⟨⟨h, h9, eh⟩, -, m, p, m16, em, -⟩ := hol t (by omega)
    refine ⟨t, m, h, cnt, ht, e, em, m16, eh, h9, hc, c0, c4, ?_⟩
    unfold aloV
    rw [e, if_neg (nI_m1 (by omega)), cl_nI (by omega), em, eh, hc, nI_add, pk_sub m16, nI_add]
    rcases hr with r | r
    · rw [r, if_neg (by decide), if_pos rfl]
      by_cases z : 17 - m < cnt
      · rw [if_pos (nI_lt (by omega) (by omega)), if_pos z, pk_mul, nI_add, show 16 - m + 1 = 17 - m from by omega]
      · rw [if_neg (nI_nlt (by omega) (by omega)), if_neg z, pk_mul, nI_add]
    · rw [r, if_pos (by decide), if_neg (by decide), pk_mul, nI_add]
theorem aloV_m1 {N : Nat → Int32} {c n : Nat} (hn : n ≤ 6) (hol : OL N n) (ho : OM N (215 + 40 * c)) : aloV N c n ≠ -1 := by
  rcases aloV_eq hn hol ho with ⟨-, e⟩ | ⟨t, m, h, cnt, -, -, -, -, -, h9, -, -, c4, e⟩
  · rw [e]; exact nI_m1 (by omega)
  · rw [e]
    refine nI_m1 ?_
    have b : (if N (216 + 40 * c) = nI 0 then (if 17 - m < cnt then 17 - m else cnt) else cnt) ≤ 4 := by
      split
      · split <;> omega
      · exact c4
    have := Nat.mul_le_mul b (show h + 9 ≤ 18 by omega)
    omega
