/-! one message alone takes as long as foretold -/
def OO (M : Nat → Int32) (c : Nat) : Prop := zc M c = 1 ∧ (∀ c', c' < 3 → c' ≠ c → zc M c' = 0) ∧ ∀ c', c' < 3 → (conB M (nI c') ↔ c' = c)
/-- the rounds of bytes that are left -/
def EE (rd : Int32) (m cnt d : Nat) : Nat := if rd = nI 0 then (if 17 - m < cnt - d then 17 - m else cnt - d) else cnt - d
def R2P (M : Nat → Int32) (c n R : Nat) : Prop := (ansN M (M (215 + 40 * c)) n = -1 ∧ R = 2) ∨ ∃ t m h cnt, t < n ∧ ansN M (M (215 + 40 * c)) n = nI t ∧ M (327 + 22 * t + 2) = nI m ∧ m ≤ 16 ∧ M (327 + 22 * t + 1) = nI h ∧ h ≤ 9 ∧ M (217 + 40 * c) = nI cnt ∧ 0 < cnt ∧ cnt ≤ 4 ∧ R = 2 + EE (M (216 + 40 * c)) m cnt 0 * (h + 9)
def TR (M : Nat → Int32) (c t h m cnt d : Nat) : Prop := M 8 = nI t ∧ t < 6 ∧ M (327 + 22 * t + 1) = nI h ∧ h ≤ 9 ∧ M (327 + 22 * t + 2) = nI m ∧ m ≤ 16 ∧ M 7 = nI d ∧ M (217 + 40 * c) = nI cnt ∧ d < cnt ∧ cnt ≤ 4 ∧ (M 14 = nI 0 ∨ M 14 = nI 1)
def AL (M : Nat → Int32) (c n r : Nat) : Prop := OO M c ∧ ((M 4 = nI 1 ∧ ∃ j R, j < 8 ∧ M 6 = nI j ∧ R2P M c n R ∧ r = 8 - j + R) ∨ (M 4 = nI 2 ∧ R2P M c n r) ∨ ∃ t h m cnt d, TR M c t h m cnt d ∧ (((M 4 = nI 3 ∧ M 14 = nI 0 ∨ M 4 = nI 5 ∧ M 14 = nI 1) ∧ ∃ j, j < 8 ∧ M 6 = nI j ∧ r = 8 - j + 1 + (EE (M 14) m cnt d - 1) * (h + 9) + 1) ∨ ((M 4 = nI 4 ∧ M 14 = nI 0 ∨ M 4 = nI 6 ∧ M 14 = nI 1) ∧ r = 1 + (EE (M 14) m cnt d - 1) * (h + 9) + 1) ∨ (M 4 = nI 7 ∧ ∃ g, 0 < g ∧ g ≤ 9 ∧ M 9 = nI g ∧ r = g + 9 + (EE (M 14) m cnt d - 1) * (h + 9) + 1)))
def AZ (M : Nat → Int32) : Prop := M 4 = nI 8 ∧ ∀ c, c < 3 → zc M c = 0
theorem EE_1 {rd : Int32} {m cnt d : Nat} (hm : m ≤ 16) (hd : d < cnt) : 1 ≤ EE rd m cnt d := by
  unfold EE
  split
  · split <;> omega
  · omega
theorem wFrom_N {N M : Nat → Int32} {a : Int32} (e : ∀ x, 327 ≤ x → M x = N x) : ∀ f l, wFrom M a l f = wFrom N a l f := by
  intro f
  induction f with
  | zero => intro l; rfl
  | succ f ih =>
    intro l
    unfold wFrom
    rw [e _ (by omega), ih]
theorem ansN_N {N M : Nat → Int32} {a : Int32} {n : Nat} (e : ∀ x, 327 ≤ x → M x = N x) : ansN M a n = ansN N a n := by
  unfold ansN
  rw [wFrom_N e, e _ (by omega)]
theorem R2P_N {N M : Nat → Int32} {c n R : Nat} (h : R2P N c n R) (e : ∀ x, 207 ≤ x → M x = N x) : R2P M c n R := by
  unfold R2P at h ⊢
  rw [e (215 + 40 * c) (by omega), e (216 + 40 * c) (by omega), e (217 + 40 * c) (by omega), ansN_N (fun x hx => e x (by omega))]
  rcases h with h | ⟨t, m, hh, cnt, h1, h2, h3, h4, h5, h6, h7⟩
  · exact Or.inl h
  · exact Or.inr ⟨t, m, hh, cnt, h1, h2, by rw [e _ (by omega)]; exact h3, h4, by rw [e _ (by omega)]; exact h5, h6, h7⟩
theorem OO_N {N M : Nat → Int32} {c : Nat} (hc : c < 3) (h : OO N c) (e5 : M 5 = N 5) (e : ∀ c', c' < 3 → M (207 + 40 * c') = N (207 + 40 * c')) : OO M c := by
  obtain ⟨a, b, d⟩ := h
  refine ⟨(zc_eq (e c hc)).trans a, fun c' hc' hn => (zc_eq (e c' hc')).trans (b c' hc' hn), fun c' hc' => ?_⟩
  unfold conB
  rw [e5]
  exact d c' hc'
theorem TR_N {N M : Nat → Int32} {c t h m cnt d : Nat} (g : TR N c t h m cnt d) (e7 : M 7 = N 7) (e8 : M 8 = N 8) (e14 : M 14 = N 14) (ec : M (217 + 40 * c) = N (217 + 40 * c)) (el : M (327 + 22 * t + 1) = N (327 + 22 * t + 1)) (el2 : M (327 + 22 * t + 2) = N (327 + 22 * t + 2)) : TR M c t h m cnt d := by
  obtain ⟨g1, g2, g3, g4, g5, g6, g7, g8, g9, g10, g11⟩ := g
  exact ⟨e8.trans g1, g2, el.trans g3, g4, el2.trans g5, g6, e7.trans g7, ec.trans g8, g9, g10, by rw [e14]; exact g11⟩
/-- a caller alone loses no bit -/
theorem one_lose {M : Nat → Int32} {h : Int32} {c : Nat} (h8 : S8 M) (ho : OO M c) (hc : c < 3) : loseAll M h (lvl M h) = M := by
  obtain ⟨-, -, hcon⟩ := ho
  have h5 : M 5 ≠ nI 0 := (con_ex h8).mpr ⟨c, hc, (hcon c hc).mpr rfl⟩
  obtain ⟨c0, hc0, g1, g2⟩ := lvl_ex (h := h) h8 h5
  have e0 : c0 = c := (hcon c0 hc0).mp g1
  subst e0
  have one : ∀ c', c' < 3 → loseIf M h (lvl M h) c' = M := fun c' hc' => by
    unfold loseIf
    rw [if_neg]
    rintro ⟨y1, y2⟩
    have := (hcon c' hc').mp y1
    subst this
    exact y2 g2
  unfold loseAll
  rw [one 0 (by omega), one 1 (by omega), one 2 (by omega)]
theorem one_bit {M : Nat → Int32} {h : Int32} {c : Nat} (h8 : S8 M) (ho : OO M c) (hc : c < 3) : bitOfN M h = sN M 6 (M 6 + nI 1) := by
  show sN (loseAll M h (lvl M h)) 6 (loseAll M h (lvl M h) 6 + nI 1) = _
  rw [one_lose h8 ho hc]
theorem one_all {M : Nat → Int32} {k as c : Nat} (h0 : 0 < as) (has : as < 5) (hi : IV M k) (ho : OO M c) (hc : c < 3) : ∀ c', c' < 3 → zc (allLeaveN M as) c' = 0 := by
  obtain ⟨a, b, d⟩ := ho
  intro c' hc'
  obtain ⟨z1, z2⟩ := zc_allLeave h0 has hi hc'
  by_cases e : c' = c
  · subst e
    have := z2 ((d c' hc').mpr rfl)
    omega
  · have := b c' hc' e
    omega
theorem one_fin {M : Nat → Int32} {k c : Nat} (hi : IV M k) (ho : OO M c) (hc : c < 3) : (M (217 + 40 * c) ≠ M 7 → finN M = M ∧ finV M ≠ 0) ∧ (M (217 + 40 * c) = M 7 → finV M = 0 ∧ ∀ c', c' < 3 → zc (finN M) c' = 0) := by
  have ho' := ho
  obtain ⟨a, b, d⟩ := ho'
  have h5 : M 5 ≠ nI 0 := (con_ex hi.2.2).mpr ⟨c, hc, (d c hc).mpr rfl⟩
  constructor
  · intro hn
    have one : ∀ c', c' < 3 → fin1 M c' = M := fun c' hc' => by
      unfold fin1
      rw [if_neg]
      rintro ⟨y1, y2⟩
      have := (d c' hc').mp y1
      subst this
      exact hn y2
    have e : finN M = M := by
      unfold finN
      rw [one 0 (by omega), one 1 (by omega), one 2 (by omega)]
    refine ⟨e, fun z => ?_⟩
    have := (finV_5 hi.2.2).mp z
    rw [e] at this
    exact h5 this
  · intro he
    constructor
    · refine (finV_5 hi.2.2).mpr (Classical.byContradiction (fun z => ?_))
      obtain ⟨c', hc', y⟩ := (con_ex (IV_finN hi).2.2).mp z
      obtain ⟨y1, y2⟩ := (con_finN hc' hi.2.2).mp y
      have := (d c' hc').mp y1
      subst this
      exact y2 he
    · intro c' hc'
      obtain ⟨z1, z2⟩ := zc_finN hi hc'
      by_cases e : c' = c
      · subst e
        have := z2 ((d c' hc').mpr rfl) he
        omega
      · have := b c' hc' e
        omega
theorem nb_4 (N : Nat → Int32) : nextByteN N 4 = if N 9 ≤ 0 then (if N 14 ≠ nI 1 then nI 3 else nI 5) else nI 7 := by
  unfold nextByteN
  rw [sN_eq, sN_ne (by omega), sN_ne (by omega), sN_ne (by omega), sN_ne (by omega)]
/-- behind 'the listener holds the line' -/
theorem AL_holds {M X : Nat → Int32} {c n t h m cnt d r g : Nat} (hc : c < 3) (ho : OO M c) (ht : TR M c t h m cnt d) (hg : g ≤ 9) (e : ∀ x, (x = 5 ∨ x = 7 ∨ x = 8 ∨ x = 14 ∨ 207 ≤ x) → x ≠ 327 + 22 * t + 5 → X x = M x) (e4 : X 4 = nextByteN (sN M 9 (nI g)) 4) (e6 : X 6 = nI 0) (e9 : X 9 = nI g) (hr : r = g + 9 + (EE (M 14) m cnt d - 1) * (h + 9) + 1) : AL X c n r := by
  have ht' := ht
  obtain ⟨g1, g2, g3, g4, g5, g6, g7, g8, g9, g10, g11⟩ := ht'
  refine ⟨OO_N hc ho (e 5 (by omega) (by omega)) (fun c' hc' => e _ (by omega) (by omega)), Or.inr (Or.inr ⟨t, h, m, cnt, d, TR_N ht (e 7 (by omega) (by omega)) (e 8 (by omega) (by omega)) (e 14 (by omega) (by omega)) (e _ (by omega) (by omega)) (e _ (by omega) (by omega)) (e _ (by omega) (by omega)), ?_⟩)⟩
  rw [nb_4, sN_eq, sN_ne (by omega)] at e4
  rw [e 14 (by omega) (by omega)]
  by_cases z : g = 0
  · subst z
    rw [if_pos (by decide)] at e4
    left
    refine ⟨?_, 0, by omega, e6, by omega⟩
    rcases g11 with q | q
    · left
      rw [if_pos (by rw [q]; decide)] at e4
      exact ⟨e4, q⟩
    · right
      rw [if_neg (by rw [q]; simp)] at e4
      exact ⟨e4, q⟩
  · rw [if_neg (by rw [← nI_0]; exact nI_ge (by omega) (by omega))] at e4
    right; right
    exact ⟨e4, g, by omega, hg, e9, hr⟩
theorem AL_step {M : Nat → Int32} {q c n r : Nat} (hg : GN M q) (hq : q < 2147483647) (hn2 : M 2 = nI n) (hn6 : n ≤ 6) (hc : c < 3) (ha : AL M c n r) : ∃ r', r = r' + 1 ∧ (AL (slotN M) c n r' ∨ (AZ (slotN M) ∧ r' = 1)) := by
  obtain ⟨ho, h0⟩ := GN_ok hg
  obtain ⟨w, b, I, L, P, hbt, ⟨k, n', md, hbc⟩, -⟩ := hg
  obtain ⟨-, -, -, hm, -, -, -, -, -, -, hi, hol, hp⟩ := hbc
  have h8 := PH_8 hp
  have c4 := cl_of hm (by omega)
  have hr64 : q % 64 < 64 := Nat.mod_lt _ (by omega)
  have e : ∀ x, x ≠ 0 → x ≠ 10 → x ≠ 12 → (x < 15 ∨ 207 ≤ x) → slotN M x = stepN M x := fun x a b c d => slotN_out ho h0 (by omega) ⟨a, b, c⟩ (by omega)
  have mdE : ∀ j, j < 9 → M 4 = nI j → md = j := fun j hj z => by
    rw [hm, nI_eq (by omega) (by omega)] at z
    exact z
  obtain ⟨hoo, h | h | h⟩ := ha
  · -- a bit of the header
    obtain ⟨h4, j, R, hj, h6, hR, hr⟩ := h
    have em := mdE 1 (by omega) h4
    subst em
    have es : stepN M = sN (bitOfN M (nI 1)) 4 (if bitOfN M (nI 1) 6 ≠ nI 8 then nI 1 else nI 2) := by
      unfold stepN
      rw [c4]
      rfl
    rw [one_bit hi.2.2 hoo hc] at es
    have eq1 : ∀ x, x ≠ 0 → x ≠ 10 → x ≠ 12 → x ≠ 4 → x ≠ 6 → (x < 15 ∨ 207 ≤ x) → slotN M x = M x := fun x a b d f g l => by rw [e x a b d l, es, sN_ne f, sN_ne g]
    have e4' : slotN M 4 = if j + 1 = 8 then nI 2 else nI 1 := by
      rw [e 4 (by omega) (by omega) (by omega) (by omega), es, sN_eq, sN_eq, h6, nI_add]
      by_cases z : j + 1 = 8
      · rw [if_pos z, z, if_neg (by simp)]
      · rw [if_neg z, if_pos (by rw [Ne, nI_eq (by omega) (by omega)]; exact z)]
    have e6' : slotN M 6 = nI (j + 1) := by
      rw [e 6 (by omega) (by omega) (by omega) (by omega), es, sN_ne (by omega), sN_eq, h6, nI_add]
    have hR' := R2P_N hR (fun x hx => eq1 x (by omega) (by omega) (by omega) (by omega) (by omega) (by omega))
    have hoo' := OO_N hc hoo (eq1 5 (by omega) (by omega) (by omega) (by omega) (by omega) (by omega)) (fun c' hc' => eq1 _ (by omega) (by omega) (by omega) (by omega) (by omega) (by omega))
    refine ⟨r - 1, by omega, Or.inl ⟨hoo', ?_⟩⟩
    by_cases z : j + 1 = 8
    · rw [if_pos z] at e4'
      right; left
      refine ⟨e4', ?_⟩
      rw [show r - 1 = R from by omega]
      exact hR'
    · rw [if_neg z] at e4'
      left
      exact ⟨e4', j + 1, R, by omega, e6', hR', by omega⟩
  · -- the answer to the header
    obtain ⟨h4, hR⟩ := h
    have em := mdE 2 (by omega) h4
    subst em
    have es : stepN M = haN M n := by
      unfold stepN
      rw [c4, cl_of hn2 (by omega)]
      rfl
    have hac := anyc_con hi.2.2 ((con_ex hi.2.2).mpr ⟨c, hc, (hoo.2.2 c hc).mpr rfl⟩)
    have eac : anyc M = c := (hoo.2.2 _ (anyc_lt M)).mp hac
    obtain ⟨s, hs, e1, e2, e3⟩ := hi.1 c hc
    have zs : s = 1 := by
      have := hoo.1
      unfold zc at this
      rw [cl_of e1 (by omega)] at this
      exact this
    obtain ⟨⟨a, ha, ea⟩, erd, cnt0, c0, c4', ecnt, -⟩ := e3 0 (by omega)
    rw [Nat.mul_zero, Nat.add_zero] at ea erd ecnt
    rw [show 215 + 40 * c + 1 = 216 + 40 * c from by omega] at erd
    rw [show 215 + 40 * c + 2 = 217 + 40 * c from by omega] at ecnt
    obtain ⟨x, hx, ex, exa, exr⟩ : ∃ x, x < 256 ∧ hdr M c = nI x ∧ nI (x / 2) = M (215 + 40 * c) ∧ nI (x % 2) = M (216 + 40 * c) := by
      unfold hdr
      rw [ea]
      rcases erd with y | y <;> rw [y, pk_mul, nI_add]
      · exact ⟨2 * a + 0, by omega, rfl, by rw [show (2 * a + 0) / 2 = a from by omega], by rw [show (2 * a + 0) % 2 = 0 from by omega]⟩
      · exact ⟨2 * a + 1, by omega, rfl, by rw [show (2 * a + 1) / 2 = a from by omega], by rw [show (2 * a + 1) % 2 = 1 from by omega]⟩
    have ehd : hdr M (anyc M) / nI 2 = M (215 + 40 * c) := by rw [eac, ex, pk_div (by omega) (by omega) (by omega), exa]
    have ehm : hdr M (anyc M) - hdr M (anyc M) / nI 2 * nI 2 = M (216 + 40 * c) := by rw [eac, ex, pk_rem (by omega) (by omega) (by omega), exr]
    have eT : haT M n = wFrom M (M (215 + 40 * c)) 0 n := by unfold haT; rw [ehd]
    unfold R2P at hR
    unfold ansN at hR
    unfold haN at es
    rw [eT] at es
    by_cases z : wFrom M (M (215 + 40 * c)) 0 n = -1 ∨ M (327 + 22 * Int32.toNatClampNeg (wFrom M (M (215 + 40 * c)) 0 n) + 4) = 0
    · rw [if_pos z] at es hR
      have r2 : r = 2 := by
        rcases hR with ⟨-, y⟩ | ⟨t, m, hh, cnt, htn, y, -⟩
        · exact y
        · exact absurd y.symm (by
            have : t < 6 := by omega
            exact nI_m1 (by omega))
      refine ⟨1, by omega, Or.inr ⟨⟨?_, ?_⟩, rfl⟩⟩
      · rw [e 4 (by omega) (by omega) (by omega) (by omega), es]
        unfold allLeaveN
        rw [sN_eq]
      · intro c' hc'
        rw [zc_eq ((e _ (by omega) (by omega) (by omega) (by omega)).trans (by rw [es]) : slotN M (207 + 40 * c') = allLeaveN M 2 (207 + 40 * c'))]
        exact one_all (by omega) (by omega) hi hoo hc c' hc'
    · rw [if_neg z] at es hR
      rcases hR with ⟨y, -⟩ | ⟨t, m, hh, cnt, htn, ht, hm', hm16, hh', hh9, hcnt, hc0, hc4, hr⟩
      · exact absurd y (fun y => z (Or.inl y))
      · rw [ht, cl_nI (by omega), ehm] at es
        have ecc : cnt = cnt0 := by rw [hcnt, nI_eq (by omega) (by omega)] at ecnt; exact ecnt
        have e1' := EE_1 (rd := M (216 + 40 * c)) (m := m) (cnt := cnt) (d := 0) hm16 (by omega)
        obtain ⟨E', hE⟩ : ∃ E', EE (M (216 + 40 * c)) m cnt 0 = E' + 1 := ⟨EE (M (216 + 40 * c)) m cnt 0 - 1, by omega⟩
        obtain ⟨X, eX⟩ : ∃ X, X = sN (sN (sN M 8 (nI t)) 14 (M (216 + 40 * c))) 7 (nI 0) := ⟨_, rfl⟩
        rw [← eX] at es
        have xo : ∀ x, x ≠ 7 → x ≠ 8 → x ≠ 14 → X x = M x := fun x a b d => by rw [eX, sN_ne a, sN_ne d, sN_ne b]
        have x7 : X 7 = nI 0 := by rw [eX, sN_eq]
        have x8 : X 8 = nI t := by rw [eX, sN_ne (by omega), sN_ne (by omega), sN_eq]
        have x14 : X 14 = M (216 + 40 * c) := by rw [eX, sN_ne (by omega), sN_eq]
        have hX : TR X c t hh m cnt 0 := ⟨x8, by omega, by rw [xo _ (by omega) (by omega) (by omega)]; exact hh', hh9, by rw [xo _ (by omega) (by omega) (by omega)]; exact hm', hm16, x7, by rw [xo _ (by omega) (by omega) (by omega)]; exact hcnt, hc0, hc4, by rw [x14]; exact erd⟩
        have hoX : OO X c := OO_N hc hoo (xo 5 (by omega) (by omega) (by omega)) (fun c' hc' => xo _ (by omega) (by omega) (by omega))
        have exh : X (327 + 22 * t + 1) = nI hh := by rw [xo _ (by omega) (by omega) (by omega)]; exact hh'
        have esX : stepN M = nextByteN (sN X 9 (nI hh)) := by
          rw [es]
          unfold holdsN
          rw [exh]
        refine ⟨r - 1, by rw [hr, hE, Nat.add_mul]; omega, Or.inl (AL_holds (M := X) (g := hh) hc hoX hX hh9 (fun x x1 x2 => ?_) ?_ ?_ ?_ ?_)⟩
        · rw [e x (by omega) (by omega) (by omega) (by omega), esX, nbN_out (by omega), sN_ne (by omega)]
        · rw [e 4 (by omega) (by omega) (by omega) (by omega), esX]
        · rw [e 6 (by omega) (by omega) (by omega) (by omega), esX]; exact (nb_613 _).1
        · rw [e 9 (by omega) (by omega) (by omega) (by omega), esX, nbN_out (by omega), sN_eq]
        · rw [x14, hE, Nat.add_sub_cancel, hr, hE, Nat.add_mul]; omega
  · obtain ⟨t, hh, m, cnt, d, hT, h⟩ := h
    have hT' := hT
    obtain ⟨t8, t6, th, th9, tm, tm16, t7, tc, tdc, tc4, t14⟩ := hT'
    have e1' := EE_1 (rd := M 14) (m := m) (cnt := cnt) (d := d) tm16 tdc
    obtain ⟨E', hE⟩ : ∃ E', EE (M 14) m cnt d = E' + 1 := ⟨EE (M 14) m cnt d - 1, by omega⟩
    rw [hE, Nat.add_sub_cancel] at h
    rcases h with ⟨hmd, j, hj, h6, hr⟩ | ⟨hmd, hr⟩ | ⟨h4, g, hg0, hg9, h9, hr⟩
    · -- a bit of a byte
      obtain ⟨X4, hX4, eq1, e4', e6'⟩ : ∃ X4 : Int32, (X4 = (if j + 1 = 8 then (if M 14 = nI 0 then nI 4 else nI 6) else M 4)) ∧ (∀ x, (x = 5 ∨ x = 7 ∨ x = 8 ∨ x = 14 ∨ (207 ≤ x ∧ x < 327 ∧ (∀ c', c' < 3 → x ≠ 213 + 40 * c' ∧ x ≠ 214 + 40 * c')) ∨ x = 327 + 22 * t + 1 ∨ x = 327 + 22 * t + 2) → slotN M x = M x) ∧ slotN M 4 = X4 ∧ slotN M 6 = nI (j + 1) := by
        rcases hmd with ⟨h4, m14⟩ | ⟨h4, m14⟩
        · have em := mdE 3 (by omega) h4
          subst em
          have es : stepN M = sN (bitOfN M (nI 0)) 4 (if bitOfN M (nI 0) 6 ≠ nI 8 then nI 3 else nI 4) := by
            unfold stepN
            rw [c4]
            rfl
          rw [one_bit hi.2.2 hoo hc] at es
          refine ⟨_, rfl, fun x hx => ?_, ?_, ?_⟩
          · rw [e x (by omega) (by omega) (by omega) (by omega), es, sN_ne (by omega), sN_ne (by omega)]
          · rw [e 4 (by omega) (by omega) (by omega) (by omega), es, sN_eq, sN_eq, h6, nI_add, m14, if_pos rfl, h4]
            by_cases z : j + 1 = 8
            · rw [if_pos z, z, if_neg (by simp)]
            · rw [if_neg z, if_pos (by rw [Ne, nI_eq (by omega) (by omega)]; exact z)]
          · rw [e 6 (by omega) (by omega) (by omega) (by omega), es, sN_ne (by omega), sN_eq, h6, nI_add]
        · have em := mdE 5 (by omega) h4
          subst em
          have es : stepN M = rbN M t m := by
            unfold stepN
            rw [c4]
            change rbN M (cl M 8) (cl M (327 + 22 * cl M 8 + 2)) = _
            rw [cl_of t8 (by omega), cl_of tm (by omega)]
          unfold rbN at es
          rw [h6, nI_add] at es
          refine ⟨_, rfl, fun x hx => ?_, ?_, ?_⟩
          · rw [e x (by omega) (by omega) (by omega) (by omega), es]
            have rx : ∀ X c', c' < 3 → rc1 X c' x = X x := fun X c' hc' => rc1_ne (by
              rcases hx with y | y | y | y | ⟨y1, y2, y⟩ | y | y
              · omega
              · omega
              · omega
              · omega
              · exact y c' hc'
              · omega
              · omega)
            split
            · unfold rb2
              rw [sN_ne (by omega), sN_ne (by omega)]
            · rw [sN_ne (by omega), rx _ 2 (by omega), rx _ 1 (by omega), rx _ 0 (by omega)]
              unfold rb3 rb2
              rw [sN_ne (by omega), sN_ne (by omega), sN_ne (by omega)]
          · rw [e 4 (by omega) (by omega) (by omega) (by omega), es, m14, if_neg (show ¬ nI 1 = nI 0 by decide), h4]
            by_cases z : j + 1 = 8
            · rw [if_pos z, if_neg (show ¬ nI (j + 1) ≠ nI 8 by rw [z]; simp), sN_eq]
            · rw [if_neg z, if_pos (show nI (j + 1) ≠ nI 8 by rw [Ne, nI_eq (by omega) (by omega)]; exact z)]
              unfold rb2
              rw [sN_ne (by omega), sN_ne (by omega), h4]
          · rw [e 6 (by omega) (by omega) (by omega) (by omega), es]
            split
            · unfold rb2
              rw [sN_eq, h6, nI_add]
            · rw [sN_ne (by omega), rc1_out (by omega), rc1_out (by omega), rc1_out (by omega)]
              unfold rb3 rb2
              rw [sN_ne (by omega), sN_eq, h6, nI_add]
      have hoo' : OO (slotN M) c := OO_N hc hoo (eq1 5 (by omega)) (fun c' hc' => eq1 _ (Or.inr (Or.inr (Or.inr (Or.inr (Or.inl ⟨by omega, by omega, fun c2 hc2 => by omega⟩))))))
      have hT2 : TR (slotN M) c t hh m cnt d := TR_N hT (eq1 7 (by omega)) (eq1 8 (by omega)) (eq1 14 (by omega)) (eq1 _ (Or.inr (Or.inr (Or.inr (Or.inr (Or.inl ⟨by omega, by omega, fun c2 hc2 => by omega⟩)))))) (eq1 _ (by omega)) (eq1 _ (by omega))
      have e14 := eq1 14 (by omega)
      refine ⟨r - 1, by omega, Or.inl ⟨hoo', Or.inr (Or.inr ⟨t, hh, m, cnt, d, hT2, ?_⟩)⟩⟩
      rw [e14, e4', hX4, hE, Nat.add_sub_cancel]
      by_cases z : j + 1 = 8
      · right; left
        rw [if_pos z]
        refine ⟨?_, by omega⟩
        rcases hmd with ⟨h4, m14⟩ | ⟨h4, m14⟩
        · left; rw [m14, if_pos rfl]; exact ⟨rfl, rfl⟩
        · right; rw [m14, if_neg (by decide)]; exact ⟨rfl, rfl⟩
      · left
        rw [if_neg z]
        refine ⟨hmd, j + 1, by omega, e6', by omega⟩
    · -- the answer to a byte
      obtain ⟨X, es, xo, x7, xm, hm2⟩ : ∃ X : Nat → Int32, (stepN M = if M 14 = nI 0 ∧ m = 16 then allLeaveN M 3 else if finV X = 0 then sN (finN X) 4 (nI 8) else holdsN (finN X) t) ∧ (∀ x, (x = 5 ∨ x = 8 ∨ x = 14 ∨ (207 ≤ x ∧ x < 327) ∨ x = 327 + 22 * t + 1) → X x = M x) ∧ X 7 = nI (d + 1) ∧ (∃ m', X (327 + 22 * t + 2) = nI m' ∧ m' ≤ 17 ∧ (M 14 = nI 0 → m' = m + 1) ∧ (M 14 = nI 1 → m' = m)) ∧ True := by
        rcases hmd with ⟨h4, m14⟩ | ⟨h4, m14⟩
        · have em := mdE 4 (by omega) h4
          subst em
          refine ⟨waN1 M t m, ?_, fun x hx => ?_, ?_, ⟨m + 1, ?_, by omega, fun _ => rfl, fun y => by rw [m14] at y; exact absurd y (by decide)⟩, trivial⟩
          · unfold stepN
            rw [c4]
            change waN M (cl M 8) (cl M (327 + 22 * cl M 8 + 2)) = _
            rw [cl_of t8 (by omega), cl_of tm (by omega)]
            unfold waN
            by_cases z : m = 16
            · rw [if_pos z, if_pos ⟨m14, z⟩]
            · rw [if_neg z, if_neg (show ¬ (M 14 = nI 0 ∧ m = 16) from fun y => z y.2)]
          · unfold waN1
            rw [sN_ne (by omega), sN_ne (by omega), sN_ne (by omega)]
          · unfold waN1
            rw [sN_eq, sN_ne (by omega), sN_ne (by omega), t7, nI_add]
          · unfold waN1
            rw [sN_ne (by omega), sN_eq, nI_add]
        · have em := mdE 6 (by omega) h4
          subst em
          refine ⟨raN1 M, ?_, fun x hx => ?_, ?_, ⟨m, ?_, by omega, fun y => by rw [m14] at y; exact absurd y (by decide), fun _ => rfl⟩, trivial⟩
          · unfold stepN
            rw [c4]
            change raN M (cl M 8) = _
            rw [cl_of t8 (by omega), m14, if_neg (fun y => absurd y.1 (by decide))]
            rfl
          · unfold raN1
            rw [sN_ne (by omega)]
          · unfold raN1
            rw [sN_eq, t7, nI_add]
          · unfold raN1
            rw [sN_ne (by omega)]; exact tm
      by_cases z16 : M 14 = nI 0 ∧ m = 16
      · rw [if_pos z16] at es
        have hE0 : E' = 0 := by
          unfold EE at hE
          rw [if_pos z16.1, z16.2] at hE
          split at hE <;> omega
        subst hE0
        refine ⟨1, by omega, Or.inr ⟨⟨?_, ?_⟩, rfl⟩⟩
        · rw [e 4 (by omega) (by omega) (by omega) (by omega), es]
          unfold allLeaveN
          rw [sN_eq]
        · intro c' hc'
          rw [zc_eq ((e _ (by omega) (by omega) (by omega) (by omega)).trans (by rw [es]) : slotN M (207 + 40 * c') = allLeaveN M 3 (207 + 40 * c'))]
          exact one_all (by omega) (by omega) hi hoo hc c' hc'
      · rw [if_neg z16] at es
        have hiX : IV X k := IV_N hi (xo 5 (by omega)) (fun x x1 x2 => xo x (by omega))
        have hoX : OO X c := OO_N hc hoo (xo 5 (by omega)) (fun c' hc' => xo _ (by omega))
        obtain ⟨f1, f2⟩ := one_fin hiX hoX hc
        have xc : X (217 + 40 * c) = nI cnt := by rw [xo _ (by omega)]; exact tc
        rw [xc, x7] at f1 f2
        by_cases zd : cnt = d + 1
        · obtain ⟨v1, v2⟩ := f2 (by rw [zd])
          rw [if_pos v1] at es
          have hE0 : E' = 0 := by
            unfold EE at hE
            split at hE
            · split at hE <;> omega
            · omega
          subst hE0
          refine ⟨1, by omega, Or.inr ⟨⟨?_, ?_⟩, rfl⟩⟩
          · rw [e 4 (by omega) (by omega) (by omega) (by omega), es, sN_eq]
          · intro c' hc'
            rw [zc_eq ((e _ (by omega) (by omega) (by omega) (by omega)).trans (by rw [es, sN_ne (by omega)]) : slotN M (207 + 40 * c') = finN X (207 + 40 * c'))]
            exact v2 c' hc'
        · obtain ⟨v1, v2⟩ := f1 (fun y => zd (by rw [nI_eq (by omega) (by omega)] at y; exact y))
          rw [if_neg v2, v1] at es
          obtain ⟨m', xm1, xm2, xm3, xm4⟩ := xm
          have xh : X (327 + 22 * t + 1) = nI hh := by rw [xo _ (by omega)]; exact th
          have hm16' : m' ≤ 16 := by
            rcases t14 with y | y
            · have := xm3 y
              have : m ≠ 16 := fun q => z16 ⟨y, q⟩
              omega
            · have := xm4 y
              omega
          have hX : TR X c t hh m' cnt (d + 1) := ⟨by rw [xo 8 (by omega)]; exact t8, t6, xh, th9, xm1, hm16', x7, xc, by omega, tc4, by rw [xo 14 (by omega)]; exact t14⟩
          have hE2 : EE (M 14) m' cnt (d + 1) = E' ∧ 1 ≤ E' := by
            have := EE_1 (rd := M 14) (m := m') (cnt := cnt) (d := d + 1) hm16' (by omega)
            have e2 : EE (M 14) m' cnt (d + 1) = E' := by
              unfold EE at hE ⊢
              rcases t14 with y | y
              · rw [if_pos y] at hE ⊢
                have := xm3 y
                have : m ≠ 16 := fun q => z16 ⟨y, q⟩
                split at hE <;> split <;> omega
              · rw [if_neg (by rw [y]; decide)] at hE ⊢
                omega
            omega
          have esX : stepN M = nextByteN (sN X 9 (nI hh)) := by
            rw [es]
            unfold holdsN
            rw [xh]
          obtain ⟨E2, hE3⟩ : ∃ E2, E' = E2 + 1 := ⟨E' - 1, by omega⟩
          refine ⟨r - 1, by omega, Or.inl (AL_holds (M := X) (g := hh) hc hoX hX th9 (fun x x1 x2 => ?_) ?_ ?_ ?_ ?_)⟩
          · rw [e x (by omega) (by omega) (by omega) (by omega), esX, nbN_out (by omega), sN_ne (by omega)]
          · rw [e 4 (by omega) (by omega) (by omega) (by omega), esX]
          · rw [e 6 (by omega) (by omega) (by omega) (by omega), esX]; exact (nb_613 _).1
          · rw [e 9 (by omega) (by omega) (by omega) (by omega), esX, nbN_out (by omega), sN_eq]
          · rw [xo 14 (by omega), hE2.1, hr, hE3, show E2 + 1 - 1 = E2 from rfl, Nat.add_mul]; omega
    · -- the line is held
      have em := mdE 7 (by omega) h4
      subst em
      have es : stepN M = holdStep M t := by
        unfold stepN
        rw [c4]
        change holdStep M (cl M 8) = _
        rw [cl_of t8 (by omega)]
      have g9 : M 9 - nI 1 = nI (g - 1) := by rw [h9, pk_sub (by omega)]
      obtain ⟨X, eX⟩ : ∃ X, X = sN (sN (sN M 9 (nI (g - 1))) 11 (M 11 + nI 1)) (327 + 22 * t + 5) (M (327 + 22 * t + 5) + nI 1) := ⟨_, rfl⟩
      have esX : stepN M = nextByteN X := by
        rw [es, eX]
        change nextByteN (sN (sN (sN M 9 (M 9 - nI 1)) 11 (M 11 + nI 1)) (327 + 22 * t + 5) ((sN (sN M 9 (M 9 - nI 1)) 11 (M 11 + nI 1)) (327 + 22 * t + 5) + nI 1)) = _
        rw [g9, sN_ne (show 327 + 22 * t + 5 ≠ 11 by omega), sN_ne (show 327 + 22 * t + 5 ≠ 9 by omega)]
      have xo : ∀ x, x ≠ 9 → x ≠ 11 → x ≠ 327 + 22 * t + 5 → X x = M x := fun x a b d => by rw [eX, sN_ne d, sN_ne b, sN_ne a]
      have x9 : X 9 = nI (g - 1) := by rw [eX, sN_ne (by omega), sN_ne (by omega), sN_eq]
      refine ⟨r - 1, by omega, Or.inl (AL_holds (M := M) (g := g - 1) hc hoo hT (by omega) (fun x x1 x2 => ?_) ?_ ?_ ?_ (by rw [hE, Nat.add_sub_cancel]; omega))⟩
      · rw [e x (by omega) (by omega) (by omega) (by omega), esX, nbN_out (by omega), xo x (by omega) (by omega) x2]
      · rw [e 4 (by omega) (by omega) (by omega) (by omega), esX, nb_4, nb_4, x9, sN_eq, xo 14 (by omega) (by omega) (by omega), sN_ne (by omega)]
      · rw [e 6 (by omega) (by omega) (by omega) (by omega), esX]; exact (nb_613 _).1
      · rw [e 9 (by omega) (by omega) (by omega) (by omega), esX, nbN_out (by omega), x9]
theorem AZ_step {M : Nat → Int32} {q : Nat} (hg : GN M q) (hq : q < 2147483647) (ha : AZ M) : doneN (slotN M) := by
  obtain ⟨ho, h0⟩ := GN_ok hg
  obtain ⟨w, b, I, L, P, hbt, ⟨k, n', md, hbc⟩, -⟩ := hg
  obtain ⟨-, -, -, hm, -, -, -, -, -, -, hi, -, hp⟩ := hbc
  have h8 := PH_8 hp
  obtain ⟨h4, hz⟩ := ha
  have em : md = 8 := by
    rw [hm, nI_eq (by omega) (by omega)] at h4
    exact h4
  subst em
  have hr64 : q % 64 < 64 := Nat.mod_lt _ (by omega)
  have es : stepN M = sN (sN M 4 (nI 0)) 8 (-1) := by
    unfold stepN
    rw [cl_of hm (by omega)]
    rfl
  have e : ∀ x, x ≠ 0 → x ≠ 10 → x ≠ 12 → x ≠ 4 → x ≠ 8 → (x < 15 ∨ 207 ≤ x) → slotN M x = M x := fun x a b c d f g => by rw [slotN_out ho h0 (by omega) ⟨a, b, c⟩ (by omega), es, sN_ne f, sN_ne d]
  refine ⟨?_, ?_⟩
  · rw [slotN_out ho h0 (by omega) (by omega) (by omega), es, sN_ne (by omega), sN_eq, nI_0]
  · obtain ⟨e1, -, -, -, -⟩ := OC_sum hi.1
    rw [e 207 (by omega) (by omega) (by omega) (by omega) (by omega) (by omega), e 247 (by omega) (by omega) (by omega) (by omega) (by omega) (by omega), e 287 (by omega) (by omega) (by omega) (by omega) (by omega) (by omega), e1, hz 0 (by omega), hz 1 (by omega), hz 2 (by omega), nI_0]
theorem nd_md {M : Nat → Int32} {j : Nat} (h : M 4 = nI j) (h0 : 0 < j) (h9 : j < 9) : ¬ doneN M := fun z => by
  have := z.1
  rw [h, ← nI_0, nI_eq (by omega) (by omega)] at this
  omega
theorem AL_nd {M : Nat → Int32} {c n r : Nat} (h : AL M c n r) : ¬ doneN M := by
  obtain ⟨-, h | h | ⟨t, hh, m, cnt, d, -, h⟩⟩ := h
  · exact nd_md h.1 (by omega) (by omega)
  · exact nd_md h.1 (by omega) (by omega)
  · rcases h with ⟨h | h, -⟩ | ⟨h | h, -⟩ | ⟨h, -⟩
    · exact nd_md h.1 (by omega) (by omega)
    · exact nd_md h.1 (by omega) (by omega)
    · exact nd_md h.1 (by omega) (by omega)
    · exact nd_md h.1 (by omega) (by omega)
    · exact nd_md h (by omega) (by omega)
theorem GN_2 {N : Nat → Int32} {q : Nat} (h : GN N q) (hq : q < 2147483648) {x : Nat} (hx : x = 1 ∨ x = 2 ∨ x = 3) : slotN N x = N x := by
  obtain ⟨ho, h0⟩ := GN_ok h
  have hr64 : q % 64 < 64 := Nat.mod_lt _ (by omega)
  rw [slotN_out ho h0 hq (by omega) (by omega), step_same ho (SX_13 hx)]
theorem AL_run {c n : Nat} (hc : c < 3) (hn6 : n ≤ 6) : ∀ r (M : Nat → Int32) (q : Nat), GN M q → q + r < 2147483600 → M 2 = nI n → (AL M c n r ∨ (AZ M ∧ r = 1)) → doneN (slotsN M r) ∧ ∀ j, j < r → ¬ doneN (slotsN M j) := by
  intro r
  induction r with
  | zero =>
    intro M q hg hq h2 h
    rcases h with h | h
    · obtain ⟨r', e, -⟩ := AL_step hg (by omega) h2 hn6 hc h
      omega
    · omega
  | succ r ih =>
    intro M q hg hq h2 h
    have nd : ¬ doneN M := by
      rcases h with h | h
      · exact AL_nd h
      · exact nd_md h.1.1 (by omega) (by omega)
    have st : ∀ j, slotsN M (1 + j) = slotsN (slotN M) j := fun j => slots_add M 1 j
    have fin : doneN (slotsN (slotN M) r) ∧ ∀ j, j < r → ¬ doneN (slotsN (slotN M) j) := by
      rcases h with h | h
      · obtain ⟨r', e, g⟩ := AL_step hg (by omega) h2 hn6 hc h
        have er : r' = r := by omega
        subst er
        exact ih (slotN M) (q + 1) (GN_slot hg (by omega)) (by omega) (by rw [GN_2 hg (by omega) (by omega)]; exact h2) g
      · have er : r = 0 := by omega
        subst er
        exact ⟨AZ_step hg (by omega) h.1, fun j hj => absurd hj (by omega)⟩
    refine ⟨by rw [Nat.add_comm, st]; exact fin.1, fun j hj => ?_⟩
    cases j with
    | zero => exact nd
    | succ j => rw [Nat.add_comm, st]; exact fin.2 j (by omega)
theorem alone_FN {N : Nat → Int32} {q k n c a : Nat} (hg : GN N q) (hq : q < 2147480000) (h4 : N 4 = 0) (hi : ∀ c, c < 3 → OC N k c) (hol : OL N n) (hn : n ≤ 6) (h2 : N 2 = nI n) (hc : c < 3) (hz : qz N = 1) (hzc : zc N c = 1) (ha : aloV N c n = nI a) (ha2 : a < 2147483648) : FN N a := by
  have zo : ∀ c', c' < 3 → c' ≠ c → zc N c' = 0 := fun c' hc' hn' => by
    unfold qz at hz
    rcases (show c = 0 ∨ c = 1 ∨ c = 2 by omega) with rfl | rfl | rfl <;> rcases (show c' = 0 ∨ c' = 1 ∨ c' = 2 by omega) with rfl | rfl | rfl <;> omega
  obtain ⟨⟨b8, b5, bc, bn⟩, s4, s6, -⟩ := HB_start hg (by omega) h4 (by omega)
  obtain ⟨ho, h0⟩ := GN_ok hg
  have hr64 : q % 64 < 64 := Nat.mod_lt _ (by omega)
  have e : ∀ x, 207 ≤ x → slotN N x = N x := by
    obtain ⟨w, b, I, L, P, hbt, ⟨k', n', md, hbc⟩, -⟩ := id hg
    obtain ⟨⟨-, -, h1, -⟩, -, -, hm, -, -, -, -, -, -, -, -, hp⟩ := hbc
    have h8 := PH_8 hp
    have em : md = 0 := by
      rw [hm, ← nI_0, nI_eq (by omega) (by omega)] at h4
      exact h4
    subst em
    intro x hx
    rw [slotN_out ho h0 (by omega) (by omega) (by omega)]
    unfold stepN
    rw [cl_of hm (by omega)]
    exact begN_out (by omega)
  have hoo : OO (slotN N) c := by
    refine ⟨(zc_eq (e _ (by omega))).trans hzc, fun c' hc' hn' => (zc_eq (e _ (by omega))).trans (zo c' hc' hn'), fun c' hc' => ⟨fun y => ?_, fun y => ?_⟩⟩
    · refine Classical.byContradiction (fun z => ?_)
      have := (bc c' hc' y).1
      have := zo c' hc' z
      omega
    · subst y
      refine Classical.byContradiction (fun z => ?_)
      obtain ⟨c2, hc2, y2⟩ := (con_ex b8).mp b5
      have := (bc c2 hc2 y2).1
      by_cases q2 : c2 = c'
      · subst q2; exact z y2
      · have := zo c2 hc2 q2
        omega
  obtain ⟨s, hs, e1, -, e3⟩ := hi c hc
  have es : s = 1 := by
    unfold zc at hzc
    rw [cl_of e1 (by omega)] at hzc
    exact hzc
  have hom := e3 0 (by omega)
  rw [Nat.mul_zero, Nat.add_zero] at hom
  obtain ⟨R, hR, haR⟩ : ∃ R, R2P N c n R ∧ a = 9 + R := by
    rcases aloV_eq hn hol hom with ⟨y1, y2⟩ | ⟨t, m, h, cnt, y1, y2, y3, y4, y5, y6, y7, y8, y9, y10⟩
    · refine ⟨2, Or.inl ⟨y1, rfl⟩, ?_⟩
      rw [ha, nI_eq ha2 (by omega)] at y2
      omega
    · refine ⟨2 + EE (N (216 + 40 * c)) m cnt 0 * (h + 9), Or.inr ⟨t, m, h, cnt, y1, y2, y3, y4, y5, y6, y7, y8, y9, rfl⟩, ?_⟩
      have eb : (if N (216 + 40 * c) = nI 0 then (if 17 - m < cnt then 17 - m else cnt) else cnt) = EE (N (216 + 40 * c)) m cnt 0 := by
        unfold EE
        rw [Nat.sub_zero]
      rw [eb] at y10
      have b4 : EE (N (216 + 40 * c)) m cnt 0 ≤ 4 := by
        unfold EE
        split
        · split <;> omega
        · omega
      have := Nat.mul_le_mul b4 (show h + 9 ≤ 18 by omega)
      rw [ha, nI_eq ha2 (by omega)] at y10
      omega
  have hal : AL (slotN N) c n (8 - 0 + R) := ⟨hoo, Or.inl ⟨s4, 0, R, by omega, s6, R2P_N hR e, rfl⟩⟩
  have hR4 : R ≤ 100 := by
    rcases hR with ⟨-, y⟩ | ⟨t, m, h, cnt, -, -, -, -, -, h9, -, -, h4', y⟩
    · omega
    · have b4 : EE (N (216 + 40 * c)) m cnt 0 ≤ 4 := by
        unfold EE
        split
        · split <;> omega
        · omega
      have := Nat.mul_le_mul b4 (show h + 9 ≤ 18 by omega)
      omega
  obtain ⟨r1, r2⟩ := AL_run hc hn (8 - 0 + R) (slotN N) (q + 1) (GN_slot hg (by omega)) (by omega) (by rw [GN_2 hg (by omega) (by omega)]; exact h2) (Or.inl hal)
  have st : ∀ j, slotsN N (1 + j) = slotsN (slotN N) j := fun j => slots_add N 1 j
  have ea : a = 1 + (8 - 0 + R) := by omega
  refine ⟨by omega, by rw [ea, st]; exact r1, fun j hj => ?_⟩
  cases j with
  | zero =>
    intro z
    have := ((qz_done hi).mp z).2
    omega
  | succ j =>
    rw [Nat.add_comm, st]
    exact r2 j (by omega)
