/-! the law's text, read -/
theorem nd3 {len : Nat} {tx : Nat → Nat} {p a b c : Nat} (h0 : tx p = 48 + a) (h1 : tx (p + 1) = 48 + b) (h2 : tx (p + 2) = 48 + c) (ha : a ≤ 9) (hb : b ≤ 9) (hc : c ≤ 9) (hl : p + 3 ≤ len) : ndN len tx p = 3 ∧ vvN tx p 3 = 100 * a + 10 * b + c := by
  constructor
  · unfold ndN
    rw [if_pos (by unfold dgN; omega), if_pos (by unfold dgN; omega), if_pos (by unfold dgN; omega)]
  · unfold vvN vvN vvN vvN
    rw [Nat.add_zero, h0, h1, h2]
    omega
theorem nd1 {len : Nat} {tx : Nat → Nat} {p a : Nat} (h0 : tx p = 48 + a) (ha : a ≤ 9) (hl : p < len) (hn : ¬ dgN len tx (p + 1)) : ndN len tx p = 1 ∧ vvN tx p 1 = a := by
  constructor
  · unfold ndN
    rw [if_pos (by unfold dgN; omega), if_neg hn]
  · unfold vvN vvN
    rw [Nat.add_zero, h0]
    omega
theorem nf3 {len : Nat} {tx : Nat → Nat} {p a b c lo hi : Nat} (h0 : tx p = 48 + a) (h1 : tx (p + 1) = 48 + b) (h2 : tx (p + 2) = 48 + c) (ha : a ≤ 9) (hb : b ≤ 9) (hc : c ≤ 9) (hl : p + 3 ≤ len) (hn : ¬ dgN len tx (p + 3)) (h : lo ≤ 100 * a + 10 * b + c) (h' : 100 * a + 10 * b + c ≤ hi) : nfN len tx p lo hi = none := by
  obtain ⟨e1, e2⟩ := nd3 h0 h1 h2 ha hb hc hl
  unfold nfN
  rw [e1, if_neg (by omega), if_neg hn, e2, if_pos ⟨h, h'⟩]
theorem nf1 {len : Nat} {tx : Nat → Nat} {p a lo hi : Nat} (h0 : tx p = 48 + a) (ha : a ≤ 9) (hl : p < len) (hn : ¬ dgN len tx (p + 1)) (h : lo ≤ a) (h' : a ≤ hi) : nfN len tx p lo hi = none := by
  obtain ⟨e1, e2⟩ := nd1 h0 ha hl hn
  unfold nfN
  rw [e1, if_neg (by omega), if_neg hn, e2, if_pos ⟨h, h'⟩]
/-- the two orders of the law -/
def T18 (tx : Nat → Nat) (c a v : Nat) : Prop := (tx 0 = 119 ∧ tx 1 = 48 + c ∧ tx 2 = 58 ∧ tx 3 = 48 + a / 100 ∧ tx 4 = 48 + a / 10 % 10 ∧ tx 5 = 48 + a % 10 ∧ tx 6 = 61) ∧ (tx 7 = 48 + v / 100 ∧ tx 8 = 48 + v / 10 % 10 ∧ tx 9 = 48 + v % 10 ∧ tx 10 = 59) ∧ tx 11 = 114 ∧ tx 12 = 48 + c ∧ tx 13 = 58 ∧ tx 14 = 48 + a % 10 ∧ tx 15 = 42 ∧ tx 16 = 50 ∧ tx 17 = 59
theorem pw_1 {tx : Nat → Nat} {c a v len : Nat} (h : T18 tx c a v) (hl : 18 ≤ len) (hc : c < 3) (ha : a < 128) (hv : v < 256) : fltN len tx 0 = none ∧ nxN len tx 0 = 11 ∧ cnN len tx 0 = 1 ∧ btN len tx 0 = v ∧ whN tx 0 = c ∧ adN len tx 0 = a := by
  obtain ⟨⟨t0, t1, t2, t3, t4, t5, t6⟩, ⟨t7, t8, t9, t10⟩, -⟩ := h
  obtain ⟨n3, v3⟩ := nd3 (len := len) (tx := tx) (p := 3) t3 t4 t5 (by omega) (by omega) (by omega) (by omega)
  obtain ⟨n7, v7⟩ := nd3 (len := len) (tx := tx) (p := 7) t7 t8 t9 (by omega) (by omega) (by omega) (by omega)
  have e33 : tx (3 + 3) = 61 := t6
  have e73 : tx (7 + 3) = 59 := t10
  have f3 : nfN len tx 3 0 127 = none := nf3 t3 t4 t5 (by omega) (by omega) (by omega) (by omega) (by unfold dgN; omega) (by omega) (by omega)
  have f7 : nfN len tx 7 0 255 = none := nf3 t7 t8 t9 (by omega) (by omega) (by omega) (by omega) (by unfold dgN; omega) (by omega) (by omega)
  have p4 : p4N len tx 0 = 6 := by unfold p4N; rw [n3]
  have r : rtN len tx 4 7 0 0 = (none, 10, 1, v) := by
    unfold rtN
    have e10 : tx (7 + 3) = 59 := t10
    rw [if_pos f7, n7, if_neg (by omega), v7, show 256 * 0 + (100 * (v / 100) + 10 * (v / 10 % 10) + v % 10) = v from by omega]
  have tg : tgF len tx 1 = none := by
    unfold tgF
    rw [odN_t (by omega), o1N_n, osN_t ⟨by omega, t2⟩, o1N_n]
    exact f3
  refine ⟨?_, ?_, ?_, ?_, ?_, ?_⟩
  · unfold fltN
    rw [if_pos t0, p4, tg, o1N_n, osN_t ⟨by omega, t6⟩, o1N_n, r]
    dsimp only
    rw [o1N_n, osN_t ⟨by omega, t10⟩]
  · unfold nxN; rw [if_pos t0, p4, r]
  · unfold cnN; rw [if_pos t0, p4, r]
  · unfold btN; rw [if_pos t0, p4, r]
  · unfold whN; rw [t1]; omega
  · unfold adN
    rw [n3, v3]
    omega
theorem pw_2 {tx : Nat → Nat} {c a v len : Nat} (h : T18 tx c a v) (hl : 18 ≤ len) (hc : c < 3) : fltN len tx 11 = none ∧ nxN len tx 11 = 18 ∧ cnN len tx 11 = 2 ∧ btN len tx 11 = 0 ∧ whN tx 11 = c ∧ adN len tx 11 = a % 10 := by
  obtain ⟨-, -, t11, t12, t13, t14, t15, t16, t17⟩ := h
  have nd : ¬ dgN len tx 15 := by unfold dgN; omega
  obtain ⟨n14, v14⟩ := nd1 (len := len) (tx := tx) (p := 14) t14 (by omega) (by omega) nd
  have f14 : nfN len tx 14 0 127 = none := nf1 t14 (by omega) (by omega) nd (by omega) (by omega)
  have p4 : p4N len tx 11 = 15 := by unfold p4N; rw [n14]
  have tg : tgF len tx 12 = none := by
    unfold tgF
    rw [odN_t (by omega), o1N_n, osN_t ⟨by omega, t13⟩, o1N_n]
    exact f14
  refine ⟨?_, ?_, ?_, ?_, ?_, ?_⟩
  · unfold fltN
    have e16 : tx (15 + 1) = 50 := t16
    rw [if_neg (by omega), if_pos t11, p4, tg, o1N_n, osN_t ⟨by omega, t15⟩, o1N_n, odN_t (by omega), o1N_n, osN_t ⟨by omega, t17⟩]
  · unfold nxN; rw [if_neg (by omega), if_pos t11, p4]
  · unfold cnN; rw [if_neg (by omega), if_pos t11, p4, t16]
  · unfold btN; rw [if_neg (by omega)]
  · unfold whN; rw [t12]; omega
  · unfold adN
    rw [n14, v14]
theorem er_18 {tx : Nat → Nat} {c a v : Nat} (h : T18 tx c a v) (hc : c < 3) (ha : a < 128) (hv : v < 256) : erN 18 tx 100 0 = none := by
  obtain ⟨f1, x1, -⟩ := pw_1 (len := 18) h (by omega) hc ha hv
  obtain ⟨f2, x2, -⟩ := pw_2 (len := 18) h (by omega) hc
  rw [show (100 : Nat) = 97 + 1 + 1 + 1 from rfl]
  unfold erN
  rw [if_pos (by omega), if_pos f1, x1]
  unfold erN
  rw [if_pos (by omega), if_pos f2, x2]
  unfold erN
  rw [if_neg (by omega)]
theorem er_19 {len : Nat} {tx : Nat → Nat} {c a v : Nat} (h : T18 tx c a v) (hl : 18 < len) (hc : c < 3) (ha : a < 128) (hv : v < 256) (ht : tx 18 = 115) (hn : nfN len tx 19 1 200 = some 19) : erN len tx 100 0 = some 19 := by
  obtain ⟨f1, x1, -⟩ := pw_1 (len := len) h (by omega) hc ha hv
  obtain ⟨f2, x2, -⟩ := pw_2 (len := len) h (by omega) hc
  have f3 : fltN len tx 18 = some 19 := by
    unfold fltN
    rw [if_neg (by omega), if_neg (by omega), if_pos ht, hn, o1N_s]
  rw [show (100 : Nat) = 97 + 1 + 1 + 1 from rfl]
  unfold erN
  rw [if_pos (by omega), if_pos f1, x1]
  unfold erN
  rw [if_pos (by omega), if_pos f2, x2]
  unfold erN
  rw [if_pos hl, if_neg (by rw [f3]; exact sm_ne), f3]
theorem er_s0 {tx : Nat → Nat} : nfN 19 tx 19 1 200 = some 19 := by
  have n0 : ndN 19 tx 19 = 0 := by
    unfold ndN
    rw [if_neg (by unfold dgN; omega)]
  unfold nfN
  rw [n0, if_pos rfl]
theorem er_s1 {tx : Nat → Nat} (h : tx 19 = 48) : nfN 20 tx 19 1 200 = some 19 := by
  have hn : ¬ dgN 20 tx (19 + 1) := by unfold dgN; omega
  obtain ⟨e1, e2⟩ := nd1 (len := 20) (tx := tx) (p := 19) (a := 0) h (by omega) (by omega) hn
  unfold nfN
  rw [e1, if_neg (by omega), if_neg hn, e2, if_neg (by omega)]
theorem er_w {tx : Nat → Nat} (h0 : tx 0 = 119) (h1 : tx 1 = 51) : erN 2 tx 100 0 = some 1 := by
  have f : fltN 2 tx 0 = some 1 := by
    unfold fltN
    rw [if_pos h0]
    unfold tgF
    have e1 : tx (0 + 1) = 51 := h1
    rw [odN_f (by omega), o1N_s, o1N_s]
  rw [show (100 : Nat) = 99 + 1 from rfl]
  unfold erN
  rw [if_pos (by omega), if_neg (by rw [f]; exact sm_ne), f]
theorem er_r {len : Nat} {tx : Nat → Nat} {e : Nat} (hl : 6 ≤ len) (h0 : tx 0 = 114) (h1 : tx 1 = 48) (h2 : tx 2 = 58) (hn : nfN len tx 3 0 127 = some e) : erN len tx 100 0 = some e := by
  have f : fltN len tx 0 = some e := by
    unfold fltN
    rw [if_neg (by omega), if_pos h0]
    unfold tgF
    have e1 : tx (0 + 1) = 48 := h1
    rw [odN_t (by omega), o1N_n, osN_t ⟨by omega, h2⟩, o1N_n, hn, o1N_s]
  rw [show (100 : Nat) = 99 + 1 from rfl]
  unfold erN
  rw [if_pos (by omega), if_neg (by rw [f]; exact sm_ne), f]
theorem er_r6 {tx : Nat → Nat} (h3 : tx 3 = 49) (h4 : tx 4 = 50) (h5 : tx 5 = 56) : nfN 6 tx 3 0 127 = some 3 := by
  obtain ⟨e1, e2⟩ := nd3 (len := 6) (tx := tx) (p := 3) (a := 1) (b := 2) (c := 8) h3 h4 h5 (by omega) (by omega) (by omega) (by omega)
  unfold nfN
  rw [e1, if_neg (by omega), if_neg (by unfold dgN; omega), e2, if_neg (by omega)]
theorem er_r7 {tx : Nat → Nat} (h3 : tx 3 = 49) (h4 : tx 4 = 50) (h5 : tx 5 = 56) (h6 : tx 6 = 48) : nfN 7 tx 3 0 127 = some 6 := by
  obtain ⟨e1, e2⟩ := nd3 (len := 7) (tx := tx) (p := 3) (a := 1) (b := 2) (c := 8) h3 h4 h5 (by omega) (by omega) (by omega) (by omega)
  have e6 : tx (3 + 3) = 48 := h6
  unfold nfN
  rw [e1, if_neg (by omega), if_pos (by unfold dgN; omega)]
/-- what the two orders do -/
theorem zc_que {N : Nat → Int32} {c c' s : Nat} {a rd cnt : Int32} {b : Int64} (hs : s < 4) (hc : c < 3) (hc' : c' < 3) : zc (queN N c s a rd cnt b) c' = if c' = c then s + 1 else zc N c' := by
  by_cases e : c' = c
  · subst e
    rw [if_pos rfl]
    exact cl_of queN_at.1 (by omega)
  · rw [if_neg e]
    exact zc_eq (queN_out (by omega) (by omega))
def q1N (N : Nat → Int32) (c a v s : Nat) : Nat → Int32 := queN N c s (nI a) (nI 0) (nI 1) (Int64.ofNat v)
def q2N (N : Nat → Int32) (c a v s : Nat) : Nat → Int32 := queN (q1N N c a v s) c (s + 1) (nI (a % 10)) (nI 1) (nI 2) (Int64.ofNat 0)
theorem car_18 {N : Nat → Int32} {tx : Nat → Nat} {c a v k s : Nat} (h : T18 tx c a v) (hc : c < 3) (ha : a < 128) (hv : v < 256) (hs : s ≤ 4) (e0 : N (207 + 40 * c) = nI s) : carN 18 tx k 100 0 N 0 = (if ¬ c < k ∨ s = 4 then (0, N) else if s = 3 then (1, q1N N c a v s) else (2, q2N N c a v s)) := by
  obtain ⟨f1, x1, c1, b1, w1, a1⟩ := pw_1 (len := 18) h (by omega) hc ha hv
  obtain ⟨f2, x2, c2, b2, w2, a2⟩ := pw_2 (len := 18) h (by omega) hc
  obtain ⟨⟨t0, -⟩, -, t11, -⟩ := h
  rw [show (100 : Nat) = 97 + 1 + 1 + 1 from rfl]
  have o1 : ordN 18 tx k 0 N = if ¬ c < k ∨ s = 4 then none else some (q1N N c a v s) := by
    unfold ordN
    rw [if_neg (show ¬ tx 0 = 115 by omega), w1, a1, c1, b1, cl_of e0 (by omega), if_pos t0]
    by_cases z : c < k
    · rw [if_pos z]
      by_cases y : s = 4
      · rw [if_pos y, if_pos (Or.inr y)]
      · rw [if_neg y, if_neg (by omega)]
        rfl
    · rw [if_neg z, if_pos (Or.inl z)]
  unfold carN
  rw [if_pos (by omega), o1]
  by_cases z : ¬ c < k ∨ s = 4
  · rw [if_pos z, if_pos z]
  · rw [if_neg z, if_neg z, x1]
    dsimp only
    have e1 : q1N N c a v s (207 + 40 * c) = nI (s + 1) := queN_at.1
    have o2 : ordN 18 tx k 11 (q1N N c a v s) = if s = 3 then none else some (q2N N c a v s) := by
      unfold ordN
      rw [if_neg (show ¬ tx 11 = 115 by omega), w2, a2, c2, b2, cl_of e1 (by omega), if_neg (show ¬ tx 11 = 119 by omega), if_pos (show c < k by omega)]
      by_cases y : s = 3
      · rw [if_pos (by omega), if_pos y]
      · rw [if_neg (by omega), if_neg y]
        rfl
    unfold carN
    rw [if_pos (by omega), o2]
    by_cases y : s = 3
    · rw [if_pos y, if_pos y]
    · rw [if_neg y, if_neg y, x2]
      dsimp only
      unfold carN
      rw [if_neg (by omega)]
theorem qb_v : ∀ v, v < 256 → qby (nI 0) (nI 1) (Int64.ofNat v) 0 = nI v ∧ qby (nI 0) (nI 1) (Int64.ofNat v) 1 = -1 := by decide +kernel
theorem q2_at {N : Nat → Int32} {c a v s : Nat} (hv : v < 256) : q2N N c a v s (207 + 40 * c) = nI (s + 2) ∧ q2N N c a v s (215 + 40 * c + 8 * s + 0) = nI a ∧ q2N N c a v s (215 + 40 * c + 8 * s + 1) = nI 0 ∧ q2N N c a v s (215 + 40 * c + 8 * s + 4) = nI v ∧ q2N N c a v s (215 + 40 * c + 8 * s + 5) = -1 ∧ q2N N c a v s (215 + 40 * c + 8 * (s + 1) + 0) = nI (a % 10) ∧ q2N N c a v s (215 + 40 * c + 8 * (s + 1) + 1) = nI 1 ∧ q2N N c a v s (215 + 40 * c + 8 * (s + 1) + 2) = nI 2 := by
  obtain ⟨i0, i1, i2, i3, -, -⟩ := queN_at (N := q1N N c a v s) (c := c) (s := s + 1) (a := nI (a % 10)) (rd := nI 1) (cnt := nI 2) (b := Int64.ofNat 0)
  obtain ⟨-, j1, j2, -, -, j5⟩ := queN_at (N := N) (c := c) (s := s) (a := nI a) (rd := nI 0) (cnt := nI 1) (b := Int64.ofNat v)
  obtain ⟨v0, v1⟩ := qb_v v hv
  have o : ∀ x, x < 8 → q2N N c a v s (215 + 40 * c + 8 * s + x) = q1N N c a v s (215 + 40 * c + 8 * s + x) := fun x hx => queN_out (by omega) (by omega)
  refine ⟨i0, ?_, ?_, ?_, ?_, i1, i2, i3⟩
  · rw [o 0 (by omega)]; exact j1
  · rw [o 1 (by omega)]; exact j2
  · rw [o 4 (by omega), ← v0]; exact j5 0 (by omega)
  · rw [o 5 (by omega), ← v1]; exact j5 1 (by omega)
