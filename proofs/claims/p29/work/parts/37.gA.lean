/-! calls that change the bus, as the law makes them: whatever they answer, the world stays sound -/
theorem SQ_of {N M : Nat → Int32} (h : SQ N) (a : SA N → SA M) (g : ∀ q, SI N q → SI M q) : SQ M := by
  obtain ⟨⟨q, hq, hs⟩, ha⟩ := h
  exact ⟨⟨q, hq, g q hs⟩, a ha⟩
theorem SQ_add {N : Nat → Int32} {n a : Nat} {g : Int32} (h : SQ N) (hn : n < 6) (h2 : N 2 = nI n) (ha : a < 128) : SQ (addN N n (nI a) g) := SQ_of h (fun sa n' l e2 hn' hl => by
  have e : addN N n (nI a) g 2 = nI (n + 1) := by
    unfold addN
    rw [sN_eq, nI_add]
  rw [e, nI_eq (by omega) (by omega)] at e2
  by_cases z : l = n
  · subst z
    refine ⟨a, ha, ?_⟩
    unfold addN
    rw [sN_ne (by omega), sN_ne (by omega), sN_ne (by omega)]
    exact sN_eq
  · obtain ⟨a', ha', ea'⟩ := sa n l h2 (by omega) (by omega)
    refine ⟨a', ha', ?_⟩
    unfold addN
    rw [sN_ne (by omega), sN_ne (by omega), sN_ne (by omega), sN_ne (by omega)]
    exact ea') (fun q hs => by
  have o : ∀ x, x ≠ 2 → x ≠ 327 + 22 * n + 0 → x ≠ 327 + 22 * n + 1 → x ≠ 327 + 22 * n + 4 → addN N n (nI a) g x = N x := fun x a b c d => by
    unfold addN
    rw [sN_ne a, sN_ne d, sN_ne c, sN_ne b]
  refine SI_upd hs (fun x hx => o x (by omega) (by omega) (by omega) (by omega)) (fun c hc hci => CI_N hci (Nat.le_refl _) (fun x x1 x2 => o x (by omega) (by omega) (by omega) (by omega))) (hsum_eq (fun l hl => o _ (by omega) (by omega) (by omega) (by omega))) ?_
  rw [o 3 (by omega) (by omega) (by omega) (by omega)]
  exact hs.2.2.2.2.2.2.2)
theorem SQ_lst {N M : Nat → Int32} {l : Nat} (h : SQ N) (e : ∀ x, (x < 327 + 22 * l + 2 ∨ x = 327 + 22 * l + 5 ∨ 327 + 22 * l + 5 < x) → M x = N x) : SQ M := SQ_of h (fun sa => SA_N sa (e 2 (by omega)) (fun l2 hl => e _ (by omega))) (fun q hs => by
  refine SI_upd hs (fun x hx => e x (by omega)) (fun c hc hci => CI_N hci (Nat.le_refl _) (fun x x1 x2 => e x (by omega))) (hsum_eq (fun l2 hl => e _ (by omega))) ?_
  rw [e 3 (by omega)]
  exact hs.2.2.2.2.2.2.2)
theorem SQ_lim {N : Nat → Int32} {m : Nat} (h : SQ N) (h1 : 1 ≤ m) (h9 : m ≤ 9) : SQ (sN N 3 (nI m)) := SQ_of h (fun sa => SA_N sa (sN_ne (by omega)) (fun l hl => sN_ne (by omega))) (fun q hs => SI_upd hs (fun x hx => sN_ne (by omega)) (fun c hc hci => CI_N hci (Nat.le_refl _) (fun x x1 x2 => sN_ne (by omega))) (hsum_eq (fun l hl => sN_ne (by omega))) ⟨m, h1, h9, sN_eq⟩)
theorem SQ_que {N : Nat → Int32} {c s : Nat} {a rd cnt : Int32} {b : Int64} (h : SQ N) (hc : c < 3) (hs4 : s < 4) (e0 : N (207 + 40 * c) = nI s) : SQ (queN N c s a rd cnt b) := SQ_of h (fun sa => SA_N sa (queN_out (by omega) (by omega)) (fun l hl => queN_out (by omega) (by omega))) (fun q hs => by
  have o : ∀ x, x ≠ 207 + 40 * c → (x < 215 + 40 * c + 8 * s ∨ 223 + 40 * c + 8 * s ≤ x) → queN N c s a rd cnt b x = N x := fun x x1 x2 => queN_out x1 x2
  obtain ⟨a0, -, -, -, a3, -⟩ := queN_at (N := N) (c := c) (s := s) (a := a) (rd := rd) (cnt := cnt) (b := b)
  refine SI_upd hs (fun x hx => o x (by omega) (by omega)) (fun c' hc' hci => ?_) (hsum_eq (fun l hl => o _ (by omega) (by omega))) ?_
  · by_cases e : c' = c
    · subst e
      obtain ⟨⟨x, y, h1, h2, h3, h4⟩, ⟨r, h5, h6, h7⟩, s', h8, h9, h10⟩ := hci
      have ess : s' = s := by
        rw [e0, nI_eq (by omega) (by omega)] at h9
        exact h9.symm
      subst ess
      refine ⟨⟨x, y, h1, h2, by rw [o _ (by omega) (by omega)]; exact h3, by rw [o _ (by omega) (by omega)]; exact h4⟩, ⟨r, h5, by rw [o _ (by omega) (by omega)]; exact h6, by rw [o _ (by omega) (by omega)]; exact h7⟩, s' + 1, by omega, a0, fun p p1 p2 => ?_⟩
      by_cases ep : p = s'
      · subst ep
        rw [show 218 + 40 * c' + 8 * p = 215 + 40 * c' + 8 * p + 3 from by omega]
        exact a3
      · rw [o _ (by omega) (by omega)]
        exact h10 p p1 (by omega)
    · exact CI_N hci (Nat.le_refl _) (fun x x1 x2 => o x (by omega) (by omega))
  · rw [o 3 (by omega) (by omega)]
    exact hs.2.2.2.2.2.2.2)
theorem SQ_can {N : Nat → Int32} {c s : Nat} (h : SQ N) (hc : c < 3) (hs4 : s < 4) (e0 : N (207 + 40 * c) = nI (s + 1)) : SQ (sN N (207 + 40 * c) (nI s)) := SQ_of h (fun sa => SA_N sa (sN_ne (by omega)) (fun l hl => sN_ne (by omega))) (fun q hs => by
  refine SI_upd hs (fun x hx => sN_ne (by omega)) (fun c' hc' hci => ?_) (hsum_eq (fun l hl => sN_ne (by omega))) ?_
  · by_cases e : c' = c
    · subst e
      obtain ⟨⟨x, y, h1, h2, h3, h4⟩, ⟨r, h5, h6, h7⟩, s', h8, h9, h10⟩ := hci
      have ess : s' = s + 1 := by
        rw [e0, nI_eq (by omega) (by omega)] at h9
        exact h9.symm
      subst ess
      exact ⟨⟨x, y, h1, h2, by rw [sN_ne (by omega)]; exact h3, by rw [sN_ne (by omega)]; exact h4⟩, ⟨r, h5, by rw [sN_ne (by omega)]; exact h6, by rw [sN_ne (by omega)]; exact h7⟩, s, by omega, sN_eq, fun p p1 p2 => by rw [sN_ne (by omega)]; exact h10 p p1 (by omega)⟩
    · exact CI_N hci (Nat.le_refl _) (fun x x1 x2 => sN_ne (by omega))
  · rw [sN_ne (by omega)]
    exact hs.2.2.2.2.2.2.2)
theorem SQ_fr {k : Nat} : SQ (frN k) := ⟨⟨0, by omega, SI_fr⟩, fun n l h2 hn hl => by
  have : frN k 2 = nI 0 := by
    unfold frN
    rw [if_neg (by omega), if_neg (by omega), if_neg (by omega), if_neg (by omega)]
  rw [this, nI_eq (by omega) (by omega)] at h2
  omega⟩
/-- a call of the law that answers v and leaves some sound world -/
def AR (B n T : Nat) (w : Wd) (I : MI) (L : ML) (P : MP) (r : Option Rs) (v : Int32) : Prop := ∃ w' J K Q N' st' Ks' len' tx', r = some (.inl (some (.int v)), w', J, K, Q) ∧ WI B w' J K Q N' st' Ks' len' tx' T ∧ RS B n w w' I J L K P Q
theorem gm13 {k : Nat} (h : k < 2147483648) : ¬ nI k < (-13) ∧ ¬ nI k < (-12) := by
  have e : ∀ z : Int32, z.toInt < 0 → ¬ nI k < z := fun z hz => by
    rw [Int32.lt_iff_toInt_lt, nI_toInt h]
    omega
  exact ⟨e _ (by decide), e _ (by decide)⟩
section
variable {B : Nat} {w : Wd} {I : MI} {L : ML} {P : MP} {N : Nat → Int32} {st : Nat} {Ks : Nat → Nat → Int32} {len : Nat} {tx : Nat → Nat} {T : Nat}
theorem AR_ok {v : Int32} {M : Nat → Int32} {st' : Nat} {Ks' : Nat → Nat → Int32} {len' : Nat} {tx' : Nat → Nat} {r r' : Option Rs} (g : Wok B w I L P (.int v) M st' Ks' len' tx' T r) (e : ∀ J K Q, r = some (.inl (some (.int v)), w, J, K, Q) → r' = some (.inl (some (.int v)), w, J, K, Q)) : AR B 1 T w I L P r' v := by
  obtain ⟨J, K, Q, a, b, c⟩ := g
  exact ⟨w, J, K, Q, M, st', Ks', len', tx', e J K Q a, b, RS_le (RS_fr c) (by omega)⟩
theorem AR_th {v : Int32} {r : Option Rs} (h : WI B w I L P N st Ks len tx T) (e : r = some (.inl (some (.int v)), thrT w, I, L, P)) : AR B 1 T w I L P r v := ⟨thrT w, I, L, P, N, st, Ks, len, tx, e, WI_th h TH_thr, RS_th TH_thr⟩
theorem ar_add (h : WI B w I L P N st Ks len tx T) (hT : T < 2147000000) {a g : Nat} (ha : a < 128) (hg : g ≤ 9) : ∃ v, AR B 1 T w I L P (call 121 [.ref B, .int (nI a), .int (nI g)] w I L P) v ∧ ¬ v < (-12) := by
  have t0 := WI_t0 h
  obtain ⟨q, k, n, hq, h0, hk0, hk3, h1, hn, h2, -⟩ := CW_KN h.1 hT
  by_cases z : n = 6 ∨ wFrom N (nI a) 0 n ≠ -1
  · exact ⟨-12, AR_th h (lt_addListener1 t0 (ce_addListener1 h.1 h2 hn ha hg z)), by decide⟩
  · have z1 : n ≠ 6 := fun y => z (Or.inl y)
    have z2 : wFrom N (nI a) 0 n = -1 := Classical.byContradiction (fun y => z (Or.inr y))
    refine ⟨nI n, AR_ok (Wok_sv h (cc_addListener h.1 h2 (by omega) ha hg z2) (SQ_add h.2.1 (by omega) h2 ha)) (fun J K Q e => lr_addListener t0 e), (gm13 (by omega)).2⟩
theorem ar_write (h : WI B w I L P N st Ks len tx T) (hT : T < 2147000000) {c a cnt : Nat} {b : Int64} (hc3 : c < 3) (ha : a < 128) (hc1 : 1 ≤ cnt) (hc4 : cnt ≤ 4) (hb : 0 ≤ b ∧ b ≤ mostV (nI cnt)) : ∃ v, AR B 1 T w I L P (call 125 [.ref B, .int (nI c), .int (nI a), .int (nI cnt), .long b] w I L P) v ∧ ¬ v < (-13) := by
  have t0 := WI_t0 h
  obtain ⟨q, k, n, hq, h0, hk0, hk3, h1, hn, h2, hi, -⟩ := CW_KN h.1 hT
  by_cases hck : c < k
  · obtain ⟨s, hs4, e0, -⟩ := hi.1 c hc3
    obtain ⟨c1, c2⟩ := cc_write (b := b) h.1 h1 hk3 hck e0 hs4 ha hc1 hc4 hb
    by_cases z : s = 4
    · exact ⟨-13, AR_th h (lt_write1 t0 (c1 z)), by decide⟩
    · exact ⟨nI (s + 1), AR_ok (Wok_sv h (c2 (by omega)) (SQ_que h.2.1 hc3 (by omega) e0)) (fun J K Q e => lr_write t0 e), (gm13 (by omega)).1⟩
  · exact ⟨-11, AR_th h (lt_write2 t0 (ce_write2 h.1 h1 hk3 (Or.inr (nI_le (by omega) (by omega))))), by decide⟩
theorem ar_read (h : WI B w I L P N st Ks len tx T) (hT : T < 2147000000) {c a cnt : Nat} (hc3 : c < 3) (ha : a < 128) (hc1 : 1 ≤ cnt) (hc4 : cnt ≤ 4) : ∃ v, AR B 1 T w I L P (call 126 [.ref B, .int (nI c), .int (nI a), .int (nI cnt)] w I L P) v ∧ ¬ v < (-13) := by
  have t0 := WI_t0 h
  obtain ⟨q, k, n, hq, h0, hk0, hk3, h1, hn, h2, hi, -⟩ := CW_KN h.1 hT
  by_cases hck : c < k
  · obtain ⟨s, hs4, e0, -⟩ := hi.1 c hc3
    obtain ⟨c1, c2⟩ := cc_read h.1 h1 hk3 hck e0 hs4 ha hc1 hc4
    by_cases z : s = 4
    · exact ⟨-13, AR_th h (lt_read1 t0 (c1 z)), by decide⟩
    · exact ⟨nI (s + 1), AR_ok (Wok_sv h (c2 (by omega)) (SQ_que h.2.1 hc3 (by omega) e0)) (fun J K Q e => lr_read t0 e), (gm13 (by omega)).1⟩
  · exact ⟨-11, AR_th h (lt_read2 t0 (ce_read2 h.1 h1 hk3 (Or.inr (nI_le (by omega) (by omega))))), by decide⟩
theorem ar_cancel (h : WI B w I L P N st Ks len tx T) (hT : T < 2147000000) {c : Nat} (hc3 : c < 3) : ∃ v, AR B 1 T w I L P (call 127 [.ref B, .int (nI c)] w I L P) v ∧ ¬ v < (-12) := by
  have t0 := WI_t0 h
  obtain ⟨q, k, n, hq, h0, hk0, hk3, h1, hn, h2, hi, -⟩ := CW_KN h.1 hT
  by_cases hck : c < k
  · obtain ⟨s, hs4, e0, -, hom⟩ := hi.1 c hc3
    obtain ⟨c1, c2⟩ := cc_cancel h.1 h1 hk3 hck e0 hs4
    by_cases z : s = 0 ∨ (s = 1 ∧ conB N (nI c))
    · exact ⟨-12, AR_th h (lt_cancel1 t0 (c1 z)), by decide⟩
    · obtain ⟨s', rfl⟩ : ∃ s', s = s' + 1 := ⟨s - 1, by have : s ≠ 0 := fun y => z (Or.inl y); omega⟩
      obtain ⟨⟨a, ha, ea⟩, -⟩ := hom s' (by omega)
      have g := Wok_sv h (c2 s' rfl z) (SQ_can h.2.1 hc3 (by omega) e0)
      rw [ea] at g
      exact ⟨nI a, AR_ok g (fun J K Q e => lr_cancel t0 e), (gm13 (by omega)).2⟩
  · exact ⟨-11, AR_th h (lt_cancel2 t0 (ce_cancel h.1 h1 hk3 (Or.inr (nI_le (by omega) (by omega))))), by decide⟩
theorem onS_nat {n : Nat} (h : ∀ l, l < n → N (327 + 22 * l + 4) = nI 0 ∨ N (327 + 22 * l + 4) = nI 1) : ∃ j, j ≤ n ∧ onS N n = nI j := by
  induction n with
  | zero => exact ⟨0, Nat.le_refl _, rfl⟩
  | succ n ih =>
    obtain ⟨j, hj, e⟩ := ih (fun l hl => h l (by omega))
    unfold onS
    rw [e]
    rcases h n (by omega) with z | z
    · exact ⟨j, by omega, by rw [z, nI_add, Nat.add_zero]⟩
    · exact ⟨j + 1, by omega, by rw [z, nI_add]⟩
theorem ar_turn (h : WI B w I L P N st Ks len tx T) (hT : T < 2147000000) {n l : Nat} {v : Int32} (h2 : N 2 = nI n) (hn : n ≤ 6) (hln : l < n) (hv : v = nI 0 ∨ v = nI 1) : ∃ x, AR B 1 T w I L P (call 122 [.ref B, .int (nI l), .int v] w I L P) x ∧ ¬ x < (-12) := by
  have t0 := WI_t0 h
  obtain ⟨q, k, n', hq, h0, hk0, hk3, h1, hn', h2', hi, hol, -⟩ := CW_KN h.1 hT
  obtain ⟨c1, c2⟩ := cc_turn h.1 h2 hn hln hv
  by_cases z : N (327 + 22 * l + 4) = v
  · exact ⟨-12, AR_th h (lt_turn1 t0 (c1 z)), by decide⟩
  · obtain ⟨j, hj, e⟩ := onS_nat (N := sN N (327 + 22 * l + 4) v) (n := n) (fun l' hl' => by
      by_cases e : l' = l
      · subst e; rw [sN_eq]; exact hv
      · rw [sN_ne (by omega)]; exact (hol l' (by omega)).2.1)
    have g := Wok_sv h (c2 z) (SQ_lst (l := l) h.2.1 (fun x hx => sN_ne (by omega)))
    rw [e] at g
    exact ⟨nI j, AR_ok g (fun J K Q e => lr_turn t0 e), (gm13 (by omega)).2⟩
theorem ar_empty (h : WI B w I L P N st Ks len tx T) (hT : T < 2147000000) {n l : Nat} (h2 : N 2 = nI n) (hn : n ≤ 6) (hln : l < n) : ∃ x, AR B 1 T w I L P (call 123 [.ref B, .int (nI l)] w I L P) x ∧ ¬ x < 0 := by
  have t0 := WI_t0 h
  obtain ⟨q, k, n', hq, h0, hk0, hk3, h1, hn', h2', hi, hol, -⟩ := CW_KN h.1 hT
  obtain ⟨-, -, m, p, m16, em, -⟩ := hol l (by omega)
  have g := Wok_sv h (cc_empty h.1 h2 hn hln) (SQ_lst (l := l) h.2.1 (fun x hx => by rw [sN_ne (by omega), sN_ne (by omega)]))
  rw [em] at g
  exact ⟨nI m, AR_ok g (fun J K Q e => lr_empty t0 e), nI_pos (by omega)⟩
theorem ar_limit (h : WI B w I L P N st Ks len tx T) (hT : T < 2147000000) {x : Nat} (hx1 : 1 ≤ x) (hx9 : x ≤ 9) : ∃ v, AR B 1 T w I L P (call 124 [.ref B, .int (nI x)] w I L P) v ∧ ¬ v < nI 1 := by
  have t0 := WI_t0 h
  obtain ⟨⟨q, hq, hs⟩, -⟩ := id h.2.1
  obtain ⟨m, hm1, hm9, h3⟩ := hs.2.2.2.2.2.2.2
  have g := Wok_sv h (cc_setLimit h.1 (RG_of hx1 hx9 (by omega))) (SQ_lim h.2.1 hx1 hx9)
  rw [h3] at g
  exact ⟨nI m, AR_ok g (fun J K Q e => lr_setLimit t0 e), nI_nlt hm1 (by omega)⟩
theorem ar_begin (h : WI B w I L P N st Ks len tx T) (hT : T < 2147000000) {x : Nat} (hx1 : 1 ≤ x) (hx3 : x ≤ 3) : ∃ v, AR B 1 T w I L P (call 120 [.ref B, .int (nI x)] w I L P) v ∧ ¬ v < 0 := by
  have t0 := WI_t0 h
  obtain ⟨q, k, n', hq, h0, -⟩ := CW_KN h.1 hT
  have g := Wok_sv h (cc_begin h.1 hx1 hx3) SQ_fr
  rw [h0] at g
  exact ⟨nI q, AR_ok g (fun J K Q e => lr_begin t0 e), nI_pos (by omega)⟩
end
