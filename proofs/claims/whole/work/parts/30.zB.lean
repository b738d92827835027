/-! digest: the model -/
theorem updL_u {K : ML} {m k : Nat} {u v : Int64} : updL (updL K m k u) m k v = updL K m k v := by
  funext x j; unfold updL
  by_cases h : x = m ∧ j = k
  · rw [if_pos h, if_pos h]
  · rw [if_neg h, if_neg h, if_neg h]
theorem mo_hsh {w : Wd} {mo : Nat} (h7 : w.1 mo = some (7, 0)) (v : Int32) (I : MI) (L : ML) (h : Int64) (P : MP) : call 204 [.ref mo, .int v] w I (updL L mo 15 h) P = some (.inl none, w, I, updL L mo 15 (mxN h v), P) := by
  rw [Model_hashes_E, Model_hashes_0 _ _ _ _ _ _ h7, updL_s, updL_u]; rfl
theorem numV_c {M N : Nat → Int32} (e : ∀ j, j < 459 → M j = N j) {v : Nat} (hv : v < 10) : numV M v = numV N v := by
  rcases (show v = 0 ∨ v = 1 ∨ v = 2 ∨ v = 3 ∨ v = 4 ∨ v = 5 ∨ v = 6 ∨ v = 7 ∨ v = 8 ∨ v = 9 by omega) with rfl | rfl | rfl | rfl | rfl | rfl | rfl | rfl | rfl | rfl
  · exact e 0 (by omega)
  · exact e 1 (by omega)
  · exact e 2 (by omega)
  · exact e 3 (by omega)
  · show (if M 4 = 0 then nI 1 else nI 0) = if N 4 = 0 then nI 1 else nI 0
    rw [e 4 (by omega)]
  · exact e 5 (by omega)
  · exact e 10 (by omega)
  · exact e 11 (by omega)
  · exact e 8 (by omega)
  · exact e 12 (by omega)
theorem calV_c {M N : Nat → Int32} (e : ∀ j, j < 459 → M j = N j) {c v : Nat} (hc : c < 3) : calV M c v = calV N c v := by
  have e5 : (if conB M (nI c) then nI 1 else nI 0) = if conB N (nI c) then nI 1 else nI 0 := by
    unfold conB
    rw [e 5 (by omega)]
  unfold calV
  rw [e5]
  by_cases g : v < 8
  · rw [if_pos g, if_pos g, e _ (by omega)]
  · rw [if_neg g, if_neg g]
section
variable {w : Wd} {mo d : Nat} {P : MP} {N : Nat → Int32}
theorem mo_dg1 {w : Wd} {P : MP} {mo d : Nat} (h7 : w.1 mo = some (7, 0)) (hd : w.1 d = some (8, 459)) (p0 : P mo 0 = some d) (I : MI) (L : ML) (e : ∀ j, j < 459 → I d j = N j) (F : Int32) (x3 x4 : Value) : ∀ f v, v + f = 10 → ∀ h, go 205 27 [.ref mo, .int F, .int (nI v), x3, x4] [] w I (updL L mo 15 h) P = go 205 48 [.ref mo, .int F, .int (nI 10), x3, x4] [] w I (updL L mo 15 (fd2 (fun v h => mxN h (numV N v)) f v h)) P := by
  intro f
  induction f with
  | zero =>
    intro v hv h
    have : v = 10 := by omega
    subst this
    rw [Model_digest_27, if_pos (nI_le (by omega) (by omega))]; rfl
  | succ f ih =>
    intro v hv h
    rw [Model_digest_27, if_neg (nI_ge (by omega) (by omega)), Model_digest_33 _ _ _ _ _ _ _ _ _ h7, mo_num h7 hd p0 I _ (show v < 10 by omega), numV_c e (by omega)]
    simp only [kC_ret, Option.toList, List.cons_append, List.nil_append, fix1_int, fix1_ref, fix1_unk, fix1_null, fix1_long]
    rw [Model_digest_39 _ _ _ _ _ _ _ _ _ _ _ h7, mo_hsh h7]
    simp only [kC_ret, Option.toList, List.cons_append, List.nil_append, fix1_int, fix1_ref, fix1_unk, fix1_null, fix1_long]
    rw [Model_digest_42, fix1_int, nI_add, ih (v + 1) (by omega)]
    rfl
theorem mo_dgc1 {w : Wd} {P : MP} {mo d : Nat} (h7 : w.1 mo = some (7, 0)) (hd : w.1 d = some (8, 459)) (p0 : P mo 0 = some d) (I : MI) (L : ML) (e : ∀ j, j < 459 → I d j = N j) (F : Int32) (x4 : Value) {c : Nat} (hc : c < 3) : ∀ f v, v + f = 9 → ∀ h, go 205 62 [.ref mo, .int F, .int (nI c), .int (nI v), x4] [] w I (updL L mo 15 h) P = go 205 84 [.ref mo, .int F, .int (nI c), .int (nI 9), x4] [] w I (updL L mo 15 (fd2 (fun v h => mxN h (calV N c v)) f v h)) P := by
  intro f
  induction f with
  | zero =>
    intro v hv h
    have : v = 9 := by omega
    subst this
    rw [Model_digest_62, if_pos (nI_le (by omega) (by omega))]; rfl
  | succ f ih =>
    intro v hv h
    rw [Model_digest_62, if_neg (nI_ge (by omega) (by omega)), Model_digest_68 _ _ _ _ _ _ _ _ _ h7, mo_calN h7 hd p0 I _ hc (show v < 9 by omega), calV_c e hc]
    simp only [kC_ret, Option.toList, List.cons_append, List.nil_append, fix1_int, fix1_ref, fix1_unk, fix1_null, fix1_long]
    rw [Model_digest_75 _ _ _ _ _ _ _ _ _ _ _ h7, mo_hsh h7]
    simp only [kC_ret, Option.toList, List.cons_append, List.nil_append, fix1_int, fix1_ref, fix1_unk, fix1_null, fix1_long]
    rw [Model_digest_78, fix1_int, nI_add, ih (v + 1) (by omega)]
    rfl
theorem mo_dgc2 {w : Wd} {P : MP} {mo d : Nat} (h7 : w.1 mo = some (7, 0)) (hd : w.1 d = some (8, 459)) (p0 : P mo 0 = some d) (I : MI) (L : ML) (e : ∀ j, j < 459 → I d j = N j) (F : Int32) {c p : Nat} (hc : c < 3) (hp : p < 4) : ∀ f v, v + f = 8 → ∀ h, go 205 99 [.ref mo, .int F, .int (nI c), .int (nI p), .int (nI v)] [] w I (updL L mo 15 h) P = go 205 124 [.ref mo, .int F, .int (nI c), .int (nI p), .int (nI 8)] [] w I (updL L mo 15 (fd2 (fun k h => mxN h (N (215 + 40 * c + 8 * p + k))) f v h)) P := by
  intro f
  induction f with
  | zero =>
    intro v hv h
    have : v = 8 := by omega
    subst this
    rw [Model_digest_99, if_pos (nI_le (by omega) (by omega))]; rfl
  | succ f ih =>
    intro v hv h
    rw [Model_digest_99, if_neg (nI_ge (by omega) (by omega)), Model_digest_106 _ _ _ _ _ _ _ _ _ h7, mo_told h7 hd p0 (c := c) (p := p) (k := v) (by omega), e _ (by omega), show 207 + 40 * c + 8 + 8 * p + v = 215 + 40 * c + 8 * p + v from by omega]
    simp only [kC_ret, Option.toList, List.cons_append, List.nil_append, fix1_int, fix1_ref, fix1_unk, fix1_null, fix1_long]
    rw [Model_digest_115 _ _ _ _ _ _ _ _ _ _ _ h7, mo_hsh h7]
    simp only [kC_ret, Option.toList, List.cons_append, List.nil_append, fix1_int, fix1_ref, fix1_unk, fix1_null, fix1_long]
    rw [Model_digest_118, fix1_int, nI_add, ih (v + 1) (by omega)]
    rfl
theorem mo_dgc3 {w : Wd} {P : MP} {mo d : Nat} (h7 : w.1 mo = some (7, 0)) (hd : w.1 d = some (8, 459)) (p0 : P mo 0 = some d) (I : MI) (L : ML) (e : ∀ j, j < 459 → I d j = N j) (F : Int32) {c s : Nat} (hc : c < 3) (hs : s ≤ 4) (e0 : N (207 + 40 * c) = nI s) : ∀ f p, p + f = s → ∀ h x4, ∃ x, go 205 86 [.ref mo, .int F, .int (nI c), .int (nI p), x4] [] w I (updL L mo 15 h) P = go 205 130 [.ref mo, .int F, .int (nI c), .int (nI s), x] [] w I (updL L mo 15 (fd2 (fun p h => dgM N c p h) f p h)) P := by
  have beg : ∀ p h x4, go 205 86 [.ref mo, .int F, .int (nI c), .int (nI p), x4] [] w I (updL L mo 15 h) P = if nI s ≤ nI p then go 205 130 [.ref mo, .int F, .int (nI c), .int (nI p), x4] [] w I (updL L mo 15 h) P else go 205 96 [.ref mo, .int F, .int (nI c), .int (nI p), x4] [] w I (updL L mo 15 h) P := by
    intro p h x4
    rw [Model_digest_86 _ _ _ _ _ _ _ _ _ h7, mo_of h7 hd p0 (c := c) (k := 0) (by omega), Nat.add_zero (207 + 40 * c), e _ (by omega), e0]
    simp only [kC_ret, Option.toList, List.cons_append, List.nil_append, fix1_int, fix1_ref, fix1_unk, fix1_null, fix1_long]
    rw [Model_digest_93]
  intro f
  induction f with
  | zero =>
    intro p hp h x4
    have : p = s := by omega
    subst this
    refine ⟨x4, ?_⟩
    rw [beg, if_pos (nI_le (by omega) (by omega))]; rfl
  | succ f ih =>
    intro p hp h x4
    obtain ⟨x, g⟩ := ih (p + 1) (by omega) (dgM N c p h) (.int (nI 8))
    refine ⟨x, ?_⟩
    rw [beg, if_neg (nI_ge (by omega) (by omega)), Model_digest_96, fix1_int, mo_dgc2 h7 hd p0 I L e F hc (show p < 4 by omega) 8 0 (by omega), Model_digest_124, fix1_int, nI_add]
    exact g
theorem mo_dg2 {w : Wd} {P : MP} {mo d : Nat} (h7 : w.1 mo = some (7, 0)) (hd : w.1 d = some (8, 459)) (p0 : P mo 0 = some d) (I : MI) (L : ML) (e : ∀ j, j < 459 → I d j = N j) (F : Int32) {k : Nat} (hk : k ≤ 3) (h1 : N 1 = nI k) (hs : ∀ c, c < 3 → ∃ s, s ≤ 4 ∧ N (207 + 40 * c) = nI s) : ∀ f c, c + f = k → ∀ h x3 x4, ∃ y3 y4, go 205 50 [.ref mo, .int F, .int (nI c), x3, x4] [] w I (updL L mo 15 h) P = go 205 136 [.ref mo, .int F, .int (nI k), y3, y4] [] w I (updL L mo 15 (fd2 (fun c h => dgC N c h) f c h)) P := by
  have beg : ∀ c h x3 x4, go 205 50 [.ref mo, .int F, .int (nI c), x3, x4] [] w I (updL L mo 15 h) P = if nI k ≤ nI c then go 205 136 [.ref mo, .int F, .int (nI c), x3, x4] [] w I (updL L mo 15 h) P else go 205 60 [.ref mo, .int F, .int (nI c), x3, x4] [] w I (updL L mo 15 h) P := by
    intro c h x3 x4
    rw [Model_digest_50 _ _ _ _ _ _ _ _ _ h7, p0, rf_some, Model_digest_55 _ _ _ _ _ _ _ _ _ _ _ (inA_nI hd (by omega) (by omega)), cl_nI (by omega), e _ (by omega), h1]
  intro f
  induction f with
  | zero =>
    intro c hc h x3 x4
    have : c = k := by omega
    subst this
    refine ⟨x3, x4, ?_⟩
    rw [beg, if_pos (nI_le (by omega) (by omega))]; rfl
  | succ f ih =>
    intro c hc h x3 x4
    obtain ⟨s, hs4, e0⟩ := hs c (by omega)
    have e9 : fd2 (fun v h => mxN h (calV N c v)) 9 0 h = mxN (fd2 (fun k h => mxN h (N (207 + 40 * c + k))) 8 0 h) (if conB N (nI c) then nI 1 else nI 0) := by
      show mxN (fd2 (fun v h => mxN h (calV N c v)) 8 0 h) (calV N c 8) = _
      rw [fd2_c (G := fun v h => mxN h (calV N c v)) (G' := fun k h => mxN h (N (207 + 40 * c + k))) 8 0 h (fun i _ h2 hh => by
        show mxN hh (calV N c i) = mxN hh (N (207 + 40 * c + i))
        unfold calV; rw [if_pos (by omega)])]
      unfold calV
      rw [if_neg (by omega)]
    obtain ⟨x, g⟩ := mo_dgc3 h7 hd p0 I L e F (show c < 3 by omega) hs4 e0 s 0 (by omega) (fd2 (fun v h => mxN h (calV N c v)) 9 0 h) x4
    obtain ⟨y3, y4, g2⟩ := ih (c + 1) (by omega) (dgC N c h) (.int (nI s)) x
    refine ⟨y3, y4, ?_⟩
    rw [beg, if_neg (nI_ge (by omega) (by omega)), Model_digest_60, fix1_int, mo_dgc1 h7 hd p0 I L e F x4 (show c < 3 by omega) 9 0 (by omega), Model_digest_84, fix1_int, g, Model_digest_130, fix1_int, nI_add, e9]
    have e7 : fd2 (fun p h => dgM N c p h) s 0 (mxN (fd2 (fun k h => mxN h (N (207 + 40 * c + k))) 8 0 h) (if conB N (nI c) then nI 1 else nI 0)) = dgC N c h := by
      unfold dgC; rw [e0, cl_nI (by omega)]
    rw [e7]
    exact g2
theorem mo_dgl1 {w : Wd} {P : MP} {mo d : Nat} (h7 : w.1 mo = some (7, 0)) (hd : w.1 d = some (8, 459)) (p0 : P mo 0 = some d) (I : MI) (L : ML) (e : ∀ j, j < 459 → I d j = N j) (F : Int32) (x4 : Value) {l : Nat} (hl : l < 6) : ∀ f v, v + f = 6 → ∀ h, go 205 150 [.ref mo, .int F, .int (nI l), .int (nI v), x4] [] w I (updL L mo 15 h) P = go 205 172 [.ref mo, .int F, .int (nI l), .int (nI 6), x4] [] w I (updL L mo 15 (fd2 (fun k h => mxN h (N (327 + 22 * l + k))) f v h)) P := by
  intro f
  induction f with
  | zero =>
    intro v hv h
    have : v = 6 := by omega
    subst this
    rw [Model_digest_150, if_pos (nI_le (by omega) (by omega))]; rfl
  | succ f ih =>
    intro v hv h
    rw [Model_digest_150, if_neg (nI_ge (by omega) (by omega)), Model_digest_156 _ _ _ _ _ _ _ _ _ h7, mo_part h7 hd p0 (c := l) (k := v) (by omega), e _ (by omega)]
    simp only [kC_ret, Option.toList, List.cons_append, List.nil_append, fix1_int, fix1_ref, fix1_unk, fix1_null, fix1_long]
    rw [Model_digest_163 _ _ _ _ _ _ _ _ _ _ _ h7, mo_hsh h7]
    simp only [kC_ret, Option.toList, List.cons_append, List.nil_append, fix1_int, fix1_ref, fix1_unk, fix1_null, fix1_long]
    rw [Model_digest_166, fix1_int, nI_add, ih (v + 1) (by omega)]
    rfl
theorem mo_dgl2 {w : Wd} {P : MP} {mo d : Nat} (h7 : w.1 mo = some (7, 0)) (hd : w.1 d = some (8, 459)) (p0 : P mo 0 = some d) (I : MI) (L : ML) (e : ∀ j, j < 459 → I d j = N j) (F : Int32) (x4 : Value) {l m : Nat} (hl : l < 6) (hm : m ≤ 16) (e2 : N (327 + 22 * l + 2) = nI m) : ∀ f p, p + f = m → ∀ h, go 205 174 [.ref mo, .int F, .int (nI l), .int (nI p), x4] [] w I (updL L mo 15 h) P = go 205 203 [.ref mo, .int F, .int (nI l), .int (nI m), x4] [] w I (updL L mo 15 (fd2 (fun p h => mxN h (N (327 + 22 * l + (6 + p)))) f p h)) P := by
  have beg : ∀ p h, go 205 174 [.ref mo, .int F, .int (nI l), .int (nI p), x4] [] w I (updL L mo 15 h) P = if nI m ≤ nI p then go 205 203 [.ref mo, .int F, .int (nI l), .int (nI p), x4] [] w I (updL L mo 15 h) P else go 205 184 [.ref mo, .int F, .int (nI l), .int (nI p), x4] [] w I (updL L mo 15 h) P := by
    intro p h
    rw [Model_digest_174 _ _ _ _ _ _ _ _ _ h7, mo_part h7 hd p0 (c := l) (k := 2) (by omega), e _ (by omega), e2]
    simp only [kC_ret, Option.toList, List.cons_append, List.nil_append, fix1_int, fix1_ref, fix1_unk, fix1_null, fix1_long]
    rw [Model_digest_181]
  intro f
  induction f with
  | zero =>
    intro p hp h
    have : p = m := by omega
    subst this
    rw [beg, if_pos (nI_le (by omega) (by omega))]; rfl
  | succ f ih =>
    intro p hp h
    rw [beg, if_neg (nI_ge (by omega) (by omega)), Model_digest_184 _ _ _ _ _ _ _ _ _ h7, nI_add, mo_part h7 hd p0 (c := l) (k := 6 + p) (by omega), e _ (by omega)]
    simp only [kC_ret, Option.toList, List.cons_append, List.nil_append, fix1_int, fix1_ref, fix1_unk, fix1_null, fix1_long]
    rw [Model_digest_194 _ _ _ _ _ _ _ _ _ _ _ h7, mo_hsh h7]
    simp only [kC_ret, Option.toList, List.cons_append, List.nil_append, fix1_int, fix1_ref, fix1_unk, fix1_null, fix1_long]
    rw [Model_digest_197, fix1_int, nI_add, ih (p + 1) (by omega)]
    rfl
theorem mo_dg3 {w : Wd} {P : MP} {mo d : Nat} (h7 : w.1 mo = some (7, 0)) (hd : w.1 d = some (8, 459)) (p0 : P mo 0 = some d) (I : MI) (L : ML) (e : ∀ j, j < 459 → I d j = N j) (F : Int32) {n : Nat} (hn : n ≤ 6) (h2 : N 2 = nI n) (hm : ∀ l, l < 6 → ∃ m, m ≤ 16 ∧ N (327 + 22 * l + 2) = nI m) (x4 : Value) : ∀ f l, l + f = n → ∀ h x3, ∃ y3, go 205 138 [.ref mo, .int F, .int (nI l), x3, x4] [] w I (updL L mo 15 h) P = go 205 209 [.ref mo, .int F, .int (nI n), y3, x4] [] w I (updL L mo 15 (fd2 (fun l h => dgL N l h) f l h)) P := by
  have beg : ∀ l h x3, go 205 138 [.ref mo, .int F, .int (nI l), x3, x4] [] w I (updL L mo 15 h) P = if nI n ≤ nI l then go 205 209 [.ref mo, .int F, .int (nI l), x3, x4] [] w I (updL L mo 15 h) P else go 205 148 [.ref mo, .int F, .int (nI l), x3, x4] [] w I (updL L mo 15 h) P := by
    intro l h x3
    rw [Model_digest_138 _ _ _ _ _ _ _ _ _ h7, p0, rf_some, Model_digest_143 _ _ _ _ _ _ _ _ _ _ _ (inA_nI hd (by omega) (by omega)), cl_nI (by omega), e _ (by omega), h2]
  intro f
  induction f with
  | zero =>
    intro l hl h x3
    have : l = n := by omega
    subst this
    refine ⟨x3, ?_⟩
    rw [beg, if_pos (nI_le (by omega) (by omega))]; rfl
  | succ f ih =>
    intro l hl h x3
    obtain ⟨m, hm16, e2⟩ := hm l (by omega)
    obtain ⟨y3, g2⟩ := ih (l + 1) (by omega) (dgL N l h) (.int (nI m))
    refine ⟨y3, ?_⟩
    rw [beg, if_neg (nI_ge (by omega) (by omega)), Model_digest_148, fix1_int, mo_dgl1 h7 hd p0 I L e F x4 (show l < 6 by omega) 6 0 (by omega), Model_digest_172, fix1_int, mo_dgl2 h7 hd p0 I L e F x4 (show l < 6 by omega) hm16 e2 m 0 (by omega), Model_digest_203, fix1_int, nI_add]
    have e7 : fd2 (fun p h => mxN h (N (327 + 22 * l + (6 + p)))) m 0 (fd2 (fun k h => mxN h (N (327 + 22 * l + k))) 6 0 h) = dgL N l h := by
      unfold dgL; rw [e2, cl_nI (by omega)]
    rw [e7]
    exact g2
theorem mo_dg4 {w : Wd} {P : MP} {mo d : Nat} (h7 : w.1 mo = some (7, 0)) (hd : w.1 d = some (8, 459)) (p0 : P mo 0 = some d) (I : MI) (L : ML) (e : ∀ j, j < 459 → I d j = N j) (F : Int32) {q : Nat} (h0 : N 0 = nI q) (hq : q < 2147483648) (x3 x4 : Value) : ∀ f b, b + f = kept q → ∀ h, go 205 211 [.ref mo, .int F, .int (nI b), x3, x4] [] w I (updL L mo 15 h) P = go 205 235 [.ref mo, .int F, .int (nI (kept q)), x3, x4] [] w I (updL L mo 15 (fd2 (fun b h => mxN h (N (15 + 3 * ((q - 1 - b) % 64)))) f b h)) P := by
  obtain ⟨k1, k2⟩ := kept_le q
  have eI : I d 0 = nI q := by rw [e 0 (by omega)]; exact h0
  have beg : ∀ b h, go 205 211 [.ref mo, .int F, .int (nI b), x3, x4] [] w I (updL L mo 15 h) P = if nI (kept q) ≤ nI b then go 205 235 [.ref mo, .int F, .int (nI b), x3, x4] [] w I (updL L mo 15 h) P else go 205 219 [.ref mo, .int F, .int (nI b), x3, x4] [] w I (updL L mo 15 h) P := by
    intro b h
    rw [Model_digest_211 _ _ _ _ _ _ _ _ _ h7, mo_logs h7 hd p0 I _ eI hq]
    simp only [kC_ret, Option.toList, List.cons_append, List.nil_append, fix1_int, fix1_ref, fix1_unk, fix1_null, fix1_long]
    rw [Model_digest_216]
  intro f
  induction f with
  | zero =>
    intro b hb h
    have : b = kept q := by omega
    subst this
    rw [beg, if_pos (nI_le (by omega) (by omega))]; rfl
  | succ f ih =>
    intro b hb h
    have hr : (q - 1 - b) % 64 < 64 := Nat.mod_lt _ (by omega)
    rw [beg, if_neg (nI_ge (by omega) (by omega)), Model_digest_219 _ _ _ _ _ _ _ _ _ h7, mo_logged h7 hd p0 I _ eI hq (show b < q by omega) (show 0 < 3 by omega), Nat.add_zero, e _ (by omega)]
    simp only [kC_ret, Option.toList, List.cons_append, List.nil_append, fix1_int, fix1_ref, fix1_unk, fix1_null, fix1_long]
    rw [Model_digest_226 _ _ _ _ _ _ _ _ _ _ _ h7, mo_hsh h7]
    simp only [kC_ret, Option.toList, List.cons_append, List.nil_append, fix1_int, fix1_ref, fix1_unk, fix1_null, fix1_long]
    rw [Model_digest_229, fix1_int, nI_add, ih (b + 1) (by omega)]
    rfl
end
