/-! isSound answers 1: its loops, and all of it -/
def setR (N : Nat → Int32) : Nat → Int32
  | 0 => nI 0
  | c + 1 => setR N c ||| ((if conB N (nI c) then nI 1 else nI 0) <<< (nI c &&& 31))
def setV (s : Nat) : Nat → Int32
  | 0 => nI 0
  | c + 1 => setV s c ||| ((if conB' (nI s) (nI c) then nI 1 else nI 0) <<< (nI c &&& 31))
theorem setV_all : ∀ s, s < 8 → ∀ k, k < 4 → (∀ c, c < 3 → conB' (nI s) (nI c) → c < k) → setV s k = nI s := by decide +kernel
theorem setR_k {N : Nat → Int32} {k : Nat} (hi : IV N k) (hk : k ≤ 3) : setR N k = N 5 := by
  obtain ⟨-, hf, s, hs, h5⟩ := hi
  have e : ∀ j, setR N j = setV s j := by
    intro j
    induction j with
    | zero => rfl
    | succ j ih =>
      unfold setR setV conB
      rw [ih, h5]
  rw [e, h5]
  refine setV_all s hs k (by omega) (fun c hc hcon => (hf c hc ?_).1)
  unfold conB
  rw [h5]
  exact hcon
def heldR (N : Nat → Int32) : Nat → Int32
  | 0 => nI 0
  | l + 1 => heldR N l + N (327 + 22 * l + 5)
theorem heldR_n {N : Nat → Int32} {n : Nat} (hol : OL N n) (hn : n ≤ 6) : heldR N n = hsum N := by
  have z : ∀ l, n ≤ l → l < 6 → N (327 + 22 * l + 5) = nI 0 := fun l hl h6 => by
    obtain ⟨-, -, m, p, -, -, -, -, hz⟩ := hol l h6
    exact (hz hl).2.2
  have a0 : ∀ x : Int32, x + nI 0 = x := or_add0
  have b0 : ∀ x : Int32, nI 0 + x = x := fun x => by rw [nI_0]; exact Int32.zero_add x
  have e6 : heldR N 6 = hsum N := by
    unfold hsum heldR heldR heldR heldR heldR heldR heldR
    rw [b0]
  rw [← e6]
  rcases (show n = 0 ∨ n = 1 ∨ n = 2 ∨ n = 3 ∨ n = 4 ∨ n = 5 ∨ n = 6 by omega) with rfl | rfl | rfl | rfl | rfl | rfl | rfl
  · simp only [heldR, z 0 (by omega) (by omega), z 1 (by omega) (by omega), z 2 (by omega) (by omega), z 3 (by omega) (by omega), z 4 (by omega) (by omega), z 5 (by omega) (by omega), a0]
  · simp only [heldR, z 1 (by omega) (by omega), z 2 (by omega) (by omega), z 3 (by omega) (by omega), z 4 (by omega) (by omega), z 5 (by omega) (by omega), a0]
  · simp only [heldR, z 2 (by omega) (by omega), z 3 (by omega) (by omega), z 4 (by omega) (by omega), z 5 (by omega) (by omega), a0]
  · simp only [heldR, z 3 (by omega) (by omega), z 4 (by omega) (by omega), z 5 (by omega) (by omega), a0]
  · simp only [heldR, z 4 (by omega) (by omega), z 5 (by omega) (by omega), a0]
  · simp only [heldR, z 5 (by omega) (by omega), a0]
  · rfl
section
variable {B : Nat} {I : MI} {L : ML} {P : MP} {N : Nat → Int32} {st : Nat} {Ks : Nat → Nat → Int32} {len : Nat} {tx : Nat → Nat} {T : Nat}
theorem so_cals {q k n : Nat} (hT : T < 2147000000) (hk : KN N T q k n) (hs : SI N q) (x2 : Int32) : ∀ f c, c + f = k → ∀ (w : Wd), CW B w I L P N st Ks len tx T → ∀ x5 x6, ∃ w' y5 y6, go 140 53 [.ref B, .int (setR N c), .int x2, .int (nI 1), .int (nI c), x5, x6] [] w I L P = go 140 365 [.ref B, .int (setR N k), .int x2, .int (nI 1), .int (nI 0), y5, y6] [] w' I L P ∧ TH f w w' := by
  obtain ⟨hq, h0, hk0, hk3, h1, hn, h2, hi, hol, -, hmb, -, -⟩ := hk
  intro f
  induction f with
  | zero =>
    intro c hc w h x5 x6
    have : c = k := by omega
    subst this
    refine ⟨w, x5, x6, ?_, TH_refl⟩
    have e1 : numV N 1 = nI c := h1
    rw [Law_isSound_53_1, (lr_value h.1.1 (cv_value h hT (v := 1) (by omega))), e1]
    simp only [kC_ret, Option.toList, List.cons_append, List.nil_append, fix1_int, fix1_ref, fix1_unk, fix1_null, fix1_long]
    rw [Law_isSound_60, if_pos (nI_le (Nat.le_refl _) (by omega)), Law_isSound_362]
    simp only [fix1_int, fix1_ref, fix1_unk, fix1_null, fix1_long]
  | succ f ih =>
    intro c hc w h x5 x6
    obtain ⟨w1, y5, y6, e, t⟩ := so_cal h1 hk3 h2 hn (show c < k by omega) h hT hi hol (hs.2.2.1 c (by omega)) (by omega) (hmb c (by omega)) (setR N c) x2 x5 x6
    obtain ⟨w2, z5, z6, e2, t2⟩ := ih (c + 1) (by omega) w1 (CW_th h t) y5 y6
    refine ⟨w2, z5, z6, ?_, TH_le (TH_trans t t2) (by omega)⟩
    rw [e]
    exact e2
theorem so_lis {q k n : Nat} (hT : T < 2147000000) (hk : KN N T q k n) (x1 : Int32) : ∀ f l, l + f = n → ∀ (w : Wd), CW B w I L P N st Ks len tx T → ∀ x5 x6, ∃ w' y5 y6, go 140 365 [.ref B, .int x1, .int (heldR N l), .int (nI 1), .int (nI l), x5, x6] [] w I L P = go 140 462 [.ref B, .int x1, .int (heldR N n), .int (nI 1), .int (nI n), y5, y6] [] w' I L P ∧ TH f w w' := by
  obtain ⟨hq, h0, hk0, hk3, h1, hn, h2, hi, hol, -, hmb, -, -⟩ := hk
  have e2 : numV N 2 = nI n := h2
  intro f
  induction f with
  | zero =>
    intro l hl w h x5 x6
    have : l = n := by omega
    subst this
    refine ⟨w, x5, x6, ?_, TH_refl⟩
    rw [Law_isSound_365_1, (lr_value h.1.1 (cv_value h hT (v := 2) (by omega))), e2]
    simp only [kC_ret, Option.toList, List.cons_append, List.nil_append, fix1_int, fix1_ref, fix1_unk, fix1_null, fix1_long]
    rw [Law_isSound_372, if_pos (nI_le (Nat.le_refl _) (by omega))]
  | succ f ih =>
    intro l hl w h x5 x6
    have t0 := h.1.1
    have hln : l < n := by omega
    obtain ⟨-, -, m, p, m16, em, ep, hmp, -⟩ := hol l (by omega)
    have lis := fun (v : Nat) (hv : v < 6) => lr_listener t0 (cv_listener h h2 hn hln hv)
    have h' : CW B (thrT w) I L P N st Ks len tx T := CW_th h TH_thr
    obtain ⟨w2, z5, z6, e, t2⟩ := ih (l + 1) (by omega) (thrT w) h' (.int (nI m)) x6
    refine ⟨w2, z5, z6, ?_, TH_le (TH_trans TH_thr t2) (by omega)⟩
    have n0 : ¬ nI 1 = 0 := by decide
    have s1 : go 140 365 [.ref B, .int x1, .int (heldR N l), .int (nI 1), .int (nI l), x5, x6] [] w I L P = go 140 417 [.ref B, .int x1, .int (heldR N (l + 1)), .int (nI 1), .int (nI l), .int (nI m), x6] [.int (nI p)] w I L P := by
      rw [Law_isSound_365_1, (lr_value t0 (cv_value h hT (v := 2) (by omega))), e2]
      simp only [kC_ret, Option.toList, List.cons_append, List.nil_append, fix1_int, fix1_ref, fix1_unk, fix1_null, fix1_long]
      rw [Law_isSound_372, if_neg (nI_ge hln (by omega)), Law_isSound_375, if_neg n0, Law_isSound_379_1, (lis 2 (by omega)), em]
      simp only [kC_ret, Option.toList, List.cons_append, List.nil_append, fix1_int, fix1_ref, fix1_unk, fix1_null, fix1_long]
      rw [Law_isSound_386_1, (lis 5 (by omega))]
      simp only [kC_ret, Option.toList, List.cons_append, List.nil_append, fix1_int, fix1_ref, fix1_unk, fix1_null, fix1_long]
      rw [Law_isSound_396, if_neg (nI_pos (by omega))]
      simp only [fix1_int, fix1_ref, fix1_unk, fix1_null, fix1_long]
      rw [Law_isSound_403, if_neg (nI_nlt m16 (by omega)), Law_isSound_410_1, (lis 3 (by omega)), ep]
      simp only [kC_ret, Option.toList, List.cons_append, List.nil_append, fix1_int, fix1_ref, fix1_unk, fix1_null, fix1_long]
      rfl
    have s2 : go 140 417 [.ref B, .int x1, .int (heldR N (l + 1)), .int (nI 1), .int (nI l), .int (nI m), x6] [.int (nI p)] w I L P = go 140 437 [.ref B, .int x1, .int (heldR N (l + 1)), .int (nI 1), .int (nI l), .int (nI m), x6] [] w I L P := by
      by_cases z : p < m
      · rw [Law_isSound_417, if_pos (nI_lt z (by omega))]
      · have hp0 : p = 0 := by omega
        have hm0 : m = 0 := by omega
        subst hp0 hm0
        rw [Law_isSound_417, if_neg (nI_nlt (by omega) (by omega)), Law_isSound_422, if_neg (by decide), Law_isSound_427_1, (lis 3 (by omega)), ep]
        simp only [kC_ret, Option.toList, List.cons_append, List.nil_append, fix1_int, fix1_ref, fix1_unk, fix1_null, fix1_long]
        rw [Law_isSound_434, if_neg (by decide)]
    rw [s1, s2]
    rw [Law_isSound_437_1, (lt_memory2 t0 (ce_memory3 h h2 hn hln em m16 (Or.inr (nI_le (Nat.le_refl _) (by omega)))))]
    simp only [kC_ret, Option.toList, List.cons_append, List.nil_append, fix1_int, fix1_ref, fix1_unk, fix1_null, fix1_long]
    rw [Law_isSound_445, if_neg (by simp), Law_isSound_450, Law_isSound_455]
    simp only [fix1_int, fix1_ref, fix1_unk, fix1_null, fix1_long]
    rw [nI_add]
    exact e
theorem so_log1 {w : Wd} {q : Nat} (hT : T < 2147000000) (h : CW B w I L P N st Ks len tx T) (h0 : N 0 = nI q) (hq : q < 2147483648) (hs : SI N q) {b : Nat} (hb : b < kept q) (a1 a2 x6 : Value) : ∃ y6, go 140 487 [.ref B, a1, a2, .int (nI 1), .int (nI (kept q)), .int (nI b), x6] [] w I L P = go 140 487 [.ref B, a1, fix1 a2, .int (nI 1), .int (nI (kept q)), .int (nI (b + 1)), y6] [] w I L P := by
  have t0 := h.1.1
  obtain ⟨kq1, kq2⟩ := kept_le q
  have lg := fun (v : Nat) (hv : v < 3) => lr_log t0 (cv_log h hT h0 hq hb hv)
  obtain ⟨j, ej⟩ : ∃ j, j = (q - 1 - b) % 64 := ⟨_, rfl⟩
  have hj : j < 64 := by rw [ej]; exact Nat.mod_lt _ (by omega)
  have hjq : j < q := by rw [ej]; exact Nat.lt_of_le_of_lt (Nat.mod_le _ _) (by omega)
  obtain ⟨g1, g2, g3⟩ := hs.2.2.2.2.1 j hj hjq
  rw [← ej] at lg
  obtain ⟨kd, ekd⟩ : ∃ kd, kd = N (17 + 3 * j) := ⟨_, rfl⟩
  have l2 : N (15 + 3 * j + 2) = kd := by rw [ekd, show 15 + 3 * j + 2 = 17 + 3 * j from by omega]
  have l1 : N (15 + 3 * j + 1) = N (16 + 3 * j) := by rw [show 15 + 3 * j + 1 = 16 + 3 * j from by omega]
  have l0 : N (15 + 3 * j + 0) = N (15 + 3 * j) := rfl
  rw [← ekd] at g1 g2 g3
  refine ⟨.int kd, ?_⟩
  have n0 : ¬ nI 1 = 0 := by decide
  have s1 : go 140 487 [.ref B, a1, a2, .int (nI 1), .int (nI (kept q)), .int (nI b), x6] [] w I L P = go 140 505 [.ref B, a1, a2, .int (nI 1), .int (nI (kept q)), .int (nI b), x6] [.int kd] w I L P := by
    rw [Law_isSound_487, if_neg (nI_ge hb (by omega)), Law_isSound_494, if_neg n0, Law_isSound_498_1, (lg 2 (by omega)), l2]
    simp only [kC_ret, Option.toList, List.cons_append, List.nil_append, fix1_int, fix1_ref, fix1_unk, fix1_null, fix1_long]
  have A : kd = nI 0 ∨ kd = nI 7 → go 140 505 [.ref B, a1, a2, .int (nI 1), .int (nI (kept q)), .int (nI b), x6] [.int kd] w I L P = go 140 566 [.ref B, a1, a2, .int (nI 1), .int (nI (kept q)), .int (nI b), .int kd] [] w I L P := by
    intro hk
    obtain ⟨b1, b2⟩ := g1 hk
    have s2 : go 140 505 [.ref B, a1, a2, .int (nI 1), .int (nI (kept q)), .int (nI b), x6] [.int kd] w I L P = go 140 519 [.ref B, a1, a2, .int (nI 1), .int (nI (kept q)), .int (nI b), .int kd] [] w I L P := by
      rcases hk with z | z
      · rw [Law_isSound_505, if_pos (z.trans nI_0)]
        simp only [fix1_int, fix1_ref, fix1_unk, fix1_null, fix1_long]
      · rw [Law_isSound_505, if_neg (by rw [z]; decide)]
        simp only [fix1_int, fix1_ref, fix1_unk, fix1_null, fix1_long]
        rw [Law_isSound_512, if_neg (by simp [z])]
    rw [s2]
    rw [Law_isSound_519_1, (lg 0 (by omega)), l0, b1]
    simp only [kC_ret, Option.toList, List.cons_append, List.nil_append, fix1_int, fix1_ref, fix1_unk, fix1_null, fix1_long]
    rw [Law_isSound_526, if_neg (by simp), Law_isSound_530_1, (lg 1 (by omega)), l1, b2]
    simp only [kC_ret, Option.toList, List.cons_append, List.nil_append, fix1_int, fix1_ref, fix1_unk, fix1_null, fix1_long]
    rw [Law_isSound_537, if_neg (by decide), Law_isSound_540]
  have Bb : ¬ (kd = nI 0 ∨ kd = nI 7) → go 140 505 [.ref B, a1, a2, .int (nI 1), .int (nI (kept q)), .int (nI b), x6] [.int kd] w I L P = go 140 566 [.ref B, a1, a2, .int (nI 1), .int (nI (kept q)), .int (nI b), .int kd] [] w I L P := by
    intro hk
    by_cases z1 : kd = nI 1
    · have b1 := g2 (Or.inl z1)
      rw [Law_isSound_505, if_neg (fun y => hk (Or.inl (y.trans nI_0.symm)))]
      simp only [fix1_int, fix1_ref, fix1_unk, fix1_null, fix1_long]
      rw [Law_isSound_512, if_pos (fun y => hk (Or.inr y)), Law_isSound_543, if_pos z1, Law_isSound_556_1, (lg 0 (by omega)), l0, b1]
      simp only [kC_ret, Option.toList, List.cons_append, List.nil_append, fix1_int, fix1_ref, fix1_unk, fix1_null, fix1_long]
      rw [Law_isSound_563, if_neg (by decide)]
    · by_cases z6 : kd = nI 6
      · have b1 := g2 (Or.inr z6)
        rw [Law_isSound_505, if_neg (fun y => hk (Or.inl (y.trans nI_0.symm)))]
        simp only [fix1_int, fix1_ref, fix1_unk, fix1_null, fix1_long]
        rw [Law_isSound_512, if_pos (fun y => hk (Or.inr y)), Law_isSound_543, if_neg z1, Law_isSound_549, if_neg (by simp [z6]), Law_isSound_556_1, (lg 0 (by omega)), l0, b1]
        simp only [kC_ret, Option.toList, List.cons_append, List.nil_append, fix1_int, fix1_ref, fix1_unk, fix1_null, fix1_long]
        rw [Law_isSound_563, if_neg (by decide)]
      · rw [Law_isSound_505, if_neg (fun y => hk (Or.inl (y.trans nI_0.symm)))]
        simp only [fix1_int, fix1_ref, fix1_unk, fix1_null, fix1_long]
        rw [Law_isSound_512, if_pos (fun y => hk (Or.inr y)), Law_isSound_543, if_neg z1, Law_isSound_549, if_pos z6]
  have s3 : go 140 505 [.ref B, a1, a2, .int (nI 1), .int (nI (kept q)), .int (nI b), x6] [.int kd] w I L P = go 140 566 [.ref B, a1, a2, .int (nI 1), .int (nI (kept q)), .int (nI b), .int kd] [] w I L P := by
    by_cases hk : kd = nI 0 ∨ kd = nI 7
    · exact A hk
    · exact Bb hk
  rw [s1, s3]
  by_cases z6 : kd = nI 6
  · have b1 := g3 z6
    rw [Law_isSound_566, if_neg (by simp [z6]), Law_isSound_573_1, (lg 1 (by omega)), l1]
    simp only [kC_ret, Option.toList, List.cons_append, List.nil_append, fix1_int, fix1_ref, fix1_unk, fix1_null, fix1_long]
    rw [Law_isSound_580, if_neg (fun y => b1 (y.trans nI_0.symm)), Law_isSound_583, Law_isSound_588]
    simp only [fix1_int, fix1_ref, fix1_unk, fix1_null, fix1_long]
    rw [nI_add]
  · rw [Law_isSound_566, if_pos z6, Law_isSound_583, Law_isSound_588]
    simp only [fix1_int, fix1_ref, fix1_unk, fix1_null, fix1_long]
    rw [nI_add]
theorem so_logs {w : Wd} {q : Nat} (hT : T < 2147000000) (h : CW B w I L P N st Ks len tx T) (h0 : N 0 = nI q) (hq : q < 2147483648) (hs : SI N q) (a1 : Value) (x2 : Int32) : ∀ f b, b + f = kept q → ∀ x6, ∃ y6, go 140 487 [.ref B, a1, .int x2, .int (nI 1), .int (nI (kept q)), .int (nI b), x6] [] w I L P = go 140 595 [.ref B, a1, .int x2, .int (nI 1), .int (nI (kept q)), .int (nI (kept q)), y6] [] w I L P := by
  obtain ⟨kq1, kq2⟩ := kept_le q
  intro f
  induction f with
  | zero =>
    intro b hb x6
    have : b = kept q := by omega
    rw [this]
    refine ⟨x6, ?_⟩
    rw [Law_isSound_487, if_pos (nI_le (Nat.le_refl _) (by omega))]
  | succ f ih =>
    intro b hb x6
    obtain ⟨y6, e⟩ := so_log1 hT h h0 hq hs (show b < kept q by omega) a1 (.int x2) x6
    obtain ⟨z6, e2⟩ := ih (b + 1) (by omega) y6
    refine ⟨z6, ?_⟩
    rw [e, fix1_int]
    exact e2
theorem so_ok {w : Wd} (hT : T < 2147000000) (h : CW B w I L P N st Ks len tx T) (hs : SQ N) : ∃ w', call 140 [.ref B] w I L P = some (.inl (some (.int (nI 1))), w', I, L, P) ∧ TH 10 w w' := by
  obtain ⟨q, k, n, hk⟩ := CW_KN h hT
  have hk' := hk
  obtain ⟨hq, h0, hk0, hk3, h1, hn, h2, hi, hol, h4, hmb, h12, -⟩ := hk'
  have hsi := SQ_q hs h0 (by omega)
  have hsi' := hsi
  obtain ⟨-, ⟨r, hr, h10⟩, -, h11, -, hlast, -, -⟩ := hsi'
  have t0 := h.1.1
  have val := fun (v : Nat) (hv : v < 10) => lr_value t0 (cv_value h hT hv)
  obtain ⟨kq1, kq2⟩ := kept_le q
  have e0 : numV N 0 = nI q := h0
  have e6 : numV N 6 = nI r := h10
  have n0 : ¬ nI 1 = 0 := by decide
  have s1 : call 140 [.ref B] w I L P = go 140 53 [.ref B, .int (setR N 0), .int (heldR N 0), .int (nI 1), .int (nI 0), unk, unk] [] w I L P := by
    by_cases z : N 4 = 0
    · obtain ⟨z5, z8⟩ := h4 z
      have e4 : numV N 4 = nI 1 := by
        show (if N 4 = 0 then nI 1 else nI 0) = _
        rw [if_pos z]
      have e5 : numV N 5 = nI 0 := z5
      have e8 : numV N 8 = -1 := z8
      rw [Law_isSound_E, Law_isSound_0_1, (val 6 (by omega)), e6]
      simp only [kC_ret, Option.toList, List.cons_append, List.nil_append, fix1_int, fix1_ref, fix1_unk, fix1_null, fix1_long]
      rw [Law_isSound_10_1, (val 0 (by omega)), e0]
      simp only [kC_ret, Option.toList, List.cons_append, List.nil_append, fix1_int, fix1_ref, fix1_unk, fix1_null, fix1_long]
      rw [Law_isSound_15, if_neg (nI_nlt hr (by omega)), Law_isSound_18_1, (val 4 (by omega)), e4]
      simp only [kC_ret, Option.toList, List.cons_append, List.nil_append, fix1_int, fix1_ref, fix1_unk, fix1_null, fix1_long]
      rw [Law_isSound_23, if_neg n0, Law_isSound_26_1, (val 5 (by omega)), e5]
      simp only [kC_ret, Option.toList, List.cons_append, List.nil_append, fix1_int, fix1_ref, fix1_unk, fix1_null, fix1_long]
      rw [Law_isSound_31, if_neg (by decide), Law_isSound_34_1, (val 8 (by omega)), e8]
      simp only [kC_ret, Option.toList, List.cons_append, List.nil_append, fix1_int, fix1_ref, fix1_unk, fix1_null, fix1_long]
      rw [Law_isSound_40, if_neg (by simp), Law_isSound_44, Law_isSound_49]
      simp only [fix1_int, fix1_ref, fix1_unk, fix1_null, fix1_long]
      rfl
    · have e4 : numV N 4 = nI 0 := by
        show (if N 4 = 0 then nI 1 else nI 0) = _
        rw [if_neg z]
      rw [Law_isSound_E, Law_isSound_0_1, (val 6 (by omega)), e6]
      simp only [kC_ret, Option.toList, List.cons_append, List.nil_append, fix1_int, fix1_ref, fix1_unk, fix1_null, fix1_long]
      rw [Law_isSound_10_1, (val 0 (by omega)), e0]
      simp only [kC_ret, Option.toList, List.cons_append, List.nil_append, fix1_int, fix1_ref, fix1_unk, fix1_null, fix1_long]
      rw [Law_isSound_15, if_neg (nI_nlt hr (by omega)), Law_isSound_18_1, (val 4 (by omega)), e4]
      simp only [kC_ret, Option.toList, List.cons_append, List.nil_append, fix1_int, fix1_ref, fix1_unk, fix1_null, fix1_long]
      rw [Law_isSound_23, if_pos (by decide), Law_isSound_44, Law_isSound_49]
      simp only [fix1_int, fix1_ref, fix1_unk, fix1_null, fix1_long]
      rfl
  obtain ⟨w1, y5, y6, s2, t1⟩ := so_cals hT hk hsi (heldR N 0) k 0 (by omega) w h unk unk
  have c1 := CW_th h t1
  obtain ⟨w2, z5, z6, s3, t2⟩ := so_lis hT hk (setR N k) n 0 (by omega) w1 c1 y5 y6
  have c2 := CW_th c1 t2
  have c3 : CW B (thrT w2) I L P N st Ks len tx T := CW_th c2 TH_thr
  rw [setR_k hi hk3, heldR_n hol hn, ← h11] at s3
  have u0 : w2.1 B = some (6, 0) := c2.1.1
  have val2 := fun (v : Nat) (hv : v < 10) => lr_value u0 (cv_value c2 hT hv)
  have u1 : (thrT w2).1 B = some (6, 0) := c3.1.1
  have val3 := fun (v : Nat) (hv : v < 10) => lr_value u1 (cv_value c3 hT hv)
  have s4 : go 140 462 [.ref B, .int (N 5), .int (N 11), .int (nI 1), .int (nI n), z5, z6] [] w2 I L P = go 140 487 [.ref B, .int (N 5), .int (N 11), .int (nI 1), .int (nI (kept q)), .int (nI 0), z6] [] w2 I L P := by
    unfold kept
    by_cases z : 64 < q
    · rw [if_pos z]
      rw [Law_isSound_462_1, (val2 0 (by omega)), e0]
      simp only [kC_ret, Option.toList, List.cons_append, List.nil_append, fix1_int, fix1_ref, fix1_unk, fix1_null, fix1_long]
      rw [Law_isSound_467, if_pos (nI_le (by omega) (by omega)), Law_isSound_480, Law_isSound_482]
      simp only [fix1_int, fix1_ref, fix1_unk, fix1_null, fix1_long]
    · rw [if_neg z]
      by_cases z64 : q = 64
      · rw [Law_isSound_462_1, (val2 0 (by omega)), e0]
        simp only [kC_ret, Option.toList, List.cons_append, List.nil_append, fix1_int, fix1_ref, fix1_unk, fix1_null, fix1_long]
        rw [Law_isSound_467, if_pos (nI_le (by omega) (by omega)), Law_isSound_480, Law_isSound_482]
        simp only [fix1_int, fix1_ref, fix1_unk, fix1_null, fix1_long]
        rw [z64]
      · rw [Law_isSound_462_1, (val2 0 (by omega)), e0]
        simp only [kC_ret, Option.toList, List.cons_append, List.nil_append, fix1_int, fix1_ref, fix1_unk, fix1_null, fix1_long]
        rw [Law_isSound_467, if_neg (nI_ge (by omega) (by omega)), Law_isSound_472_1, (val2 0 (by omega)), e0]
        simp only [kC_ret, Option.toList, List.cons_append, List.nil_append, fix1_int, fix1_ref, fix1_unk, fix1_null, fix1_long]
        rw [Law_isSound_477, Law_isSound_482]
        simp only [fix1_int, fix1_ref, fix1_unk, fix1_null, fix1_long]
  obtain ⟨v6, s5⟩ := so_logs hT c2 h0 (by omega) hsi (.int (N 5)) (N 11) (kept q) 0 (by omega) z6
  refine ⟨thrT w2, ?_, TH_le (TH_trans (TH_trans t1 t2) TH_thr) (by omega)⟩
  rw [s1, s2, setR_k hi hk3, s3, s4, s5]
  have e5 : numV N 5 = N 5 := rfl
  have e7 : numV N 7 = N 11 := rfl
  have e9 : numV N 9 = N 12 := rfl
  have s6 : go 140 595 [.ref B, .int (N 5), .int (N 11), .int (nI 1), .int (nI (kept q)), .int (nI (kept q)), v6] [] w2 I L P = go 140 630 [.ref B, .int (N 5), .int (N 11), .int (nI 1), .int (nI (kept q)), .int (nI (kept q)), v6] [] (thrT w2) I L P := by
    rw [Law_isSound_595, if_neg n0, Law_isSound_599_1, (val2 5 (by omega)), e5]
    simp only [kC_ret, Option.toList, List.cons_append, List.nil_append, fix1_int, fix1_ref, fix1_unk, fix1_null, fix1_long]
    rw [Law_isSound_605, if_neg (by simp), Law_isSound_608_1, (val2 7 (by omega)), e7]
    simp only [kC_ret, Option.toList, List.cons_append, List.nil_append, fix1_int, fix1_ref, fix1_unk, fix1_null, fix1_long]
    rw [Law_isSound_615, if_neg (by simp), Law_isSound_618_1, (lt_log2 u0 (ce_log c2 hT h0 (by omega) (Or.inr (nI_le (Nat.le_refl _) (by omega)))))]
    simp only [kC_ret, Option.toList, List.cons_append, List.nil_append, fix1_int, fix1_ref, fix1_unk, fix1_null, fix1_long]
    rw [Law_isSound_625, if_neg (by simp)]
  rw [s6]
  by_cases hq0 : q = 0
  · subst hq0
    rw [if_pos rfl] at h12
    have ek : kept 0 = 0 := rfl
    rw [ek]
    rw [Law_isSound_630, if_neg (by decide), Law_isSound_635_1, (val3 9 (by omega)), e9, h12]
    simp only [kC_ret, Option.toList, List.cons_append, List.nil_append, fix1_int, fix1_ref, fix1_unk, fix1_null, fix1_long]
    rw [Law_isSound_641, if_neg (by simp), Law_isSound_645, Law_isSound_677, Law_isSound_682 _ _ _ _ _ _ _ _ _ _ _ _ b11]
  · have hkp : 0 < kept q := by unfold kept; split <;> omega
    rw [if_neg hq0] at h12
    have l0 := lr_log u1 (cv_log c3 hT h0 (by omega) hkp (show 0 < 3 by omega))
    have l1 := lr_log u1 (cv_log c3 hT h0 (by omega) hkp (show 1 < 3 by omega))
    rw [Nat.sub_zero] at l0 l1
    rw [show 15 + 3 * ((q - 1) % 64) + 0 = 15 + 3 * ((q - 1) % 64) from rfl, ← h12] at l0
    rw [show 15 + 3 * ((q - 1) % 64) + 1 = 16 + 3 * ((q - 1) % 64) from by omega, hlast (by omega)] at l1
    rw [Law_isSound_630, if_pos (fun y => by rw [← nI_0, nI_eq (by omega) (by omega)] at y; omega), Law_isSound_648_1, (val3 9 (by omega)), e9]
    simp only [kC_ret, Option.toList, List.cons_append, List.nil_append, fix1_int, fix1_ref, fix1_unk, fix1_null, fix1_long]
    rw [Law_isSound_654_1, l0]
    simp only [kC_ret, Option.toList, List.cons_append, List.nil_append, fix1_int, fix1_ref, fix1_unk, fix1_null, fix1_long]
    rw [Law_isSound_660, if_neg (by simp), Law_isSound_663_1, l1]
    simp only [kC_ret, Option.toList, List.cons_append, List.nil_append, fix1_int, fix1_ref, fix1_unk, fix1_null, fix1_long]
    rw [Law_isSound_669_1, (val3 5 (by omega)), e5]
    simp only [kC_ret, Option.toList, List.cons_append, List.nil_append, fix1_int, fix1_ref, fix1_unk, fix1_null, fix1_long]
    rw [Law_isSound_674, if_neg (by simp), Law_isSound_677, Law_isSound_682 _ _ _ _ _ _ _ _ _ _ _ _ b11]
end
