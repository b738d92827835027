/-! isSound answers 1 -/
section
variable {B : Nat} {w : Wd} {I : MI} {L : ML} {P : MP} {N : Nat → Int32} {st : Nat} {Ks : Nat → Nat → Int32} {len : Nat} {tx : Nat → Nat} {T : Nat}
theorem CW_th {n : Nat} {w' : Wd} (h : CW B w I L P N st Ks len tx T) (g : TH n w w') : CW B w' I L P N st Ks len tx T := CW_w h g.1
/-- a message of a queue -/
theorem so_msg (h : CW B w I L P N st Ks len tx T) {k c s p : Nat} (hk1 : N 1 = nI k) (hk3 : k ≤ 3) (hck : c < k) (e0 : N (207 + 40 * c) = nI s) (hs4 : s ≤ 4) (hps : p < s) (ho : OM N (215 + 40 * c + 8 * p)) (hm : MB N (215 + 40 * c + 8 * p)) (hl : 0 < p → N (218 + 40 * c + 8 * p) = nI 0) (a1 a2 x6 : Value) : ∃ y6, go 140 227 [.ref B, a1, a2, .int (nI 1), .int (nI c), .int (nI p), x6] [] w I L P = go 140 227 [.ref B, a1, fix1 a2, .int (nI 1), .int (nI c), .int (nI (p + 1)), y6] [] w I L P := by
  have t0 := h.1.1
  have cal := fun (v : Nat) (hv : v < 9) => lr_caller t0 (cv_caller h hk1 hk3 hck hv)
  have msg := fun (v : Nat) (hv : v < 8) => lr_message t0 (cv_message h hk1 hk3 hck e0 hs4 hps hv)
  have e00 : calV N c 0 = nI s := by unfold calV; rw [if_pos (by omega), Nat.add_zero]; exact e0
  obtain ⟨-, hr, n, hn0, hn4, hn, -⟩ := ho
  obtain ⟨m1, m2⟩ := hm
  have n0 : ¬ nI 1 = 0 := by decide
  refine ⟨.int (nI n), ?_⟩
  have beg : go 140 227 [.ref B, a1, a2, .int (nI 1), .int (nI c), .int (nI p), x6] [] w I L P = go 140 266 [.ref B, a1, a2, .int (nI 1), .int (nI c), .int (nI p), .int (nI n)] [] w I L P := by
    rw [Law_isSound_227_1, (cal 0 (by omega))]
    simp only [kC_ret, Option.toList, List.cons_append, List.nil_append, fix1_int, fix1_ref, fix1_unk, fix1_null, fix1_long]
    rw [Law_isSound_236, if_neg (by rw [e00]; exact nI_ge hps (by omega)), Law_isSound_239, if_neg n0, Law_isSound_243_1, (msg 2 (by omega)), hn]
    simp only [kC_ret, Option.toList, List.cons_append, List.nil_append, fix1_int, fix1_ref, fix1_unk, fix1_null, fix1_long]
    rw [Law_isSound_252, if_neg (nI_nlt (by omega) (by omega))]
    simp only [fix1_int, fix1_ref, fix1_unk, fix1_null, fix1_long]
    rw [Law_isSound_260, if_neg (nI_nlt (by omega) (by omega))]
  rw [beg]
  have mid : go 140 266 [.ref B, a1, a2, .int (nI 1), .int (nI c), .int (nI p), .int (nI n)] [] w I L P = go 140 305 [.ref B, a1, a2, .int (nI 1), .int (nI c), .int (nI p), .int (nI n)] [] w I L P := by
    rcases hr with hr | hr
    · have z : ¬ N (215 + 40 * c + 8 * p + 4) = -1 := fun z => by
        have := m1.mp z
        rw [hr] at this
        exact absurd this (by decide)
      rw [Law_isSound_266_1, (msg 4 (by omega))]
      simp only [kC_ret, Option.toList, List.cons_append, List.nil_append, fix1_int, fix1_ref, fix1_unk, fix1_null, fix1_long]
      rw [Law_isSound_275, if_pos z, Law_isSound_283, Law_isSound_284_1, (msg 1 (by omega)), hr]
      simp only [kC_ret, Option.toList, List.cons_append, List.nil_append, fix1_int, fix1_ref, fix1_unk, fix1_null, fix1_long]
      rw [Law_isSound_293, if_pos (by decide), Law_isSound_301, Law_isSound_302, if_neg (by simp)]
    · have z := m1.mpr hr
      rw [Law_isSound_266_1, (msg 4 (by omega)), z]
      simp only [kC_ret, Option.toList, List.cons_append, List.nil_append, fix1_int, fix1_ref, fix1_unk, fix1_null, fix1_long]
      rw [Law_isSound_275, if_neg (by simp), Law_isSound_279, Law_isSound_284_1, (msg 1 (by omega)), hr]
      simp only [kC_ret, Option.toList, List.cons_append, List.nil_append, fix1_int, fix1_ref, fix1_unk, fix1_null, fix1_long]
      rw [Law_isSound_293, if_neg (by simp), Law_isSound_297, Law_isSound_302, if_neg (by simp)]
  rw [mid]
  have mid2 : go 140 305 [.ref B, a1, a2, .int (nI 1), .int (nI c), .int (nI p), .int (nI n)] [] w I L P = go 140 327 [.ref B, a1, a2, .int (nI 1), .int (nI c), .int (nI p), .int (nI n)] [] w I L P := by
    by_cases z : n = 4
    · subst z
      rw [Law_isSound_305, if_pos rfl]
    · have z2 := m2 n hn (by omega)
      rw [Law_isSound_305, if_neg (fun y => z (by rw [nI_eq (by omega) (by omega)] at y; exact y)), Law_isSound_311_1, nI_add, (msg (4 + n) (by omega)), ← Nat.add_assoc, z2]
      simp only [kC_ret, Option.toList, List.cons_append, List.nil_append, fix1_int, fix1_ref, fix1_unk, fix1_null, fix1_long]
      rw [Law_isSound_323, if_neg (by simp)]
  rw [mid2]
  by_cases z : p = 0
  · subst z
    rw [Law_isSound_327, if_pos (by decide), Law_isSound_344, Law_isSound_349]
    simp only [fix1_int, fix1_ref, fix1_unk, fix1_null, fix1_long]
    rw [nI_add]
  · have z2 := hl (by omega)
    rw [Law_isSound_327, if_neg (fun y => z (by rw [← nI_0, nI_eq (by omega) (by omega)] at y; exact y)), Law_isSound_332_1, (msg 3 (by omega)), show 215 + 40 * c + 8 * p + 3 = 218 + 40 * c + 8 * p from by omega, z2]
    simp only [kC_ret, Option.toList, List.cons_append, List.nil_append, fix1_int, fix1_ref, fix1_unk, fix1_null, fix1_long]
    rw [Law_isSound_341, if_neg (by decide), Law_isSound_344, Law_isSound_349]
    simp only [fix1_int, fix1_ref, fix1_unk, fix1_null, fix1_long]
    rw [nI_add]
theorem so_msgs {k c s : Nat} (hk1 : N 1 = nI k) (hk3 : k ≤ 3) (hck : c < k) (e0 : N (207 + 40 * c) = nI s) (hs4 : s ≤ 4) (ho : ∀ p, p < s → OM N (215 + 40 * c + 8 * p)) (hm : ∀ p, p < s → MB N (215 + 40 * c + 8 * p)) (hl : ∀ p, 0 < p → p < s → N (218 + 40 * c + 8 * p) = nI 0) (h : CW B w I L P N st Ks len tx T) (a1 : Value) (x2 : Int32) : ∀ f p, p + f = s → ∀ x6, ∃ y6, go 140 227 [.ref B, a1, .int x2, .int (nI 1), .int (nI c), .int (nI p), x6] [] w I L P = go 140 53 [.ref B, a1, .int x2, .int (nI 1), .int (nI (c + 1)), .int (nI s), y6] [] w I L P := by
  have t0 := h.1.1
  have cal := fun (v : Nat) (hv : v < 9) => lr_caller t0 (cv_caller h hk1 hk3 hck hv)
  have e00 : calV N c 0 = nI s := by unfold calV; rw [if_pos (by omega), Nat.add_zero]; exact e0
  intro f
  induction f with
  | zero =>
    intro p hp x6
    have : p = s := by omega
    subst this
    refine ⟨x6, ?_⟩
    rw [Law_isSound_227_1, (cal 0 (by omega))]
    simp only [kC_ret, Option.toList, List.cons_append, List.nil_append, fix1_int, fix1_ref, fix1_unk, fix1_null, fix1_long]
    rw [Law_isSound_236, if_pos (by rw [e00]; exact nI_le (Nat.le_refl _) (by omega)), Law_isSound_356]
    simp only [fix1_int, fix1_ref, fix1_unk, fix1_null, fix1_long]
    rw [nI_add]
  | succ f ih =>
    intro p hp x6
    obtain ⟨y6, e⟩ := so_msg h hk1 hk3 hck e0 hs4 (show p < s by omega) (ho p (by omega)) (hm p (by omega)) (fun z => hl p z (by omega)) a1 (.int x2) x6
    obtain ⟨z6, e2⟩ := ih (p + 1) (by omega) y6
    refine ⟨z6, ?_⟩
    rw [e, fix1_int]
    exact e2
/-- one caller -/
theorem so_cal {k n c q : Nat} (hk1 : N 1 = nI k) (hk3 : k ≤ 3) (hn2 : N 2 = nI n) (hn6 : n ≤ 6) (hck : c < k) (h : CW B w I L P N st Ks len tx T) (hT : T < 2147000000) (hi : IV N k) (hol : OL N n) (hci : CI N q c) (hq : q < 2147483648) (hm : ∀ s p, N (207 + 40 * c) = nI s → s ≤ 4 → p < s → MB N (215 + 40 * c + 8 * p)) (x1 x2 : Int32) (x5 x6 : Value) : ∃ w' y5 y6, go 140 53 [.ref B, .int x1, .int x2, .int (nI 1), .int (nI c), x5, x6] [] w I L P = go 140 53 [.ref B, .int (x1 ||| ((if conB N (nI c) then nI 1 else nI 0) <<< (nI c &&& 31))), .int x2, .int (nI 1), .int (nI (c + 1)), y5, y6] [] w' I L P ∧ TH 1 w w' := by
  have hc3 : c < 3 := by omega
  obtain ⟨s, hs4, e0, -, hom⟩ := hi.1 c hc3
  obtain ⟨⟨x, y, hyx, hxq, l212, l211⟩, ⟨r, hrq, l213, l214⟩, s', hs', es', hl⟩ := hci
  have ess : s' = s := by
    rw [e0, nI_eq (by omega) (by omega)] at es'
    exact es'.symm
  subst ess
  have t0 := h.1.1
  have val := fun (v : Nat) (hv : v < 10) => lr_value t0 (cv_value h hT hv)
  have cal := fun (v : Nat) (hv : v < 9) => lr_caller t0 (cv_caller h hk1 hk3 hck hv)
  have alo := lr_alone t0 (cv_alone h hk1 hk3 hck hn2 hn6 e0 hs')
  have cl8 : ∀ v, v < 8 → calV N c v = N (207 + 40 * c + v) := fun v hv => by unfold calV; rw [if_pos hv]
  have e8 : calV N c 8 = if conB N (nI c) then nI 1 else nI 0 := by unfold calV; rw [if_neg (by omega)]
  have e1 : numV N 1 = nI k := hk1
  have e00 : calV N c 0 = nI s' := by rw [cl8 0 (by omega), Nat.add_zero]; exact e0
  have e4 : calV N c 4 = nI y := by rw [cl8 4 (by omega), show 207 + 40 * c + 4 = 211 + 40 * c from by omega]; exact l211
  have e5 : calV N c 5 = nI x := by rw [cl8 5 (by omega), show 207 + 40 * c + 5 = 212 + 40 * c from by omega]; exact l212
  have e6 : calV N c 6 = nI r := by rw [cl8 6 (by omega), show 207 + 40 * c + 6 = 213 + 40 * c from by omega]; exact l213
  have e7 : calV N c 7 = N (214 + 40 * c) := by rw [cl8 7 (by omega), show 207 + 40 * c + 7 = 214 + 40 * c from by omega]
  have n0 : ¬ nI 1 = 0 := by decide
  have nz : ∀ j, 0 < j → j < 2147483648 → ¬ nI j = 0 := fun j hj hj2 z => by rw [← nI_0, nI_eq hj2 (by omega)] at z; omega
  obtain ⟨set, eset⟩ : ∃ set, set = x1 ||| ((if conB N (nI c) then nI 1 else nI 0) <<< (nI c &&& 31)) := ⟨_, rfl⟩
  have s1 : go 140 53 [.ref B, .int x1, .int x2, .int (nI 1), .int (nI c), x5, x6] [] w I L P = go 140 89 [.ref B, .int set, .int x2, .int (nI 1), .int (nI c), x5, x6] [.int (if conB N (nI c) then nI 1 else nI 0)] w I L P := by
    rw [eset]
    rw [Law_isSound_53_1, (val 1 (by omega)), e1]
    simp only [kC_ret, Option.toList, List.cons_append, List.nil_append, fix1_int, fix1_ref, fix1_unk, fix1_null, fix1_long]
    rw [Law_isSound_60, if_neg (nI_ge hck (by omega)), Law_isSound_63, if_neg n0, Law_isSound_67_1, (cal 8 (by omega)), e8]
    simp only [kC_ret, Option.toList, List.cons_append, List.nil_append, fix1_int, fix1_ref, fix1_unk, fix1_null, fix1_long]
    rw [Law_isSound_76_1, (cal 8 (by omega)), e8]
    simp only [kC_ret, Option.toList, List.cons_append, List.nil_append, fix1_int, fix1_ref, fix1_unk, fix1_null, fix1_long]
  have s2 : go 140 89 [.ref B, .int set, .int x2, .int (nI 1), .int (nI c), x5, x6] [.int (if conB N (nI c) then nI 1 else nI 0)] w I L P = go 140 102 [.ref B, .int set, .int x2, .int (nI 1), .int (nI c), x5, x6] [] w I L P := by
    by_cases hcon : conB N (nI c)
    · obtain ⟨-, s1, hs1, es1⟩ := hi.2.1 c hc3 hcon
      have : s' = s1 + 1 := by
        rw [e0, nI_eq (by omega) (by omega)] at es1
        exact es1
      rw [if_pos hcon]
      rw [Law_isSound_89, if_neg n0, Law_isSound_92_1, (cal 0 (by omega)), e00]
      simp only [kC_ret, Option.toList, List.cons_append, List.nil_append, fix1_int, fix1_ref, fix1_unk, fix1_null, fix1_long]
      rw [Law_isSound_99, if_neg (by rw [← nI_0]; exact nI_ge (by omega) (by omega))]
    · rw [if_neg hcon]
      rw [Law_isSound_89, if_pos (by decide)]
  have s3 : go 140 102 [.ref B, .int set, .int x2, .int (nI 1), .int (nI c), x5, x6] [] w I L P = go 140 130 [.ref B, .int set, .int x2, .int (nI 1), .int (nI c), x5, x6] [] w I L P := by
    rw [Law_isSound_102_1, (cal 0 (by omega)), e00]
    simp only [kC_ret, Option.toList, List.cons_append, List.nil_append, fix1_int, fix1_ref, fix1_unk, fix1_null, fix1_long]
    rw [Law_isSound_109, if_neg (nI_nlt hs' (by omega)), Law_isSound_113_1, (cal 5 (by omega)), e5]
    simp only [kC_ret, Option.toList, List.cons_append, List.nil_append, fix1_int, fix1_ref, fix1_unk, fix1_null, fix1_long]
    rw [Law_isSound_120_1, (cal 4 (by omega)), e4]
    simp only [kC_ret, Option.toList, List.cons_append, List.nil_append, fix1_int, fix1_ref, fix1_unk, fix1_null, fix1_long]
    rw [Law_isSound_127, if_neg (nI_nlt hyx (by omega))]
  have s4 : go 140 130 [.ref B, .int set, .int x2, .int (nI 1), .int (nI c), x5, x6] [] w I L P = go 140 166 [.ref B, .int set, .int x2, .int (nI 1), .int (nI c), x5, x6] [] w I L P := by
    rcases l214 with ⟨hr0, hv⟩ | ⟨hr0, v, hv, hv2⟩
    · subst hr0
      rw [Law_isSound_130_1, (cal 6 (by omega)), e6]
      simp only [kC_ret, Option.toList, List.cons_append, List.nil_append, fix1_int, fix1_ref, fix1_unk, fix1_null, fix1_long]
      rw [Law_isSound_138, if_neg (by decide), Law_isSound_141, Law_isSound_146_1, (cal 7 (by omega)), e7, hv]
      simp only [kC_ret, Option.toList, List.cons_append, List.nil_append, fix1_int, fix1_ref, fix1_unk, fix1_null, fix1_long]
      rw [Law_isSound_154, if_neg (by simp), Law_isSound_158, Law_isSound_163, if_neg (by simp)]
    · have nm := nI_m1 (t := v) (by omega)
      rw [Law_isSound_130_1, (cal 6 (by omega)), e6]
      simp only [kC_ret, Option.toList, List.cons_append, List.nil_append, fix1_int, fix1_ref, fix1_unk, fix1_null, fix1_long]
      rw [Law_isSound_138, if_pos (nz r hr0 (by omega)), Law_isSound_145, Law_isSound_146_1, (cal 7 (by omega)), e7, hv2]
      simp only [kC_ret, Option.toList, List.cons_append, List.nil_append, fix1_int, fix1_ref, fix1_unk, fix1_null, fix1_long]
      rw [Law_isSound_154, if_pos nm, Law_isSound_162, Law_isSound_163, if_neg (by simp)]
  have s5 : go 140 166 [.ref B, .int set, .int x2, .int (nI 1), .int (nI c), x5, x6] [] w I L P = go 140 199 [.ref B, .int set, .int x2, .int (nI 1), .int (nI c), x5, x6] [] w I L P := by
    by_cases z : s' = 0
    · subst z
      rw [if_pos rfl] at alo
      rw [Law_isSound_166_1, (cal 0 (by omega)), e00]
      simp only [kC_ret, Option.toList, List.cons_append, List.nil_append, fix1_int, fix1_ref, fix1_unk, fix1_null, fix1_long]
      rw [Law_isSound_173, if_neg (by decide), Law_isSound_176, Law_isSound_181_1, alo]
      simp only [kC_ret, Option.toList, List.cons_append, List.nil_append, fix1_int, fix1_ref, fix1_unk, fix1_null, fix1_long]
      rw [Law_isSound_187, if_neg (by simp), Law_isSound_191, Law_isSound_196, if_neg (by simp)]
    · rw [if_neg z] at alo
      have hal : aloV N c n ≠ -1 := aloV_m1 hn6 hol (by have := hom 0 (by omega); rw [Nat.mul_zero, Nat.add_zero] at this; exact this)
      rw [Law_isSound_166_1, (cal 0 (by omega)), e00]
      simp only [kC_ret, Option.toList, List.cons_append, List.nil_append, fix1_int, fix1_ref, fix1_unk, fix1_null, fix1_long]
      rw [Law_isSound_173, if_pos (nz s' (by omega) (by omega)), Law_isSound_180, Law_isSound_181_1, alo]
      simp only [kC_ret, Option.toList, List.cons_append, List.nil_append, fix1_int, fix1_ref, fix1_unk, fix1_null, fix1_long]
      rw [Law_isSound_187, if_pos hal, Law_isSound_195, Law_isSound_196, if_neg (by simp)]
  have h' : CW B (thrT w) I L P N st Ks len tx T := CW_th h TH_thr
  have s6 : go 140 199 [.ref B, .int set, .int x2, .int (nI 1), .int (nI c), x5, x6] [] w I L P = go 140 227 [.ref B, .int set, .int x2, .int (nI 1), .int (nI c), .int (nI 0), x6] [] (thrT w) I L P := by
    rw [Law_isSound_199_1, (cal 0 (by omega)), e00]
    simp only [kC_ret, Option.toList, List.cons_append, List.nil_append, fix1_int, fix1_ref, fix1_unk, fix1_null, fix1_long]
    rw [Law_isSound_209_1, (lt_message2 t0 (ce_message3 h hk1 hk3 hck e0 hs' (Or.inr (nI_le (Nat.le_refl _) (by omega)))))]
    simp only [kC_ret, Option.toList, List.cons_append, List.nil_append, fix1_int, fix1_ref, fix1_unk, fix1_null, fix1_long]
    rw [Law_isSound_213, if_neg (by simp), Law_isSound_218, Law_isSound_223]
    simp only [fix1_int, fix1_ref, fix1_unk, fix1_null, fix1_long]
  obtain ⟨y6, s7⟩ := so_msgs hk1 hk3 hck e0 hs' hom (fun p hp => hm s' p e0 hs' hp) hl h' (.int set) x2 s' 0 (by omega) x6
  refine ⟨thrT w, .int (nI s'), y6, ?_, TH_thr⟩
  rw [s1, s2, s3, s4, s5, s6, s7, eset]
end
