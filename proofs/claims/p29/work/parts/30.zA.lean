/-! digest: what it is, and the class's -/
def mxN (h : Int64) (v : Int32) : Int64 := 31 * h + Int32.toInt64 v
def fd2 (G : Nat → Int64 → Int64) : Nat → Nat → Int64 → Int64
  | 0, _, h => h
  | f + 1, k, h => fd2 G f (k + 1) (G k h)
theorem fd2_c {G G' : Nat → Int64 → Int64} : ∀ f k h, (∀ i, k ≤ i → i < k + f → ∀ h, G i h = G' i h) → fd2 G f k h = fd2 G' f k h := by
  intro f
  induction f with
  | zero => intro k h _; rfl
  | succ f ih =>
    intro k h e
    unfold fd2
    rw [e k (by omega) (by omega), ih (k + 1) _ (fun i h1 h2 => e i (by omega) (by omega))]
/-- a message, a caller, a listener, the log -/
def dgM (N : Nat → Int32) (c p : Nat) (h : Int64) : Int64 := fd2 (fun k h => mxN h (N (215 + 40 * c + 8 * p + k))) 8 0 h
def dgC (N : Nat → Int32) (c : Nat) (h : Int64) : Int64 := fd2 (fun p h => dgM N c p h) (Int32.toNatClampNeg (N (207 + 40 * c))) 0 (mxN (fd2 (fun k h => mxN h (N (207 + 40 * c + k))) 8 0 h) (if conB N (nI c) then nI 1 else nI 0))
def dgL (N : Nat → Int32) (l : Nat) (h : Int64) : Int64 := fd2 (fun p h => mxN h (N (327 + 22 * l + (6 + p)))) (Int32.toNatClampNeg (N (327 + 22 * l + 2))) 0 (fd2 (fun k h => mxN h (N (327 + 22 * l + k))) 6 0 h)
def dgG (N : Nat → Int32) (q : Nat) (h : Int64) : Int64 := fd2 (fun b h => mxN h (N (15 + 3 * ((q - 1 - b) % 64)))) (kept q) 0 h
def dgA (N : Nat → Int32) (len k n q f st : Nat) : Int64 := mxN (mxN (dgG N q (fd2 (fun l h => dgL N l h) n 0 (fd2 (fun c h => dgC N c h) k 0 (fd2 (fun v h => mxN h (numV N v)) 10 0 (mxN 3803 (nI len)))))) (nI f)) (nI st)
theorem cl_mix (h : Int64) (v : Int32) (w : Wd) (I : MI) (L : ML) (P : MP) : call 106 [.long h, .int v] w I L P = some (.inl (some (.long (mxN h v))), w, I, L, P) := by
  rw [Two_mix_E, Two_mix_0]; rfl
section
variable {w : Wd} {N : Nat → Int32} {b k n md : Nat} {I : MI} {L : ML} {P : MP}
theorem cl_mixM {o m : Nat} (tm : w.1 m = some (3, 0)) (hr : MR N o I L m) (hf : N (o + 1) = nI 0 ∨ N (o + 1) = nI 1) (h : Int64) : call 108 [.long h, .ref m] w I L P = some (.inl (some (.long (fd2 (fun k h => mxN h (N (o + k))) 8 0 h))), w, I, L, P) := by
  have loop : ∀ f k, k + f = 8 → ∀ h x, go 108 8 [.long h, x, .ref m, .int (nI k)] [] w I L P = some (.inl (some (.long (fd2 (fun k h => mxN h (N (o + k))) f k h))), w, I, L, P) := by
    intro f
    induction f with
    | zero =>
      intro k hk h x
      rw [Two_mixMessage_8, if_pos (nI_lt (by omega) (by omega)), Two_mixMessage_30]; rfl
    | succ f ih =>
      intro k hk h x
      rw [Two_mixMessage_8, if_neg (nI_nlt (by omega) (by omega)), Two_mixMessage_14 _ _ _ _ _ _ _ _ tm, cl_mtell tm hr hf (by omega)]
      simp only [kC_ret, Option.toList, List.cons_append, List.nil_append, fix1_int, fix1_ref, fix1_unk, fix1_null, fix1_long]
      rw [Two_mixMessage_20, cl_mix]
      simp only [kC_ret, Option.toList, List.cons_append, List.nil_append, fix1_int, fix1_ref, fix1_unk, fix1_null, fix1_long]
      rw [Two_mixMessage_23, fix1_ref, nI_add, ih (k + 1) (by omega)]
      rfl
  rw [Two_mixMessage_E, Two_mixMessage_0_1, Two_mixMessage_6, fix1_ref, loop 8 0 (by omega)]
theorem cl_mixL (ht : BT w b) (hb : BC b N I L P k n md) {l : Nat} (hl : l < n) (h : Int64) : call 109 [.long h, .ref (b + 28 + 2 * l)] w I L P = some (.inl (some (.long (dgL N l h))), w, I, L, P) := by
  have hb' := hb
  obtain ⟨-, ⟨hn, -, -⟩, -, -, -, -, hq, -, hls, -⟩ := hb'
  have tl := (ht.2.2.2.2.2.2 l (by omega)).1
  obtain ⟨m, hr⟩ := hls l hl
  have hr' := hr
  obtain ⟨hm, -, -, -, -, h5, h6, -⟩ := hr'
  have loop : ∀ f k, k + f = 6 → ∀ h x, go 109 8 [.long h, x, .ref (b + 28 + 2 * l), .int (nI k)] [] w I L P = go 109 31 [.long (fd2 (fun k h => mxN h (N (327 + 22 * l + k))) f k h), (if f = 0 then x else unk), .ref (b + 28 + 2 * l), .int (nI 0)] [] w I L P := by
    intro f
    induction f with
    | zero =>
      intro k hk h x
      rw [Two_mixListener_8, if_pos (nI_lt (by omega) (by omega)), Two_mixListener_29, fix1_ref, if_pos rfl]; rfl
    | succ f ih =>
      intro k hk h x
      rw [Two_mixListener_8, if_neg (nI_nlt (by omega) (by omega)), Two_mixListener_13 _ _ _ _ _ _ _ _ tl, cl_ltell ht hb hl (by omega)]
      simp only [kC_ret, Option.toList, List.cons_append, List.nil_append, fix1_int, fix1_ref, fix1_unk, fix1_null, fix1_long]
      rw [Two_mixListener_19, cl_mix]
      simp only [kC_ret, Option.toList, List.cons_append, List.nil_append, fix1_int, fix1_ref, fix1_unk, fix1_null, fix1_long]
      rw [Two_mixListener_22, fix1_ref, nI_add, ih (k + 1) (by omega), ite_self, if_neg (show ¬ f + 1 = 0 by omega)]
      rfl
  have loop2 : ∀ f p, p + f = m → ∀ h x, go 109 31 [.long h, x, .ref (b + 28 + 2 * l), .int (nI p)] [] w I L P = some (.inl (some (.long (fd2 (fun p h => mxN h (N (327 + 22 * l + (6 + p)))) f p h))), w, I, L, P) := by
    intro f
    induction f with
    | zero =>
      intro p hp h x
      rw [Two_mixListener_31 _ _ _ _ _ _ _ _ tl, h5, if_pos (nI_le (by omega) (by omega)), Two_mixListener_55]; rfl
    | succ f ih =>
      intro p hp h x
      rw [Two_mixListener_31 _ _ _ _ _ _ _ _ tl, h5, if_neg (nI_ge (by omega) (by omega)), Two_mixListener_39 _ _ _ _ _ _ _ _ tl, cl_lbyte ht hq (by omega) I L hr (by omega), if_neg (by omega)]
      simp only [kC_ret, Option.toList, List.cons_append, List.nil_append, fix1_int, fix1_ref, fix1_unk, fix1_null, fix1_long]
      rw [Two_mixListener_45, cl_mix]
      simp only [kC_ret, Option.toList, List.cons_append, List.nil_append, fix1_int, fix1_ref, fix1_unk, fix1_null, fix1_long]
      rw [Two_mixListener_48, fix1_ref, nI_add, ih (p + 1) (by omega)]
      rfl
  rw [Two_mixListener_E, Two_mixListener_0_1, Two_mixListener_6, fix1_ref, loop 6 0 (by omega), loop2 m 0 (by omega)]
  unfold dgL
  rw [h6, cl_nI (by omega)]
theorem cl_mixC {B : Nat} (hw : w.1 B = some (6, 0)) (p0 : P B 0 = some b) (ht : BT w b) (hb : BC b N I L P k n md) {c : Nat} (hc : c < k) (h : Int64) : call 107 [.ref B, .long h, .int (nI c)] w I L P = some (.inl (some (.long (dgC N c h))), w, I, L, P) := by
  have hb' := hb
  obtain ⟨⟨hk0, hk, h1, i1⟩, -, -, -, i7, -, hq, hcs, -, -, hi, -⟩ := hb'
  have tc := ht.2.2.2.2.2.1 c (by omega)
  obtain ⟨s, hs4, e0, -, hom⟩ := hi.1 c (by omega)
  obtain ⟨qq, s', hp, g1, g2, g3, -, -, -, -, g8⟩ := hcs c (by omega)
  have es : s' = s := by
    rw [e0, nI_eq (by omega) (by omega)] at g2
    exact g2.symm
  subst es
  have loop : ∀ f v, v + f = 8 → ∀ h x, go 107 20 [.ref B, .long h, x, .int (nI c), .ref (b + 7 + 7 * c), .int (nI v)] [] w I L P = go 107 45 [.ref B, .long (fd2 (fun k h => mxN h (N (207 + 40 * c + k))) f v h), (if f = 0 then x else unk), .int (nI c), .ref (b + 7 + 7 * c), .int (nI 8)] [] w I L P := by
    intro f
    induction f with
    | zero =>
      intro v hv h x
      have : v = 8 := by omega
      subst this
      rw [Two_mixCaller_20, if_pos (nI_lt (by omega) (by omega)), if_pos rfl]; rfl
    | succ f ih =>
      intro v hv h x
      rw [Two_mixCaller_20, if_neg (nI_nlt (by omega) (by omega)), Two_mixCaller_27 _ _ _ _ _ _ _ _ _ _ tc.1, cl_ctell ht hb (by omega) (by omega)]
      simp only [kC_ret, Option.toList, List.cons_append, List.nil_append, fix1_int, fix1_ref, fix1_unk, fix1_null, fix1_long]
      rw [Two_mixCaller_35, cl_mix]
      simp only [kC_ret, Option.toList, List.cons_append, List.nil_append, fix1_int, fix1_ref, fix1_unk, fix1_null, fix1_long]
      rw [Two_mixCaller_38, fix1_ref, fix1_ref, nI_add, ih (v + 1) (by omega), ite_self, if_neg (show ¬ f + 1 = 0 by omega)]
      rfl
  have loop2 : ∀ f p, p + f = s' → ∀ h x, go 107 69 [.ref B, .long h, x, .int (nI c), .ref (b + 7 + 7 * c), .int (nI p)] [] w I L P = some (.inl (some (.long (fd2 (fun p h => dgM N c p h) f p h))), w, I, L, P) := by
    intro f
    induction f with
    | zero =>
      intro p hp h x
      rw [Two_mixCaller_69 _ _ _ _ _ _ _ _ _ _ tc.1, g3, if_pos (nI_le (by omega) (by omega)), Two_mixCaller_97]; rfl
    | succ f ih =>
      intro p hps h x
      have tm := tc.2.2.2 _ (hp.2.2.2.1 p (by omega))
      have hmr := g8 p (by omega)
      rw [show 207 + 40 * c + 8 + 8 * p = 215 + 40 * c + 8 * p from by omega] at hmr
      rw [Two_mixCaller_69 _ _ _ _ _ _ _ _ _ _ tc.1, g3, if_neg (nI_ge (by omega) (by omega)), Two_mixCaller_79 _ _ _ _ _ _ _ _ _ _ tc.1, cl_messageAt tc hp g1 (show p < s' by omega) I L g3]
      simp only [kC_ret, Option.toList, List.cons_append, List.nil_append, fix1_int, fix1_ref, fix1_unk, fix1_null, fix1_long]
      rw [Two_mixCaller_87_1, cl_mixM tm hmr (hom p (by omega)).2.1]
      simp only [kC_ret, Option.toList, List.cons_append, List.nil_append, fix1_int, fix1_ref, fix1_unk, fix1_null, fix1_long]
      rw [Two_mixCaller_90, fix1_ref, fix1_ref, nI_add, ih (p + 1) (by omega)]
      rfl
  rw [Two_mixCaller_E, Two_mixCaller_0 _ _ _ _ _ _ _ _ _ _ hw, p0, rf_some, Two_mixCaller_4 _ _ _ _ _ _ _ _ _ _ _ ht.1, cl_callerAt ht hq hk hc I L i1]
  simp only [kC_ret, Option.toList, List.cons_append, List.nil_append, fix1_int, fix1_ref, fix1_unk, fix1_null, fix1_long]
  rw [Two_mixCaller_8_1, fix1_int, Two_mixCaller_17, fix1_ref, loop 8 0 (by omega), Two_mixCaller_45 _ _ _ _ _ _ _ _ _ _ hw, p0, rf_some, Two_mixCaller_50 _ _ _ _ _ _ _ _ _ _ _ _ ht.1, cl_contends ht, i7]
  simp only [kC_ret, Option.toList, List.cons_append, List.nil_append, fix1_int, fix1_ref, fix1_unk, fix1_null, fix1_long]
  rw [Two_mixCaller_54]
  have fin : ∀ v, go 107 62 [.ref B, .long (fd2 (fun k h => mxN h (N (207 + 40 * c + k))) 8 0 h), (if 8 = 0 then unk else unk), .int (nI c), .ref (b + 7 + 7 * c), .int (nI 8)] [.int v, .long (fd2 (fun k h => mxN h (N (207 + 40 * c + k))) 8 0 h)] w I L P = some (.inl (some (.long (fd2 (fun p h => dgM N c p h) s' 0 (mxN (fd2 (fun k h => mxN h (N (207 + 40 * c + k))) 8 0 h) v)))), w, I, L, P) := by
    intro v
    rw [Two_mixCaller_62, cl_mix]
    simp only [kC_ret, Option.toList, List.cons_append, List.nil_append, fix1_int, fix1_ref, fix1_unk, fix1_null, fix1_long]
    rw [Two_mixCaller_65, fix1_ref, fix1_ref, loop2 s' 0 (by omega)]
  unfold dgC
  rw [e0, cl_nI (by omega)]
  by_cases z : conB N (nI c)
  · rw [if_pos z, if_neg n10, Two_mixCaller_57, fin]
  · rw [if_neg z, if_pos n00, Two_mixCaller_61, fin]
end
