theorem ite_some_iff {α : Type} {c : Prop} {h : Decidable c} {a : Option α} {b : α} : (@ite _ c h a none) = some b → c ∧ a = some b := by
  intro e
  by_cases hc : c
  · rw [if_pos hc] at e; exact ⟨hc, e⟩
  · rw [if_neg hc] at e; cases e
-- the locals
def asc (ls : List Value) : List (Nat × Value) := (List.range ls.length).filterMap (fun j => (lget ls j).map (fun v => (j, v)))
theorem lget_lt {ls : List Value} {j : Nat} {v : Value} (h : lget ls j = some v) : j < ls.length := by
  unfold lget at h
  cases hj : ls[j]? with
  | none => rw [hj] at h; cases h
  | some u => exact (List.getElem?_eq_some_iff.mp hj).1
theorem mem_asc {ls : List Value} {j : Nat} {v : Value} : (j, v) ∈ asc ls ↔ lget ls j = some v := by
  unfold asc
  rw [List.mem_filterMap]
  constructor
  · rintro ⟨a, -, ha⟩
    cases hl : lget ls a with
    | none => rw [hl] at ha; cases ha
    | some u =>
      rw [hl] at ha
      have h2 := Option.some.inj ha
      cases h2
      exact hl
  · intro h
    exact ⟨j, List.mem_range.mpr (lget_lt h), by rw [h]; rfl⟩
def lvr (ls : List Value) (lsM : Array Slot) (nL : Nat) : Prop := lv_has lsM nL (asc ls) ∧ ls.length = nL
theorem lvr_get {ls : List Value} {lsM : Array Slot} {nL i : Nat} {v : Value} (h : lvr ls lsM nL) (hg : lget ls i = some v) : lsM[i]? = some (.val v) := h.1.2.2 (i, v) (mem_asc.mpr hg)
theorem lfix_len (ls : List Value) (i : Nat) : (lfix ls i).length = ls.length := by
  cases i <;> simp [lfix]
theorem lset1_len (ls : List Value) (i : Nat) (v : Value) : (lset1 ls i v).length = ls.length := by simp [lset1, lfix_len]
theorem lset2_len (ls : List Value) (i : Nat) (v : Value) : (lset2 ls i v).length = ls.length := by simp [lset2, lfix_len]
theorem lget_some {ls : List Value} {j : Nat} {u : Value} (h : lget ls j = some u) : ls[j]? = some u ∧ u ≠ unk := by
  unfold lget at h
  cases hj : ls[j]? with
  | none => rw [hj] at h; cases h
  | some x =>
    rw [hj] at h
    by_cases hx : x = unk
    · simp [hx] at h
    · simp only [if_neg hx] at h
      cases h
      exact ⟨rfl, hx⟩
theorem lget_of {ls : List Value} {j : Nat} {u : Value} (h : ls[j]? = some u) (hu : u ≠ unk) : lget ls j = some u := by
  unfold lget
  rw [h]
  simp [hu]
theorem fix1_some {u x : Value} (h : fix1 x = u) (hu : u ≠ unk) : x = u ∧ ¬ u.category = 2 := by
  unfold fix1 at h
  by_cases hc : x.category = 2
  · rw [if_pos hc] at h; exact absurd h.symm hu
  · rw [if_neg hc] at h; subst h; exact ⟨rfl, hc⟩
theorem lfix_get {ls : List Value} {i j : Nat} {u : Value} (h : (lfix ls i)[j]? = some u) (hu : u ≠ unk) : ls[j]? = some u ∧ ¬ (j + 1 = i ∧ u.category = 2) := by
  cases i with
  | zero => exact ⟨h, fun q => by omega⟩
  | succ k =>
    simp only [lfix] at h
    by_cases hj : k = j
    · subst hj
      rw [List.getElem?_modify_eq] at h
      cases hk : ls[k]? with
      | none => rw [hk] at h; cases h
      | some x =>
        rw [hk] at h
        have h1 : fix1 x = u := Option.some.inj h
        obtain ⟨h2, h3⟩ := fix1_some h1 hu
        exact ⟨by rw [h2], fun q => h3 q.2⟩
    · simp only [List.getElem?_modify, if_neg hj, Option.map_eq_map, Option.map_id_fun', id_eq] at h
      exact ⟨h, fun q => hj (by omega)⟩
theorem lget_lset1 {ls : List Value} {i j : Nat} {v u : Value} (h : lget (lset1 ls i v) j = some u) : (j = i ∧ u = v) ∨ (j ≠ i ∧ lget ls j = some u ∧ ¬ (j + 1 = i ∧ u.category = 2)) := by
  obtain ⟨h1, hu⟩ := lget_some h
  unfold lset1 at h1
  by_cases hj : i = j
  · subst hj
    rw [List.getElem?_set] at h1
    simp only [if_true] at h1
    split at h1
    · cases h1; exact Or.inl ⟨rfl, rfl⟩
    · cases h1
  · rw [List.getElem?_set_ne hj] at h1
    obtain ⟨h2, h3⟩ := lfix_get h1 hu
    exact Or.inr ⟨fun q => hj q.symm, lget_of h2 hu, h3⟩
theorem lget_lset2 {ls : List Value} {i j : Nat} {v u : Value} (h : lget (lset2 ls i v) j = some u) : (j = i ∧ u = v) ∨ (j ≠ i ∧ j ≠ i + 1 ∧ lget ls j = some u ∧ ¬ (j + 1 = i ∧ u.category = 2)) := by
  obtain ⟨h1, hu⟩ := lget_some h
  unfold lset2 at h1
  by_cases hj2 : i + 1 = j
  · subst hj2
    rw [List.getElem?_set] at h1
    simp only [if_true] at h1
    split at h1
    · cases h1; exact absurd rfl hu
    · cases h1
  · rw [List.getElem?_set_ne hj2] at h1
    have hg : lget (lset1 ls i v) j = some u := lget_of h1 hu
    rcases lget_lset1 hg with q | ⟨q1, q2, q3⟩
    · exact Or.inl q
    · exact Or.inr ⟨q1, fun z => hj2 z.symm, q2, q3⟩
theorem lvr_of1 {ls : List Value} {ls0 ls' : Array Slot} {nL i : Nat} {v v' : Value} (h : lvr ls ls0 nL) (hv : v = v' ∨ v = unk) (h' : lv_has ls' nL ((i, v') :: (asc ls).filter (fun q => !(q.1 == i) && !(q.1 + 1 == i && q.2.category == 2)))) : lvr (lset1 ls i v) ls' nL := by
  refine ⟨⟨h'.1, h'.2.1, fun q hq => ?_⟩, by rw [lset1_len]; exact h.2⟩
  obtain ⟨j, u⟩ := q
  have hg := mem_asc.mp hq
  rcases lget_lset1 hg with ⟨rfl, rfl⟩ | ⟨q1, q2, q3⟩
  · rcases hv with rfl | rfl
    · exact h'.2.2 _ List.mem_cons_self
    · exact absurd rfl (lget_some hg).2
  · refine h'.2.2 (j, u) (List.mem_cons_of_mem _ (List.mem_filter.mpr ⟨mem_asc.mpr q2, ?_⟩))
    simp only [Bool.and_eq_true, Bool.not_eq_true', beq_eq_false_iff_ne, ne_eq, Bool.and_eq_false_iff]
    refine ⟨q1, ?_⟩
    by_cases hz : j + 1 = i
    · exact Or.inr (fun z => q3 ⟨hz, z⟩)
    · exact Or.inl hz
theorem lvr_of2 {ls : List Value} {ls0 ls' : Array Slot} {nL i : Nat} {v : Value} (h : lvr ls ls0 nL) (h' : lv_has ls' nL ((i, v) :: (asc ls).filter (fun q => !(q.1 == i) && (!(q.1 == i + 1) && !(q.1 + 1 == i && q.2.category == 2))))) : lvr (lset2 ls i v) ls' nL := by
  refine ⟨⟨h'.1, h'.2.1, fun q hq => ?_⟩, by rw [lset2_len]; exact h.2⟩
  obtain ⟨j, u⟩ := q
  have hg := mem_asc.mp hq
  rcases lget_lset2 hg with ⟨rfl, rfl⟩ | ⟨q1, q4, q2, q3⟩
  · exact h'.2.2 _ List.mem_cons_self
  · refine h'.2.2 (j, u) (List.mem_cons_of_mem _ (List.mem_filter.mpr ⟨mem_asc.mpr q2, ?_⟩))
    simp only [Bool.and_eq_true, Bool.not_eq_true', beq_eq_false_iff_ne, ne_eq, Bool.and_eq_false_iff]
    refine ⟨q1, q4, ?_⟩
    by_cases hz : j + 1 = i
    · exact Or.inr (fun z => q3 ⟨hz, z⟩)
    · exact Or.inl hz
-- inversions
theorem isI_inv {v : Value} (h : isI v = true) : ∃ x, v = .int x := by cases v <;> simp [isI] at h; exact ⟨_, rfl⟩
theorem isJ_inv {v : Value} (h : isJ v = true) : ∃ x, v = .long x := by cases v <;> simp [isJ] at h; exact ⟨_, rfl⟩
theorem isD_inv {v : Value} (h : isD v = true) : ∃ x, v = .double x := by cases v <;> simp [isD] at h; exact ⟨_, rfl⟩
theorem isA_inv {v : Value} (h : isA v = true) : (∃ a, v = .ref a) ∨ v = .null := by
  cases v <;> simp [isA] at h
  · exact Or.inr rfl
  · exact Or.inl ⟨_, rfl⟩
theorem aI2_inv {pc : Nat} {ls st : List Value} {f : Int32 → Int32 → Int32} {n : A3} (h : aI2 pc ls st f = some n) : ∃ x y r, st = .int y :: .int x :: r ∧ n = (pc + 1, ls, .int (f x y) :: r) := by
  unfold aI2 at h; split at h
  · exact ⟨_, _, _, rfl, (Option.some.inj h).symm⟩
  · cases h
theorem aL2_inv {pc : Nat} {ls st : List Value} {f : Int64 → Int64 → Int64} {n : A3} (h : aL2 pc ls st f = some n) : ∃ x y r, st = .long y :: .long x :: r ∧ n = (pc + 1, ls, .long (f x y) :: r) := by
  unfold aL2 at h; split at h
  · exact ⟨_, _, _, rfl, (Option.some.inj h).symm⟩
  · cases h
theorem aLS_inv {pc : Nat} {ls st : List Value} {f : Int64 → Int32 → Int64} {n : A3} (h : aLS pc ls st f = some n) : ∃ x y r, st = .int y :: .long x :: r ∧ n = (pc + 1, ls, .long (f x y) :: r) := by
  unfold aLS at h; split at h
  · exact ⟨_, _, _, rfl, (Option.some.inj h).symm⟩
  · cases h
theorem aLd_inv {pc' i : Nat} {ls st : List Value} {q : Value → Bool} {n : A3} (h : aLd pc' ls st i q = some n) : ∃ v, lget ls i = some v ∧ q v = true ∧ n = (pc', ls, v :: st) := by
  unfold aLd at h; split at h
  · next v hv =>
    replace h := ite_some_iff h; obtain ⟨h1, h2⟩ := h
    exact ⟨v, hv, h1, (Option.some.inj h2).symm⟩
  · cases h
theorem aSt_inv {pc' i : Nat} {ls st : List Value} {q : Value → Bool} {n : A3} (h : aSt pc' ls st i q = some n) : ∃ v r, st = v :: r ∧ q v = true ∧ i < ls.length ∧ n = (pc', lset1 ls i v, r) := by
  unfold aSt at h; split at h
  · replace h := ite_some_iff h; obtain ⟨h1, h2⟩ := h
    exact ⟨_, _, rfl, h1.1, h1.2, (Option.some.inj h2).symm⟩
  · cases h
theorem aSt2_inv {pc' i : Nat} {ls st : List Value} {q : Value → Bool} {n : A3} (h : aSt2 pc' ls st i q = some n) : ∃ v r, st = v :: r ∧ q v = true ∧ i + 1 < ls.length ∧ n = (pc', lset2 ls i v, r) := by
  unfold aSt2 at h; split at h
  · replace h := ite_some_iff h; obtain ⟨h1, h2⟩ := h
    exact ⟨_, _, rfl, h1.1, h1.2, (Option.some.inj h2).symm⟩
  · cases h
theorem jmp_inv {pc : Nat} {off : Int} {ls st : List Value} {n : A3} (h : jmp pc off ls st = some n) : ∃ t : Nat, (pc : Int) + off = (t : Int) ∧ n = (t, ls, st) := by
  unfold jmp at h
  replace h := ite_some_iff h; obtain ⟨h1, h2⟩ := h
  exact ⟨((pc : Int) + off).toNat, by omega, (Option.some.inj h2).symm⟩
theorem aIf_inv {pc : Nat} {off : Int} {ls r : List Value} {b : Prop} {d : Decidable b} {n : A3} (h : aIf pc off ls r b d = some n) : ∃ t : Nat, (pc : Int) + off = (t : Int) ∧ ((b ∧ n = (t, ls, r)) ∨ (¬ b ∧ n = (pc + 3, ls, r))) := by
  unfold aIf at h
  replace h := ite_some_iff h; obtain ⟨h1, h⟩ := h
  refine ⟨((pc : Int) + off).toNat, by omega, ?_⟩
  by_cases hb : b
  · rw [if_pos hb] at h; exact Or.inl ⟨hb, (Option.some.inj h).symm⟩
  · rw [if_neg hb] at h; exact Or.inr ⟨hb, (Option.some.inj h).symm⟩
theorem i1_inv {pc : Nat} {off : Int} {ls st : List Value} {q : Int32 → Prop} {d : ∀ x, Decidable (q x)} {n : A3} (h : i1 pc off ls st q d = some n) : ∃ x r, st = .int x :: r ∧ aIf pc off ls r (q x) (d x) = some n := by
  unfold i1 at h; split at h
  · exact ⟨_, _, rfl, h⟩
  · cases h
theorem i2_inv {pc : Nat} {off : Int} {ls st : List Value} {q : Int32 → Int32 → Prop} {d : ∀ x y, Decidable (q x y)} {n : A3} (h : i2 pc off ls st q d = some n) : ∃ x y r, st = .int y :: .int x :: r ∧ aIf pc off ls r (q x y) (d x y) = some n := by
  unfold i2 at h; split at h
  · exact ⟨_, _, _, rfl, h⟩
  · cases h
theorem find_map_inv {α β : Type} {l : List α} {p : α → Bool} {f : α → β} {b : β} (h : (l.find? p).map f = some b) : ∃ a ∈ l, p a = true ∧ f a = b := by
  cases hf : l.find? p with
  | none => rw [hf] at h; cases h
  | some a =>
    rw [hf] at h
    exact ⟨a, List.mem_of_find?_eq_some hf, List.find?_some hf, Option.some.inj h⟩
theorem kT_ok : ∀ e ∈ kT, lw_tbl[e.2.2.2]? = some (.constant (oN e.1) e.2.1 e.2.2.1) := by decide +kernel
theorem lT_ok : ∀ e ∈ lT, lw_tbl[e.2.2.2]? = some (.constantLong (oN e.1) e.2.1 e.2.2.1) := by decide +kernel
theorem key_inv {a b o i : Nat} (h : (a == o && b == i) = true) : a = o ∧ b = i := by
  simp only [Bool.and_eq_true, beq_iff_eq] at h; exact h
theorem kR_ok {o i : Nat} {v : Int32} (h : kR o i = some v) : Cond.constant (oN o) i v ∈ lw_tbl := by
  obtain ⟨e, he, hp, rfl⟩ := find_map_inv h
  obtain ⟨rfl, rfl⟩ := key_inv hp
  exact List.mem_of_getElem? (kT_ok e he)
theorem lR_ok {o i : Nat} {v : Int64} (h : lR o i = some v) : Cond.constantLong (oN o) i v ∈ lw_tbl := by
  obtain ⟨e, he, hp, rfl⟩ := find_map_inv h
  obtain ⟨rfl, rfl⟩ := key_inv hp
  exact List.mem_of_getElem? (lT_ok e he)
section SA
variable {p : Program} {l : Launch} {e : Env} {R : Room} {s : State} {m : MethodId} {args : Array Value} {below : List Frame} {meth : Method} {c : Code} {H : Heap} {locs : List Loc} {cells slots : Nat} {Q : State → Prop}
variable {cc : ByteArray} {pc : Nat} {lsM : Array Slot}
set_option maxHeartbeats 4000000 in
theorem simA (hx : p.tables.exec = Jvm.exec) (hb : c.code = cc) {o : Nat} (hown : s.vm.findClass (oN o) = some m.cls) (hG : ∀ w ∈ lw_tbl, goodWord w = true → w.before args s = true) {i : Instr} {len nL : Nat} (hd : decode cc pc = .ok (i, len))
    {ls st : List Value} (hl : lvr ls lsM nL) {n : A3} (h : stA o pc i len ls st = some n)
    (k : ∀ lsM' : Array Slot, lvr n.2.1 lsM' nL → W p l e R s m args below meth c H locs cells slots Q (F0 m n.1 lsM' n.2.2)) : W p l e R s m args below meth c H locs cells slots Q (F0 m pc lsM st) := by
  have hlen := hl.2
  cases i with
  | aconst_null => simp only [stA] at h; replace h := ite_some_iff h; obtain ⟨rfl, h⟩ := h; cases h; exact lv_null hx hb hd (k _ hl)
  | iconst z => simp only [stA] at h; replace h := ite_some_iff h; obtain ⟨rfl, h⟩ := h; cases h; exact lv_iconst hx hb hd rfl (k _ hl)
  | bipush z => simp only [stA] at h; replace h := ite_some_iff h; obtain ⟨rfl, h⟩ := h; cases h; exact lv_bipush hx hb hd rfl (k _ hl)
  | sipush z => simp only [stA] at h; replace h := ite_some_iff h; obtain ⟨rfl, h⟩ := h; cases h; exact lv_sipush hx hb hd rfl (k _ hl)
  | lconst z => simp only [stA] at h; replace h := ite_some_iff h; obtain ⟨rfl, h⟩ := h; cases h; exact lv_lconst hx hb hd rfl (k _ hl)
  | dconst z => simp only [stA] at h; replace h := ite_some_iff h; obtain ⟨⟨rfl, rfl⟩, h⟩ := h; cases h; exact lv_dconst0 hx hb hd (k _ hl)
  | ldc x =>
    simp only [stA] at h; replace h := ite_some_iff h; obtain ⟨rfl, h⟩ := h
    cases hk : kR o x with
    | none => simp [hk] at h
    | some v => simp only [hk] at h; cases h; exact lv_ldc hx hb hown (hG _ (kR_ok hk) rfl) hd (k _ hl)
  | ldc2_w x =>
    simp only [stA] at h; replace h := ite_some_iff h; obtain ⟨rfl, h⟩ := h
    cases hk : lR o x with
    | none => simp [hk] at h
    | some v => simp only [hk] at h; cases h; exact lv_ldc2 hx hb hown (hG _ (lR_ok hk) rfl) hd (k _ hl)
  | iload_n j => simp only [stA] at h; replace h := ite_some_iff h; obtain ⟨rfl, h⟩ := h; obtain ⟨v, h1, h2, rfl⟩ := aLd_inv h; obtain ⟨x, rfl⟩ := isI_inv h2; exact lv_iload_n hx hb hd rfl (lvr_get hl h1) (k _ hl)
  | iload j => simp only [stA] at h; replace h := ite_some_iff h; obtain ⟨rfl, h⟩ := h; obtain ⟨v, h1, h2, rfl⟩ := aLd_inv h; obtain ⟨x, rfl⟩ := isI_inv h2; exact lv_iload hx hb hd (lvr_get hl h1) (k _ hl)
  | lload_n j => simp only [stA] at h; replace h := ite_some_iff h; obtain ⟨rfl, h⟩ := h; obtain ⟨v, h1, h2, rfl⟩ := aLd_inv h; obtain ⟨x, rfl⟩ := isJ_inv h2; exact lv_lload_n hx hb hd rfl (lvr_get hl h1) (k _ hl)
  | lload j => simp only [stA] at h; replace h := ite_some_iff h; obtain ⟨rfl, h⟩ := h; obtain ⟨v, h1, h2, rfl⟩ := aLd_inv h; obtain ⟨x, rfl⟩ := isJ_inv h2; exact lv_lload hx hb hd (lvr_get hl h1) (k _ hl)
  | dload_n j => simp only [stA] at h; replace h := ite_some_iff h; obtain ⟨rfl, h⟩ := h; obtain ⟨v, h1, h2, rfl⟩ := aLd_inv h; obtain ⟨x, rfl⟩ := isD_inv h2; exact lv_dload_n hx hb hd rfl (lvr_get hl h1) (k _ hl)
  | dload j => simp only [stA] at h; replace h := ite_some_iff h; obtain ⟨rfl, h⟩ := h; obtain ⟨v, h1, h2, rfl⟩ := aLd_inv h; obtain ⟨x, rfl⟩ := isD_inv h2; exact lv_dload hx hb hd (lvr_get hl h1) (k _ hl)
  | aload_n j =>
    simp only [stA] at h; replace h := ite_some_iff h; obtain ⟨rfl, h⟩ := h; obtain ⟨v, h1, h2, rfl⟩ := aLd_inv h
    rcases isA_inv h2 with ⟨x, rfl⟩ | rfl
    · exact lv_aload_n hx hb hd rfl (lvr_get hl h1) (k _ hl)
    · exact lv_aload_nN hx hb hd rfl (lvr_get hl h1) (k _ hl)
  | aload j =>
    simp only [stA] at h; replace h := ite_some_iff h; obtain ⟨rfl, h⟩ := h; obtain ⟨v, h1, h2, rfl⟩ := aLd_inv h
    rcases isA_inv h2 with ⟨x, rfl⟩ | rfl
    · exact lv_aload hx hb hd (lvr_get hl h1) (k _ hl)
    · exact lv_aloadN hx hb hd (lvr_get hl h1) (k _ hl)
  | istore_n j => simp only [stA] at h; replace h := ite_some_iff h; obtain ⟨rfl, h⟩ := h; obtain ⟨v, r, rfl, h2, h3, rfl⟩ := aSt_inv h; obtain ⟨x, rfl⟩ := isI_inv h2; exact lv_istore_n hx hb hd rfl hl.1 (by omega) rfl (fun q hq => k _ (lvr_of1 hl (Or.inl rfl) hq))
  | istore j => simp only [stA] at h; replace h := ite_some_iff h; obtain ⟨rfl, h⟩ := h; obtain ⟨v, r, rfl, h2, h3, rfl⟩ := aSt_inv h; obtain ⟨x, rfl⟩ := isI_inv h2; exact lv_istore hx hb hd hl.1 (by omega) rfl (fun q hq => k _ (lvr_of1 hl (Or.inl rfl) hq))
  | astore_n j =>
    simp only [stA] at h; replace h := ite_some_iff h; obtain ⟨rfl, h⟩ := h; obtain ⟨v, r, rfl, h2, h3, rfl⟩ := aSt_inv h
    rcases isA_inv h2 with ⟨x, rfl⟩ | rfl
    · exact lv_astore_n hx hb hd rfl hl.1 (by omega) rfl (fun q hq => k _ (lvr_of1 hl (Or.inl rfl) hq))
    · exact lv_astore_nN hx hb hd rfl hl.1 (by omega) rfl (fun q hq => k _ (lvr_of1 hl (Or.inl rfl) hq))
  | astore j =>
    simp only [stA] at h; replace h := ite_some_iff h; obtain ⟨rfl, h⟩ := h; obtain ⟨v, r, rfl, h2, h3, rfl⟩ := aSt_inv h
    rcases isA_inv h2 with ⟨x, rfl⟩ | rfl
    · exact lv_astore hx hb hd hl.1 (by omega) rfl (fun q hq => k _ (lvr_of1 hl (Or.inl rfl) hq))
    · exact lv_astoreN hx hb hd hl.1 (by omega) rfl (fun q hq => k _ (lvr_of1 hl (Or.inl rfl) hq))
  | lstore_n j => simp only [stA] at h; replace h := ite_some_iff h; obtain ⟨rfl, h⟩ := h; obtain ⟨v, r, rfl, h2, h3, rfl⟩ := aSt2_inv h; obtain ⟨x, rfl⟩ := isJ_inv h2; exact lv_lstore_n hx hb hd rfl hl.1 (by omega) rfl (fun q hq => k _ (lvr_of2 hl hq))
  | lstore j => simp only [stA] at h; replace h := ite_some_iff h; obtain ⟨rfl, h⟩ := h; obtain ⟨v, r, rfl, h2, h3, rfl⟩ := aSt2_inv h; obtain ⟨x, rfl⟩ := isJ_inv h2; exact lv_lstore hx hb hd hl.1 (by omega) rfl (fun q hq => k _ (lvr_of2 hl hq))
  | dstore j => simp only [stA] at h; replace h := ite_some_iff h; obtain ⟨rfl, h⟩ := h; obtain ⟨v, r, rfl, h2, h3, rfl⟩ := aSt2_inv h; obtain ⟨x, rfl⟩ := isD_inv h2; exact lv_dstore hx hb hd hl.1 (by omega) rfl (fun q hq => k _ (lvr_of2 hl hq))
  | iinc j z =>
    simp only [stA] at h; replace h := ite_some_iff h; obtain ⟨rfl, h⟩ := h
    split at h
    · next x hg =>
      cases h
      obtain ⟨i0, hi0⟩ := List.getElem?_of_mem (mem_asc.mpr hg)
      exact lv_iinc hx hb hd hl.1 hi0 rfl (by have := lget_lt hg; omega) rfl (fun q hq => k _ (lvr_of1 hl (Or.inl rfl) hq))
    · cases h
  | iadd => simp only [stA] at h; replace h := ite_some_iff h; obtain ⟨rfl, h⟩ := h; obtain ⟨x, y, r, rfl, rfl⟩ := aI2_inv h; exact lv_iadd hx hb hd (k _ hl)
  | isub => simp only [stA] at h; replace h := ite_some_iff h; obtain ⟨rfl, h⟩ := h; obtain ⟨x, y, r, rfl, rfl⟩ := aI2_inv h; exact lv_isub hx hb hd (k _ hl)
  | imul => simp only [stA] at h; replace h := ite_some_iff h; obtain ⟨rfl, h⟩ := h; obtain ⟨x, y, r, rfl, rfl⟩ := aI2_inv h; exact lv_imul hx hb hd (k _ hl)
  | iand => simp only [stA] at h; replace h := ite_some_iff h; obtain ⟨rfl, h⟩ := h; obtain ⟨x, y, r, rfl, rfl⟩ := aI2_inv h; exact lv_iand hx hb hd (k _ hl)
  | ior => simp only [stA] at h; replace h := ite_some_iff h; obtain ⟨rfl, h⟩ := h; obtain ⟨x, y, r, rfl, rfl⟩ := aI2_inv h; exact lv_ior hx hb hd (k _ hl)
  | ixor => simp only [stA] at h; replace h := ite_some_iff h; obtain ⟨rfl, h⟩ := h; obtain ⟨x, y, r, rfl, rfl⟩ := aI2_inv h; exact lv_ixor hx hb hd (k _ hl)
  | ishl => simp only [stA] at h; replace h := ite_some_iff h; obtain ⟨rfl, h⟩ := h; obtain ⟨x, y, r, rfl, rfl⟩ := aI2_inv h; exact lv_ishl hx hb hd (k _ hl)
  | ishr => simp only [stA] at h; replace h := ite_some_iff h; obtain ⟨rfl, h⟩ := h; obtain ⟨x, y, r, rfl, rfl⟩ := aI2_inv h; exact lv_ishr hx hb hd (k _ hl)
  | idiv =>
    simp only [stA] at h; replace h := ite_some_iff h; obtain ⟨rfl, h⟩ := h
    split at h
    · next y x r =>
      by_cases hy : y = 0
      · rw [if_pos hy] at h; cases h
      · rw [if_neg hy] at h; cases h; exact lv_idiv hx hb hd hy (k _ hl)
    · cases h
  | irem =>
    simp only [stA] at h; replace h := ite_some_iff h; obtain ⟨rfl, h⟩ := h
    split at h
    · next y x r =>
      by_cases hy : y = 0
      · rw [if_pos hy] at h; cases h
      · rw [if_neg hy] at h; cases h; exact lv_irem hx hb hd hy (k _ hl)
    · cases h
  | ladd => simp only [stA] at h; replace h := ite_some_iff h; obtain ⟨rfl, h⟩ := h; obtain ⟨x, y, r, rfl, rfl⟩ := aL2_inv h; exact lv_ladd hx hb hd (k _ hl)
  | lmul => simp only [stA] at h; replace h := ite_some_iff h; obtain ⟨rfl, h⟩ := h; obtain ⟨x, y, r, rfl, rfl⟩ := aL2_inv h; exact lv_lmul hx hb hd (k _ hl)
  | land => simp only [stA] at h; replace h := ite_some_iff h; obtain ⟨rfl, h⟩ := h; obtain ⟨x, y, r, rfl, rfl⟩ := aL2_inv h; exact lv_land hx hb hd (k _ hl)
  | lor => simp only [stA] at h; replace h := ite_some_iff h; obtain ⟨rfl, h⟩ := h; obtain ⟨x, y, r, rfl, rfl⟩ := aL2_inv h; exact lv_lor hx hb hd (k _ hl)
  | lshl => simp only [stA] at h; replace h := ite_some_iff h; obtain ⟨rfl, h⟩ := h; obtain ⟨x, y, r, rfl, rfl⟩ := aLS_inv h; exact lv_lshl hx hb hd rfl (k _ hl)
  | lshr => simp only [stA] at h; replace h := ite_some_iff h; obtain ⟨rfl, h⟩ := h; obtain ⟨x, y, r, rfl, rfl⟩ := aLS_inv h; exact lv_lshr hx hb hd rfl (k _ hl)
  | lcmp =>
    simp only [stA] at h; replace h := ite_some_iff h; obtain ⟨rfl, h⟩ := h
    split at h
    · cases h; exact W.lcmp hx hb hd (k _ hl)
    · cases h
  | i2l =>
    simp only [stA] at h; replace h := ite_some_iff h; obtain ⟨rfl, h⟩ := h
    split at h
    · cases h; exact lv_i2l hx hb hd rfl (k _ hl)
    · cases h
  | l2i =>
    simp only [stA] at h; replace h := ite_some_iff h; obtain ⟨rfl, h⟩ := h
    split at h
    · cases h; exact lv_l2i hx hb hd rfl (k _ hl)
    · cases h
  | i2d =>
    simp only [stA] at h; replace h := ite_some_iff h; obtain ⟨rfl, h⟩ := h
    split at h
    · cases h; exact lv_i2d hx hb hd (k _ hl)
    · cases h
  | ddiv =>
    simp only [stA] at h; replace h := ite_some_iff h; obtain ⟨rfl, h⟩ := h
    split at h
    · replace h := ite_some_iff h; obtain ⟨h1, h⟩ := h; cases h; exact lv_ddiv hx hb hd h1 (k _ hl)
    · cases h
  | dcmp op =>
    simp only [stA] at h; replace h := ite_some_iff h; obtain ⟨rfl, h⟩ := h
    split at h
    · cases h; exact lv_dcmp hx hb hd (k _ hl)
    · cases h
  | dup =>
    simp only [stA] at h; replace h := ite_some_iff h; obtain ⟨rfl, h⟩ := h
    split at h
    · replace h := ite_some_iff h; obtain ⟨h1, h⟩ := h; cases h; exact lv_dup hx hb hd h1 (k _ hl)
    · cases h
  | pop =>
    simp only [stA] at h; replace h := ite_some_iff h; obtain ⟨rfl, h⟩ := h
    split at h
    · replace h := ite_some_iff h; obtain ⟨h1, h⟩ := h; cases h; exact lv_pop hx hb hd h1 (k _ hl)
    · cases h
  | dup2 =>
    simp only [stA] at h; replace h := ite_some_iff h; obtain ⟨rfl, h⟩ := h
    split at h
    · replace h := ite_some_iff h; obtain ⟨h1, h⟩ := h; cases h; exact lv_dup2_11 hx hb hd h1.1 h1.2 (k _ hl)
    · cases h
  | goto off => simp only [stA] at h; replace h := ite_some_iff h; obtain ⟨rfl, h⟩ := h; obtain ⟨t, ht, rfl⟩ := jmp_inv h; exact lv_goto hx hb hd ht (k _ hl)
  | ifCond cnd off =>
    cases cnd with
    | eq => simp only [stA] at h; replace h := ite_some_iff h; obtain ⟨rfl, h⟩ := h; obtain ⟨x, r, rfl, h⟩ := i1_inv h; obtain ⟨t, ht, h⟩ := aIf_inv h; exact lv_if_eq hx hb hd ht (fun z => by rcases h with ⟨hq, rfl⟩ | ⟨hq, rfl⟩ <;> first | exact (hq z).elim | exact k _ hl) (fun z => by rcases h with ⟨hq, rfl⟩ | ⟨hq, rfl⟩ <;> first | exact (z hq).elim | exact (hq z).elim | exact k _ hl)
    | ne => simp only [stA] at h; replace h := ite_some_iff h; obtain ⟨rfl, h⟩ := h; obtain ⟨x, r, rfl, h⟩ := i1_inv h; obtain ⟨t, ht, h⟩ := aIf_inv h; exact lv_if_ne hx hb hd ht (fun z => by rcases h with ⟨hq, rfl⟩ | ⟨hq, rfl⟩ <;> first | exact (hq z).elim | exact k _ hl) (fun z => by rcases h with ⟨hq, rfl⟩ | ⟨hq, rfl⟩ <;> first | exact (z hq).elim | exact (hq z).elim | exact k _ hl)
    | lt => simp only [stA] at h; replace h := ite_some_iff h; obtain ⟨rfl, h⟩ := h; obtain ⟨x, r, rfl, h⟩ := i1_inv h; obtain ⟨t, ht, h⟩ := aIf_inv h; exact lv_if_lt hx hb hd ht (fun z => by rcases h with ⟨hq, rfl⟩ | ⟨hq, rfl⟩ <;> first | exact (hq z).elim | exact k _ hl) (fun z => by rcases h with ⟨hq, rfl⟩ | ⟨hq, rfl⟩ <;> first | exact (z hq).elim | exact (hq z).elim | exact k _ hl)
    | ge => simp only [stA] at h; replace h := ite_some_iff h; obtain ⟨rfl, h⟩ := h; obtain ⟨x, r, rfl, h⟩ := i1_inv h; obtain ⟨t, ht, h⟩ := aIf_inv h; exact lv_if_ge hx hb hd ht (fun z => by rcases h with ⟨hq, rfl⟩ | ⟨hq, rfl⟩ <;> first | exact (hq z).elim | exact k _ hl) (fun z => by rcases h with ⟨hq, rfl⟩ | ⟨hq, rfl⟩ <;> first | exact (z hq).elim | exact (hq z).elim | exact k _ hl)
    | gt => simp only [stA] at h; replace h := ite_some_iff h; obtain ⟨rfl, h⟩ := h; obtain ⟨x, r, rfl, h⟩ := i1_inv h; obtain ⟨t, ht, h⟩ := aIf_inv h; exact lv_if_gt hx hb hd ht (fun z => by rcases h with ⟨hq, rfl⟩ | ⟨hq, rfl⟩ <;> first | exact (hq z).elim | exact k _ hl) (fun z => by rcases h with ⟨hq, rfl⟩ | ⟨hq, rfl⟩ <;> first | exact (z hq).elim | exact (hq z).elim | exact k _ hl)
    | le => simp only [stA] at h; replace h := ite_some_iff h; obtain ⟨rfl, h⟩ := h; obtain ⟨x, r, rfl, h⟩ := i1_inv h; obtain ⟨t, ht, h⟩ := aIf_inv h; exact lv_if_le hx hb hd ht (fun z => by rcases h with ⟨hq, rfl⟩ | ⟨hq, rfl⟩ <;> first | exact (hq z).elim | exact k _ hl) (fun z => by rcases h with ⟨hq, rfl⟩ | ⟨hq, rfl⟩ <;> first | exact (z hq).elim | exact (hq z).elim | exact k _ hl)
  | if_icmp cnd off =>
    cases cnd with
    | eq => simp only [stA] at h; replace h := ite_some_iff h; obtain ⟨rfl, h⟩ := h; obtain ⟨x, y, r, rfl, h⟩ := i2_inv h; obtain ⟨t, ht, h⟩ := aIf_inv h; exact lv_icmp_eq hx hb hd ht (fun z => by rcases h with ⟨hq, rfl⟩ | ⟨hq, rfl⟩ <;> first | exact (hq z).elim | exact k _ hl) (fun z => by rcases h with ⟨hq, rfl⟩ | ⟨hq, rfl⟩ <;> first | exact (z hq).elim | exact (hq z).elim | exact k _ hl)
    | ne => simp only [stA] at h; replace h := ite_some_iff h; obtain ⟨rfl, h⟩ := h; obtain ⟨x, y, r, rfl, h⟩ := i2_inv h; obtain ⟨t, ht, h⟩ := aIf_inv h; exact lv_icmp_ne hx hb hd ht (fun z => by rcases h with ⟨hq, rfl⟩ | ⟨hq, rfl⟩ <;> first | exact (hq z).elim | exact k _ hl) (fun z => by rcases h with ⟨hq, rfl⟩ | ⟨hq, rfl⟩ <;> first | exact (z hq).elim | exact (hq z).elim | exact k _ hl)
    | lt => simp only [stA] at h; replace h := ite_some_iff h; obtain ⟨rfl, h⟩ := h; obtain ⟨x, y, r, rfl, h⟩ := i2_inv h; obtain ⟨t, ht, h⟩ := aIf_inv h; exact lv_icmp_lt hx hb hd ht (fun z => by rcases h with ⟨hq, rfl⟩ | ⟨hq, rfl⟩ <;> first | exact (hq z).elim | exact k _ hl) (fun z => by rcases h with ⟨hq, rfl⟩ | ⟨hq, rfl⟩ <;> first | exact (z hq).elim | exact (hq z).elim | exact k _ hl)
    | ge => simp only [stA] at h; replace h := ite_some_iff h; obtain ⟨rfl, h⟩ := h; obtain ⟨x, y, r, rfl, h⟩ := i2_inv h; obtain ⟨t, ht, h⟩ := aIf_inv h; exact lv_icmp_ge hx hb hd ht (fun z => by rcases h with ⟨hq, rfl⟩ | ⟨hq, rfl⟩ <;> first | exact (hq z).elim | exact k _ hl) (fun z => by rcases h with ⟨hq, rfl⟩ | ⟨hq, rfl⟩ <;> first | exact (z hq).elim | exact (hq z).elim | exact k _ hl)
    | gt => simp only [stA] at h; replace h := ite_some_iff h; obtain ⟨rfl, h⟩ := h; obtain ⟨x, y, r, rfl, h⟩ := i2_inv h; obtain ⟨t, ht, h⟩ := aIf_inv h; exact lv_icmp_gt hx hb hd ht (fun z => by rcases h with ⟨hq, rfl⟩ | ⟨hq, rfl⟩ <;> first | exact (hq z).elim | exact k _ hl) (fun z => by rcases h with ⟨hq, rfl⟩ | ⟨hq, rfl⟩ <;> first | exact (z hq).elim | exact (hq z).elim | exact k _ hl)
    | le => simp only [stA] at h; replace h := ite_some_iff h; obtain ⟨rfl, h⟩ := h; obtain ⟨x, y, r, rfl, h⟩ := i2_inv h; obtain ⟨t, ht, h⟩ := aIf_inv h; exact lv_icmp_le hx hb hd ht (fun z => by rcases h with ⟨hq, rfl⟩ | ⟨hq, rfl⟩ <;> first | exact (hq z).elim | exact k _ hl) (fun z => by rcases h with ⟨hq, rfl⟩ | ⟨hq, rfl⟩ <;> first | exact (z hq).elim | exact (hq z).elim | exact k _ hl)
  | ifnull off =>
    simp only [stA] at h; replace h := ite_some_iff h; obtain ⟨rfl, h⟩ := h
    split at h
    · obtain ⟨t, ht, rfl⟩ := jmp_inv h; exact lv_ifnullN hx hb hd ht (k _ hl)
    · cases h; exact lv_ifnull hx hb hd (k _ hl)
    · cases h
  | ifnonnull off =>
    simp only [stA] at h; replace h := ite_some_iff h; obtain ⟨rfl, h⟩ := h
    split at h
    · obtain ⟨t, ht, rfl⟩ := jmp_inv h; exact lv_ifnonnull hx hb hd ht (k _ hl)
    · cases h; exact lv_ifnonnullN hx hb hd (k _ hl)
    · cases h
  | tableswitch dflt lo hi offs =>
    simp only [stA] at h
    split at h
    · next x r =>
      by_cases hq : x.toInt < lo ∨ hi < x.toInt
      · rw [if_pos hq] at h; obtain ⟨t, ht, rfl⟩ := jmp_inv h; exact lv_tableOut hx hb hd hq ht (k _ hl)
      · rw [if_neg hq] at h
        split at h
        · next off ho => obtain ⟨t, ht, rfl⟩ := jmp_inv h; exact lv_tableIn hx hb hd (fun z => hq (Or.inl z)) (fun z => hq (Or.inr z)) ho ht (k _ hl)
        · cases h
    · cases h
  | lookupswitch dflt ps =>
    simp only [stA] at h
    split at h
    · next x r => replace h := ite_some_iff h; obtain ⟨hp, h⟩ := h; obtain ⟨t, ht, rfl⟩ := jmp_inv h; exact lv_lookup hx hb hd hp rfl ht (k _ hl)
    · cases h
  | _ => simp only [stA] at h; cases h
end SA
