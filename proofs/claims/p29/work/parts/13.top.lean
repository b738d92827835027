theorem entA_len (vs : List Value) : (entA vs).length = (lg_sl vs).length := by
  induction vs with
  | nil => rfl
  | cons v vs ih =>
    by_cases h : v.category = 2
    · simp only [entA, h, if_true, lg_sl, List.flatMap_cons, List.length_cons, List.length_append, List.length_nil]
      have : (lg_sl vs).length = (List.flatMap (fun v => if v.category = 2 then [Slot.val v, Slot.second] else [Slot.val v]) vs).length := rfl
      omega
    · simp only [entA, h, if_false, lg_sl, List.flatMap_cons, List.length_cons, List.length_append, List.length_nil]
      have : (lg_sl vs).length = (List.flatMap (fun v => if v.category = 2 then [Slot.val v, Slot.second] else [Slot.val v]) vs).length := rfl
      omega
theorem lget_nil (n j : Nat) (u : Value) : lget (List.replicate n unk) j ≠ some u := by
  intro h
  obtain ⟨h1, h2⟩ := lget_some h
  have h3 := List.eq_of_mem_replicate (List.mem_of_getElem? h1)
  exact h2 h3
theorem lget_cons (v : Value) (ls : List Value) (j : Nat) : lget (v :: ls) (j + 1) = lget ls j := rfl
theorem ent_args (vs : List Value) (n : Nat) : ∀ (k j : Nat) (u : Value), lget (entA vs ++ List.replicate n unk) j = some u → (k + j, u) ∈ lv_args k vs := by
  induction vs with
  | nil => intro k j u h; exact absurd h (lget_nil n j u)
  | cons v vs ih =>
    intro k j u h
    by_cases hc : v.category = 2
    · simp only [entA, hc, if_true, List.cons_append] at h
      simp only [lv_args, hc, if_true]
      match j, h with
      | 0, h =>
        have h1 := (lget_some h).1
        cases h1
        exact List.mem_cons_self
      | 1, h => exact absurd (Option.some.inj (lget_some h).1).symm (lget_some h).2
      | j + 2, h =>
        rw [lget_cons, lget_cons] at h
        have := ih (k + 2) j u h
        rw [show k + 2 + j = k + (j + 2) by omega] at this
        exact List.mem_cons_of_mem _ this
    · simp only [entA, hc, if_false, List.cons_append] at h
      simp only [lv_args, hc, if_false]
      match j, h with
      | 0, h =>
        have h1 := (lget_some h).1
        cases h1
        exact List.mem_cons_self
      | j + 1, h =>
        rw [lget_cons] at h
        have := ih (k + 1) j u h
        rw [show k + 1 + j = k + (j + 1) by omega] at this
        exact List.mem_cons_of_mem _ this
theorem ent_lvr (vs : List Value) {n : Nat} (h : (entA vs).length ≤ n) : lvr (ent vs n) ((lg_sl vs ++ List.replicate (n - (lg_sl vs).length) Slot.unset).toArray) n := by
  have h0 := lv_entry vs (n := n) (by rw [← entA_len]; exact h)
  refine ⟨⟨h0.1, h0.2.1, fun q hq => h0.2.2 q ?_⟩, by unfold ent; simp; omega⟩
  obtain ⟨j, u⟩ := q
  have := ent_args vs _ 0 j u (mem_asc.mp hq)
  rwa [Nat.zero_add] at this
theorem mhok {y : Nat} (hy : y < 146) : ∀ h ∈ mH y, h.2.2.2 ≠ 0 ∧ ∃ x, x < 3 ∧ nR (mO y) h.2.2.2 = some (100 + x) := by
  intro h hh
  obtain ⟨h1, h2⟩ := mT_hnd _ (mE_mem hy) h hh
  refine ⟨h1, ?_⟩
  rcases h2 with h2 | h2 | h2
  · exact ⟨0, by omega, h2⟩
  · exact ⟨1, by omega, h2⟩
  · exact ⟨2, by omega, h2⟩
section TOP
variable {p : Program} {l : Launch} {e : Env} {s : State} {m : MethodId} {args : Array Value} {below : List Frame} {meth : Method} {c : Code}
variable {D : va_G} {cy : Nat → ClassId} {B : Nat} {r : Rs}
theorem stR_end {R : Room} {y pc len : Nat} {i : Instr} {stk : List Value} {v : Option Value} {H : Heap} {locs : List Loc} {cells slots : Nat} {ls' : Array Slot} {Qc : Array Value → State → Outcome → State → Prop} {free : Addr → Prop} (hx : p.tables.exec = Jvm.exec) (hb : c.code = mB y) (hr : meth.sig.returnType = mR y) (hlocks : meth.locks = false) (hd : decode (mB y) pc = .ok (i, len)) (h : stR y i len stk = some v)
    (hq : ∀ t : State, t.heap = H → s.WarmedH t.vm → Qc args s (.returned v) t) (hf : ∀ q ∈ locs, free q.base) : W p l e R s m args below meth c H locs cells slots (MQ below Qc args s cells slots free) (F0 m pc ls' stk) := by
  cases i with
  | return_ => simp only [stR] at h; replace h := ite_some_iff h; obtain ⟨⟨rfl, rfl, h1⟩, h⟩ := h; cases h; exact W.vret hx hb (by rw [hr, h1]) hq hf hd
  | ireturn =>
    simp only [stR] at h; replace h := ite_some_iff h; obtain ⟨rfl, h⟩ := h
    split at h
    · next x =>
      replace h := ite_some_iff h; obtain ⟨h1, h⟩ := h; cases h
      rcases h1 with h1 | ⟨h1, h2⟩
      · exact W.iret hx hb (by rw [hr, h1]) hq hf hd
      · exact W.zret (ty := .boolean) hx hb (by rw [hr, h1]) (by show Value.int (x &&& 1) = _; rw [h2]) hq hf hd
    · cases h
  | lreturn =>
    simp only [stR] at h; replace h := ite_some_iff h; obtain ⟨rfl, h⟩ := h
    split at h
    · replace h := ite_some_iff h; obtain ⟨h1, h⟩ := h; cases h; exact W.lret hx hb (by rw [hr, h1]) hq hf hd
    · cases h
  | dreturn =>
    simp only [stR] at h; replace h := ite_some_iff h; obtain ⟨rfl, h⟩ := h
    split at h
    · replace h := ite_some_iff h; obtain ⟨h1, h⟩ := h; cases h; exact W.dret hx hb (by rw [hr, h1]) hq hf hd
    · cases h
  | areturn =>
    simp only [stR] at h; replace h := ite_some_iff h; obtain ⟨rfl, h⟩ := h
    split at h
    · next a =>
      split at h
      · next C hC => cases h; exact W.aret (rt := .object C) hx hb (by rw [hr, hC]) (Or.inl ⟨C, rfl⟩) (Or.inr ⟨a, rfl⟩) hq hf hd
      · cases h
    · split at h
      · next C hC => cases h; exact W.aret (rt := .object C) hx hb (by rw [hr, hC]) (Or.inl ⟨C, rfl⟩) (Or.inl rfl) hq hf hd
      · cases h
    · cases h
  | _ => simp only [stR] at h; cases h
set_option maxHeartbeats 8000000 in
theorem simStep (N : Nat) (ih : ∀ n', n' < N → ∀ (y : Nat) (as : List Value) (w : Wd) (I : MI) (L : ML) (P : MP) (r : Rs), y < 146 → (entA as).length ≤ mL y → exec n' y 0 (ent as (mL y)) [] w I L P = some r → SimC y as w I L P r) :
    ∀ (y : Nat) (as : List Value) (w : Wd) (I : MI) (L : ML) (P : MP) (r : Rs), y < 146 → (entA as).length ≤ mL y → exec N y 0 (ent as (mL y)) [] w I L P = some r → SimC y as w I L P r := by
  intro y as w I L P r hy hen hex l hlst D cy B
  have hmo := exec_mono _ _ _ _ _ _ _ _ _ _ hex
  obtain ⟨g1, g2, g3, g4, g5, g6⟩ := mT_more _ (mE_mem hy)
  have body : ∀ (p : Program) (e : Env) (s : State) (m : MethodId) (args : Array Value) (below : List Frame) (meth : Method) (c : Code) (s₁ : State), BodyLoose p l (mN y) (headSpec (mWd y) (mRm y (r.2.1.2.2.1 - w.2.2.1) (r.2.1.2.2.2 - w.2.2.2))) (mB y) (mL y) (mR y) e s m args below meth c s₁ → c.maxLocals = mL y → c.exceptionTable.toList = tableOf (mH y) → cPc D cy B as w I L P args s →
      W p l e (mRm y (r.2.1.2.2.1 - w.2.2.1) (r.2.1.2.2.2 - w.2.2.2)) s m args below meth c s.heap [] 0 0 (vx_MQ below (cQc D cy B r) (cXC D cy B r) args s (r.2.1.2.2.1 - w.2.2.1) (r.2.1.2.2.2 - w.2.2.2) (wA B)) (entryFrame m args (mL y)) := by
    intro p e s m args below meth c s₁ Bd hml htab hv
    obtain ⟨rfl, hSf, hH⟩ := hv
    have hts := atoms_spec (ws := mWd y) Bd.pre
    have hG : ∀ w ∈ goodL, w.before as.toArray s = true := fun w hw => hts w (List.mem_cons_of_mem _ hw)
    have hcls : s.vm.findClass (mN y).cls = some m.cls := findClass_of_methodNamed Bd.named
    have hown : s.vm.findClass (oN (mO y)) = some m.cls := by rw [← show (mN y).cls = oN (mO y) from g1]; exact hcls
    have hlocks := Bd.notSynchronized
    have hS0 : va_S (wA B) s.heap s.heap [] := va_S.rf
    rw [lg_entry_eq]
    refine frame (mm := y) (r := r) (c0 := w.2.2.1) (s0 := w.2.2.2) Bd.exec hlst Bd.bytes hown hG hSf (fun hn => (name_of_methodNamed Bd.named Bd.method).1.trans hn) hml ⟨Nat.le_refl _, Nat.le_refl _⟩ (fun _ => htab) (mhok hy) ?_ ?_ ?_ (by show _ ≤ (r.2.1.2.2.1 - w.2.2.1) + _; omega) (by show _ ≤ (r.2.1.2.2.2 - w.2.2.2) + _; omega) N ih N (Nat.le_refl _) 0 (ent as (mL y)) [] w I L P _ s.heap [] 0 0 hex (ent_lvr as hen) hH hS0 (by omega) (by omega)
    · intro v pc i len ls' stk H1 locs1 cells1 slots1 hv hd hsr hH1 hS1 hc1 hs1
      have e1 : cells1 = r.2.1.2.2.1 - w.2.2.1 := by omega
      have e2 : slots1 = r.2.1.2.2.2 - w.2.2.2 := by omega
      rw [← e1, ← e2]
      exact vx_ret (stR_end Bd.exec Bd.bytes Bd.returns hlocks hd hsr (fun t ht hW => ⟨v, hv, rfl, by rw [ht]; exact hH1.moved hW.alike, hS1.F ht⟩) hS1.2.2)
    · intro x pc ls' stk ce q H1 locs1 cells1 slots1 hx3 hmh hv hH1 hS1 hc1 hs1 q1 q2 q3
      refine vx_out (E := eN x) (fun z hz => ?_) hlocks q1 q2 q3 (fun t ht hal => ⟨x, hx3, hv, rfl, by rw [ht]; exact hH1.moved hal, hS1.F ht⟩) hS1.2.2 (by omega) (by omega)
      rw [htab, hmh] at hz
      cases hz
    · intro x pc i len ls' stk H1 locs1 cells1 slots1 w' I' L' P' hd hst hsz hr hH1 hS1 hc1 hs1
      obtain ⟨ik, is, ic, rfl, rfl, hnr, hx3, d3, d4, d6, d9, hsr, hmh, hmo6, rfl, hf6, hw82⟩ := stT_inv hst
      obtain ⟨xs, hxs, hxo, hxi⟩ := sR_inv hsr
      obtain ⟨sa, hsa⟩ := hSf.2.2.2.1 xs hxs
      rw [hxo, hxi] at hsa
      have hcl := nR_ok hnr
      rw [if_neg (by omega), show 100 + x - 100 = x by omega] at hcl
      have hcat := cat_len stk
      have hat : ∀ w ∈ vx_atS (oN (mO y)) (xIx x) (eN x) xNm, w.before as.toArray s = true := by
        rw [hmo6]
        intro w9 hw9
        by_cases g : goodWord w9 = true
        · exact hG _ (xw_good x hx3 w9 (List.mem_filter.mpr ⟨hw9, g⟩))
        · rcases xw_bad x hx3 w9 (List.mem_filter.mpr ⟨hw9, by simpa using g⟩) with rfl | ⟨h1, h2⟩
          · have h9 := hSf.2.2.2.2 x hx3 x hx3
            rw [if_pos rfl] at h9
            exact va_Nw.use rfl h9
          · have h9 := hSf.2.1 w9 h2 h1
            cases w9 <;> simp [isNest] at h1 <;> exact va_Nw.use rfl h9
      have hr1 : r.2.1 = thrT w' := by rw [hr]
      have hr2 : r.2.1.2.2.1 = w'.2.2.1 + 1 := by rw [hr1]; rfl
      have hr3 : r.2.1.2.2.2 = w'.2.2.2 + 6 := by rw [hr1]; rfl
      refine vx_throwS (own := oN (mO y)) (cls := eN x) (names := xNm) (A := wA B) Bd.exec Bd.bytes hlst hown (xw_fit.1 x hx3) xw_fit.2 (hG _ (mem_goodL hcl rfl)) (hG _ (xw_ini x hx3)) hsa hat (fun w9 hw9 => ?_) hH.2.2.2.2.2.1 hH.2.2.2.2.2.2 hS1 hsz hd d3 d4 d6 d9 (fun z hz => by rw [htab, hmh] at hz; cases hz) (by show 2 + 3 < mF y; omega) (by show _ + (13 * (2 + 1) + 43) ≤ mW y; omega) (by show _ ≤ r.2.1.2.2.1 - w.2.2.1; omega) (by show _ ≤ r.2.1.2.2.2 - w.2.2.2; omega) hlocks (fun t hal hz hq => ?_) hS1.2.2 (by omega) (by omega)
      · rcases List.mem_cons.mp hw9 with rfl | hw9
        · rfl
        · rcases List.mem_cons.mp hw9 with rfl | hw9
          · rfl
          · rw [hmo6] at hw9; exact xw_ot x hx3 w9 hw9
      · refine ⟨x, hx3, by rw [hr], rfl, ?_, Nat.le_trans hS1.1 hz, fun q h1 h2 => by rw [hq q (Nat.lt_of_lt_of_le h1 hS1.1)]; exact hS1.2.1 q h1 h2⟩
        rw [hr]
        exact (Hp_throw hH1 hz hq).moved hal
  by_cases hh : mH y = []
  · refine vx_ofW (cc := mB y) (maxL := mL y) (ret := mR y) (by exact g2) (mWd_code hh) (fun p e s m args below meth c s₁ Bd hml htab hv => body p e s m args below meth c s₁ Bd hml ?_ hv)
    rw [hh]
    exact List.eq_nil_iff_forall_not_mem.mpr (fun x hx => htab x hx)
  · refine vx_ofWH (cc := mB y) (maxL := mL y) (ret := mR y) (hh := mH y) (by exact g2) (mWd_codeW hh) (fun p e s m args below meth c s₁ Bd hml hv => body p e s m args below meth c s₁ Bd hml ?_ hv)
    have hts := atoms_spec (ws := mWd y) Bd.pre
    have hcw : Cond.codeWith (mN y) (mB y) (mL y) (mR y) (mH y) ∈ mWd y := by rw [mWd_codeW hh]; exact List.mem_cons_self
    exact vx_table (x := mN y) Bd (hts _ hcw)
theorem sim_all : ∀ (N : Nat) (y : Nat) (as : List Value) (w : Wd) (I : MI) (L : ML) (P : MP) (r : Rs), y < 146 → (entA as).length ≤ mL y → exec N y 0 (ent as (mL y)) [] w I L P = some r → SimC y as w I L P r := by
  intro N
  induction N using Nat.strongRecOn with
  | ind N ih => exact simStep N (fun n' h => ih n' h)
end TOP
