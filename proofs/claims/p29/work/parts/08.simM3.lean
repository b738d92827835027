theorem fK_lt : ∀ ci, ci < 8 → ∀ j, j < nF ci → fK ci j < 4 := by decide +kernel
section XCP
variable {p : Program} {l : Launch} {e : Env} {R : Room} {s : State} {m : MethodId} {args : Array Value} {below : List Frame} {meth : Method} {c : Code} {H : Heap} {locs : List Loc} {cells slots : Nat} {Q : State → Prop}
variable {cc : ByteArray} {pc : Nat} {ls : Array Slot} {rest : List Value} {D : va_G} {cl : List vw_C} {a : Nat} {tys : List (ClassId × FieldType)}
/-- follows va_copyi of the kit, with the heap's size kept in the words -/
theorem x_copyi {cc : ByteArray} (hexec : p.tables.exec = Jvm.exec) (hb : c.code = cc) (hml : c.maxLocals = ls.size) {own : String} {index : Nat} (hown : s.vm.findClass own = some m.cls) (hlink : (Cond.methodLink own index arraycopyName).before args s = true) (hnat : (Cond.native arraycopyName).before args s = true) (hstat : (Cond.static arraycopyName).before args s = true) (hini : (Cond.initialized "java/lang/System").before args s = true)
    (hK : va_K D cl tys s) (t0 : Nat) {a0 : Nat} {c0 : ClassId} {n0 n1 : Nat} {f g : Nat → Int32} (ha0 : va_at D cl (a0, .inl (c0, n0, .inl f)) H) (ha1 : va_at D cl (a, .inl (c0, n1, .inl g)) H) (ht0 : tys[t0]? = some (c0, .int))
    {sp dp n : Int32} (h1 : ¬ sp < 0) (h2 : ¬ dp < 0) (h3 : ¬ n < 0) (h4 : sp.toNatClampNeg + n.toNatClampNeg ≤ n0) (h5 : dp.toNatClampNeg + n.toNatClampNeg ≤ n1)
    (hframes : 1 ≤ R.frames) (hlocals : (rest.map fun v => v.category).sum + (nativeFrameWords "java/lang/System" "arraycopy" 5 + 11) ≤ R.locals) (hdg : decode cc pc = .ok (.invokestatic index, 3))
    (kk : ∀ (H1 : Heap) (locs1 : List Loc), (∀ q ∈ locs1, q ∈ locs ∨ q.base = a) → va_at D cl (a, .inl (c0, n1, .inl (va_cpy f g sp.toNatClampNeg dp.toNatClampNeg n.toNatClampNeg))) H1 → H1.size = H.size → (∀ q : Nat, q ≠ a → H1[q]? = H[q]?) → W p l e R s m args below meth c H1 locs1 cells slots Q (F0 m (pc + 3) ls rest)) : W p l e R s m args below meth c H locs cells slots Q (F0 m pc ls (.int n :: .int dp :: .ref a :: .int sp :: .ref a0 :: rest)) := by
  have nn : ∀ z : Int32, ¬ z < 0 → z.toInt = (z.toNatClampNeg : Int) := by
    intro z hz
    have hz0 : (0 : Int) ≤ z.toInt := by
      have := Int32.not_lt.mp hz
      simpa using Int32.le_iff_toInt_le.mp this
    show z.toInt = ((z.toInt.toNat : Nat) : Int)
    omega
  intro T hT X
  have hc0 : H[a0]? = some (vp_cell c0 (n0, .inl f)) := ha0
  have hc1 : H[a]? = some (vp_cell c0 (n1, .inl g)) := ha1
  obtain ⟨-, k0, hk0, cm0, hkk0⟩ := (hK.2 t0 _ ht0).1 n0 (fun j => .int (f j))
  obtain ⟨-, k1, hk1, cm1, hkk1⟩ := (hK.2 t0 _ ht0).1 n1 (fun j => .int (g j))
  obtain ⟨vm', X', step⟩ := X.arraycopy hexec hown hlink hnat hstat hini (src := a0) (dst := a) (cs := vp_cell c0 (n0, .inl f)) (cd := vp_cell c0 (n1, .inl g)) (srcPos := sp) (destPos := dp) (n := n) (by rw [hT]; exact hc0) (by rw [hT]; exact hc1)
    (fun _ h => by cases h) (fun _ h => by cases h) (fun h => by cases h) (fun h => by cases h) hk0 hk1 hkk0 hkk1 (by simp [refKind]) h1 h2 h3
    (by rw [nn sp h1, nn n h3]; show ¬ _ > ((arrV c0 n0 (fun j => .int (f j))).slots.size : Int); rw [arrV_size]; omega)
    (by rw [nn dp h2, nn n h3]; show ¬ _ > ((arrV c0 n1 (fun j => .int (g j))).slots.size : Int); rw [arrV_size]; omega)
    (fun vm₁ _ i hi => by
      have e : (vp_cell c0 (n0, .inl f)).slots.getD (sp.toNatClampNeg + i) .null = .int (f (sp.toNatClampNeg + i)) := by
        show (arrV c0 n0 (fun j => .int (f j))).slots.getD _ _ = _
        rw [Array.getD_eq_getD_getElem?, arrV_read _ _ (by omega)]
        rfl
      refine ⟨?_, ?_⟩
      · rw [e]
        rfl
      · rw [e]
        exact trivial)
    (g := F0 m pc ls (.int n :: .int dp :: .ref a :: .int sp :: .ref a0 :: rest)) rfl (by rw [hml]) (rest := rest) rfl (by rw [hb]; exact hdg) hframes (by show 2 * 0 + _ + _ ≤ _; omega)
  have e1 : copied (vp_cell c0 (n0, .inl f)) (vp_cell c0 (n1, .inl g)) sp dp n = vp_cell c0 (n1, .inl (va_cpy f g sp.toNatClampNeg dp.toNatClampNeg n.toNatClampNeg)) := va_copied (fun z => .int z) c0 c0 f g h4
  rw [e1] at X' step
  have hl : a < H.size := (Array.getElem?_eq_some_iff.mp hc1).1
  have hheap : ((T.setVm vm').setCell a (vp_cell c0 (n1, .inl (va_cpy f g sp.toNatClampNeg dp.toNatClampNeg n.toNatClampNeg)))).heap = H.setIfInBounds a (vp_cell c0 (n1, .inl (va_cpy f g sp.toNatClampNeg dp.toNatClampNeg n.toNatClampNeg))) := by rw [← hT]; rfl
  have oq : ∀ q : Nat, q ≠ a → (H.setIfInBounds a (vp_cell c0 (n1, .inl (va_cpy f g sp.toNatClampNeg dp.toNatClampNeg n.toNatClampNeg))))[q]? = H[q]? := fun q hq => by simp [Array.getElem?_setIfInBounds, Ne.symm hq]
  obtain ⟨t, a1, b1⟩ := kk _ _ (fun q hq => by
      rcases List.mem_append.mp hq with h | h
      · exact Or.inl h
      · obtain ⟨z, -, hz⟩ := List.mem_map.mp h
        exact Or.inr (by rw [← hz])) (show (H.setIfInBounds a _)[a]? = some _ by simp [Array.getElem?_setIfInBounds, hl]) (by simp) oq _ hheap X'
  exact ⟨t, step t a1, b1⟩
end XCP
section SM3
variable {p : Program} {l : Launch} {e : Env} {R : Room} {s : State} {m : MethodId} {args : Array Value} {below : List Frame} {meth : Method} {c : Code} {H : Heap} {locs : List Loc} {cells slots : Nat} {Q : State → Prop}
variable {D : va_G} {cy : Nat → ClassId} {B mm pc c0 s0 : Nat} {lsM : Array Slot} {H0 : Heap} {w : Wd} {I : MI} {L : ML} {P : MP} {st : List Value}
theorem few {P : Cond → Prop} (h : ∀ w ∈ goodL, P w) {w : Cond} (hw : w ∈ [Cond.instanceMethod objectInit, Cond.code objectInit ⟨#[0xb1]⟩ 1 none, .static Lib.Math.min.name, .initialized "java/lang/Math", .code Lib.Math.min.name Lib.Math.min.code 2 (some .int), .native arraycopyName, .static arraycopyName, .initialized "java/lang/System", .arrayClass .int]) : P w :=
  h w (mem_goodL (few_ok w hw).1 (few_ok w hw).2)
set_option maxHeartbeats 4000000 in
theorem simM (hx : p.tables.exec = Jvm.exec) (hb : c.code = mB mm) (hown : s.vm.findClass (oN (mO mm)) = some m.cls) (hG : ∀ w ∈ goodL, w.before args s = true) (hSf : Sf D cy s) (hname : (mN mm).name = "<init>" → meth.name = "<init>") (hml : c.maxLocals = lsM.size) (hR : mF mm ≤ R.frames ∧ mW mm ≤ R.locals)
    (hH : Hp D cy B s H w I L P) (hS : va_S (wA B) H0 H locs) {i : Instr} {len : Nat} (hd : decode (mB mm) pc = .ok (i, len)) {n : M6} (h : stM mm pc i len st w I L P = some n)
    (hc : cells + c0 = w.2.2.1) (hs : slots + s0 = w.2.2.2) (hRc : n.2.2.1.2.2.1 ≤ R.cells + c0) (hRs : n.2.2.1.2.2.2 ≤ R.slots + s0)
    (k : ∀ (H1 : Heap) (locs1 : List Loc) (cells1 slots1 : Nat), Hp D cy B s H1 n.2.2.1 n.2.2.2.1 n.2.2.2.2.1 n.2.2.2.2.2 → va_S (wA B) H0 H1 locs1 → cells1 + c0 = n.2.2.1.2.2.1 → slots1 + s0 = n.2.2.1.2.2.2 → W p l e R s m args below meth c H1 locs1 cells1 slots1 Q (F0 m n.1 lsM n.2.1)) :
    W p l e R s m args below meth c H locs cells slots Q (F0 m pc lsM st) := by
  cases i with
  | getfield x =>
    simp only [stM] at h; replace h := ite_some_iff h; obtain ⟨rfl, h⟩ := h
    split at h
    · next a r =>
      split at h
      · next ci kk hf => replace h := ite_some_iff h; obtain ⟨hT, h⟩ := h; cases h; exact simM_get hx hb hown hG hSf hH hf hT hd (k _ _ _ _ hH hS hc hs)
      · cases h
    · cases h
  | putfield x =>
    simp only [stM] at h; replace h := ite_some_iff h; obtain ⟨rfl, h⟩ := h
    split at h
    · next v a r =>
      split at h
      · next ci kk hf =>
        replace h := ite_some_iff h; obtain ⟨⟨hT, hfin⟩, h⟩ := h
        split at h
        · next I' L' P' hv => cases h; exact simM_put hx hb hown hG hSf hname hH hS hf hT hfin hv hd (fun H1 locs1 q1 q2 => k _ _ _ _ q1 q2 hc hs)
        · cases h
      · cases h
    · cases h
  | iaload =>
    simp only [stM] at h; replace h := ite_some_iff h; obtain ⟨rfl, h⟩ := h
    split at h
    · next x a r =>
      split at h
      · next kd n hT =>
        replace h := ite_some_iff h; obtain ⟨⟨hk, hi⟩, h⟩ := h; cases h
        rcases hk with rfl | rfl
        · have hat := (hH.2.1 a 8 n hT (by omega)).1
          rw [cellE_int hT] at hat
          exact va_iald hx hb hSf.1 (one_P hat) 0 0 rfl rfl (inB_in hi) hd (k _ _ _ _ hH hS hc hs)
        · obtain ⟨hX, ha⟩ := hH.2.2.1 a n hT
          have hlt : a < H.size := by obtain ⟨scr, h1, -⟩ := hX; exact (Array.getElem?_eq_some_iff.mp h1).1
          exact va_sld (A := wA B) hx hb hX hlt (fun z => by unfold wA at z; omega) ⟨Nat.le_refl _, fun _ _ _ => rfl, hS.2.2⟩ (inB_in hi) hd (k _ _ _ _ hH hS hc hs)
      · cases h
    · cases h
  | laload => simp only [stM] at h; cases h
  | aaload =>
    simp only [stM] at h; replace h := ite_some_iff h; obtain ⟨rfl, h⟩ := h
    split at h
    · next x a r =>
      split at h
      · next kd n hT =>
        replace h := ite_some_iff h; obtain ⟨⟨⟨k1, k2⟩, hi⟩, h⟩ := h; cases h
        have hat := (hH.2.1 a kd n hT (by omega)).1
        rw [cellE_ref hT k1] at hat
        exact va_aldq hx hb hSf.1 (one_P hat) 0 (kd - 8) rfl (tys_at k1 k2) (inB_in hi) hd (k _ _ _ _ hH hS hc hs)
      · cases h
    · cases h
  | iastore =>
    simp only [stM] at h; replace h := ite_some_iff h; obtain ⟨rfl, h⟩ := h
    split at h
    · next v x a r =>
      split at h
      · next kd n hT =>
        replace h := ite_some_iff h; obtain ⟨⟨rfl, hi⟩, h⟩ := h; cases h
        obtain ⟨hat, hBa⟩ := hH.2.1 a 8 n hT (by omega)
        rw [cellE_int hT] at hat
        refine x_iast hx hb hSf.1 0 hat rfl (inB_in hi) hd (fun H1 j e1 e2 e3 => k _ _ _ _ (Hp_put hH hT (by omega) e2 e3 ?_ (fun b hb2 => by funext j; simp [updI, hb2]) (fun _ _ => rfl) (fun _ _ => rfl)) (hS.put e2 e3 hBa) hc hs)
        rw [cellE_int hT]
        show va_at D vwCl (a, .inl (cy 8, n, .inl (updI I a x.toNatClampNeg v a))) H1
        have e9 : updI I a x.toNatClampNeg v a = upd (I a) x.toNatClampNeg v := by funext j; simp [updI, upd]
        rw [e9]; exact e1
      · cases h
    · cases h
  | lastore => simp only [stM] at h; cases h
  | aastore =>
    simp only [stM] at h; replace h := ite_some_iff h; obtain ⟨rfl, h⟩ := h
    split at h
    · next v x a r =>
      split at h
      · next kd n hT =>
        replace h := ite_some_iff h; obtain ⟨⟨⟨k1, k2⟩, hv, hi⟩, h⟩ := h; cases h
        obtain ⟨hat, hBa⟩ := hH.2.1 a kd n hT (by omega)
        rw [cellE_ref hT k1] at hat
        have hav := (hH.2.1 v (kd - 10) 0 hv (by omega)).1
        rw [cellE_obj hv (by omega)] at hav
        refine x_astq (r := (oN (kd - 10), tN_ (kd - 10), nF (kd - 10))) hx hb hSf.1 (kd - 8) (kd - 10) hat (tys_at k1 k2) hav (vw_ok _ (by omega)) (inB_in hi) hd (fun H1 j e1 e2 e3 => k _ _ _ _ (Hp_put hH hT (by omega) e2 e3 ?_ (fun _ _ => rfl) (fun _ _ => rfl) (fun b hb2 => by funext j; simp [updP, hb2])) (hS.put e2 e3 hBa) hc hs)
        rw [cellE_ref hT k1]
        show va_at D vwCl (a, .inl (cy kd, n, .inr (.inr (.inr (.inr (updP P a x.toNatClampNeg (some v) a)))))) H1
        have e9 : updP P a x.toNatClampNeg (some v) a = va_up (P a) x.toNatClampNeg (some v) := by funext j; simp [updP, va_up]
        rw [e9]; exact e1
      · cases h
    · cases h
  | arraylength =>
    simp only [stM] at h; replace h := ite_some_iff h; obtain ⟨rfl, h⟩ := h
    split at h
    · next a r =>
      split at h
      · next kd n hT =>
        replace h := ite_some_iff h; obtain ⟨⟨k1, k2⟩, h⟩ := h; cases h
        by_cases h14 : kd = 14
        · subst h14
          obtain ⟨hX, ha⟩ := hH.2.2.1 a n hT
          have hlt : a < H.size := by obtain ⟨scr, h1, -⟩ := hX; exact (Array.getElem?_eq_some_iff.mp h1).1
          exact va_slen (A := wA B) hx hb hX hlt (fun z => by unfold wA at z; omega) ⟨Nat.le_refl _, fun _ _ _ => rfl, hS.2.2⟩ hd (k _ _ _ _ hH hS hc hs)
        · have hat := (hH.2.1 a kd n hT (by omega)).1
          by_cases h8 : kd = 8
          · subst h8
            rw [cellE_int hT] at hat
            exact va_alen hx hb hSf.1 (one_P hat) 0 0 rfl rfl rfl hd (k _ _ _ _ hH hS hc hs)
          · by_cases h9 : kd = 9
            · subst h9
              rw [cellE_long hT] at hat
              exact va_alen hx hb hSf.1 (one_P hat) 0 1 rfl rfl rfl hd (k _ _ _ _ hH hS hc hs)
            · rw [cellE_ref hT (by omega)] at hat
              exact va_alen hx hb hSf.1 (one_P hat) 0 (kd - 8) rfl (tys_at (by omega) (by omega)) rfl hd (k _ _ _ _ hH hS hc hs)
      · cases h
    · cases h
  | new x =>
    simp only [stM] at h; replace h := ite_some_iff h; obtain ⟨rfl, h⟩ := h
    split at h
    · next ci q hn hq =>
      replace h := ite_some_iff h; obtain ⟨h8, h⟩ := h; cases h
      have hq2 : q = H.size := hH.2.2.2.1 q hq
      have hcl := nR_ok hn
      rw [if_pos (by omega)] at hcl
      obtain ⟨i1, i2⟩ := iT_ok ci h8
      have hKn := hSf.1.1 ci _ (vw_ok ci h8)
      have hsz := Nat.le_trans hH.2.2.2.2.1 (Nat.le_refl _)
      subst hq2
      simp only [newT] at hRc hRs
      refine W.newcK hx hb hown (hG _ (mem_goodL hcl rfl)) (hG _ (mem_goodL (List.mem_of_getElem? i1) rfl)) (hG _ (mem_goodL (List.mem_of_getElem? i2) rfl)) rfl hd (by omega) (by omega) hKn.2.1 rfl fun H1 kC hkC e1 z1 o1 => ?_
      refine k H1 locs (cells + 1) (slots + nF ci) (Hp_push hH rfl (by omega) z1 o1 ?_ (fun b hb2 => by funext j; simp [rowI, hb2]) (fun b hb2 => by funext j; simp [rowL, hb2]) (fun b hb2 => by funext j; simp [rowP, hb2])) ⟨Nat.le_trans hS.1 (by omega), fun z g1 g2 => (o1 z (Nat.lt_of_lt_of_le g1 hS.1)).trans (hS.2.1 z g1 g2), hS.2.2⟩ (by simp only [newT]; omega) (by simp only [newT]; omega)
      rw [cellE_obj (n := 0) (by simp [newT]) h8]
      refine ⟨_, vw_ok ci h8, (u_born (tyN ci) hG (uws_ok ci h8) hKn hkC e1 (tyN_ok ci h8)).to (fun j hj => ?_)⟩
      rw [zero_ok ci h8 j hj]
      unfold vp_V
      rw [List.getD_eq_getElem?_getD, fsOf_get hj]
      have h3 : fK ci j < 4 := fK_lt ci h8 j hj
      have h4 : fK ci j = 0 ∨ fK ci j = 1 ∨ fK ci j = 2 ∨ fK ci j = 3 := by omega
      rcases h4 with h4 | h4 | h4 | h4 <;> rw [h4] <;> simp [fv, rowI, rowL, rowP, va_rf]
    · cases h
  | newarray ty =>
    cases ty with
    | int =>
      simp only [stM] at h; replace h := ite_some_iff h; obtain ⟨rfl, h⟩ := h
      split at h
      · next n r q hq =>
        replace h := ite_some_iff h; obtain ⟨⟨hn, hn2⟩, h⟩ := h; cases h
        have hq2 : q = H.size := hH.2.2.2.1 q hq
        have hsz := hH.2.2.2.2.1
        subst hq2
        simp only [newT] at hRc hRs
        refine va_newaK (atype := .int) hx hb (few hG (by simp [newarray.typeOf])) rfl hd rfl hn rfl (by simp only [newarray.typeOf, componentBytes]; omega) (by omega) (by omega) rfl fun H1 cA e1 z1 o1 hAr hNm => ?_
        have hcA : cA = cy 8 := by
          have hz := (hSf.1.2 0 (cy 8, .int) rfl).2
          exact Option.some.inj (hNm.symm.trans hz)
        subst hcA
        refine k H1 locs (cells + 1) (slots + n.toNatClampNeg) (Hp_push hH rfl (by omega) z1 o1 ?_ (fun b hb2 => by funext j; simp [rowI, hb2]) (fun _ _ => rfl) (fun _ _ => rfl)) ⟨Nat.le_trans hS.1 (by omega), fun z g1 g2 => (o1 z (Nat.lt_of_lt_of_le g1 hS.1)).trans (hS.2.1 z g1 g2), hS.2.2⟩ (by simp only [newT]; omega) (by simp only [newT]; omega)
        rw [cellE_int (n := n.toNatClampNeg) (by simp [newT])]
        show H1[H.size]? = some (vp_cell _ _)
        rw [vp_cell_i, e1]
        congr 2
        funext j
        simp [rowI, newarray.typeOf, defaultValue]
      · cases h
    | _ => simp only [stM] at h; cases h
  | anewarray x =>
    simp only [stM] at h; replace h := ite_some_iff h; obtain ⟨rfl, h⟩ := h
    split at h
    · next ci n r q hn0 hq =>
      replace h := ite_some_iff h; obtain ⟨⟨h4, hn, hn2⟩, h⟩ := h; cases h
      have hq2 : q = H.size := hH.2.2.2.1 q hq
      have hsz := hH.2.2.2.2.1
      have hcl := nR_ok hn0
      rw [if_pos (by omega)] at hcl
      subst hq2
      simp only [newT] at hRc hRs
      refine W.anew hx hb hown (hG _ (mem_goodL hcl rfl)) (va_AO.use (hSf.2.2.1 ci h4)) rfl hd rfl hn (by omega) (by omega) (by omega) fun cA kA comp f1 f2 f3 f4 => ?_
      generalize hH1 : H.push ({ cls := cA, slots := Array.replicate n.toNatClampNeg .null, vm := .none } : Cell) = H1
      have z1 : H1.size = H.size + 1 := by rw [← hH1, Array.size_push]
      have e1 : H1[H.size]? = some (arrV cA n.toNatClampNeg (fun _ => .null)) := by rw [← hH1, Array.getElem?_push_size, ← arrV_new]
      have o1 : ∀ q : Nat, q < H.size → H1[q]? = H[q]? := fun q hq => by rw [← hH1, Array.getElem?_push, if_neg (Nat.ne_of_lt hq)]
      have hcA : cA = cy (10 + ci) := by
        have hz := (hSf.1.2 (10 + ci - 8) _ (tys_at (cy := cy) (k := 10 + ci) (by omega) (by omega))).2
        obtain ⟨-, -, -, -, -, hz⟩ := hz
        rw [show 10 + ci - 10 = ci by omega] at hz
        exact Option.some.inj (f1.symm.trans hz)
      subst hcA
      refine k H1 locs (cells + 1) (slots + n.toNatClampNeg) (Hp_push hH rfl (by omega) z1 o1 ?_ (fun _ _ => rfl) (fun _ _ => rfl) (fun b hb2 => by funext j; simp [rowP, hb2])) ⟨Nat.le_trans hS.1 (by omega), fun z g1 g2 => (o1 z (Nat.lt_of_lt_of_le g1 hS.1)).trans (hS.2.1 z g1 g2), hS.2.2⟩ (by simp only [newT]; omega) (by simp only [newT]; omega)
      rw [cellE_ref (n := n.toNatClampNeg) (k := 10 + ci) (by simp [newT]) (by omega)]
      show H1[H.size]? = some (vp_cell _ _)
      rw [vp_cell_q, e1]
      congr 2
      funext j
      simp [rowP, va_rf]
    · cases h
  | invokespecial x =>
    simp only [stM] at h; replace h := ite_some_iff h; obtain ⟨rfl, h⟩ := h
    split at h
    · next y a r hcr =>
      replace h := ite_some_iff h; obtain ⟨⟨h1, h2⟩, h⟩ := h; cases h
      obtain ⟨nn, hw⟩ := cR_ok hcr
      have hcl := cat_len r
      refine W.objInit hx hb hown (hG _ (mem_goodL hw rfl)) (few hG (by simp)) (few hG (by simp)) rfl hml.symm rfl hd (by omega) (by show 2 * 0 + _ + 12 ≤ _; omega) ?_
      exact W.eq rfl (k _ _ _ _ hH hS hc hs)
    · cases h
  | invokestatic x =>
    simp only [stM] at h; replace h := ite_some_iff h; obtain ⟨rfl, h⟩ := h
    split at h
    · next yy y x r hcr =>
      replace h := ite_some_iff h; obtain ⟨⟨h1, h2⟩, h⟩ := h; cases h
      obtain ⟨nn, hw⟩ := cR_ok hcr
      have hcl := cat_len r
      dsimp only at hRc hRs
      exact va_mmin hx hb hml hown (hG _ (mem_goodL hw rfl)) (few hG (by simp)) (few hG (by simp)) (few hG (by simp)) (by omega) (by omega) (by omega) (by omega) hd (k _ _ _ _ hH hS hc hs)
    · next yy n dp a1 sp a0 r hcr =>
      split at h
      · next n0 n1 hT0 hT1 =>
        replace h := ite_some_iff h; obtain ⟨⟨h1, h2, g1, g2, g3, g4, g5⟩, h⟩ := h; cases h
        obtain ⟨nn, hw⟩ := cR_ok hcr
        have hcl := cat_len r
        have hat0 := (hH.2.1 a0 8 n0 hT0 (by omega)).1
        rw [cellE_int hT0] at hat0
        obtain ⟨hat1, hB1⟩ := hH.2.1 a1 8 n1 hT1 (by omega)
        rw [cellE_int hT1] at hat1
        refine x_copyi hx hb hml hown (hG _ (mem_goodL hw rfl)) (few hG (by simp)) (few hG (by simp)) (few hG (by simp)) hSf.1 0 hat0 hat1 rfl g1 g2 g3 g4 g5 (by omega) (by rw [show nativeFrameWords "java/lang/System" "arraycopy" 5 + 11 = 18 from by decide +kernel]; omega) hd (fun H1 locs1 hlo e1 e2 e3 => k _ _ _ _ (Hp_put hH hT1 (by omega) e2 e3 ?_ (fun b hb2 => by funext j; simp [cpyI, hb2]) (fun _ _ => rfl) (fun _ _ => rfl)) ⟨by rw [e2]; exact hS.1, fun q z1 z2 => by rw [e3 q (fun z => z2 (by rw [z]; exact hB1))]; exact hS.2.1 q z1 z2, fun q hq => by
          rcases hlo q hq with hq | hq
          · exact hS.2.2 q hq
          · rw [hq]; exact hB1⟩ hc hs)
        rw [cellE_int hT1]
        show va_at D vwCl (a1, .inl (cy 8, n1, .inl (cpyI I a0 sp.toNatClampNeg a1 dp.toNatClampNeg n.toNatClampNeg a1))) H1
        have e9 : cpyI I a0 sp.toNatClampNeg a1 dp.toNatClampNeg n.toNatClampNeg a1 = va_cpy (I a0) (I a1) sp.toNatClampNeg dp.toNatClampNeg n.toNatClampNeg := by funext j; simp [cpyI, va_cpy]
        rw [e9]; exact e1
      · cases h
    · cases h
  | _ => simp only [stM] at h; cases h
end SM3
