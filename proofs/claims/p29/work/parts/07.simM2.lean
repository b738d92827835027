def cWord (e : Nat × Nat × Nat × Nat × Nat) : Cond := match e.2.2.2.1 with
  | 7 => .methodLink (oN e.1) e.2.1 objectInit
  | 8 => .methodLink (oN e.1) e.2.1 Lib.Math.min.name
  | 9 => .methodLink (oN e.1) e.2.1 arraycopyName
  | 1 => .methodLinkNest (oN e.1) e.2.1 (mN e.2.2.1) "TwoWires"
  | 3 => .methodLinkNest (oN e.1) e.2.1 (mN e.2.2.1) "TwoWires"
  | 6 => .methodLinkNest (oN e.1) e.2.1 (mN e.2.2.1) "TwoWires"
  | _ => .methodLink (oN e.1) e.2.1 (mN e.2.2.1)
theorem cT_ok : ∀ e ∈ cT, lw_tbl[e.2.2.2.2]? = some (cWord e) := by decide +kernel
theorem cR_ok {o i y kd : Nat} (h : cR o i = some (y, kd)) : ∃ n, cWord (o, i, y, kd, n) ∈ lw_tbl := by
  obtain ⟨e, he, hp, hv⟩ := find_map_inv h
  obtain ⟨rfl, rfl⟩ := key_inv hp
  have h4 := cT_ok e he
  obtain ⟨e1, e2, e3, e4, e5⟩ := e
  cases hv
  exact ⟨e5, List.mem_of_getElem? h4⟩
theorem nT_ok : ∀ e ∈ nT, lw_tbl[e.2.2.2]? = some (.classLink (oN e.1) e.2.1 (if e.2.2.1 < 100 then oN e.2.2.1 else eN (e.2.2.1 - 100))) := by decide +kernel
theorem nR_ok {o i ci : Nat} (h : nR o i = some ci) : Cond.classLink (oN o) i (if ci < 100 then oN ci else eN (ci - 100)) ∈ lw_tbl := by
  obtain ⟨e, he, hp, rfl⟩ := find_map_inv h
  obtain ⟨rfl, rfl⟩ := key_inv hp
  exact List.mem_of_getElem? (nT_ok e he)
theorem iT_ok : ∀ ci, ci < 8 → lw_tbl[(iT.getD ci (0, 0)).1]? = some (.instantiable (oN ci) (nF ci)) ∧ lw_tbl[(iT.getD ci (0, 0)).2]? = some (.initialized (oN ci)) := by decide +kernel
theorem few_ok : ∀ w ∈ [Cond.instanceMethod objectInit, Cond.code objectInit ⟨#[0xb1]⟩ 1 none, .static Lib.Math.min.name, .initialized "java/lang/Math", .code Lib.Math.min.name Lib.Math.min.code 2 (some .int), .native arraycopyName, .static arraycopyName, .initialized "java/lang/System", .arrayClass .int], w ∈ lw_tbl ∧ goodWord w = true := by decide +kernel
theorem zero_ok : ∀ ci, ci < 8 → ∀ j, j < nF ci → defaultValue (tyN ci j) = (match fK ci j with | 0 => Value.int 0 | 1 => .int 0 | 2 => .long 0 | _ => .null) := by decide +kernel
theorem cat_len (r : List Value) : (r.map fun v => v.category).sum ≤ 2 * r.length := by
  induction r with
  | nil => simp
  | cons v r ih =>
    have : v.category ≤ 2 := by cases v <;> simp [Value.category]
    simp only [List.map_cons, List.sum_cons, List.length_cons]
    omega
theorem mem_goodL {w : Cond} (h : w ∈ lw_tbl) (g : goodWord w = true) : w ∈ goodL := List.mem_filter.mpr ⟨h, g⟩
section SM
variable {p : Program} {l : Launch} {e : Env} {R : Room} {s : State} {m : MethodId} {args : Array Value} {below : List Frame} {meth : Method} {c : Code} {H : Heap} {locs : List Loc} {cells slots : Nat} {Q : State → Prop}
variable {D : va_G} {cy : Nat → ClassId} {B mm pc c0 s0 : Nat} {lsM : Array Slot} {H0 : Heap} {w : Wd} {I : MI} {L : ML} {P : MP} {st : List Value}
theorem simM_get (hx : p.tables.exec = Jvm.exec) (hb : c.code = mB mm) (hown : s.vm.findClass (oN (mO mm)) = some m.cls) (hG : ∀ w ∈ goodL, w.before args s = true) (hSf : Sf D cy s) (hH : Hp D cy B s H w I L P) {x a ci k : Nat} {r : List Value} (hf : fR (mO mm) x = some (ci, k)) (hT : w.1 a = some (ci, 0)) (hd : decode (mB mm) pc = .ok (.getfield x, 3))
    (kk : W p l e R s m args below meth c H locs cells slots Q (F0 m (pc + 3) lsM (fv I L P (fK ci k) a k :: r))) : W p l e R s m args below meth c H locs cells slots Q (F0 m pc lsM (.ref a :: r)) := by
  obtain ⟨h8, hk, hw⟩ := fR_ok hf
  have hat := (hH.2.1 a ci 0 hT (by omega)).1
  rw [cellE_obj hT h8] at hat
  rcases hw with ⟨-, hw⟩ | hw
  · exact va_getN (host := "TwoWires") hx hb hG (uws_ok ci h8) hown hSf.1 (one_P hat) 0 rfl (vw_ok ci h8) k hk (va_Nw.use rfl (hSf.2.1 _ hw rfl)) (fun _ h9 => h9) (fsOf_get hk) hd kk
  · exact va_get hx hb hG (uws_ok ci h8) hown hSf.1 (one_P hat) 0 rfl (vw_ok ci h8) k hk (hG _ (mem_goodL hw rfl)) (fun _ h9 => h9) (fsOf_get hk) hd kk
theorem putV_inv {t a k : Nat} {v : Value} {r : MI × ML × MP} (h : putV w I L P t a k v = some r) : (t = 0 ∧ ∃ x, v = .int x ∧ r = (updI I a k x, L, P)) ∨ (t = 1 ∧ ∃ x, v = .int x ∧ x &&& 1 = x ∧ r = (updI I a k x, L, P)) ∨ (t = 2 ∧ ∃ x, v = .long x ∧ r = (I, updL L a k x, P)) ∨ (t = 3 ∧ ((∃ q, v = .ref q ∧ r = (I, L, updP P a k (some q))) ∨ (v = .null ∧ r = (I, L, updP P a k none)))) := by
  unfold putV at h
  split at h
  · cases h; exact Or.inl ⟨rfl, _, rfl, rfl⟩
  · next x => obtain ⟨h1, h2⟩ := ite_some_iff h; cases h2; exact Or.inr (Or.inl ⟨rfl, x, rfl, h1, rfl⟩)
  · cases h; exact Or.inr (Or.inr (Or.inl ⟨rfl, _, rfl, rfl⟩))
  · cases h; exact Or.inr (Or.inr (Or.inr ⟨rfl, Or.inl ⟨_, rfl, rfl⟩⟩))
  · cases h; exact Or.inr (Or.inr (Or.inr ⟨rfl, Or.inr ⟨rfl, rfl⟩⟩))
  · cases h
theorem kty_cases {ty : FieldType} {t : Nat} (h : ktyOf ty = t) (h4 : t < 4) : (t = 0 ∧ ty = .int) ∨ (t = 1 ∧ ty = .boolean) ∨ (t = 2 ∧ ty = .long) ∨ (t = 3 ∧ ((∃ C, ty = .object C) ∨ ∃ u, ty = .array u)) := by
  cases ty <;> simp [ktyOf] at h <;> first | omega | (subst h; simp)
/-- what a put does: the value is one that the field may hold, the rows are written at this place alone, and stand for it -/
theorem putV_ok {ci k a : Nat} {v : Value} {r : MI × ML × MP} (h8 : ci < 8) (hk : k < nF ci) (h : putV w I L P (fK ci k) a k v = some r) :
    narrow (tyN ci k) v = v ∧ fits (tyN ci k) v = true ∧ (∀ b, b ≠ a → r.1 b = I b) ∧ (∀ b, b ≠ a → r.2.1 b = L b) ∧ (∀ b, b ≠ a → r.2.2 b = P b) ∧ fsOf r.1 r.2.1 r.2.2 ci a = (fsOf I L P ci a).set k v := by
  have hkt := kty_ok ci h8 k hk
  have key : ∀ (I' : MI) (L' : ML) (P' : MP), (∀ j, j ≠ k → I' a j = I a j) → (∀ j, j ≠ k → L' a j = L a j) → (∀ j, j ≠ k → P' a j = P a j) → fv I' L' P' (fK ci k) a k = v → fsOf I' L' P' ci a = (fsOf I L P ci a).set k v := by
    intro I' L' P' e1 e2 e3 e4
    apply List.ext_getElem?
    intro j
    by_cases hj : j = k
    · subst hj
      rw [List.getElem?_set_self (by rw [fsOf_len]; exact hk), fsOf_get hk, e4]
    · rw [List.getElem?_set_ne (Ne.symm hj)]
      by_cases hjn : j < nF ci
      · rw [fsOf_get hjn, fsOf_get hjn]
        simp only [fv, e1 j hj, e2 j hj, e3 j hj]
      · rw [List.getElem?_eq_none (by rw [fsOf_len]; omega), List.getElem?_eq_none (by rw [fsOf_len]; omega)]
  rcases putV_inv h with ⟨h0, x, rfl, rfl⟩ | ⟨h0, x, rfl, hx, rfl⟩ | ⟨h0, x, rfl, rfl⟩ | ⟨h0, ⟨q, rfl, rfl⟩ | ⟨rfl, rfl⟩⟩ <;> rw [h0] at hkt <;> rcases kty_cases hkt (by omega) with ⟨g, ht⟩ | ⟨g, ht⟩ | ⟨g, ht⟩ | ⟨g, ht⟩ <;> first | (exfalso; omega) | skip
  · rw [ht]
    exact ⟨rfl, rfl, fun b hb => by funext j; simp [updI, hb], fun _ _ => rfl, fun _ _ => rfl, key _ _ _ (fun j hj => by simp [updI, hj]) (fun _ _ => rfl) (fun _ _ => rfl) (by rw [h0]; simp [fv, updI])⟩
  · rw [ht]
    refine ⟨by show Value.int (x &&& 1) = _; rw [hx], ?_, fun b hb => by funext j; simp [updI, hb], fun _ _ => rfl, fun _ _ => rfl, key _ _ _ (fun j hj => by simp [updI, hj]) (fun _ _ => rfl) (fun _ _ => rfl) (by rw [h0]; simp [fv, updI, hx])⟩
    rcases and1 x hx with rfl | rfl <;> rfl
  · rw [ht]
    exact ⟨rfl, rfl, fun _ _ => rfl, fun b hb => by funext j; simp [updL, hb], fun _ _ => rfl, key _ _ _ (fun _ _ => rfl) (fun j hj => by simp [updL, hj]) (fun _ _ => rfl) (by rw [h0]; simp [fv, updL])⟩
  · rcases ht with ⟨C, ht⟩ | ⟨C, ht⟩ <;> rw [ht] <;>
      exact ⟨rfl, rfl, fun _ _ => rfl, fun _ _ => rfl, fun b hb => by funext j; simp [updP, hb], key _ _ _ (fun _ _ => rfl) (fun _ _ => rfl) (fun j hj => by simp [updP, hj]) (by rw [h0]; simp [fv, updP, va_rf])⟩
  · rcases ht with ⟨C, ht⟩ | ⟨C, ht⟩ <;> rw [ht] <;>
      exact ⟨rfl, rfl, fun _ _ => rfl, fun _ _ => rfl, fun b hb => by funext j; simp [updP, hb], key _ _ _ (fun _ _ => rfl) (fun _ _ => rfl) (fun j hj => by simp [updP, hj]) (by rw [h0]; simp [fv, updP, va_rf])⟩
theorem simM_put (hx : p.tables.exec = Jvm.exec) (hb : c.code = mB mm) (hown : s.vm.findClass (oN (mO mm)) = some m.cls) (hG : ∀ w ∈ goodL, w.before args s = true) (hSf : Sf D cy s) (hname : (mN mm).name = "<init>" → meth.name = "<init>") (hH : Hp D cy B s H w I L P) (hS : va_S (wA B) H0 H locs) {x a ci k : Nat} {v : Value} {r : List Value} {o : MI × ML × MP} (hf : fR (mO mm) x = some (ci, k)) (hT : w.1 a = some (ci, 0)) (hfin : finOk mm ci k = true) (hv : putV w I L P (fK ci k) a k v = some o) (hd : decode (mB mm) pc = .ok (.putfield x, 3))
    (kk : ∀ (H1 : Heap) (locs1 : List Loc), Hp D cy B s H1 w o.1 o.2.1 o.2.2 → va_S (wA B) H0 H1 locs1 → W p l e R s m args below meth c H1 locs1 cells slots Q (F0 m (pc + 3) lsM r)) : W p l e R s m args below meth c H locs cells slots Q (F0 m pc lsM (v :: .ref a :: r)) := by
  obtain ⟨h8, hk, hw⟩ := fR_ok hf
  obtain ⟨hat, hBa⟩ := hH.2.1 a ci 0 hT (by omega)
  have hat0 := hat
  rw [cellE_obj hT h8] at hat
  obtain ⟨g1, g2, g3, g4, g5, g6⟩ := putV_ok h8 hk hv
  have fin : ∀ (H1 : Heap) (j : Nat), va_at D vwCl (a, .inr (ci, (fsOf I L P ci a).set k v)) H1 → H1.size = H.size → (∀ q : Nat, q ≠ a → H1[q]? = H[q]?) → W p l e R s m args below meth c H1 (locs ++ [⟨a, j⟩]) cells slots Q (F0 m (pc + 3) lsM r) := by
    intro H1 j e1 e2 e3
    refine kk H1 _ (Hp_put hH hT (by omega) e2 e3 ?_ g3 g4 g5) (hS.put e2 e3 hBa)
    rw [cellE_obj hT h8, g6]
    exact e1
  have hlen : k < (fsOf I L P ci a).length := by rw [fsOf_len]; exact hk
  cases hff : (tN_ ci k).2.2.2 with
  | false =>
    rcases hw with ⟨-, hw⟩ | hw
    · exact x_putN (host := "TwoWires") hx hb hG (uws_ok ci h8) (tyN ci) (tyN_ok ci h8) (nm_ok ci h8) hown hSf.1 hat (vw_ok ci h8) k hk (va_Nw.use rfl (hSf.2.1 _ hw rfl)) (fun _ h9 => h9) hff (tyN_ok ci h8 k hk) g1 g2 hlen hd fin
    · exact x_put hx hb hG (uws_ok ci h8) (tyN ci) (tyN_ok ci h8) (nm_ok ci h8) hown hSf.1 hat (vw_ok ci h8) k hk (hG _ (mem_goodL hw rfl)) (fun _ h9 => h9) hff (tyN_ok ci h8 k hk) g1 g2 hlen hd fin
  | true =>
    unfold finOk at hfin
    rw [hff] at hfin
    simp only [Bool.not_true, Bool.false_or, Bool.and_eq_true, beq_iff_eq] at hfin
    rcases hw with ⟨hne, hw⟩ | hw
    · exact absurd hfin.2 hne
    · exact x_putF hx hb hG (uws_ok ci h8) (tyN ci) (tyN_ok ci h8) (nm_ok ci h8) hown hSf.1 hat (vw_ok ci h8) k hk (hG _ (mem_goodL hw rfl)) (fun _ h9 => h9) hff (hname hfin.1) (by rw [own_ok ci h8 k hk, hfin.2]) (tyN_ok ci h8 k hk) g1 g2 hlen hd fin
end SM
