-- the cells that the plain machine's rows stand for
def tysL (cy : Nat → ClassId) : List (ClassId × FieldType) := [(cy 8, .int), (cy 9, .int), (cy 10, .object RX0), (cy 11, .object RX1), (cy 12, .object RX2), (cy 13, .object RX3)]
def fsOf (I : MI) (L : ML) (P : MP) (ci a : Nat) : List Value := (List.range (nF ci)).map (fun j => fv I L P (fK ci j) a j)
def cellE (cy : Nat → ClassId) (w : Wd) (I : MI) (L : ML) (P : MP) (a : Nat) : va_E := match w.1 a with
  | some (k, n) => if k < 8 then .inr (k, fsOf I L P k a) else if k = 8 then .inl (cy 8, n, .inl (I a)) else if k = 9 then .inl (cy 9, n, .inr (.inl (L a))) else .inl (cy k, n, .inr (.inr (.inr (.inr (P a)))))
  | none => .inl (0, 0, .inl (I a))
def wA (B : Nat) : Nat → Prop := fun q => B ≤ q
def Hp (D : va_G) (cy : Nat → ClassId) (B : Nat) (s : State) (H : Heap) (w : Wd) (I : MI) (L : ML) (P : MP) : Prop :=
  (∀ a k n, w.1 a = some (k, n) → k < 15) ∧ (∀ a k n, w.1 a = some (k, n) → k < 14 → va_at D vwCl (a, cellE cy w I L P a) H ∧ B ≤ a) ∧
  (∀ a n, w.1 a = some (14, n) → va_X a n (I a) s H ∧ a < B) ∧ (∀ q, w.2.1 = some q → q = H.size) ∧ B ≤ H.size ∧
  vx_Zq Bundle.tN "UNASSIGNED_STACK" Bundle.steD (wA B) s H ∧ vx_Zq Bundle.tN "SUPPRESSED_SENTINEL" Bundle.listD (wA B) s H
theorem one_P {D : va_G} {cl : List vw_C} {q : Nat × va_E} {H : Heap} (h : va_at D cl q H) : va_P D cl [q] H := by
  intro k z hz
  cases k with
  | zero => cases hz; exact h
  | succ k => cases hz
def goodL : List Cond := lw_tbl.filter goodWord
theorem uws_ok : ∀ ci, ci < 8 → ∀ w ∈ u_ws (oN ci) (tN_ ci) (nF ci), w ∈ goodL := by decide +kernel
theorem vw_ok : ∀ ci, ci < 8 → vwCl[ci]? = some (oN ci, tN_ ci, nF ci) := by
  intro ci h
  have h9 : ci = 0 ∨ ci = 1 ∨ ci = 2 ∨ ci = 3 ∨ ci = 4 ∨ ci = 5 ∨ ci = 6 ∨ ci = 7 := by omega
  rcases h9 with rfl | rfl | rfl | rfl | rfl | rfl | rfl | rfl <;> rfl
def tyN : Nat → Nat → FieldType := fun k => match k with | 0 => tyX0 | 1 => tyX1 | 2 => tyX2 | 3 => tyX3 | 4 => tyX4 | 5 => tyX5 | 6 => tyX6 | _ => tyX6
theorem tyN_ok : ∀ ci, ci < 8 → ∀ k, k < nF ci → parseFieldDescriptor (tN_ ci k).2.2.1 = some (tyN ci k) := by
  intro ci h
  have h9 : ci = 0 ∨ ci = 1 ∨ ci = 2 ∨ ci = 3 ∨ ci = 4 ∨ ci = 5 ∨ ci = 6 ∨ ci = 7 := by omega
  rcases h9 with rfl | rfl | rfl | rfl | rfl | rfl | rfl | rfl
  · exact tyX0_ok
  · exact tyX1_ok
  · exact tyX2_ok
  · exact tyX3_ok
  · exact tyX4_ok
  · exact tyX5_ok
  · exact tyX6_ok
  · exact tyX6_ok
theorem nm_ok : ∀ ci, ci < 8 → ∀ a, a < nF ci → ∀ b, b < nF ci → a ≠ b → (tN_ ci a).2.1 ≠ (tN_ ci b).2.1 := by
  intro ci h
  have h9 : ci = 0 ∨ ci = 1 ∨ ci = 2 ∨ ci = 3 ∨ ci = 4 ∨ ci = 5 ∨ ci = 6 ∨ ci = 7 := by omega
  rcases h9 with rfl | rfl | rfl | rfl | rfl | rfl | rfl | rfl
  · exact nmX0
  · exact nmX1
  · exact nmX2
  · exact nmX3
  · exact nmX4
  · exact nmX5
  · exact nmX6
  · exact nmX6
def ktyOf : FieldType → Nat
  | .int => 0
  | .boolean => 1
  | .long => 2
  | .object _ => 3
  | .array _ => 3
  | _ => 9
theorem kty_ok : ∀ ci, ci < 8 → ∀ k, k < nF ci → ktyOf (tyN ci k) = fK ci k := by decide +kernel
theorem own_ok : ∀ ci, ci < 8 → ∀ k, k < nF ci → (tN_ ci k).1 = oN ci := by decide +kernel
def fWord (e : Nat × Nat × Nat × Nat × Nat × Bool) : Cond := if e.2.2.2.2.2 = true then .fieldLinkNest (oN e.1) e.2.1 (tN_ e.2.2.1 e.2.2.2.1).1 (tN_ e.2.2.1 e.2.2.2.1).2.1 (tN_ e.2.2.1 e.2.2.2.1).2.2.1 "TwoWires" else .fieldLink (oN e.1) e.2.1 (tN_ e.2.2.1 e.2.2.2.1).1 (tN_ e.2.2.1 e.2.2.2.1).2.1 (tN_ e.2.2.1 e.2.2.2.1).2.2.1
theorem fT_ok : ∀ e ∈ fT, e.2.2.1 < 8 ∧ e.2.2.2.1 < nF e.2.2.1 ∧ (e.2.2.2.2.2 = true → e.1 ≠ e.2.2.1) ∧ lw_tbl[e.2.2.2.2.1]? = some (fWord e) := by decide +kernel
/-- what a field's row of the tables says -/
theorem fR_ok {o i ci k : Nat} (h : fR o i = some (ci, k)) : ci < 8 ∧ k < nF ci ∧ ((o ≠ ci ∧ Cond.fieldLinkNest (oN o) i (tN_ ci k).1 (tN_ ci k).2.1 (tN_ ci k).2.2.1 "TwoWires" ∈ lw_tbl) ∨ Cond.fieldLink (oN o) i (tN_ ci k).1 (tN_ ci k).2.1 (tN_ ci k).2.2.1 ∈ lw_tbl) := by
  obtain ⟨e, he, hp, hv⟩ := find_map_inv h
  obtain ⟨rfl, rfl⟩ := key_inv hp
  obtain ⟨h1, h2, h3, h4⟩ := fT_ok e he
  obtain ⟨e1, e2, e3, e4, e5, e6⟩ := e
  cases hv
  refine ⟨h1, h2, ?_⟩
  cases e6 with
  | true => exact Or.inl ⟨h3 rfl, List.mem_of_getElem? h4⟩
  | false => exact Or.inr (List.mem_of_getElem? h4)
def isNest (w : Cond) : Bool := match w with | .fieldLinkNest .. => true | .methodLinkNest .. => true | .declares _ => true | _ => false
/-- what stays as long as the tables stay: the classes' places, the words that only tables tell -/
def Sf (D : va_G) (cy : Nat → ClassId) (s : State) : Prop :=
  va_K D vwCl (tysL cy) s ∧ (∀ w ∈ lw_tbl, isNest w = true → va_Nw w s) ∧ (∀ ci, ci < 4 → va_AO (oN ci) s) ∧
  (∀ x ∈ sT, ∃ a, vk_R (oN x.1) x.2.1 x.2.2.1 a s) ∧ (∀ i, i < 3 → ∀ j, j < 3 → if i = j then va_Nw (.castable (eN i) (eN j)) s else va_Nc (eN i) (eN j) s)
theorem fsOf_get {I : MI} {L : ML} {P : MP} {ci a k : Nat} (h : k < nF ci) : (fsOf I L P ci a)[k]? = some (fv I L P (fK ci k) a k) := by
  simp [fsOf, h]
theorem fsOf_len {I : MI} {L : ML} {P : MP} {ci a : Nat} : (fsOf I L P ci a).length = nF ci := by simp [fsOf]
theorem cellE_obj {cy : Nat → ClassId} {w : Wd} {I : MI} {L : ML} {P : MP} {a ci n : Nat} (h : w.1 a = some (ci, n)) (h8 : ci < 8) : cellE cy w I L P a = .inr (ci, fsOf I L P ci a) := by
  unfold cellE; rw [h]; simp [h8]
theorem cellE_int {cy : Nat → ClassId} {w : Wd} {I : MI} {L : ML} {P : MP} {a n : Nat} (h : w.1 a = some (8, n)) : cellE cy w I L P a = .inl (cy 8, n, .inl (I a)) := by
  unfold cellE; rw [h]; simp
theorem cellE_long {cy : Nat → ClassId} {w : Wd} {I : MI} {L : ML} {P : MP} {a n : Nat} (h : w.1 a = some (9, n)) : cellE cy w I L P a = .inl (cy 9, n, .inr (.inl (L a))) := by
  unfold cellE; rw [h]; simp
theorem cellE_ref {cy : Nat → ClassId} {w : Wd} {I : MI} {L : ML} {P : MP} {a n k : Nat} (h : w.1 a = some (k, n)) (h1 : 10 ≤ k) : cellE cy w I L P a = .inl (cy k, n, .inr (.inr (.inr (.inr (P a))))) := by
  unfold cellE; rw [h]
  have a1 : ¬ k < 8 := by omega
  have a2 : ¬ k = 8 := by omega
  have a3 : ¬ k = 9 := by omega
  simp [a1, a2, a3]
theorem tys_at {cy : Nat → ClassId} {k : Nat} (h1 : 10 ≤ k) (h2 : k < 14) : (tysL cy)[k - 8]? = some (cy k, .object (oN (k - 10))) := by
  have h9 : k = 10 ∨ k = 11 ∨ k = 12 ∨ k = 13 := by omega
  rcases h9 with rfl | rfl | rfl | rfl <;> rfl
theorem inB_in {x : Int32} {n : Nat} (h : inB x n = true) : vp_in x n := by
  unfold inB at h; unfold vp_in
  simpa using h
theorem and1 (x : Int32) (h : x &&& 1 = x) : x = 0 ∨ x = 1 := by
  have h1 : x.toBitVec &&& 1#32 = x.toBitVec := by
    have := congrArg Int32.toBitVec h
    simpa using this
  have h2 : x.toBitVec.toNat % 2 = x.toBitVec.toNat := by
    have h3 := congrArg BitVec.toNat h1
    rw [BitVec.toNat_and] at h3
    have h4 : (1#32).toNat = 1 := rfl
    rw [h4, Nat.and_one_is_mod] at h3
    exact h3
  have h5 : x.toBitVec.toNat = 0 ∨ x.toBitVec.toNat = 1 := by omega
  rcases h5 with h5 | h5
  · left
    apply Int32.toBitVec_inj.mp
    apply BitVec.eq_of_toNat_eq
    rw [h5]; rfl
  · right
    apply Int32.toBitVec_inj.mp
    apply BitVec.eq_of_toNat_eq
    rw [h5]; rfl
/-- the heap with one cell written anew -/
theorem Hp_put {D : va_G} {cy : Nat → ClassId} {B : Nat} {s : State} {H H1 : Heap} {w : Wd} {I I' : MI} {L L' : ML} {P P' : MP} (h : Hp D cy B s H w I L P) {a k n : Nat} (ha : w.1 a = some (k, n)) (hk : k < 14) (hz : H1.size = H.size) (oq : ∀ q : Nat, q ≠ a → H1[q]? = H[q]?)
    (hat : va_at D vwCl (a, cellE cy w I' L' P' a) H1) (hI : ∀ b, b ≠ a → I' b = I b) (hL : ∀ b, b ≠ a → L' b = L b) (hP : ∀ b, b ≠ a → P' b = P b) : Hp D cy B s H1 w I' L' P' := by
  obtain ⟨g0, g1, g2, g3, g4, g5, g6⟩ := h
  have hBa : B ≤ a := (g1 a k n ha hk).2
  have kp : ∀ q : Nat, q < H.size → ¬ wA B q → H1[q]? = H[q]? := fun q _ hq => oq q (fun z => hq (by rw [z]; exact hBa))
  refine ⟨g0, fun b k2 n2 hb hk2 => ?_, fun b n2 hb => ?_, fun q hq => by rw [hz]; exact g3 q hq, by rw [hz]; exact g4, g5.kept kp, g6.kept kp⟩
  · by_cases hba : b = a
    · subst hba; exact ⟨hat, hBa⟩
    · obtain ⟨q1, q2⟩ := g1 b k2 n2 hb hk2
      refine ⟨?_, q2⟩
      have e : cellE cy w I' L' P' b = cellE cy w I L P b := by
        unfold cellE
        rw [hb]
        simp only [fsOf, fv, hI b hba, hL b hba, hP b hba]
      rw [e]
      exact q1.kept (oq b hba)
  · have hba : b ≠ a := fun z => by rw [z, ha] at hb; cases hb; omega
    obtain ⟨q1, q2⟩ := g2 b n2 hb
    refine ⟨?_, q2⟩
    rw [hI b hba]
    exact q1.kept (oq b hba)
theorem Hp_push {D : va_G} {cy : Nat → ClassId} {B : Nat} {s : State} {H H1 : Heap} {w : Wd} {I I' : MI} {L L' : ML} {P P' : MP} {q k n sl : Nat} (h : Hp D cy B s H w I L P) (hq : q = H.size) (hk : k < 14) (hz : H1.size = H.size + 1) (oq : ∀ z : Nat, z < H.size → H1[z]? = H[z]?)
    (hat : va_at D vwCl (q, cellE cy (newT w q k n sl) I' L' P' q) H1) (hI : ∀ b, b ≠ q → I' b = I b) (hL : ∀ b, b ≠ q → L' b = L b) (hP : ∀ b, b ≠ q → P' b = P b) : Hp D cy B s H1 (newT w q k n sl) I' L' P' := by
  obtain ⟨g0, g1, g2, g3, g4, g5, g6⟩ := h
  have kp : ∀ z : Nat, z < H.size → ¬ wA B z → H1[z]? = H[z]? := fun z hz _ => oq z hz
  refine ⟨fun b k2 n2 hb => ?_, fun b k2 n2 hb hk2 => ?_, fun b n2 hb => ?_, fun z hz2 => ?_, by omega, g5.kept kp, g6.kept kp⟩
  · by_cases hbq : b = q
    · simp [newT, hbq] at hb; omega
    · simp [newT, hbq] at hb; exact g0 b k2 n2 hb
  · by_cases hbq : b = q
    · subst hbq; exact ⟨hat, by omega⟩
    · have hb' : w.1 b = some (k2, n2) := by simpa [newT, hbq] using hb
      obtain ⟨q1, q2⟩ := g1 b k2 n2 hb' hk2
      refine ⟨?_, q2⟩
      have e : cellE cy (newT w q k n sl) I' L' P' b = cellE cy w I L P b := by
        unfold cellE
        rw [hb, hb']
        simp only [fsOf, fv, hI b hbq, hL b hbq, hP b hbq]
      rw [e]
      exact q1.kept (oq b q1.lt)
  · by_cases hbq : b = q
    · simp [newT, hbq] at hb; omega
    · have hb' : w.1 b = some (14, n2) := by simpa [newT, hbq] using hb
      obtain ⟨q1, q2⟩ := g2 b n2 hb'
      refine ⟨?_, q2⟩
      rw [hI b hbq]
      exact q1.kept (oq b (by omega))
  · simp [newT] at hz2; omega
section XP
variable {p : Program} {l : Launch} {e : Env} {R : Room} {s : State} {m : MethodId} {args : Array Value} {below : List Frame} {meth : Method} {c : Code} {H : Heap} {locs : List Loc} {cells slots : Nat} {Q : State → Prop}
variable {cc : ByteArray} {pc : Nat} {ls : Array Slot} {rest : List Value} {D : va_G} {cl : List vw_C} {a : Nat} {tys : List (ClassId × FieldType)}
/-- putfield, the cell behind it (these follow va_put, va_putF, va_putN and their sisters of the kit, with the heap's size kept in the words) -/
theorem x_put (hexec : p.tables.exec = Jvm.exec) (hb : c.code = cc) {own ref C : String} {T : u_T} {N ci index : Nat} {Ts : List Cond} (hts : ∀ w ∈ Ts, w.before args s = true) (hin : ∀ w ∈ u_ws C T N, w ∈ Ts) (ty0 : Nat → FieldType) (hty : ∀ k, k < N → parseFieldDescriptor (T k).2.2.1 = some (ty0 k)) (hnm : ∀ a, a < N → ∀ b, b < N → a ≠ b → (T a).2.1 ≠ (T b).2.1) (hown : s.vm.findClass own = some m.cls) (hK : va_K D cl tys s) {fs : List Value} (hP : va_at D cl (a, .inr (ci, fs)) H) (hc : cl[ci]? = some (C, T, N)) (k : Nat) (hk : k < N) (hlink : (Cond.fieldLink own index ref (T k).2.1 (T k).2.2.1).before args s = true) (hsame : ∀ x, s.fieldFound? (T k).1 (T k).2.1 (T k).2.2.1 = some x → s.fieldFound? ref (T k).2.1 (T k).2.2.1 = some x) (hfin : (T k).2.2.2 = false) {ty : FieldType} {v : Value} (hd : parseFieldDescriptor (T k).2.2.1 = some ty) (hn : narrow ty v = v) (hfit : fits ty v = true) (hl : k < fs.length)
    (hdg : decode cc pc = .ok (.putfield index, 3)) (kk : ∀ (H1 : Heap) (j : Nat), va_at D cl (a, .inr (ci, fs.set k v)) H1 → H1.size = H.size → (∀ q : Nat, q ≠ a → H1[q]? = H[q]?) → W p l e R s m args below meth c H1 (locs ++ [⟨a, j⟩]) cells slots Q (F0 m (pc + 3) ls rest)) : W p l e R s m args below meth c H locs cells slots Q (F0 m pc ls (v :: .ref a :: rest)) := by
  have hap := va_apart (own := own) hts hin ty0 hty hnm hK hc
  obtain ⟨r, h1, cell, q1, q2, q3, q4⟩ := hP
  have hr : r = (C, T, N) := Option.some.inj (h1.symm.trans hc)
  subst hr
  obtain ⟨hS, hfc, kC, hkC, hkind⟩ := hK.1 ci _ hc
  obtain ⟨cf, kf, fi, f, hi, hsl⟩ := hS k hk
  have hlay := hts _ (hin _ (u_in_lay hk))
  unfold u_lay at hlay
  rw [if_neg (by rw [hfin]; decide)] at hlay
  have hst := (u_facts hfc hkC (u_lays hts hin hk) hi).1
  have h6 := u_store hfc hkC hkind hlay hi hd hn hfit
  refine W.putK hexec hb (f := f) ⟨hown, hlink, ⟨_, _, _, hsame _ hi⟩, hst⟩ (by rw [q2]; exact h6) q1 q3 (by rw [hsl]; exact k2_hasslot (q4 k hk)) rfl rfl hdg fun H' e1 e2 e3 => ?_
  rw [hsl] at e1 ⊢
  exact kk H' _ ⟨_, hc, t_OB.to (V := updV (vp_V fs) k v) ⟨_, e1, q2, q3, t_set q4 hap hk v⟩ (fun j _ => vp_updV_set hl v j)⟩ e2 e3
theorem x_putF (hexec : p.tables.exec = Jvm.exec) (hb : c.code = cc) {own ref C : String} {T : u_T} {N ci index : Nat} {Ts : List Cond} (hts : ∀ w ∈ Ts, w.before args s = true) (hin : ∀ w ∈ u_ws C T N, w ∈ Ts) (ty0 : Nat → FieldType) (hty : ∀ k, k < N → parseFieldDescriptor (T k).2.2.1 = some (ty0 k)) (hnm : ∀ a, a < N → ∀ b, b < N → a ≠ b → (T a).2.1 ≠ (T b).2.1) (hown : s.vm.findClass own = some m.cls) (hK : va_K D cl tys s) {fs : List Value} (hP : va_at D cl (a, .inr (ci, fs)) H) (hc : cl[ci]? = some (C, T, N)) (k : Nat) (hk : k < N) (hlink : (Cond.fieldLink own index ref (T k).2.1 (T k).2.2.1).before args s = true) (hsame : ∀ x, s.fieldFound? (T k).1 (T k).2.1 (T k).2.2.1 = some x → s.fieldFound? ref (T k).2.1 (T k).2.2.1 = some x) (hfin : (T k).2.2.2 = true) (hin2 : meth.name = "<init>") (hdecl : (T k).1 = own) {ty : FieldType} {v : Value} (hd : parseFieldDescriptor (T k).2.2.1 = some ty) (hn : narrow ty v = v) (hfit : fits ty v = true) (hl : k < fs.length)
    (hdg : decode cc pc = .ok (.putfield index, 3)) (kk : ∀ (H1 : Heap) (j : Nat), va_at D cl (a, .inr (ci, fs.set k v)) H1 → H1.size = H.size → (∀ q : Nat, q ≠ a → H1[q]? = H[q]?) → W p l e R s m args below meth c H1 (locs ++ [⟨a, j⟩]) cells slots Q (F0 m (pc + 3) ls rest)) : W p l e R s m args below meth c H locs cells slots Q (F0 m pc ls (v :: .ref a :: rest)) := by
  have hap := va_apart (own := own) hts hin ty0 hty hnm hK hc
  obtain ⟨r, h1, cell, q1, q2, q3, q4⟩ := hP
  have hr : r = (C, T, N) := Option.some.inj (h1.symm.trans hc)
  subst hr
  obtain ⟨hS, hfc, kC, hkC, hkind⟩ := hK.1 ci _ hc
  obtain ⟨cf, kf, fi, f, hi, hsl⟩ := hS k hk
  have hlay := hts _ (hin _ (u_in_lay hk))
  unfold u_lay at hlay
  rw [if_pos hfin] at hlay
  have hst := (u_facts hfc hkC (u_lays hts hin hk) hi).1
  have hcf : m.cls = cf := by
    obtain ⟨_, _, c', _, _, _, -, -, hf', -, -, -, hown2, -⟩ := Cond.laysFinal_spec hlay
    have e1 : c' = cf := by have := hi.symm.trans hf'; simp at this; exact this.1.symm
    rw [hdecl] at hown2
    rw [← e1]; exact Option.some.inj (hown.symm.trans hown2)
  have h6 := u_fits hfc hkC hkind (Or.inr hlay) hi hd hn hfit
  refine W.putFinK hexec hb hown hlink (hsame _ hi) hst hcf hin2 (by rw [q2]; exact h6) q1 q3 (by rw [hsl]; exact k2_hasslot (q4 k hk)) rfl rfl hdg fun H' e1 e2 e3 => ?_
  rw [hsl] at e1 ⊢
  exact kk H' _ ⟨_, hc, t_OB.to (V := updV (vp_V fs) k v) ⟨_, e1, q2, q3, t_set q4 hap hk v⟩ (fun j _ => vp_updV_set hl v j)⟩ e2 e3
theorem x_putN (hexec : p.tables.exec = Jvm.exec) (hb : c.code = cc) {own ref C host : String} {T : u_T} {N ci index : Nat} {Ts : List Cond} (hts : ∀ w ∈ Ts, w.before args s = true) (hin : ∀ w ∈ u_ws C T N, w ∈ Ts) (ty0 : Nat → FieldType) (hty : ∀ k, k < N → parseFieldDescriptor (T k).2.2.1 = some (ty0 k)) (hnm : ∀ a, a < N → ∀ b, b < N → a ≠ b → (T a).2.1 ≠ (T b).2.1) (hown : s.vm.findClass own = some m.cls) (hK : va_K D cl tys s) {fs : List Value} (hP : va_at D cl (a, .inr (ci, fs)) H) (hc : cl[ci]? = some (C, T, N)) (k : Nat) (hk : k < N) (hlink : (Cond.fieldLinkNest own index ref (T k).2.1 (T k).2.2.1 host).before args s = true) (hsame : ∀ x, s.fieldFound? (T k).1 (T k).2.1 (T k).2.2.1 = some x → s.fieldFound? ref (T k).2.1 (T k).2.2.1 = some x) (hfin : (T k).2.2.2 = false) {ty : FieldType} {v : Value} (hd : parseFieldDescriptor (T k).2.2.1 = some ty) (hn : narrow ty v = v) (hfit : fits ty v = true) (hl : k < fs.length)
    (hdg : decode cc pc = .ok (.putfield index, 3)) (kk : ∀ (H1 : Heap) (j : Nat), va_at D cl (a, .inr (ci, fs.set k v)) H1 → H1.size = H.size → (∀ q : Nat, q ≠ a → H1[q]? = H[q]?) → W p l e R s m args below meth c H1 (locs ++ [⟨a, j⟩]) cells slots Q (F0 m (pc + 3) ls rest)) : W p l e R s m args below meth c H locs cells slots Q (F0 m pc ls (v :: .ref a :: rest)) := by
  have hap := va_apart (own := own) hts hin ty0 hty hnm hK hc
  obtain ⟨r, h1, cell, q1, q2, q3, q4⟩ := hP
  have hr : r = (C, T, N) := Option.some.inj (h1.symm.trans hc)
  subst hr
  obtain ⟨hS, hfc, kC, hkC, hkind⟩ := hK.1 ci _ hc
  obtain ⟨cf, kf, fi, f, hi, hsl⟩ := hS k hk
  have hlay := hts _ (hin _ (u_in_lay hk))
  unfold u_lay at hlay
  rw [if_neg (by rw [hfin]; decide)] at hlay
  have hst := (u_facts hfc hkC (u_lays hts hin hk) hi).1
  have h6 := u_store hfc hkC hkind hlay hi hd hn hfit
  refine va_WputK hexec hb (f := f) hown hlink (hsame _ hi) hst (by rw [q2]; exact h6) q1 q3 (by rw [hsl]; exact k2_hasslot (q4 k hk)) rfl rfl hdg fun H' e1 e2 e3 => ?_
  rw [hsl] at e1 ⊢
  exact kk H' _ ⟨_, hc, t_OB.to (V := updV (vp_V fs) k v) ⟨_, e1, q2, q3, t_set q4 hap hk v⟩ (fun j _ => vp_updV_set hl v j)⟩ e2 e3
theorem x_iast (hexec : p.tables.exec = Jvm.exec) (hb : c.code = cc) (hK : va_K D cl tys s) (t0 : Nat) {cA : ClassId} {n : Nat} {f : Nat → Int32} (hP : va_at D cl (a, .inl (cA, n, .inl f)) H) (ht : tys[t0]? = some (cA, .int)) {i : Int32} {x : Int32} (hin : vp_in i n) (hdg : decode cc pc = .ok (.iastore, 1))
    (kk : ∀ (H1 : Heap) (j : Nat), va_at D cl (a, .inl (cA, n, .inl (upd f i.toNatClampNeg x))) H1 → H1.size = H.size → (∀ q : Nat, q ≠ a → H1[q]? = H[q]?) → W p l e R s m args below meth c H1 (locs ++ [⟨a, j⟩]) cells slots Q (F0 m (pc + 1) ls rest)) : W p l e R s m args below meth c H locs cells slots Q (F0 m pc ls (.int x :: .int i :: .ref a :: rest)) := by
  refine W.iast hexec hb hP ((hK.2 t0 _ ht).1 n (fun j => .int (f j))) (fun q => by cases q) (by show ¬ (i < 0 ∨ (arrV _ _ _).slots.size ≤ _); rw [arrV_size]; exact hin) rfl rfl hdg fun H1 e z oq => ?_
  refine kk H1 _ ?_ z oq
  show H1[a]? = some (vp_cell _ _)
  rw [e]
  rw [vp_cell_i, vp_cell_i, arrV_store]
  congr 2
  funext q
  by_cases hq : q = i.toNatClampNeg
  · subst hq
    simp [updV, upd]
  · simp [updV, upd, hq]
theorem x_last (hexec : p.tables.exec = Jvm.exec) (hb : c.code = cc) (hK : va_K D cl tys s) (t0 : Nat) {cA : ClassId} {n : Nat} {f : Nat → Int64} (hP : va_at D cl (a, .inl (cA, n, .inr (.inl f))) H) (ht : tys[t0]? = some (cA, .long)) {i : Int32} {x : Int64} (hin : vp_in i n) (hdg : decode cc pc = .ok (.lastore, 1))
    (kk : ∀ (H1 : Heap) (j : Nat), va_at D cl (a, .inl (cA, n, .inr (.inl (vp_updL f i.toNatClampNeg x)))) H1 → H1.size = H.size → (∀ q : Nat, q ≠ a → H1[q]? = H[q]?) → W p l e R s m args below meth c H1 (locs ++ [⟨a, j⟩]) cells slots Q (F0 m (pc + 1) ls rest)) : W p l e R s m args below meth c H locs cells slots Q (F0 m pc ls (.long x :: .int i :: .ref a :: rest)) := by
  refine W.last hexec hb hP ((hK.2 t0 _ ht).1 n (fun j => .long (f j))) (fun q => by cases q) (by show ¬ (i < 0 ∨ (arrV _ _ _).slots.size ≤ _); rw [arrV_size]; exact hin) rfl rfl hdg fun H1 e z oq => ?_
  refine kk H1 _ ?_ z oq
  show H1[a]? = some (vp_cell _ _)
  rw [e]
  rw [vp_cell_l, vp_cell_l, arrV_store]
  congr 2
  funext q
  by_cases hq : q = i.toNatClampNeg
  · subst hq
    simp [updV, vp_updL]
  · simp [updV, vp_updL, hq]
theorem x_astq (hexec : p.tables.exec = Jvm.exec) (hb : c.code = cc) (hK : va_K D cl tys s) (t0 ci : Nat) {cA : ClassId} {r : vw_C} {n v : Nat} {vs : List Value} {f : Nat → Option Nat} (hP : va_at D cl (a, .inl (cA, n, .inr (.inr (.inr (.inr f))))) H) (ht : tys[t0]? = some (cA, .object r.1)) (hv : va_at D cl (v, .inr (ci, vs)) H) (hc : cl[ci]? = some r) {i : Int32} (hin : vp_in i n) (hdg : decode cc pc = .ok (.aastore, 1))
    (kk : ∀ (H1 : Heap) (j : Nat), va_at D cl (a, .inl (cA, n, .inr (.inr (.inr (.inr (va_up f i.toNatClampNeg (some v))))))) H1 → H1.size = H.size → (∀ q : Nat, q ≠ a → H1[q]? = H[q]?) → W p l e R s m args below meth c H1 (locs ++ [⟨a, j⟩]) cells slots Q (F0 m (pc + 1) ls rest)) : W p l e R s m args below meth c H locs cells slots Q (F0 m pc ls (.ref v :: .int i :: .ref a :: rest)) := by
  have hlt : i.toNatClampNeg < n := Nat.not_le.mp fun q => hin (Or.inr q)
  have h0 : ¬ i < 0 := fun q => hin (Or.inl q)
  obtain ⟨r', hr', cellV, g1, g2, g3, -⟩ := hv
  have hcls := (hK.1 ci r hc).2
  obtain ⟨kA, comp, k1, k2, k3, -⟩ := (hK.2 t0 _ ht).2
  have hcomp : comp = D.1 ci := Option.some.inj (k3.symm.trans hcls.1)
  subst hcomp
  obtain ⟨kC, hkC, -⟩ := hcls.2
  refine W.aast hexec hb hP (fun q h => by cases h) (fun h => by cases h) k1 k2 rfl hkC ⟨h0, by show _ < (arrV _ _ _).slots.size; rw [arrV_size]; exact hlt⟩ g1 (fun q h => by rw [g3] at h; cases h) (by rw [g2]; exact hkC) (by rw [g2]; exact va_assign hcls) rfl rfl hdg fun H1 e z oq => ?_
  refine kk H1 _ ?_ z oq
  show H1[a]? = some (vp_cell _ _)
  rw [e]
  rw [vp_cell_q, vp_cell_q, arrV_store]
  congr 2
  funext q
  by_cases hq : q = i.toNatClampNeg
  · subst hq
    simp [updV, va_up, va_rf]
  · simp [updV, va_up, hq]
end XP
