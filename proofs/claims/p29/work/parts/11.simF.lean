-- contracts
def cPc (D : va_G) (cy : Nat → ClassId) (B : Nat) (as : List Value) (w : Wd) (I : MI) (L : ML) (P : MP) : Array Value → State → Prop := va_Pc as (fun U => Sf D cy U ∧ Hp D cy B U U.heap w I L P)
def cQc (D : va_G) (cy : Nat → ClassId) (B : Nat) (r : Rs) : Array Value → State → Outcome → State → Prop := fun _ st o t => ∃ v, r.1 = .inl v ∧ o = .returned v ∧ Hp D cy B t t.heap r.2.1 r.2.2.1 r.2.2.2.1 r.2.2.2.2 ∧ va_F (wA B) st t
def cXC (D : va_G) (cy : Nat → ClassId) (B : Nat) (r : Rs) : String → State → State → Prop := fun E st t => ∃ e, e < 3 ∧ r.1 = .inr e ∧ E = eN e ∧ Hp D cy B t t.heap r.2.1 r.2.2.1 r.2.2.2.1 r.2.2.2.2 ∧ va_F (wA B) st t
def mRm (y : Nat) (k n : Nat) : Room := { frames := mF y, cells := k, slots := n, locals := mW y }
/-- the machine does with y what the plain machine does -/
def SimC (y : Nat) (as : List Value) (w : Wd) (I : MI) (L : ML) (P : MP) (r : Rs) : Prop := ∀ (l : Launch), l.stackTraces = false → ∀ (D : va_G) (cy : Nat → ClassId) (B : Nat),
  vx_Met l (mN y) (mWd y) (mRm y (r.2.1.2.2.1 - w.2.2.1) (r.2.1.2.2.2 - w.2.2.2)) (cPc D cy B as w I L P) (cQc D cy B r) (cXC D cy B r) (r.2.1.2.2.1 - w.2.2.1) (r.2.1.2.2.2 - w.2.2.2) (wA B)
theorem cPc_blind {D : va_G} {cy : Nat → ClassId} {B : Nat} {as : List Value} {w : Wd} {I : MI} {L : ML} {P : MP} : FrameBlind (cPc D cy B as w I L P) := by
  intro a U g mk h
  obtain ⟨h1, h2, h3⟩ := h
  exact ⟨h1, Sf.warm (U := U.calling g mk a) (State.WarmedH.refl U) h2, Hp.moved (U := U.calling g mk a) (Vm.Alike.refl U.vm) h3⟩
section XC
variable {p : Program} {l : Launch} {e : Env} {R : Room} {s : State} {m : MethodId} {args : Array Value} {below : List Frame} {meth : Method} {c : Code} {H : Heap} {locs : List Loc} {cells slots : Nat} {Q : State → Prop}
variable {D : va_G} {cy : Nat → ClassId} {B mm pc c0 s0 : Nat} {lsM : Array Slot} {H0 : Heap} {w : Wd} {I : MI} {L : ML} {P : MP} {st rest st0 : List Value} {r : Rs} {a : Array Value} {mc ms : Nat}
/-- behind a call -/
theorem x_call (hr : vx_Run p l e R s m args below meth c H locs cells slots mc ms (F0 m pc lsM st0) rest (cQc D cy B r a) (cXC D cy B r) (wA B)) (hS : va_S (wA B) H0 H locs)
    (k : ∀ (v : Option Value) (H1 : Heap) (locs1 : List Loc), r.1 = .inl v → Hp D cy B s H1 r.2.1 r.2.2.1 r.2.2.2.1 r.2.2.2.2 → va_S (wA B) H0 H1 locs1 → W p l e R s m args below meth c H1 locs1 (cells + mc) (slots + ms) Q (F0 m (pc + 3) lsM (v.toList ++ rest)))
    (kx : ∀ (x : Nat) (ce : Cell) (q : Addr) (H1 : Heap) (locs1 : List Loc), x < 3 → r.1 = .inr x → Hp D cy B s H1 r.2.1 r.2.2.1 r.2.2.2.1 r.2.2.2.2 → va_S (wA B) H0 H1 locs1 → H1[q]? = some ce → ce.vm = .none → s.vm.findClass (eN x) = some ce.cls → vx_W p l e R s m args below meth c H1 locs1 (cells + mc) (slots + ms) Q (F0 m pc lsM rest) q) :
    W p l e R s m args below meth c H locs cells slots Q (F0 m pc lsM st0) := by
  have hA : ∀ q, q < H.size → wA B q → wA B q := fun q _ h => h
  have hf : ∀ q, wA B q → wA B q := fun q h => h
  intro T hT X
  rcases hr T hT X with ⟨v, st₀, t, T', L1, h0, X', hL, e1, e2, ⟨v1, hq1, hq2, hHp, hF⟩, go⟩ | ⟨q, st₀, t, T', L1, E, ce, h0, X', hL, e1, e2, ⟨x, hx3, hx1, rfl, hHp, hF⟩, hce, hcv, hcl, go⟩
  · have hvv : v = v1 := Outcome.returned.inj hq2
    subst hvv
    obtain ⟨k1, k2, k3⟩ := vx_keep h0 e1 hS hA hf hL hF
    have hal : s.vm.Alike t.vm := by rw [← e2]; exact X'.warmed.alike
    rw [← e1] at hHp
    obtain ⟨t2, a1, b1⟩ := k v T'.heap (locs ++ L1) hq1 (hHp.moved hal.symm) k3 T' rfl X'
    exact ⟨t2, go t2 a1, b1⟩
  · obtain ⟨k1, k2, k3⟩ := vx_keep h0 e1 hS hA hf hL hF
    have hal : s.vm.Alike t.vm := by rw [← e2]; exact X'.warmed.alike
    rw [← e1] at hHp
    obtain ⟨t2, a1, b1⟩ := kx x ce q T'.heap (locs ++ L1) hx3 hx1 (hHp.moved hal.symm) k3 (by rw [e1]; exact hce) hcv hcl T' rfl X'
    exact ⟨t2, go.trans a1, b1⟩
theorem cls1_inv {m y : Nat} {st : List Value} {w : Wd} {virt : Bool} {o : Cl} (h : cls1 m y st w virt = some o) : ∃ as r, o = (y, as, r) ∧ st = as.reverse ++ r ∧ as.length = (if mS y then mA y else mA y + 1) ∧ mF y + 1 ≤ mF m ∧ 8 + (mL y + 11) + mW y ≤ mW m ∧ 2 * r.length ≤ 8 ∧ (entA as).length ≤ mL y ∧ (mS y = false → ∃ b bs, as = .ref b :: bs ∧ (virt = false ∨ w.1 b = some (mO y, 0))) := by
  unfold cls1 at h
  simp only at h
  obtain ⟨⟨h1, h2, h3, h4, h5, h6⟩, h⟩ := ite_some_iff h
  refine ⟨(st.take (if mS y then mA y else mA y + 1)).reverse, st.drop (if mS y then mA y else mA y + 1), ?_, ?_, h1, h2, h3, h4, h5, ?_⟩
  · split at h
    · exact (Option.some.inj h).symm
    · obtain ⟨-, h⟩ := ite_some_iff h
      exact (Option.some.inj h).symm
    · cases h
  · rw [List.reverse_reverse, List.take_append_drop]
  · intro hs
    split at h
    · next hs2 => rw [hs] at hs2; cases hs2
    · next b bs hs2 has =>
      obtain ⟨h9, -⟩ := ite_some_iff h
      exact ⟨b, bs, has, h9⟩
    · cases h
theorem sub_of {y : Nat} {as : List Value} {U : State} (hG : ∀ w ∈ goodL, w.before args s = true) (hy : y < 146) : ∀ w ∈ mWd y, ∀ (a' : Array Value) (U : State), s.WarmedH U.vm → w.before a' U = true := by
  intro w hw a' U hW
  rcases List.mem_cons.mp hw with rfl | hw
  · exact goodL_warm hW hG _ (w_code hy)
  · exact goodL_warm hW hG _ hw
set_option maxHeartbeats 4000000 in
/-- a call of a method whose contract stands -/
theorem simC (hx : p.tables.exec = Jvm.exec) (hlst : l.stackTraces = false) (hb : c.code = mB mm) (hown : s.vm.findClass (oN (mO mm)) = some m.cls) (hG : ∀ w ∈ goodL, w.before args s = true) (hSf : Sf D cy s) (hml : c.maxLocals = lsM.size) (hR : mF mm ≤ R.frames ∧ mW mm ≤ R.locals)
    (hH : Hp D cy B s H w I L P) (hS : va_S (wA B) H0 H locs) {i : Instr} {len : Nat} (hd : decode (mB mm) pc = .ok (i, len)) {y : Nat} {as rs : List Value} (h : stC mm i len st w = some (y, as, rs)) (hM : y < 146 → SimC y as w I L P r)
    (hc1 : cells + (r.2.1.2.2.1 - w.2.2.1) ≤ R.cells) (hs1 : slots + (r.2.1.2.2.2 - w.2.2.2) ≤ R.slots)
    (k : ∀ (v : Option Value) (H1 : Heap) (locs1 : List Loc), r.1 = .inl v → Hp D cy B s H1 r.2.1 r.2.2.1 r.2.2.2.1 r.2.2.2.2 → va_S (wA B) H0 H1 locs1 → W p l e R s m args below meth c H1 locs1 (cells + (r.2.1.2.2.1 - w.2.2.1)) (slots + (r.2.1.2.2.2 - w.2.2.2)) Q (F0 m (pc + 3) lsM (v.toList ++ rs)))
    (kx : ∀ (x : Nat) (ce : Cell) (q : Addr) (H1 : Heap) (locs1 : List Loc), x < 3 → r.1 = .inr x → Hp D cy B s H1 r.2.1 r.2.2.1 r.2.2.2.1 r.2.2.2.2 → va_S (wA B) H0 H1 locs1 → H1[q]? = some ce → ce.vm = .none → s.vm.findClass (eN x) = some ce.cls → vx_W p l e R s m args below meth c H1 locs1 (cells + (r.2.1.2.2.1 - w.2.2.1)) (slots + (r.2.1.2.2.2 - w.2.2.2)) Q (F0 m pc lsM rs) q) :
    W p l e R s m args below meth c H locs cells slots Q (F0 m pc lsM st) := by
  have hPcU : ∀ U : State, U.heap = H → s.WarmedH U.vm → cPc D cy B as w I L P as.toArray U := fun U hU hW => ⟨rfl, hSf.warm hW, by rw [hU]; exact hH.moved hW.alike⟩
  have core : ∀ (x kd : Nat), cR (mO mm) x = some (y, kd) → (kd < 7 → y < 146 ∧ (kd = 4 ↔ mH y ≠ []) ∧ (kd = 5 ∨ kd = 6 ↔ (mN y).name = "<init>")) := by
    intro x kd hcr hk
    obtain ⟨e', he, hp, hv⟩ := find_map_inv hcr
    have h9 := cT_kinds e' he
    obtain ⟨e1, e2, e3, e4, e5⟩ := e'
    cases hv
    exact h9 hk
  have hrest : ∀ (rs' : List Value), 2 * rs'.length ≤ 8 → 2 * (F0 m pc lsM st).monitorRoom + (rs'.map fun v => v.category).sum ≤ 8 := fun rs' h8 => by
    have := cat_len rs'
    show 2 * 0 + _ ≤ 8
    omega
  have CF : CallFix p m c (mB mm) lsM.size s args goodL (oN (mO mm)) := ⟨hx, hb, hml, hown, hG⟩
  have hdat : ∀ (x kd : Nat), cR (mO mm) x = some (y, kd) → kd < 7 → y < 146 ∧ (kd = 4 ↔ mH y ≠ []) ∧ (kd = 5 ∨ kd = 6 ↔ (mN y).name = "<init>") ∧ (mN y).cls = oN (mO y) ∧ ((mN y).cls ≠ "java/lang/invoke/MethodHandle" ∧ (mN y).cls ≠ "java/lang/invoke/VarHandle") ∧ (∀ sig, parseMethodDescriptor (mN y).desc = some sig → mA y = sig.parameters.length) := by
    intro x kd hcr hk
    obtain ⟨hy, h4, h5⟩ := core x kd hcr hk
    obtain ⟨g1, g2, g3, g4, g5, g6⟩ := mT_more _ (mE_mem hy)
    refine ⟨hy, h4, h5, g1, ⟨g3, g4⟩, fun sig hsg => ?_⟩
    have h2 := g5
    rw [show (mE y).1.desc = (mN y).desc from rfl, hsg] at h2
    exact (Option.some.inj h2).symm
  have hvirt : ∀ b, y < 146 → mS y = false → w.1 b = some (mO y, 0) → ∃ cell : Cell, H[b]? = some cell ∧ cell.vm.isStatics = false ∧ s.vm.findClass (oN (mO y)) = some cell.cls := by
    intro b hy hst hT
    have h8 : mO y < 8 := mT_own _ (mE_mem hy) hst
    have hat := (hH.2.1 b (mO y) 0 hT (by omega)).1
    rw [cellE_obj hT h8] at hat
    exact va_recv (s := s) hSf.1 (one_P hat) (q0 := 0) (vw_ok _ h8) rfl
  cases i with
  | invokevirtual x =>
    simp only [stC] at h
    replace h := ite_some_iff h; obtain ⟨rfl, h⟩ := h
    split at h
    · next y' hcr =>
      replace h := ite_some_iff h; obtain ⟨hst, h⟩ := h
      obtain ⟨as', r', ho, hstk, hal, hf1, hl1, hr1, hen, hrec⟩ := cls1_inv h
      cases ho
      obtain ⟨hy, hk4, hk5, g1, g34, hlen9⟩ := hdat x 0 hcr (by omega)
      obtain ⟨nn, hw⟩ := cR_ok hcr
      have hhd : mH y = [] := Classical.byContradiction fun z => absurd (hk4.mpr z) (by omega)
      obtain ⟨b, bs, rfl, hb2⟩ := hrec hst
      rw [hst, if_neg (by decide)] at hal
      have hal2 : bs.length = mA y := by simpa using hal
      rw [List.reverse_cons, List.append_assoc] at hstk
      have hT : w.1 b = some (mO y, 0) := by rcases hb2 with h9 | h9 <;> first | cases h9 | exact h9
      have hni : (mN y).name ≠ "<init>" := fun z => absurd (hk5.mpr z) (by omega)
      exact x_call (vx_runV (As := bs) (rest := rs) (C := (mN y).cls) CF (hM hy l hlst D cy B) ⟨⟨rfl, rfl, by show mF y + 1 ≤ _; omega, by show 8 + (mL y + 11) + mW y ≤ _; omega, sub_of (as := []) (U := s) hG hy, by rw [mWd_code hhd]; exact List.mem_cons_self, hG _ (w_code0 hy hhd), hG _ (w_init hy), g34, hlen9, hG _ (mem_goodL hw rfl)⟩, hG _ (w_inst hy hst), hG _ (w_sel hy hst hni)⟩ ⟨cPc_blind, by rw [g1]; exact hvirt b hy hst hT, hPcU⟩ rfl hal2 rfl (by show st = _; rw [hstk]; rfl) (hrest _ hr1) hd ⟨hc1, hs1⟩) hS k kx
    · next y' hcr =>
      replace h := ite_some_iff h; obtain ⟨hst, h⟩ := h
      obtain ⟨as', r', ho, hstk, hal, hf1, hl1, hr1, hen, hrec⟩ := cls1_inv h
      cases ho
      obtain ⟨hy, hk4, hk5, g1, g34, hlen9⟩ := hdat x 1 hcr (by omega)
      obtain ⟨nn, hw⟩ := cR_ok hcr
      have hhd : mH y = [] := Classical.byContradiction fun z => absurd (hk4.mpr z) (by omega)
      obtain ⟨b, bs, rfl, hb2⟩ := hrec hst
      rw [hst, if_neg (by decide)] at hal
      have hal2 : bs.length = mA y := by simpa using hal
      rw [List.reverse_cons, List.append_assoc] at hstk
      have hT : w.1 b = some (mO y, 0) := by rcases hb2 with h9 | h9 <;> first | cases h9 | exact h9
      have hni : (mN y).name ≠ "<init>" := fun z => absurd (hk5.mpr z) (by omega)
      exact x_call (vx_runVN (host := "TwoWires") (As := bs) (rest := rs) (C := (mN y).cls) CF (hM hy l hlst D cy B) ⟨⟨⟨rfl, rfl, by show mF y + 1 ≤ _; omega, by show 8 + (mL y + 11) + mW y ≤ _; omega, sub_of (as := []) (U := s) hG hy, by rw [mWd_code hhd]; exact List.mem_cons_self⟩, hG _ (w_code0 hy hhd), hG _ (w_init hy), g34, hlen9, va_Nw.use rfl (hSf.2.1 _ hw rfl)⟩, hG _ (w_inst hy hst), hG _ (w_sel hy hst hni)⟩ ⟨cPc_blind, by rw [g1]; exact hvirt b hy hst hT, hPcU⟩ rfl hal2 rfl (by show st = _; rw [hstk]; rfl) (hrest _ hr1) hd ⟨hc1, hs1⟩) hS k kx
    · cases h
  | invokespecial x =>
    simp only [stC] at h
    replace h := ite_some_iff h; obtain ⟨rfl, h⟩ := h
    split at h
    · next y' hcr =>
      replace h := ite_some_iff h; obtain ⟨hst, h⟩ := h
      obtain ⟨as', r', ho, hstk, hal, hf1, hl1, hr1, hen, hrec⟩ := cls1_inv h
      cases ho
      obtain ⟨hy, hk4, hk5, g1, g34, hlen9⟩ := hdat x 5 hcr (by omega)
      obtain ⟨nn, hw⟩ := cR_ok hcr
      have hhd : mH y = [] := Classical.byContradiction fun z => absurd (hk4.mpr z) (by omega)
      obtain ⟨b, bs, rfl, hb2⟩ := hrec hst
      rw [hst, if_neg (by decide)] at hal
      have hal2 : bs.length = mA y := by simpa using hal
      rw [List.reverse_cons, List.append_assoc] at hstk
      have hni : (mN y).name = "<init>" := hk5.mp (by omega)
      have hrn : mR y = none := mT_initR _ (mE_mem hy) hni
      exact x_call (vx_runI (As := bs) (rest := rs) (b := b) CF (hM hy l hlst D cy B) ⟨⟨rfl, rfl, by show mF y + 1 ≤ _; omega, by show 8 + (mL y + 11) + mW y ≤ _; omega, sub_of (as := []) (U := s) hG hy, by rw [mWd_code hhd, hrn]; exact List.mem_cons_self, by rw [← hrn]; exact hG _ (w_code0 hy hhd), hG _ (w_init hy), g34, hlen9, hG _ (mem_goodL hw rfl)⟩, hni, hG _ (w_inst hy hst)⟩ ⟨cPc_blind, hPcU⟩ rfl hal2 rfl (by show st = _; rw [hstk]; rfl) (hrest _ hr1) hd ⟨hc1, hs1⟩) hS k kx
    · next y' hcr =>
      replace h := ite_some_iff h; obtain ⟨hst, h⟩ := h
      obtain ⟨as', r', ho, hstk, hal, hf1, hl1, hr1, hen, hrec⟩ := cls1_inv h
      cases ho
      obtain ⟨hy, hk4, hk5, g1, g34, hlen9⟩ := hdat x 6 hcr (by omega)
      obtain ⟨nn, hw⟩ := cR_ok hcr
      have hhd : mH y = [] := Classical.byContradiction fun z => absurd (hk4.mpr z) (by omega)
      obtain ⟨b, bs, rfl, hb2⟩ := hrec hst
      rw [hst, if_neg (by decide)] at hal
      have hal2 : bs.length = mA y := by simpa using hal
      rw [List.reverse_cons, List.append_assoc] at hstk
      have hni : (mN y).name = "<init>" := hk5.mp (by omega)
      have hrn : mR y = none := mT_initR _ (mE_mem hy) hni
      exact x_call (vx_runIN (host := "TwoWires") (As := bs) (rest := rs) (b := b) CF (hM hy l hlst D cy B) ⟨⟨⟨rfl, rfl, by show mF y + 1 ≤ _; omega, by show 8 + (mL y + 11) + mW y ≤ _; omega, sub_of (as := []) (U := s) hG hy, by rw [mWd_code hhd, hrn]; exact List.mem_cons_self⟩, by rw [← hrn]; exact hG _ (w_code0 hy hhd), hG _ (w_init hy), g34, hlen9, va_Nw.use rfl (hSf.2.1 _ hw rfl)⟩, hni, hG _ (w_inst hy hst)⟩ ⟨cPc_blind, hPcU⟩ rfl hal2 rfl (by show st = _; rw [hstk]; rfl) (hrest _ hr1) hd ⟨hc1, hs1⟩) hS k kx
    · cases h
  | invokestatic x =>
    simp only [stC] at h
    replace h := ite_some_iff h; obtain ⟨rfl, h⟩ := h
    split at h
    · next y' hcr =>
      replace h := ite_some_iff h; obtain ⟨hst, h⟩ := h
      obtain ⟨as', r', ho, hstk, hal, hf1, hl1, hr1, hen, hrec⟩ := cls1_inv h
      cases ho
      obtain ⟨hy, hk4, hk5, g1, g34, hlen9⟩ := hdat x 2 hcr (by omega)
      obtain ⟨nn, hw⟩ := cR_ok hcr
      have hhd : mH y = [] := Classical.byContradiction fun z => absurd (hk4.mpr z) (by omega)
      rw [hst, if_pos rfl] at hal
      exact x_call (vx_runS (As := as) (rest := rs) CF (hM hy l hlst D cy B) ⟨⟨rfl, rfl, by show mF y + 1 ≤ _; omega, by show 8 + (mL y + 11) + mW y ≤ _; omega, sub_of (as := []) (U := s) hG hy, by rw [mWd_code hhd]; exact List.mem_cons_self, hG _ (w_code0 hy hhd), hG _ (w_init hy), g34, hlen9, hG _ (mem_goodL hw rfl)⟩, hG _ (w_static hy hst)⟩ ⟨cPc_blind, hPcU⟩ rfl hal rfl hstk (hrest _ hr1) hd ⟨hc1, hs1⟩) hS k kx
    · next y' hcr =>
      replace h := ite_some_iff h; obtain ⟨hst, h⟩ := h
      obtain ⟨as', r', ho, hstk, hal, hf1, hl1, hr1, hen, hrec⟩ := cls1_inv h
      cases ho
      obtain ⟨hy, hk4, hk5, g1, g34, hlen9⟩ := hdat x 3 hcr (by omega)
      obtain ⟨nn, hw⟩ := cR_ok hcr
      have hhd : mH y = [] := Classical.byContradiction fun z => absurd (hk4.mpr z) (by omega)
      rw [hst, if_pos rfl] at hal
      exact x_call (vx_runSN (host := "TwoWires") (As := as) (rest := rs) CF (hM hy l hlst D cy B) ⟨⟨⟨rfl, rfl, by show mF y + 1 ≤ _; omega, by show 8 + (mL y + 11) + mW y ≤ _; omega, sub_of (as := []) (U := s) hG hy, by rw [mWd_code hhd]; exact List.mem_cons_self⟩, hG _ (w_code0 hy hhd), hG _ (w_init hy), g34, hlen9, va_Nw.use rfl (hSf.2.1 _ hw rfl)⟩, hG _ (w_static hy hst), trivial⟩ ⟨cPc_blind, hPcU⟩ rfl hal rfl hstk (hrest _ hr1) hd ⟨hc1, hs1⟩) hS k kx
    · next y' hcr =>
      replace h := ite_some_iff h; obtain ⟨hst, h⟩ := h
      obtain ⟨as', r', ho, hstk, hal, hf1, hl1, hr1, hen, hrec⟩ := cls1_inv h
      cases ho
      obtain ⟨hy, hk4, hk5, g1, g34, hlen9⟩ := hdat x 4 hcr (by omega)
      obtain ⟨nn, hw⟩ := cR_ok hcr
      have hhd : mH y ≠ [] := hk4.mp rfl
      rw [hst, if_pos rfl] at hal
      exact x_call (vx_runSX (As := as) (rest := rs) CF (hM hy l hlst D cy B) ⟨⟨rfl, rfl, by show mF y + 1 ≤ _; omega, by show 8 + (mL y + 11) + mW y ≤ _; omega, sub_of (as := []) (U := s) hG hy, by rw [mWd_codeW hhd]; exact List.mem_cons_self⟩, hG _ (w_codeW hy hhd), hG _ (w_init hy), g34, hlen9, hG _ (mem_goodL hw rfl), hG _ (w_static hy hst)⟩ ⟨cPc_blind, hPcU⟩ rfl hal rfl hstk (hrest _ hr1) hd ⟨hc1, hs1⟩) hS k kx
    · cases h
  | _ => simp only [stC] at h; cases h
end XC
