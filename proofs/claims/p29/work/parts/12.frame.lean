theorem Hp_throw {D : va_G} {cy : Nat → ClassId} {B : Nat} {s : State} {H H1 : Heap} {w : Wd} {I : MI} {L : ML} {P : MP} (h : Hp D cy B s H w I L P) (hz : H.size ≤ H1.size) (oq : ∀ q : Nat, q < H.size → H1[q]? = H[q]?) : Hp D cy B s H1 (thrT w) I L P := by
  obtain ⟨g0, g1, g2, g3, g4, g5, g6⟩ := h
  have kp : ∀ z : Nat, z < H.size → ¬ wA B z → H1[z]? = H[z]? := fun z hz _ => oq z hz
  refine ⟨g0, fun b k n hb hk => ?_, fun b n hb => ?_, fun q hq => ?_, by omega, g5.kept kp, g6.kept kp⟩
  · obtain ⟨q1, q2⟩ := g1 b k n hb hk
    exact ⟨q1.kept (oq b q1.lt), q2⟩
  · obtain ⟨q1, q2⟩ := g2 b n hb
    exact ⟨q1.kept (oq b (by omega)), q2⟩
  · cases hq
def xIx (e : Nat) : Nat := if e = 0 then 110 else if e = 1 then 67 else 149
def xNm : List String := ["java/lang/RuntimeException", "java/lang/Exception"]
theorem xw_good : ∀ e, e < 3 → ∀ w ∈ (vx_atS (oN 6) (xIx e) (eN e) xNm).filter goodWord, w ∈ goodL := by decide +kernel
theorem xw_bad : ∀ e, e < 3 → ∀ w ∈ (vx_atS (oN 6) (xIx e) (eN e) xNm).filter (fun w => !goodWord w), w = .castable (eN e) (eN e) ∨ (isNest w = true ∧ w ∈ lw_tbl) := by decide +kernel
theorem xw_ot : ∀ e, e < 3 → ∀ w ∈ vx_atS (oN 6) (xIx e) (eN e) xNm, vx_ot w = true := by decide +kernel
theorem xw_ini : ∀ e, e < 3 → Cond.initialized (eN e) ∈ goodL := by decide +kernel
theorem xw_fit : (∀ e, e < 3 → Bundle.fit (eN e) = true) ∧ ∀ n ∈ xNm, Bundle.fit n = true := by decide +kernel
section FR
variable {p : Program} {l : Launch} {e : Env} {R : Room} {s : State} {m : MethodId} {args : Array Value} {below : List Frame} {meth : Method} {c : Code} {Q : State → Prop}
variable {D : va_G} {cy : Nat → ClassId} {B mm c0 s0 : Nat} {r : Rs}
theorem sR_inv {o i : Nat} (h : sR o i = true) : ∃ x ∈ sT, x.1 = o ∧ x.2.1 = i := by
  unfold sR at h
  obtain ⟨x, hx, hp⟩ := List.any_eq_true.mp h
  exact ⟨x, hx, key_inv hp⟩
theorem stT_inv {pc len x : Nat} {i : Instr} {st : List Value} (h : stT mm pc i len st = some x) : ∃ ik is ic, i = .new ik ∧ len = 3 ∧ nR (mO mm) ik = some (100 + x) ∧ x < 3 ∧ decode (mB mm) (pc + 3) = .ok (.dup, 1) ∧ decode (mB mm) (pc + 4) = .ok (.ldc is, 2) ∧ decode (mB mm) (pc + 6) = .ok (.invokespecial ic, 3) ∧ decode (mB mm) (pc + 9) = .ok (.athrow, 1) ∧ sR (mO mm) is = true ∧ mH mm = [] ∧ mO mm = 6 ∧ ic = xIx x ∧ 6 ≤ mF mm ∧ 2 * st.length + 82 ≤ mW mm := by
  cases i with
  | new ik =>
    simp only [stT] at h
    split at h
    · next e' is ic h1 h2 h3 h4 h5 =>
      replace h := ite_some_iff h
      obtain ⟨⟨g1, g2, g3, g4, g5, g6, g7, g8, g9⟩, h⟩ := h
      cases h
      refine ⟨ik, is, ic, rfl, g1, by rw [h1]; congr 1; omega, by omega, h2, h3, h4, h5, g4, g5, g6, ?_, g8, g9⟩
      rw [g7]
      unfold xIx
      have h9 : e' = 100 ∨ e' = 101 ∨ e' = 102 := by omega
      rcases h9 with rfl | rfl | rfl <;> rfl
    · cases h
  | _ => simp only [stT] at h; cases h
theorem hnd_inv {pc x pc' k : Nat} (h : hnd mm pc x = some (pc', k)) : ∃ hh pre suf, mH mm = pre ++ hh :: suf ∧ (hh.1 ≤ pc ∧ pc < hh.2.1 ∧ nR (mO mm) hh.2.2.2 = some (100 + x)) ∧ (∀ z ∈ pre, ¬ (z.1 ≤ pc ∧ pc < z.2.1 ∧ nR (mO mm) z.2.2.2 = some (100 + x))) ∧
    ((∃ j : Fin 4, (j : Nat) = k ∧ decode (mB mm) hh.2.2.1 = .ok (.astore_n j, 1) ∧ pc' = hh.2.2.1 + 1) ∨ (decode (mB mm) hh.2.2.1 = .ok (.astore k, 2) ∧ pc' = hh.2.2.1 + 2)) := by
  unfold hnd at h
  split at h
  · next hh hf =>
    obtain ⟨hp, pre, suf, hsp, hno⟩ := List.find?_eq_some_iff_append.mp hf
    refine ⟨hh, pre, suf, hsp, ?_, fun z hz hq => ?_, ?_⟩
    · simp only [Bool.and_eq_true, decide_eq_true_eq, beq_iff_eq] at hp
      exact ⟨hp.1.1, hp.1.2, hp.2⟩
    · have h9 := hno z hz
      simp only [Bool.not_eq_true', Bool.and_eq_false_iff, decide_eq_false_iff_not, beq_eq_false_iff_ne] at h9
      rcases h9 with (h9 | h9) | h9
      · exact h9 hq.1
      · exact h9 hq.2.1
      · exact h9 hq.2.2
    · split at h
      · next j hd => cases h; exact Or.inl ⟨j, rfl, hd, rfl⟩
      · next j hd => cases h; exact Or.inr ⟨hd, rfl⟩
      · cases h
  · cases h
set_option maxHeartbeats 8000000 in
/-- a frame of the machine does what the frame of the plain machine does, up to its end -/
theorem frame (hx : p.tables.exec = Jvm.exec) (hlst : l.stackTraces = false) (hb : c.code = mB mm) (hown : s.vm.findClass (oN (mO mm)) = some m.cls) (hG : ∀ w ∈ goodL, w.before args s = true) (hSf : Sf D cy s) (hname : (mN mm).name = "<init>" → meth.name = "<init>") (hml : c.maxLocals = mL mm) (hR : mF mm ≤ R.frames ∧ mW mm ≤ R.locals)
    (htab : mH mm ≠ [] → c.exceptionTable.toList = tableOf (mH mm)) (hhok : ∀ h ∈ mH mm, h.2.2.2 ≠ 0 ∧ ∃ x, x < 3 ∧ nR (mO mm) h.2.2.2 = some (100 + x))
    (hret : ∀ (v : Option Value) (pc : Nat) (i : Instr) (len : Nat) (ls' : Array Slot) (stk : List Value) (H1 : Heap) (locs1 : List Loc) (cells1 slots1 : Nat), r.1 = .inl v → decode (mB mm) pc = .ok (i, len) → stR mm i len stk = some v → Hp D cy B s H1 r.2.1 r.2.2.1 r.2.2.2.1 r.2.2.2.2 → va_S (wA B) s.heap H1 locs1 → cells1 + c0 = r.2.1.2.2.1 → slots1 + s0 = r.2.1.2.2.2 →
      W p l e R s m args below meth c H1 locs1 cells1 slots1 Q (F0 m pc ls' stk))
    (hthr : ∀ (x : Nat) (pc : Nat) (ls' : Array Slot) (stk : List Value) (ce : Cell) (q : Addr) (H1 : Heap) (locs1 : List Loc) (cells1 slots1 : Nat), x < 3 → mH mm = [] → r.1 = .inr x → Hp D cy B s H1 r.2.1 r.2.2.1 r.2.2.2.1 r.2.2.2.2 → va_S (wA B) s.heap H1 locs1 → cells1 + c0 = r.2.1.2.2.1 → slots1 + s0 = r.2.1.2.2.2 → H1[q]? = some ce → ce.vm = .none → s.vm.findClass (eN x) = some ce.cls →
      vx_W p l e R s m args below meth c H1 locs1 cells1 slots1 Q (F0 m pc ls' stk) q)
    (hthN : ∀ (x pc : Nat) (i : Instr) (len : Nat) (ls' : Array Slot) (stk : List Value) (H1 : Heap) (locs1 : List Loc) (cells1 slots1 : Nat) (w : Wd) (I : MI) (L : ML) (P : MP), decode (mB mm) pc = .ok (i, len) → stT mm pc i len stk = some x → ls'.size = c.maxLocals → r = (.inr x, thrT w, I, L, P) → Hp D cy B s H1 w I L P → va_S (wA B) s.heap H1 locs1 → cells1 + c0 = w.2.2.1 → slots1 + s0 = w.2.2.2 →
      W p l e R s m args below meth c H1 locs1 cells1 slots1 Q (F0 m pc ls' stk))
    (hRc : r.2.1.2.2.1 ≤ R.cells + c0) (hRs : r.2.1.2.2.2 ≤ R.slots + s0) (N : Nat)
    (hcall : ∀ n', n' < N → ∀ (y : Nat) (as : List Value) (w : Wd) (I : MI) (L : ML) (P : MP) (r : Rs), y < 146 → (entA as).length ≤ mL y → exec n' y 0 (ent as (mL y)) [] w I L P = some r → SimC y as w I L P r) :
    ∀ n, n ≤ N → ∀ (pc : Nat) (ls st : List Value) (w : Wd) (I : MI) (L : ML) (P : MP) (lsM : Array Slot) (H : Heap) (locs : List Loc) (cells slots : Nat), exec n mm pc ls st w I L P = some r → lvr ls lsM (mL mm) → Hp D cy B s H w I L P → va_S (wA B) s.heap H locs → cells + c0 = w.2.2.1 → slots + s0 = w.2.2.2 →
      W p l e R s m args below meth c H locs cells slots Q (F0 m pc lsM st) := by
  intro n
  induction n with
  | zero => intro _ pc ls st w I L P lsM H locs cells slots h; cases h
  | succ n ih =>
    intro hn pc ls st w I L P lsM H locs cells slots h hl hH hS hc hs
    have ih := ih (by omega)
    unfold exec at h
    have hsz : c.maxLocals = lsM.size := by rw [hml]; exact hl.1.1.symm
    cases hstp : stp mm pc ls st w I L P with
    | none => rw [hstp] at h; cases h
    | some o =>
      rw [hstp] at h
      unfold stp at hstp
      cases hd : decode (mB mm) pc with
      | error _ => rw [hd] at hstp; cases hstp
      | ok il =>
        obtain ⟨i, len⟩ := il
        rw [hd] at hstp
        simp only at hstp
        cases hA : stA (mO mm) pc i len ls st with
        | some o3 =>
          rw [hA] at hstp
          obtain ⟨pc', ls', st'⟩ := o3
          cases hstp
          exact simA hx hb hown (fun w hw hg => hG w (mem_goodL hw hg)) hd hl hA (fun lsM' hl' => ih pc' ls' st' w I L P lsM' H locs cells slots h hl' hH hS hc hs)
        | none =>
          rw [hA] at hstp
          simp only at hstp
          cases hM : stM mm pc i len st w I L P with
          | some o6 =>
            rw [hM] at hstp
            obtain ⟨pc', st', w', I', L', P'⟩ := o6
            cases hstp
            have hmo := exec_mono _ _ _ _ _ _ _ _ _ _ h
            exact simM hx hb hown hG hSf hname hsz hR hH hS hd hM hc hs (by simp only; omega) (by simp only; omega) (fun H1 locs1 cells1 slots1 q1 q2 q3 q4 => ih pc' ls st' w' I' L' P' lsM H1 locs1 cells1 slots1 h hl q1 q2 q3 q4)
          | none =>
            rw [hM] at hstp
            simp only at hstp
            cases hC : stC mm i len st w with
            | some o2 =>
              rw [hC] at hstp
              obtain ⟨y, as, rs⟩ := o2
              cases hstp
              simp only at h
              have hen : (entA as).length ≤ mL y := by
                have key : ∀ virt, cls1 mm y st w virt = some (y, as, rs) → (entA as).length ≤ mL y := by
                  intro virt hv
                  obtain ⟨as', r', ho, -, -, -, -, -, h9, -⟩ := cls1_inv hv
                  cases ho; exact h9
                have out : ∀ y' virt, cls1 mm y' st w virt = some (y, as, rs) → y' = y := by
                  intro y' virt hv
                  obtain ⟨as', r', ho, -⟩ := cls1_inv hv
                  cases ho; rfl
                unfold stC at hC
                repeat' (first | (cases hC; done) | (have h9 := out _ _ hC; subst h9; exact key _ hC) | (replace hC := (ite_some_iff hC).2) | split at hC)
              cases hx1 : exec n y 0 (ent as (mL y)) [] w I L P with
              | none => rw [hx1] at h; cases h
              | some r1 =>
                have hmo1 := exec_mono _ _ _ _ _ _ _ _ _ _ hx1
                rw [hx1] at h
                have hSim : y < 146 → SimC y as w I L P r1 := fun hy => hcall n (by omega) y as w I L P r1 hy hen hx1
                obtain ⟨o1, w', I', L', P'⟩ := r1
                simp only at hmo1
                cases o1 with
                | inl v =>
                  simp only at h
                  have hmo2 := exec_mono _ _ _ _ _ _ _ _ _ _ h
                  refine simC hx hlst hb hown hG hSf hsz hR hH hS hd hC hSim (by simp only; omega) (by simp only; omega) (fun v2 H1 locs1 hv q1 q2 => ?_) (fun x ce q H1 locs1 _ hxx _ _ _ _ _ => by cases hxx)
                  cases hv
                  exact ih (pc + 3) ls (v.toList ++ rs) w' I' L' P' lsM H1 locs1 _ _ h hl q1 q2 (by simp only; omega) (by simp only; omega)
                | inr x =>
                  simp only at h
                  have hmo2 : w'.2.2.1 ≤ r.2.1.2.2.1 ∧ w'.2.2.2 ≤ r.2.1.2.2.2 := by
                    split at h
                    · cases h; exact ⟨Nat.le_refl _, Nat.le_refl _⟩
                    · split at h
                      · obtain ⟨-, h⟩ := ite_some_iff h
                        exact exec_mono _ _ _ _ _ _ _ _ _ _ h
                      · cases h
                  refine simC hx hlst hb hown hG hSf hsz hR hH hS hd hC hSim (by simp only; omega) (by simp only; omega) (fun v2 H1 locs1 hv q1 q2 => by cases hv) (fun x2 ce q H1 locs1 hx3 hxx q1 q2 q3 q4 q5 => ?_)
                  cases hxx
                  simp only at q1
                  cases hmh : mH mm with
                  | nil =>
                    rw [hmh] at h
                    simp only at h
                    cases h
                    exact hthr x pc lsM rs ce q H1 locs1 _ _ hx3 hmh rfl q1 q2 (by simp only; omega) (by simp only; omega) q3 q4 q5
                  | cons h0 ht =>
                    rw [hmh] at h
                    simp only at h
                    cases hh : hnd mm pc x with
                    | none => rw [hh] at h; cases h
                    | some pk =>
                      rw [hh] at h
                      obtain ⟨pc', k⟩ := pk
                      simp only at h
                      obtain ⟨hkl, h⟩ := ite_some_iff h
                      obtain ⟨hd2, pre, suf, hsp, ⟨c1, c2, c3⟩, hno, hdec⟩ := hnd_inv hh
                      have hlen := hl.2
                      have hnm : ∀ j, (Cond.classLink (oN (mO mm)) j (eN x)) ∈ lw_tbl → (Cond.classLink (oN (mO mm)) j (eN x)).before args s = true := fun j hj => hG _ (mem_goodL hj rfl)
                      have hlnk : ∀ (j z : Nat), z < 3 → nR (mO mm) j = some (100 + z) → Cond.classLink (oN (mO mm)) j (eN z) ∈ lw_tbl := by
                        intro j z hz hj
                        have h9 := nR_ok hj
                        rw [if_neg (by omega), show 100 + z - 100 = z by omega] at h9
                        exact h9
                      have hcast : (Cond.castable (eN x) (eN x)).before args s = true := by
                        have h9 := hSf.2.2.2.2 x hx3 x hx3
                        rw [if_pos rfl] at h9
                        exact va_Nw.use rfl h9
                      have hmm : hd2 ∈ mH mm := by rw [hsp]; exact List.mem_append_right _ List.mem_cons_self
                      refine vx_catch (own := oN (mO mm)) (name := eN x) (E := eN x) hown (tableOf pre) ⟨hd2.1, hd2.2.1, hd2.2.2.1, hd2.2.2.2⟩ (tableOf suf) (by rw [htab (by rw [hmh]; exact List.cons_ne_nil _ _), hsp]; simp [tableOf]) (fun z hz => ?_) (by show (decide (hd2.1 ≤ pc) && decide (pc < hd2.2.1)) = true; simp [c1, c2]) (hhok hd2 hmm).1 (hG _ (mem_goodL (hlnk _ _ hx3 c3) rfl)) hcast q3 q4 q5 ?_
                      · obtain ⟨z0, hz0, rfl⟩ := List.mem_map.mp hz
                        obtain ⟨g1, x9, g2, g3⟩ := hhok z0 (by rw [hsp]; exact List.mem_append_left _ hz0)
                        by_cases hcv : covers (⟨z0.1, z0.2.1, z0.2.2.1, z0.2.2.2⟩ : ExceptionTableEntry) pc = false
                        · exact Or.inl hcv
                        · refine Or.inr ⟨g1, eN x9, hG _ (mem_goodL (hlnk _ _ g2 g3) rfl), ?_⟩
                          have hcv2 : z0.1 ≤ pc ∧ pc < z0.2.1 := by simpa [covers] using hcv
                          have hne : x ≠ x9 := fun hq => hno z0 hz0 ⟨hcv2.1, hcv2.2, by rw [hq]; exact g3⟩
                          have h9 := hSf.2.2.2.2 x hx3 x9 g2
                          rw [if_neg hne] at h9
                          exact h9
                      · rcases hdec with ⟨j, rfl, hda, rfl⟩ | ⟨hda, rfl⟩
                        · exact lv_astore_n hx hb hda rfl hl.1 (by omega) rfl (fun ls9 hq9 => ih _ _ _ _ _ _ _ ls9 H1 locs1 _ _ h (lvr_of1 hl (Or.inr rfl) hq9) q1 q2 (by simp only; omega) (by simp only; omega))
                        · exact lv_astore hx hb hda hl.1 (by omega) rfl (fun ls9 hq9 => ih _ _ _ _ _ _ _ ls9 H1 locs1 _ _ h (lvr_of1 hl (Or.inr rfl) hq9) q1 q2 (by simp only; omega) (by simp only; omega))
            | none =>
              rw [hC] at hstp
              simp only at hstp
              cases hRt : stR mm i len st with
              | some v =>
                rw [hRt] at hstp
                cases hstp
                cases h
                exact hret v pc i len lsM st H locs cells slots rfl hd hRt hH hS hc hs
              | none =>
                rw [hRt] at hstp
                simp only at hstp
                cases hTt : stT mm pc i len st with
                | some x =>
                  rw [hTt] at hstp
                  cases hstp
                  cases h
                  exact hthN x pc i len lsM st H locs cells slots w I L P hd hTt hsz.symm rfl hH hS hc hs
                | none =>
                  rw [hTt] at hstp
                  cases hstp
end FR
