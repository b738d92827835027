/-! THE CLAIM OUT OF ONE WALK OF THE LAW'S BODY. Your part is whole_start (and what it stands on); all else here is the same for every law, but numbers. -/
def R_law : String := "TwoWiresLaw"
def lw_P (b : Addr) (xs : List Int32) (args : Array Value) (s : State) : Prop := args = #[.ref b] ∧ s.IntsAt b xs ∧ xs.length ≤ 260 ∧ (Jvm.Cond.and given_1 narrow_1).before args s = true
def lw_Q (_ : Array Value) (s : State) (o : Outcome) (t : State) : Prop := o = .returned (some (.int 1)) ∧ Framed s o t [] 611061 7268514
def lw_Z (below : List Frame) (a : Array Value) (s : State) : State → Prop := fun t => ∃ o, t.status = .running ∧ Ended t below o ∧ lw_Q a s o t
/-- the law's own end, with 1 on the stack, nothing written that was there before, its room as the claim has it -/
theorem lw_ret {p : Program} {l : Launch} {e : Env} {s : State} {m : MethodId} {below : List Frame} {meth : Method} {c : Code} {b : Nat} (hx : p.tables.exec = Jvm.exec) (hb : c.code = code) (hr : meth.sig.returnType = ret) (hlocks : meth.locks = false) {pc : Nat} {H : Heap} {ls : Array Slot} (hdg : decode code pc = .ok (.ireturn, 1)) : W p l e room_1 s m #[Value.ref b] below meth c H [] 611061 7268514 (lw_Z below #[Value.ref b] s) (F0 m pc ls [.int 1]) := by
  intro T hT X
  obtain ⟨fs, hret, hrun, hended, hW, hframe⟩ := X.leave (v := some (.int 1)) (hlocks := hlocks) (fun h => by rw [hr] at h; cases h)
  have hmeth' : T.vm.method? m = some meth := X.method'
  refine ⟨T.setFrames fs, ?_, .returned (some (.int 1)), hrun, hended, rfl, ⟨_, rfl⟩, hW, hframe⟩
  jvm_step X.here [X.here.top, hx, hb, hdg, hmeth', hr, ret, narrow_b1]
  (try refine ⟨rfl, ?_⟩); (try refine ⟨rfl, ?_⟩)
  first | (intro acts; rw [hret _ acts rfl rfl rfl]) | rw [hret _ _ rfl rfl rfl]
  exact Steps.refl _
/-- what holds at the law's entry: the machine, the code, the tables' words (any of lw_tbl by 'hts w (by decide +kernel)'), the script of L ints xs at the cell b, what the Statement gives of the start (any of its parts by flat_of_before) -/
def lw_At (p : Program) (s : State) (m : MethodId) (meth : Method) (c : Code) (b L : Nat) (xs : Nat → Int32) : Prop :=
  p.tables.exec = Jvm.exec ∧ c.code = code ∧ meth.sig.returnType = ret ∧ c.maxLocals = 4 ∧ s.vm.findClass R_law = some m.cls ∧ (∀ w ∈ lw_tbl, w.before #[Value.ref b] s = true) ∧ va_X b L xs s s.heap ∧ b < s.heap.size ∧ meth.locks = false ∧ (Jvm.Cond.and given_1 narrow_1).before #[Value.ref b] s = true
/-- the plain machine's start -/
def w00 (b L B : Nat) : Wd := (fun a => if a = b then some (14, L) else none, some B, 0, 0)
def I00 (b : Nat) (xs : Nat → Int32) : MI := fun a k => if a = b then xs k else 0
def L00 : ML := fun _ _ => 0
def P00 : MP := fun _ _ => none
theorem tab_good : ∀ w ∈ goodL, w ∈ lw_tbl := fun w h => (List.mem_filter.mp h).1
theorem few2 : (∀ ci, ci < 4 → Cond.arrayOver (.object (oN ci)) ∈ lw_tbl) ∧ (∀ x ∈ sT, Cond.stringRef (oN x.1) x.2.1 x.2.2.1 ∈ lw_tbl ∧ x.1 = 6) ∧ (∀ i, i < 3 → Cond.castable (eN i) (eN i) ∈ lw_tbl) ∧ Cond.laysStatic Bundle.tN "UNASSIGNED_STACK" Bundle.steD ∈ lw_tbl ∧ Cond.laysStatic Bundle.tN "SUPPRESSED_SENTINEL" Bundle.listD ∈ lw_tbl ∧ Cond.initialized Bundle.tN ∈ lw_tbl := by decide +kernel
set_option maxRecDepth 100000 in
theorem few3 : (∀ i, i < 3 → ∀ j, j < 3 → i ≠ j → Cond.not (.castable (eN i) (eN j)) ∈ flatC (Jvm.Cond.and given_1 narrow_1)) ∧ Cond.isRef (.static Bundle.tN "UNASSIGNED_STACK" Bundle.steD) ∈ flatC (Jvm.Cond.and given_1 narrow_1) ∧ Cond.isRef (.static Bundle.tN "SUPPRESSED_SENTINEL" Bundle.listD) ∈ flatC (Jvm.Cond.and given_1 narrow_1) := by decide +kernel
def arrTy (k : Nat) : FieldType := if k = 8 then .int else if k = 9 then .int else .object (oN (k - 10))
section TOP2
variable {p : Program} {e : Env} {s : State} {m : MethodId} {below : List Frame} {meth : Method} {c : Code}
theorem start_Sf {args : Array Value} (hts : ∀ w ∈ lw_tbl, w.before args s = true) (hgv : (Jvm.Cond.and given_1 narrow_1).before args s = true) : ∃ (D : va_G) (cy : Nat → ClassId), Sf D cy s := by
  have hG : ∀ w ∈ goodL, w.before args s = true := fun w hw => hts w (tab_good w hw)
  have hn := flat_of_before _ hgv
  have hcl : ∀ ci, ∃ q : ClassId × (Nat → Nat), ci < 8 → u_Kn s (oN ci) (tN_ ci) (nF ci) q.1 q.2 := by
    intro ci
    by_cases h : ci < 8
    · obtain ⟨cC, iS, hK⟩ := u_known hG (uws_ok ci h) (hts _ (List.mem_of_getElem? (iT_ok ci h).1))
      exact ⟨(cC, iS), fun _ => hK⟩
    · exact ⟨(0, fun _ => 0), fun z => absurd z h⟩
  have hKc : ∀ (k : Nat) (q : vw_C), vwCl[k]? = some q → u_Kn s q.1 q.2.1 q.2.2 (Classical.choose (hcl k)).1 (Classical.choose (hcl k)).2 := by
    intro k q hq
    have h8 : k < 8 := (List.getElem?_eq_some_iff.mp hq).1
    have h9 := Classical.choose_spec (hcl k) h8
    rw [vw_ok k h8] at hq
    cases hq
    exact h9
  have harr : ∀ k, ∃ cA : ClassId, 8 ≤ k → k < 14 → ArrOfT s cA (arrTy k) ∧ va_RA s cA (arrTy k) := by
    intro k
    by_cases h8 : k = 8
    · subst h8
      obtain ⟨cA, kA, comp, h1, h2, h3⟩ := Cond.arrayClass_spec (hts (.arrayClass .int) (few_ok _ (by simp)).1)
      exact ⟨cA, fun _ _ => (show ArrOfT s cA .int ∧ va_RA s cA .int from ⟨fun n z => ⟨fun k h => (by cases h), kA, h2, comp, h3⟩, h1⟩)⟩
    · by_cases h9 : k = 9
      · subst h9
        obtain ⟨cA, kA, comp, h1, h2, h3⟩ := Cond.arrayClass_spec (hts (.arrayClass .int) (few_ok _ (by simp)).1)
        exact ⟨cA, fun _ _ => (show ArrOfT s cA .int ∧ va_RA s cA .int from ⟨fun n z => ⟨fun k h => (by cases h), kA, h2, comp, h3⟩, h1⟩)⟩
      · by_cases hk : 10 ≤ k ∧ k < 14
        · obtain ⟨comp, cA, kA, h1, h2, h3, h4, h5⟩ := Cond.arrayOver_spec (hts _ (few2.1 (k - 10) (by omega)))
          refine ⟨cA, fun _ _ => ?_⟩
          unfold arrTy
          rw [if_neg h8, if_neg h9]
          exact ⟨fun n z => ⟨fun k h => (by cases h), kA, h3, comp, h4⟩, kA, comp, h3, h4, h1, h5⟩
        · exact ⟨0, fun z1 z2 => by omega⟩
  refine ⟨(fun k => (Classical.choose (hcl k)).1, fun k => (Classical.choose (hcl k)).2), fun k => Classical.choose (harr k), ⟨hKc, fun k q hk => ?_⟩, fun w hw hn => ?_, fun ci hci => va_AO.of (A := args) ?_, fun x hx => ?_, fun i hi j hj => ?_⟩
  · have hl : k < 6 := (List.getElem?_eq_some_iff.mp hk).1
    have h9 := Classical.choose_spec (harr (k + 8)) (by omega) (by omega)
    have h6 : k = 0 ∨ k = 1 ∨ k = 2 ∨ k = 3 ∨ k = 4 ∨ k = 5 := by omega
    rcases h6 with rfl | rfl | rfl | rfl | rfl | rfl <;> cases hk <;> exact h9
  · have h9 := hts w hw
    cases w <;> simp [isNest] at hn <;> exact va_Nw.of rfl h9
  · exact hts _ (few2.1 ci hci)
  · obtain ⟨h1, h2⟩ := few2.2.1 x hx
    have h3 := hts _ h1
    obtain ⟨k, cf, i, a, -, -, -, -, -, ha⟩ := Cond.stringRef_spec (cur := (Classical.choose (hcl 6)).1) (by rw [h2]; exact (Classical.choose_spec (hcl 6) (by omega)).2.1) h3
    exact ⟨a, vk_R.of (A := args) h3 ha⟩
  · by_cases hij : i = j
    · subst hij
      rw [if_pos rfl]
      exact va_Nw.of rfl (hts _ (few2.2.2.1 i hi))
    · rw [if_neg hij]
      exact va_Nc.of (hn _ (few3.1 i hi j hj hij))
set_option maxHeartbeats 4000000 in
/-- the law's walk out of a run of the plain machine -/
theorem law_of (l : Launch) (hflags : l.flags = flags0) {b L : Nat} {xs : Nat → Int32} (hL : L ≤ 260) (C0 : lw_At p s m meth c b L xs) {n : Nat} {w1 : Wd} {I1 : MI} {L1 : ML} {P1 : MP}
    (h : exec n 146 0 (ent [.ref b] 4) [] (w00 b L s.heap.size) (I00 b xs) L00 P00 = some (.inl (some (.int 1)), w1, I1, L1, P1)) (hk1 : w1.2.2.1 ≤ 611061) (hk2 : w1.2.2.2 ≤ 7268514) :
    W p l e room_1 s m #[Value.ref b] below meth c s.heap [] 0 0 (lw_Z below #[Value.ref b] s) (entryFrame m ([Value.ref b] : List Value).toArray 4) := by
  obtain ⟨hx, hb, hr, hml, hown, hts, hX, hbl, hlocks, hgv⟩ := id C0
  have hG : ∀ w ∈ goodL, w.before #[Value.ref b] s = true := fun w hw => hts w (tab_good w hw)
  obtain ⟨D, cy, hSf⟩ := start_Sf hts hgv
  have hn := flat_of_before _ hgv
  have hA : ∀ a : Nat, a < s.heap.size → ¬ wA s.heap.size a := fun a h z => by unfold wA at z; omega
  have hH : Hp D cy s.heap.size s s.heap (w00 b L s.heap.size) (I00 b xs) L00 P00 := by
    refine ⟨fun a k n ha => ?_, fun a k n ha hk => ?_, fun a n ha => ?_, fun q hq => (Option.some.inj hq).symm, Nat.le_refl _, vx_Zqof (hts _ few2.2.2.2.1) (hts _ few2.2.2.2.2.2) (hn _ few3.2.1) hA, vx_Zqof (hts _ few2.2.2.2.2.1) (hts _ few2.2.2.2.2.2) (hn _ few3.2.2) hA⟩
    · unfold w00 at ha
      simp only at ha
      split at ha
      · cases ha; omega
      · cases ha
    · unfold w00 at ha
      simp only at ha
      split at ha
      · cases ha; omega
      · cases ha
    · unfold w00 at ha
      simp only at ha
      split at ha
      · next hab =>
        cases ha
        subst hab
        refine ⟨?_, hbl⟩
        have e9 : I00 a xs a = xs := by funext k; simp [I00]
        rw [e9]
        exact hX
      · cases ha
  rw [lg_entry_eq]
  have hfl : l.stackTraces = false := by
    unfold Launch.stackTraces
    rw [hflags]
    decide +kernel
  refine frame (mm := 146) (r := (.inl (some (.int 1)), w1, I1, L1, P1)) (c0 := 0) (s0 := 0) (D := D) (cy := cy) (B := s.heap.size) hx hfl hb hown hG hSf (fun hn => absurd hn (by decide +kernel)) hml ⟨by decide +kernel, by decide +kernel⟩ (fun hn => absurd rfl hn) (fun z hz => by cases hz) ?_ ?_ ?_ (by show w1.2.2.1 ≤ 611061 + 0; omega) (by show w1.2.2.2 ≤ 7268514 + 0; omega) n (fun n' _ => sim_all n') n (Nat.le_refl _) 0 (ent [.ref b] 4) [] (w00 b L s.heap.size) (I00 b xs) L00 P00 _ s.heap [] 0 0 h (ent_lvr [.ref b] (Nat.le_of_ble_eq_true rfl)) hH va_S.rf rfl rfl
  · intro v pc i len ls' stk H1 locs1 cells1 slots1 hv hd hsr hH1 hS1 hc1 hs1
    cases hv
    cases i with
    | ireturn =>
      simp only [stR] at hsr; replace hsr := ite_some_iff hsr; obtain ⟨rfl, hsr⟩ := hsr
      split at hsr
      · next x =>
        replace hsr := ite_some_iff hsr; obtain ⟨-, hsr⟩ := hsr; cases hsr
        refine va_forget (fun q hq => hS1.2.2 q hq) (W.widen (k := 611061) (n := 7268514) (by simp only at hc1; omega) (by simp only at hs1; omega) ?_)
        exact lw_ret hx hb hr hlocks hd
      · cases hsr
    | return_ => simp only [stR] at hsr; replace hsr := (ite_some_iff hsr).2; cases hsr
    | lreturn =>
      simp only [stR] at hsr; replace hsr := (ite_some_iff hsr).2
      split at hsr
      · replace hsr := (ite_some_iff hsr).2; cases hsr
      · cases hsr
    | dreturn =>
      simp only [stR] at hsr; replace hsr := (ite_some_iff hsr).2
      split at hsr
      · replace hsr := (ite_some_iff hsr).2; cases hsr
      · cases hsr
    | areturn =>
      simp only [stR] at hsr; replace hsr := (ite_some_iff hsr).2
      split at hsr
      · split at hsr <;> cases hsr
      · split at hsr <;> cases hsr
      · cases hsr
    | _ => simp only [stR] at hsr; cases hsr
  · intro x pc ls' stk ce q H1 locs1 cells1 slots1 _ _ hv
    cases hv
  · intro x pc i len ls' stk H1 locs1 cells1 slots1 w' I' L' P' hd hst
    obtain ⟨_, _, _, _, _, _, _, _, _, _, _, _, _, hmo, _⟩ := stT_inv hst
    exact absurd hmo (by decide +kernel)
end TOP2
