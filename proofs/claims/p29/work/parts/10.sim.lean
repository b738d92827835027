theorem mHead_good (e : MT) : goodWord (mHead e) = true := by unfold mHead; split <;> rfl
theorem mT_own : ∀ e ∈ mTabA, mSt e = false → e.2.2.2.2.2.1 < 8 := by decide +kernel
theorem mT_initR : ∀ e ∈ mTabA, e.1.name = "<init>" → e.2.2.2.1 = none := by decide +kernel
theorem mE_mem {y : Nat} (h : y < 146) : mE y ∈ mTabA := by
  have hl := mTab_len
  unfold mE mTab
  rw [List.getD_eq_getElem?_getD, List.getElem?_append_left (by omega)]
  have h2 : y < mTabA.length := by omega
  rw [List.getElem?_eq_getElem h2]
  exact List.getElem_mem h2
/-- the words of a method -/
def mWd (y : Nat) : List Cond := mHead (mE y) :: goodL
theorem w_code {y : Nat} (h : y < 146) : mHead (mE y) ∈ goodL := mem_goodL (List.mem_of_getElem? (mT_code _ (mE_mem h))) (mHead_good _)
theorem w_static {y : Nat} (h : y < 146) (hs : mS y = true) : Cond.static (mN y) ∈ goodL := by
  have h1 := mT_kind _ (mE_mem h)
  rw [if_pos (show mSt (mE y) = true from hs)] at h1
  exact mem_goodL (List.mem_of_getElem? h1) rfl
theorem w_inst {y : Nat} (h : y < 146) (hs : mS y = false) : Cond.instanceMethod (mN y) ∈ goodL := by
  have h1 := mT_kind _ (mE_mem h)
  rw [if_neg (by rw [show mSt (mE y) = false from hs]; decide)] at h1
  exact mem_goodL (List.mem_of_getElem? h1) rfl
theorem w_sel {y : Nat} (h : y < 146) (hs : mS y = false) (hn : (mN y).name ≠ "<init>") : Cond.selects (mN y).cls (mN y) (mN y) ∈ goodL :=
  mem_goodL (List.mem_of_getElem? (mT_sel _ (mE_mem h) hs hn)) rfl
theorem w_init {y : Nat} (h : y < 146) : Cond.initialized (mN y).cls ∈ goodL := mem_goodL (List.mem_of_getElem? (mT_init _ (mE_mem h))) rfl
theorem mWd_code {y : Nat} (hh : mH y = []) : mWd y = Cond.code (mN y) (mB y) (mL y) (mR y) :: goodL := by
  unfold mWd mHead
  rw [if_pos (show (mE y).2.2.2.2.1 = [] from hh)]
  rfl
theorem mWd_codeW {y : Nat} (hh : mH y ≠ []) : mWd y = Cond.codeWith (mN y) (mB y) (mL y) (mR y) (mH y) :: goodL := by
  unfold mWd mHead
  rw [if_neg (show ¬ (mE y).2.2.2.2.1 = [] from hh)]
  rfl
theorem w_code0 {y : Nat} (h : y < 146) (hh : mH y = []) : Cond.code (mN y) (mB y) (mL y) (mR y) ∈ goodL := by
  have h1 := w_code h
  unfold mHead at h1
  rw [if_pos (show (mE y).2.2.2.2.1 = [] from hh)] at h1
  exact h1
theorem w_codeW {y : Nat} (h : y < 146) (hh : mH y ≠ []) : Cond.codeWith (mN y) (mB y) (mL y) (mR y) (mH y) ∈ goodL := by
  have h1 := w_code h
  unfold mHead at h1
  rw [if_neg (show ¬ (mE y).2.2.2.2.1 = [] from hh)] at h1
  exact h1
-- what stays from state to state
theorem goodL_warm {args a' : Array Value} {s U : State} (hW : s.WarmedH U.vm) (h : ∀ w ∈ goodL, w.before args s = true) : ∀ w ∈ goodL, w.before a' U = true :=
  fun w hw => word_at hW (good_of_word (List.mem_filter.mp hw).2) (h w hw)
theorem Sf.warm {D : va_G} {cy : Nat → ClassId} {s U : State} (hW : s.WarmedH U.vm) (h : Sf D cy s) : Sf D cy U := by
  obtain ⟨h1, h2, h3, h4, h5⟩ := h
  refine ⟨va_K.moved hW.alike h1, fun w hw hn => ?_, fun ci hci => (h3 ci hci).moved hW.alike, fun x hx => ?_, fun i hi j hj => ?_⟩
  · have h9 := h2 w hw hn
    cases w <;> simp [isNest] at hn
    · exact va_Nw.warmM hW h9
    · exact va_Nw.warmF hW h9
    · exact va_Nw.warmD hW h9
  · obtain ⟨a, ha⟩ := h4 x hx
    exact ⟨a, ha.warm hW⟩
  · have h9 := h5 i hi j hj
    by_cases hij : i = j
    · rw [if_pos hij] at h9 ⊢; exact va_Nw.warmC hW h9
    · rw [if_neg hij] at h9 ⊢; exact va_Nc.moved hW.alike h9
theorem Hp.moved {D : va_G} {cy : Nat → ClassId} {B : Nat} {s U : State} {H : Heap} {w : Wd} {I : MI} {L : ML} {P : MP} (hvm : s.vm.Alike U.vm) (h : Hp D cy B s H w I L P) : Hp D cy B U H w I L P :=
  ⟨h.1, h.2.1, fun a n ha => ⟨(h.2.2.1 a n ha).1.moved hvm, (h.2.2.1 a n ha).2⟩, h.2.2.2.1, h.2.2.2.2.1, h.2.2.2.2.2.1.moved hvm, h.2.2.2.2.2.2.moved hvm⟩
-- counts only grow
theorem stM_mono {m pc len : Nat} {i : Instr} {st : List Value} {w : Wd} {I : MI} {L : ML} {P : MP} {n : M6} (h : stM m pc i len st w I L P = some n) : w.2.2.1 ≤ n.2.2.1.2.2.1 ∧ w.2.2.2 ≤ n.2.2.1.2.2.2 := by
  unfold stM at h
  repeat' (first | (cases h; done) | (cases h; (first | exact ⟨Nat.le_refl _, Nat.le_refl _⟩ | (simp only [newT]; omega))) | split at h)
theorem exec_mono : ∀ (n m pc : Nat) (ls st : List Value) (w : Wd) (I : MI) (L : ML) (P : MP) (r : Rs), exec n m pc ls st w I L P = some r → w.2.2.1 ≤ r.2.1.2.2.1 ∧ w.2.2.2 ≤ r.2.1.2.2.2 := by
  intro n
  induction n with
  | zero => intro m pc ls st w I L P r h; cases h
  | succ n ih =>
    intro m pc ls st w I L P r h
    unfold exec at h
    split at h
    · cases h
    · next pc' ls' st' w' I' L' P' hs =>
      have h1 := ih _ _ _ _ _ _ _ _ _ h
      have h2 : w.2.2.1 ≤ w'.2.2.1 ∧ w.2.2.2 ≤ w'.2.2.2 := by
        unfold stp at hs
        split at hs
        · cases hs
        · split at hs
          · cases hs; exact ⟨Nat.le_refl _, Nat.le_refl _⟩
          · split at hs
            · next hm => cases hs; exact stM_mono hm
            · split at hs
              · cases hs
              · split at hs
                · cases hs
                · split at hs <;> cases hs
      omega
    · next r' hs =>
      cases h
      unfold stp at hs
      split at hs
      · cases hs
      · split at hs
        · cases hs
        · split at hs
          · cases hs
          · split at hs
            · cases hs
            · split at hs
              · cases hs; exact ⟨Nat.le_refl _, Nat.le_refl _⟩
              · split at hs
                · cases hs; simp only [thrT]; omega
                · cases hs
    · split at h
      · cases h
      · next hx =>
        have h1 := ih _ _ _ _ _ _ _ _ _ hx
        have h2 := ih _ _ _ _ _ _ _ _ _ h
        simp only at h1
        omega
      · next hx =>
        have h1 := ih _ _ _ _ _ _ _ _ _ hx
        simp only at h1
        split at h
        · cases h; exact h1
        · split at h
          · obtain ⟨-, h⟩ := ite_some_iff h
            have h2 := ih _ _ _ _ _ _ _ _ _ h
            omega
          · cases h
