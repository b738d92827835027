-- the plain machine's runs as equations
theorem exec_up : ∀ (n m pc : Nat) (ls st : List Value) (w : Wd) (I : MI) (L : ML) (P : MP) (r : Rs), exec n m pc ls st w I L P = some r → exec (n + 1) m pc ls st w I L P = some r := by
  intro n
  induction n with
  | zero => intro m pc ls st w I L P r h; cases h
  | succ n ih =>
    intro m pc ls st w I L P r h
    rw [exec] at h ⊢
    split at h
    · cases h
    · next pc' ls' st' w' I' L' P' hs => exact ih _ _ _ _ _ _ _ _ _ h
    · next r' hs => exact h
    · next y as rs hs =>
      split at h
      · cases h
      · next v w' I' L' P' hx =>
        rw [ih _ _ _ _ _ _ _ _ _ hx]
        exact ih _ _ _ _ _ _ _ _ _ h
      · next x w' I' L' P' hx =>
        rw [ih _ _ _ _ _ _ _ _ _ hx]
        simp only
        split at h
        · exact h
        · split at h
          · next pc' k hh =>
            obtain ⟨h1, h2⟩ := ite_some_iff h
            rw [if_pos h1]
            exact ih _ _ _ _ _ _ _ _ _ h2
          · cases h
theorem exec_le {n k m pc : Nat} {ls st : List Value} {w : Wd} {I : MI} {L : ML} {P : MP} {r : Rs} (h : exec n m pc ls st w I L P = some r) (hk : n ≤ k) : exec k m pc ls st w I L P = some r := by
  induction hk with
  | refl => exact h
  | step _ ih => exact exec_up _ _ _ _ _ _ _ _ _ _ ih
theorem exec_det {n k m pc : Nat} {ls st : List Value} {w : Wd} {I : MI} {L : ML} {P : MP} {r r' : Rs} (h : exec n m pc ls st w I L P = some r) (h' : exec k m pc ls st w I L P = some r') : r = r' := by
  have h1 := exec_le h (Nat.le_max_left n k)
  have h2 := exec_le h' (Nat.le_max_right n k)
  exact Option.some.inj (h1.symm.trans h2)
noncomputable def go (m pc : Nat) (ls st : List Value) (w : Wd) (I : MI) (L : ML) (P : MP) : Option Rs := @dite _ (∃ (r : Rs) (n : Nat), exec n m pc ls st w I L P = some r) (Classical.propDecidable _) (fun h => some (Classical.choose h)) (fun _ => none)
theorem go_of {n m pc : Nat} {ls st : List Value} {w : Wd} {I : MI} {L : ML} {P : MP} {r : Rs} (h : exec n m pc ls st w I L P = some r) : go m pc ls st w I L P = some r := by
  have hx : ∃ (r : Rs) (n : Nat), exec n m pc ls st w I L P = some r := ⟨r, n, h⟩
  unfold go
  rw [dif_pos hx]
  obtain ⟨k, hk⟩ := Classical.choose_spec hx
  rw [exec_det hk h]
theorem go_to {m pc : Nat} {ls st : List Value} {w : Wd} {I : MI} {L : ML} {P : MP} {r : Rs} (h : go m pc ls st w I L P = some r) : ∃ n, exec n m pc ls st w I L P = some r := by
  unfold go at h
  split at h
  · next hx =>
    obtain ⟨k, hk⟩ := Classical.choose_spec hx
    rw [Option.some.inj h] at hk
    exact ⟨k, hk⟩
  · cases h
theorem go_ext {m pc m' pc' : Nat} {ls st ls' st' : List Value} {w w' : Wd} {I I' : MI} {L L' : ML} {P P' : MP} (h1 : ∀ n r, exec n m pc ls st w I L P = some r → ∃ k, exec k m' pc' ls' st' w' I' L' P' = some r) (h2 : ∀ n r, exec n m' pc' ls' st' w' I' L' P' = some r → ∃ k, exec k m pc ls st w I L P = some r) : go m pc ls st w I L P = go m' pc' ls' st' w' I' L' P' := by
  cases ha : go m pc ls st w I L P with
  | some r =>
    obtain ⟨n, hn⟩ := go_to ha
    obtain ⟨k, hk⟩ := h1 n r hn
    exact (go_of hk).symm
  | none =>
    cases hb : go m' pc' ls' st' w' I' L' P' with
    | none => rfl
    | some r =>
      obtain ⟨n, hn⟩ := go_to hb
      obtain ⟨k, hk⟩ := h2 n r hn
      rw [go_of hk] at ha
      cases ha
theorem go_next {m pc pc' : Nat} {ls st ls' st' : List Value} {w w' : Wd} {I I' : MI} {L L' : ML} {P P' : MP} (h : stp m pc ls st w I L P = some (.inl (pc', ls', st', w', I', L', P'))) : go m pc ls st w I L P = go m pc' ls' st' w' I' L' P' := by
  refine go_ext (fun n r hn => ?_) (fun n r hn => ⟨n + 1, by rw [exec, h]; exact hn⟩)
  cases n with
  | zero => cases hn
  | succ n => rw [exec, h] at hn; exact ⟨n, hn⟩
noncomputable def call (y : Nat) (as : List Value) (w : Wd) (I : MI) (L : ML) (P : MP) : Option Rs := go y 0 (ent as (mL y)) [] w I L P
/-- behind a call that answers a value, one that answers nothing: no handler here -/
def kV (o : Option Rs) (f : Value → Wd → MI → ML → MP → Option Rs) : Option Rs := match o with
  | some (.inl (some v), w, I, L, P) => f v w I L P
  | some (.inr e, w, I, L, P) => some (.inr e, w, I, L, P)
  | _ => none
def k0 (o : Option Rs) (f : Wd → MI → ML → MP → Option Rs) : Option Rs := match o with
  | some (.inl none, w, I, L, P) => f w I L P
  | some (.inr e, w, I, L, P) => some (.inr e, w, I, L, P)
  | _ => none
section GO
variable {m pc : Nat} {ls st r : List Value} {w : Wd} {I : MI} {L : ML} {P : MP} {i : Instr} {len : Nat}
theorem go_A {n : A3} (hd : decode (mB m) pc = .ok (i, len)) (h : stA (mO m) pc i len ls st = some n) : go m pc ls st w I L P = go m n.1 n.2.1 n.2.2 w I L P := by
  refine go_next ?_
  unfold stp
  rw [hd]
  simp only [h]
theorem go_M {n : M6} (hd : decode (mB m) pc = .ok (i, len)) (hA : stA (mO m) pc i len ls st = none) (h : stM m pc i len st w I L P = some n) : go m pc ls st w I L P = go m n.1 ls n.2.1 n.2.2.1 n.2.2.2.1 n.2.2.2.2.1 n.2.2.2.2.2 := by
  refine go_next ?_
  unfold stp
  rw [hd]
  simp only [hA, h]
theorem go_R {v : Option Value} (hd : decode (mB m) pc = .ok (i, len)) (hA : stA (mO m) pc i len ls st = none) (hM : stM m pc i len st w I L P = none) (hC : stC m i len st w = none) (h : stR m i len st = some v) : go m pc ls st w I L P = some (.inl v, w, I, L, P) := by
  refine go_of (n := 1) ?_
  rw [exec]
  unfold stp
  rw [hd]
  simp only [hA, hM, hC, h]
theorem go_T {x : Nat} (hd : decode (mB m) pc = .ok (i, len)) (hA : stA (mO m) pc i len ls st = none) (hM : stM m pc i len st w I L P = none) (hC : stC m i len st w = none) (hR : stR m i len st = none) (h : stT m pc i len st = some x) : go m pc ls st w I L P = some (.inr x, thrT w, I, L, P) := by
  refine go_of (n := 1) ?_
  rw [exec]
  unfold stp
  rw [hd]
  simp only [hA, hM, hC, hR, h]
/-- a call: what the callee does, and what follows -/
theorem go_C {y : Nat} {as rs : List Value} (hd : decode (mB m) pc = .ok (i, len)) (hA : stA (mO m) pc i len ls st = none) (hM : stM m pc i len st w I L P = none) (h : stC m i len st w = some (y, as, rs)) :
    go m pc ls st w I L P = (match call y as w I L P with
      | none => none
      | some (.inl v, w', I', L', P') => go m (pc + 3) ls (v.toList ++ rs) w' I' L' P'
      | some (.inr x, w', I', L', P') => (match mH m with
        | [] => some (.inr x, w', I', L', P')
        | _ :: _ => (match hnd m pc x with
          | some (pc', k) => if k < ls.length then go m pc' (lset1 ls k unk) [] w' I' L' P' else none
          | none => none))) := by
  have hs : stp m pc ls st w I L P = some (.inr (.inr (y, as, rs))) := by
    unfold stp
    rw [hd]
    simp only [hA, hM, h]
  cases hc : call y as w I L P with
  | none =>
    simp only
    cases hg : go m pc ls st w I L P with
    | none => rfl
    | some r =>
      obtain ⟨n, hn⟩ := go_to hg
      cases n with
      | zero => cases hn
      | succ n =>
        rw [exec, hs] at hn
        simp only at hn
        split at hn
        · cases hn
        · next hx => rw [show call y as w I L P = _ from go_of hx] at hc; cases hc
        · next hx => rw [show call y as w I L P = _ from go_of hx] at hc; cases hc
  | some o =>
    obtain ⟨k, hk⟩ := go_to (show go y 0 (ent as (mL y)) [] w I L P = some o from hc)
    obtain ⟨o1, w', I', L', P'⟩ := o
    cases o1 with
    | inl v =>
      simp only
      refine go_ext (fun n r hn => ?_) (fun n r hn => ⟨max n k + 1, ?_⟩)
      · cases n with
        | zero => cases hn
        | succ n =>
          rw [exec, hs] at hn
          simp only at hn
          split at hn
          · cases hn
          · next hx => cases exec_det hk hx; exact ⟨n, hn⟩
          · next hx => cases exec_det hk hx
      · rw [exec, hs]
        simp only
        rw [exec_le hk (Nat.le_max_right n k)]
        exact exec_le hn (Nat.le_max_left n k)
    | inr x =>
      simp only
      cases hm : mH m with
      | nil =>
        simp only
        refine go_of (n := k + 1) ?_
        rw [exec, hs]
        simp only
        rw [hk]
        simp only [hm]
      | cons h0 ht =>
        simp only
        cases hh : hnd m pc x with
        | none =>
          simp only
          cases hg : go m pc ls st w I L P with
          | none => rfl
          | some r =>
            obtain ⟨n, hn⟩ := go_to hg
            cases n with
            | zero => cases hn
            | succ n =>
              rw [exec, hs] at hn
              simp only at hn
              split at hn
              · cases hn
              · next hx => cases exec_det hk hx
              · next hx =>
                cases exec_det hk hx
                rw [hm] at hn
                simp only [hh] at hn
                cases hn
        | some pk =>
          obtain ⟨pc', kk⟩ := pk
          simp only
          by_cases hl : kk < ls.length
          · rw [if_pos hl]
            refine go_ext (fun n r hn => ?_) (fun n r hn => ⟨max n k + 1, ?_⟩)
            · cases n with
              | zero => cases hn
              | succ n =>
                rw [exec, hs] at hn
                simp only at hn
                split at hn
                · cases hn
                · next hx => cases exec_det hk hx
                · next hx =>
                  cases exec_det hk hx
                  rw [hm] at hn
                  simp only [hh, if_pos hl] at hn
                  exact ⟨n, hn⟩
            · rw [exec, hs]
              simp only
              rw [exec_le hk (Nat.le_max_right n k)]
              simp only [hm, hh, if_pos hl]
              exact exec_le hn (Nat.le_max_left n k)
          · rw [if_neg hl]
            cases hg : go m pc ls st w I L P with
            | none => rfl
            | some r =>
              obtain ⟨n, hn⟩ := go_to hg
              cases n with
              | zero => cases hn
              | succ n =>
                rw [exec, hs] at hn
                simp only at hn
                split at hn
                · cases hn
                · next hx => cases exec_det hk hx
                · next hx =>
                  cases exec_det hk hx
                  rw [hm] at hn
                  simp only [hh, if_neg hl] at hn
                  cases hn
end GO
