/-! who is left behind the header -/
def hx (N : Nat → Int32) (c : Nat) : Nat := Int32.toNatClampNeg (hdr N c)
theorem hx_ok {N : Nat → Int32} {k c : Nat} (hi : OC N k c) (h : 0 < zc N c) : hdr N c = nI (hx N c) ∧ hx N c < 256 := by
  obtain ⟨s, hs, h1, h2, h3⟩ := hi
  have ez : zc N c = s := cl_of h1 (by omega)
  obtain ⟨⟨a, ha, e0⟩, e1, _⟩ := h3 0 (by omega)
  rw [Nat.mul_zero, Nat.add_zero] at e0 e1
  rw [show 215 + 40 * c + 1 = 216 + 40 * c from by omega] at e1
  obtain ⟨x, hx1, hx2⟩ : ∃ x, x < 256 ∧ hdr N c = nI x := by
    unfold hdr
    rw [e0]
    rcases e1 with e | e <;> rw [e, pk_mul, nI_add]
    · exact ⟨_, by omega, rfl⟩
    · exact ⟨_, by omega, rfl⟩
  have : hx N c = x := by unfold hx; rw [hx2, cl_nI (by omega)]
  rw [this]
  exact ⟨hx2, hx1⟩
def HB (N M : Nat → Int32) (j p : Nat) : Prop := S8 M ∧ M 5 ≠ nI 0 ∧ (∀ c, c < 3 → conB M (nI c) → 0 < zc N c ∧ hdr M c = hdr N c ∧ hx N c / 2 ^ (8 - j) = p) ∧ ∀ c, c < 3 → 0 < zc N c → ¬ conB M (nI c) → p < hx N c / 2 ^ (8 - j)
theorem HB_start {N : Nat → Int32} {q : Nat} (hg : GN N q) (hq : q < 2147483647) (h4 : N 4 = 0) (hz : qz N ≠ 0) : HB N (slotN N) 0 0 ∧ slotN N 4 = nI 1 ∧ slotN N 6 = nI 0 ∧ slotKind N = nI 1 := by
  obtain ⟨ho, h0⟩ := GN_ok hg
  have hg2 := GN_slot hg hq
  obtain ⟨w, b, I, L, P, ht, ⟨k, n, md, hbc⟩, -⟩ := hg
  obtain ⟨⟨hk0, hk, h1, -⟩, -, -, hm, -, -, -, -, -, -, hi, -, hp⟩ := hbc
  have h8 := PH_8 hp
  have em : md = 0 := by
    rw [hm, ← nI_0, nI_eq (by omega) (by omega)] at h4
    exact h4
  subst em
  have hr64 : q % 64 < 64 := Nat.mod_lt _ (by omega)
  have es : stepN N = begN N k := by
    unfold stepN
    rw [cl_of hm (by omega)]
    change begN N (cl N 1) = _
    rw [cl_of h1 (by omega)]
  have e : ∀ x, x ≠ 0 → x ≠ 10 → x ≠ 12 → (x < 15 ∨ 207 ≤ x) → slotN N x = begN N k x := fun x a b c d => by rw [slotN_out ho h0 (by omega) ⟨a, b, c⟩ (by omega), es]
  obtain ⟨⟨s, hs8, hs⟩, hcon⟩ := begS_con hk0 hk hi.1
  have nb : begS N k ≠ 0 := fun z => by
    have := (begS_0 hk0 hk hi.1).mp z
    obtain ⟨e1, z0, z1, z2, -⟩ := OC_sum hi.1
    rw [e1, ← nI_0, nI_eq (by omega) (by omega)] at this
    exact hz this
  have e5 : slotN N 5 = begS N k := by
    rw [e 5 (by omega) (by omega) (by omega) (by omega)]
    unfold begN
    rw [sN_ne (by omega), sN_ne (by omega), sN_eq]
  have ez : ∀ c, c < 3 → (¬ N (207 + 40 * c) ≤ 0 ↔ 0 < zc N c) := fun c hc => by
    obtain ⟨-, z0, z1, z2, ez⟩ := OC_sum hi.1
    have : zc N c ≤ 4 := by rcases (show c = 0 ∨ c = 1 ∨ c = 2 by omega) with rfl | rfl | rfl <;> assumption
    rw [ez c hc, ← nI_0]
    constructor
    · intro y
      refine Classical.byContradiction (fun x => y ?_)
      have : zc N c = 0 := by omega
      rw [this]
      exact nI_le (Nat.le_refl _) (by omega)
    · intro y
      exact nI_ge y (by omega)
  have hcon2 : ∀ c, c < 3 → (conB (slotN N) (nI c) ↔ 0 < zc N c) := fun c hc => by
    unfold conB
    rw [e5, hcon c hc, ez c hc]
  refine ⟨⟨⟨s, hs8, e5.trans hs⟩, by rw [e5, nI_0]; exact nb, ?_, ?_⟩, ?_, ?_, ?_⟩
  · intro c hc hb
    have hz2 := (hcon2 c hc).mp hb
    obtain ⟨-, x256⟩ := hx_ok (hi.1 c hc) hz2
    refine ⟨hz2, ?_, ?_⟩
    · unfold hdr
      rw [e _ (by omega) (by omega) (by omega) (by omega), e _ (by omega) (by omega) (by omega) (by omega), begN_out (by omega), begN_out (by omega)]
    · show hx N c / 256 = 0
      exact Nat.div_eq_of_lt x256
  · intro c hc hz2 hn
    exact absurd ((hcon2 c hc).mpr hz2) hn
  · rw [e 4 (by omega) (by omega) (by omega) (by omega)]
    unfold begN
    rw [sN_ne (by omega), sN_eq, if_neg nb]
  · rw [e 6 (by omega) (by omega) (by omega) (by omega)]
    unfold begN
    rw [sN_eq]
  · unfold slotKind
    rw [if_pos h4, es]
    unfold begN
    rw [sN_ne (by omega), sN_eq, if_neg nb, if_neg (by decide)]
theorem HB_step {N M : Nat → Int32} {q j p : Nat} (hg : GN M q) (hq : q < 2147483647) (h4 : M 4 = nI 1) (h6 : M 6 = nI j) (hj : j < 8) (hN : ∀ c, c < 3 → 0 < zc N c → hdr N c = nI (hx N c) ∧ hx N c < 256) (hb : HB N M j p) : (∃ p', HB N (slotN M) (j + 1) p') ∧ slotN M 4 = (if j + 1 = 8 then nI 2 else nI 1) ∧ slotN M 6 = nI (j + 1) ∧ slotKind M = nI 2 := by
  obtain ⟨ho, h0⟩ := GN_ok hg
  obtain ⟨w, b, I, L, P, ht, ⟨k, n, md, hbc⟩, -⟩ := hg
  obtain ⟨-, -, -, hm, -, -, -, -, -, -, hi, -, hp⟩ := hbc
  have h8 := PH_8 hp
  have em : md = 1 := by
    rw [hm, nI_eq (by omega) (by omega)] at h4
    exact h4
  subst em
  have hr64 : q % 64 < 64 := Nat.mod_lt _ (by omega)
  have es : stepN M = sN (bitOfN M (nI 1)) 4 (if bitOfN M (nI 1) 6 ≠ nI 8 then nI 1 else nI 2) := by
    unfold stepN
    rw [cl_of hm (by omega)]
    rfl
  have e : ∀ x, x ≠ 0 → x ≠ 10 → x ≠ 12 → (x < 15 ∨ 207 ≤ x) → slotN M x = stepN M x := fun x a b c d => slotN_out ho h0 (by omega) ⟨a, b, c⟩ (by omega)
  have hd : nI 1 = 0 → dnOk M := fun z => absurd z (by decide)
  have b6 : bitOfN M (nI 1) 6 = nI (j + 1) := by
    show sN (loseAll M (nI 1) (lvl M (nI 1))) 6 (loseAll M (nI 1) (lvl M (nI 1)) 6 + nI 1) 6 = _
    rw [sN_eq, loseAll_out (by omega) (by omega), h6, nI_add]
  have eL : ∀ x, x = 5 ∨ 207 ≤ x → slotN M x = loseAll M (nI 1) (lvl M (nI 1)) x := fun x hx => by
    rw [e x (by omega) (by omega) (by omega) (by omega), es, sN_ne (by omega)]
    show sN (loseAll M (nI 1) (lvl M (nI 1))) 6 (loseAll M (nI 1) (lvl M (nI 1)) 6 + nI 1) x = _
    rw [sN_ne (by omega)]
  obtain ⟨b8, b5, bc, bn⟩ := hb
  have con : ∀ c, c < 3 → (conB (slotN M) (nI c) ↔ conB M (nI c) ∧ sbt M (nI 1) c = lvl M (nI 1)) := fun c hc => by
    rw [← con_loseAll hc hi.2.2 hd]
    unfold conB
    rw [eL 5 (by omega)]
  have sb : ∀ c, c < 3 → conB M (nI c) → sbt M (nI 1) c = nI (hx N c / 2 ^ (7 - j) % 2) := fun c hc hcon => by
    obtain ⟨z1, z2, z3⟩ := bc c hc hcon
    obtain ⟨x1, x2⟩ := hN c hc z1
    unfold sbt snt
    rw [if_neg (by decide), z2, x1, h6]
    exact bit_of j hj _ x2
  have dv : ∀ x, x / 2 ^ (8 - j) = x / 2 ^ (7 - j) / 2 := fun x => by
    rw [Nat.div_div_eq_div_mul, ← Nat.pow_succ, show 8 - j = (7 - j).succ from by omega]
  obtain ⟨bt, hbt, elv⟩ : ∃ bt, bt < 2 ∧ lvl M (nI 1) = nI bt := by
    rcases lvl_01 M (nI 1) with z | z
    · exact ⟨0, by omega, z⟩
    · exact ⟨1, by omega, z⟩
  refine ⟨⟨2 * p + bt, ?_, ?_, ?_, ?_⟩, ?_, ?_, kind_md hm (by omega) (by omega)⟩
  · obtain ⟨s, hs, es5⟩ := (IV_loseAll (h := nI 1) (lv := lvl M (nI 1)) hi).2.2
    exact ⟨s, hs, (eL 5 (by omega)).trans es5⟩
  · rw [eL 5 (by omega)]
    exact loseAll_5 hi hd b5
  · intro c hc hcon
    obtain ⟨y1, y2⟩ := (con c hc).mp hcon
    obtain ⟨z1, z2, z3⟩ := bc c hc y1
    rw [sb c hc y1, elv, nI_eq (by omega) (by omega)] at y2
    have hcon' : conB (loseAll M (nI 1) (lvl M (nI 1))) (nI c) := by
      have := hcon
      unfold conB at this ⊢
      rw [← eL 5 (by omega)]; exact this
    have er := reg_loseAll hc hi.2.2 hcon'
    refine ⟨z1, ?_, ?_⟩
    · rw [← z2]
      unfold hdr
      rw [eL _ (by omega), eL _ (by omega), er _ (by omega) (by omega), er _ (by omega) (by omega)]
    · rw [show 8 - (j + 1) = 7 - j from by omega]
      rw [dv] at z3
      omega
  · intro c hc hz2 hn
    rw [show 8 - (j + 1) = 7 - j from by omega]
    by_cases hcon : conB M (nI c)
    · have y2 : ¬ sbt M (nI 1) c = lvl M (nI 1) := fun y => hn ((con c hc).mpr ⟨hcon, y⟩)
      obtain ⟨z1, z2, z3⟩ := bc c hc hcon
      rw [sb c hc hcon, elv, nI_eq (by omega) (by omega)] at y2
      rw [dv] at z3
      -- somebody has sent the level: so it is the lower one
      have : bt = 0 := by
        refine Classical.byContradiction (fun y => y2 ?_)
        have b1 : bt = 1 := by omega
        rw [b1] at elv
        rw [lvl_1] at elv
        by_cases g : (conB M (nI 0) → sbt M (nI 1) 0 = nI 1) ∧ (conB M (nI 1) → sbt M (nI 1) 1 = nI 1) ∧ (conB M (nI 2) → sbt M (nI 1) 2 = nI 1)
        · have : sbt M (nI 1) c = nI 1 := by
            rcases (show c = 0 ∨ c = 1 ∨ c = 2 by omega) with rfl | rfl | rfl
            · exact g.1 hcon
            · exact g.2.1 hcon
            · exact g.2.2 hcon
          rw [sb c hc hcon, nI_eq (by omega) (by omega)] at this
          omega
        · rw [if_neg g] at elv
          exact absurd elv (by decide)
      omega
    · have := bn c hc hz2 hcon
      rw [dv] at this
      omega
  · rw [e 4 (by omega) (by omega) (by omega) (by omega), es, sN_eq, b6]
    by_cases z : j + 1 = 8
    · rw [if_pos z, z, if_neg (by simp)]
    · rw [if_neg z, if_pos (by rw [Ne, nI_eq (by omega) (by omega)]; exact z)]
  · rw [e 6 (by omega) (by omega) (by omega) (by omega), es, sN_ne (by omega), b6]
theorem HB_all {N : Nat → Int32} {q : Nat} (hg : GN N q) (hq : q < 2147480000) (h4 : N 4 = 0) (hz : qz N ≠ 0) (hN : ∀ c, c < 3 → 0 < zc N c → hdr N c = nI (hx N c) ∧ hx N c < 256) : ∀ j, j ≤ 8 → (∃ p, HB N (slotsN N (1 + j)) j p) ∧ slotsN N (1 + j) 4 = (if j = 8 then nI 2 else nI 1) ∧ slotsN N (1 + j) 6 = nI j := by
  intro j
  induction j with
  | zero =>
    intro _
    obtain ⟨a, b, c, -⟩ := HB_start hg (by omega) h4 hz
    exact ⟨⟨0, a⟩, b, c⟩
  | succ j ih =>
    intro hj
    obtain ⟨⟨p, a⟩, b, c⟩ := ih (by omega)
    rw [if_neg (by omega)] at b
    obtain ⟨a1, a2, a3, -⟩ := HB_step (GN_slots hg (1 + j) (by omega)) (by omega) b c (by omega) hN a
    exact ⟨a1, a2, a3⟩
/-- the callers with the lowest header -/
theorem wl_bits : ∀ s, s < 8 → ∀ c, c < 3 → ∃ r, r < 8 ∧ nI s ||| (nI 1 <<< (nI c &&& 31)) = nI r ∧ ∀ c', c' < 3 → (conB' (nI r) (nI c') ↔ conB' (nI s) (nI c') ∨ c' = c) := by decide +kernel
theorem wl_bit1 : ∀ c, c < 3 → ∃ r, r < 8 ∧ nI 1 <<< (nI c &&& 31) = nI r ∧ ∀ c', c' < 3 → (conB' (nI r) (nI c') ↔ c' = c) := by decide +kernel
theorem wl_same : ∀ r, r < 8 → ∀ s, s < 8 → (∀ c, c < 3 → (conB' (nI r) (nI c) ↔ conB' (nI s) (nI c))) → r = s := by decide +kernel
theorem wl_inv {N : Nat → Int32} (hN : ∀ c, c < 3 → 0 < zc N c → hdr N c = nI (hx N c) ∧ hx N c < 256) (ez : ∀ c, c < 3 → (N (207 + 40 * c) ≤ 0 ↔ zc N c = 0)) {k : Nat} (hk : k ≤ 3) (hkz : ∀ c, c < 3 → k ≤ c → zc N c = 0) : ∀ f c, c + f = k → ∀ lo s, s < 8 → lo ≤ 256 → (∀ c', c' < 3 → conB' (nI s) (nI c') → c' < c ∧ 0 < zc N c' ∧ hx N c' = lo) → (∀ c', c' < c → 0 < zc N c' → lo ≤ hx N c' ∧ (hx N c' = lo → conB' (nI s) (nI c'))) → ((∃ c', c' < 3 ∧ 0 < zc N c' ∧ hx N c' = lo) ∨ lo = 256) → ∃ r lo', r < 8 ∧ wlN N f c (nI lo) (nI s) = nI r ∧ (∀ c', c' < 3 → (conB' (nI r) (nI c') ↔ 0 < zc N c' ∧ hx N c' = lo')) ∧ (∀ c', c' < 3 → 0 < zc N c' → lo' ≤ hx N c') ∧ ((∃ c', c' < 3 ∧ 0 < zc N c' ∧ hx N c' = lo') ∨ lo' = 256) := by
  intro f
  induction f with
  | zero =>
    intro c hc lo s hs hlo i1 i2 i3
    have hck : c = k := by omega
    have all : ∀ c', c' < 3 → 0 < zc N c' → c' < c := fun c' h3 hz => by
      refine Classical.byContradiction (fun y => ?_)
      have := hkz c' h3 (by omega)
      omega
    exact ⟨s, lo, hs, rfl, fun c' h3 => ⟨fun y => (i1 c' h3 y).2, fun y => (i2 c' (all c' h3 y.1) y.1).2 y.2⟩, fun c' h3 hz => (i2 c' (all c' h3 hz) hz).1, i3⟩
  | succ f ih =>
    intro c hc lo s hs hlo i1 i2 i3
    have hc3 : c < 3 := by omega
    unfold wlN
    by_cases z : zc N c = 0
    · rw [if_pos ((ez c hc3).mpr z)]
      refine ih (c + 1) (by omega) lo s hs hlo (fun c' h3 y => ⟨by have := (i1 c' h3 y).1; omega, (i1 c' h3 y).2⟩) (fun c' h3 y => ?_) i3
      by_cases e : c' = c
      · subst e; omega
      · exact i2 c' (by omega) y
    · rw [if_neg (fun y => z ((ez c hc3).mp y))]
      obtain ⟨x1, x2⟩ := hN c hc3 (by omega)
      rw [x1]
      by_cases l1 : hx N c < lo
      · rw [if_pos (nI_lt l1 (by omega))]
        obtain ⟨r, hr, er, br⟩ := wl_bit1 c hc3
        rw [er]
        refine ih (c + 1) (by omega) (hx N c) r hr (by omega) (fun c' h3 y => ?_) (fun c' h3 y => ?_) (Or.inl ⟨c, hc3, by omega, rfl⟩)
        · have := (br c' h3).mp y
          subst this
          exact ⟨by omega, by omega, rfl⟩
        · by_cases e : c' = c
          · subst e
            exact ⟨Nat.le_refl _, fun _ => (br c' hc3).mpr rfl⟩
          · have := (i2 c' (by omega) y).1
            exact ⟨by omega, fun q => by omega⟩
      · rw [if_neg (nI_nlt (by omega) (by omega))]
        by_cases l2 : hx N c = lo
        · rw [if_pos (by rw [l2])]
          obtain ⟨r, hr, er, br⟩ := wl_bits s hs c hc3
          rw [er]
          refine ih (c + 1) (by omega) lo r hr hlo (fun c' h3 y => ?_) (fun c' h3 y => ?_) i3
          · rcases (br c' h3).mp y with g | g
            · exact ⟨by have := (i1 c' h3 g).1; omega, (i1 c' h3 g).2⟩
            · subst g; exact ⟨by omega, by omega, l2⟩
          · by_cases e : c' = c
            · subst e
              exact ⟨by omega, fun _ => (br c' hc3).mpr (Or.inr rfl)⟩
            · obtain ⟨g1, g2⟩ := i2 c' (by omega) y
              exact ⟨g1, fun q => (br c' (by omega)).mpr (Or.inl (g2 q))⟩
        · rw [if_neg (fun y => l2 (by rw [nI_eq (by omega) (by omega)] at y; exact y))]
          refine ih (c + 1) (by omega) lo s hs hlo (fun c' h3 y => ⟨by have := (i1 c' h3 y).1; omega, (i1 c' h3 y).2⟩) (fun c' h3 y => ?_) i3
          by_cases e : c' = c
          · subst e; exact ⟨by omega, fun q => absurd q l2⟩
          · exact i2 c' (by omega) y
theorem wins_eq {N M : Nat → Int32} {k p : Nat} (hi : ∀ c, c < 3 → OC N k c) (hk : k ≤ 3) (hkz : ∀ c, c < 3 → k ≤ c → zc N c = 0) : ∃ r, r < 8 ∧ wlN N k 0 (nI 256) (nI 0) = nI r ∧ (r = 0 ↔ qz N = 0) ∧ (HB N M 8 p → M 5 = nI r) := by
  obtain ⟨-, z0, z1, z2, ezz⟩ := OC_sum hi
  have hN : ∀ c, c < 3 → 0 < zc N c → hdr N c = nI (hx N c) ∧ hx N c < 256 := fun c hc h => hx_ok (hi c hc) h
  have z4 : ∀ c, c < 3 → zc N c ≤ 4 := fun c hc => by rcases (show c = 0 ∨ c = 1 ∨ c = 2 by omega) with rfl | rfl | rfl <;> assumption
  have ez : ∀ c, c < 3 → (N (207 + 40 * c) ≤ 0 ↔ zc N c = 0) := fun c hc => by
    have := z4 c hc
    rw [ezz c hc, ← nI_0]
    constructor
    · intro y
      refine Classical.byContradiction (fun x => nI_ge (show 0 < zc N c by omega) (by omega) y)
    · intro y
      rw [y]; exact nI_le (Nat.le_refl _) (by omega)
  obtain ⟨r, lo, hr, e, b1, b2, b3⟩ := wl_inv hN ez hk hkz k 0 (by omega) 256 0 (by omega) (by omega) (fun c' h3 y => absurd y (by rcases (show c' = 0 ∨ c' = 1 ∨ c' = 2 by omega) with rfl | rfl | rfl <;> decide)) (fun c' h _ => absurd h (by omega)) (Or.inr rfl)
  have some_ : ∀ c, c < 3 → 0 < zc N c → ∃ c', c' < 3 ∧ 0 < zc N c' ∧ hx N c' = lo := fun c hc hz => by
    rcases b3 with y | y
    · exact y
    · have := b2 c hc hz
      have := (hN c hc hz).2
      omega
  have ex := con_exD r hr
  refine ⟨r, hr, e, ?_, ?_⟩
  · constructor
    · intro y
      subst y
      refine Classical.byContradiction (fun g => ?_)
      have : ∃ c, c < 3 ∧ 0 < zc N c := by
        unfold qz at g
        by_cases g0 : zc N 0 = 0
        · by_cases g1 : zc N 1 = 0
          · exact ⟨2, by omega, by omega⟩
          · exact ⟨1, by omega, by omega⟩
        · exact ⟨0, by omega, by omega⟩
      obtain ⟨c, hc, hz⟩ := this
      obtain ⟨c', h3, y1, y2⟩ := some_ c hc hz
      have := (b1 c' h3).mpr ⟨y1, y2⟩
      exact absurd this (by rcases (show c' = 0 ∨ c' = 1 ∨ c' = 2 by omega) with rfl | rfl | rfl <;> decide)
    · intro y
      unfold qz at y
      refine Classical.byContradiction (fun g => ?_)
      have g2 : nI r ≠ nI 0 := fun q => g (by rw [nI_eq (by omega) (by omega)] at q; exact q)
      rcases ex.mp g2 with q | q | q
      · have := ((b1 0 (by omega)).mp q).1; omega
      · have := ((b1 1 (by omega)).mp q).1; omega
      · have := ((b1 2 (by omega)).mp q).1; omega
  · rintro ⟨m8, m5, mc, mn⟩
    have m8' := m8
    obtain ⟨s, hs, es⟩ := m8'
    obtain ⟨c0, hc0, hcon0⟩ := (con_ex m8).mp m5
    obtain ⟨y1, -, y3⟩ := mc c0 hc0 hcon0
    have d1 : ∀ x : Nat, x / 2 ^ (8 - 8) = x := fun x => Nat.div_one x
    rw [d1] at y3
    have l0 := b2 c0 hc0 y1
    rw [es]
    congr 1
    refine (wl_same r hr s hs (fun c hc => ?_)).symm
    rw [b1 c hc]
    have hcs : conB' (nI s) (nI c) ↔ conB M (nI c) := by unfold conB; rw [es]
    rw [hcs]
    constructor
    · rintro ⟨g1, g2⟩
      refine Classical.byContradiction (fun y => ?_)
      have := mn c hc g1 y
      rw [d1] at this
      omega
    · intro y
      obtain ⟨g1, -, g3⟩ := mc c hc y
      rw [d1] at g3
      refine ⟨g1, ?_⟩
      obtain ⟨c', h3, v1, v2⟩ := some_ c hc g1
      by_cases hc' : conB M (nI c')
      · have := (mc c' h3 hc').2.2
        rw [d1] at this
        omega
      · have := mn c' h3 v1 hc'
        rw [d1] at this
        omega
