/-! the text: an order is carried out -/
theorem o1N_none {a b : Option Nat} (h : o1N a b = none) : a = none ∧ b = none := by
  cases a with
  | none => rw [o1N_n] at h; exact ⟨rfl, h⟩
  | some e => rw [o1N_s] at h; exact absurd h sm_ne
theorem odN_none {len : Nat} {tx : Nat → Nat} {p a b : Nat} (h : odN len tx p a b = none) : p < len ∧ a ≤ tx p ∧ tx p ≤ b := by
  by_cases g : p < len ∧ a ≤ tx p ∧ tx p ≤ b
  · exact g
  · rw [odN_f g] at h; exact absurd h sm_ne
theorem osN_none {len : Nat} {tx : Nat → Nat} {p c : Nat} (h : osN len tx p c = none) : p < len ∧ tx p = c := by
  by_cases g : p < len ∧ tx p = c
  · exact g
  · rw [osN_f g] at h; exact absurd h sm_ne
theorem rtN_ok (len : Nat) (tx : Nat → Nat) : ∀ f p c b, 0 < f → (rtN len tx f p c b).1 = none → b < 256 ^ c → p + 1 ≤ (rtN len tx f p c b).2.1 ∧ c + 1 ≤ (rtN len tx f p c b).2.2.1 ∧ (rtN len tx f p c b).2.2.1 ≤ c + f ∧ (rtN len tx f p c b).2.2.2 < 256 ^ (rtN len tx f p c b).2.2.1 := by
  intro f
  induction f with
  | zero => intro p c b h; omega
  | succ f ih =>
    intro p c b _ h hb
    unfold rtN at h ⊢
    by_cases g : nfN len tx p 0 255 = none
    · rw [if_pos g] at h ⊢
      obtain ⟨n0, -, -, hv⟩ := nfN_none g
      have hb' : 256 * b + vvN tx p (ndN len tx p) < 256 ^ (c + 1) := by rw [Nat.pow_succ]; omega
      by_cases g2 : f ≠ 0 ∧ p + ndN len tx p < len ∧ tx (p + ndN len tx p) = 44
      · rw [if_pos g2] at h ⊢
        obtain ⟨i1, i2, i3, i4⟩ := ih _ _ _ (by omega) h hb'
        exact ⟨by omega, by omega, by omega, i4⟩
      · rw [if_neg g2]
        exact ⟨by dsimp only; omega, Nat.le_refl _, by dsimp only; omega, hb'⟩
    · rw [if_neg g] at h
      exact absurd h g
theorem tgF_none {len : Nat} {tx : Nat → Nat} {p : Nat} (h : tgF len tx p = none) : tx p - 48 ≤ 2 ∧ vvN tx (p + 2) (ndN len tx (p + 2)) ≤ 127 := by
  unfold tgF at h
  obtain ⟨h1, h2⟩ := o1N_none h
  obtain ⟨h3, h4⟩ := o1N_none h2
  have := odN_none h1
  have := nfN_none h4
  omega
theorem flt_ok {len : Nat} {tx : Nat → Nat} {p : Nat} (hf : fltN len tx p = none) : p + 3 ≤ nxN len tx p ∧ nxN len tx p ≤ len ∧ ((tx p = 119 ∨ tx p = 114) ∧ tx p ≠ 115 ∧ whN tx p ≤ 2 ∧ adN len tx p ≤ 127 ∧ 1 ≤ cnN len tx p ∧ cnN len tx p ≤ 4 ∧ btN len tx p < 256 ^ cnN len tx p ∨ tx p = 115 ∧ 1 ≤ cnN len tx p ∧ cnN len tx p ≤ 200 ∧ cnN len tx p ≤ 40 * (nxN len tx p - p)) := by
  unfold fltN at hf
  by_cases k1 : tx p = 119
  · rw [if_pos k1] at hf
    obtain ⟨h1, h2⟩ := o1N_none hf
    obtain ⟨h3, h4⟩ := o1N_none h2
    obtain ⟨h5, h6⟩ := o1N_none h4
    obtain ⟨a1, a2⟩ := tgF_none h1
    obtain ⟨b1, b2, b3, b4⟩ := rtN_ok len tx 4 _ 0 0 (by omega) h5 (by omega)
    have c1 := osN_none h6
    unfold nxN cnN btN whN adN
    rw [if_pos k1, if_pos k1, if_pos k1]
    have p4 : p + 3 ≤ p4N len tx p := by unfold p4N; omega
    refine ⟨by omega, by omega, Or.inl ⟨Or.inl k1, by omega, a1, ?_, by omega, by omega, b4⟩⟩
    rw [show p + 3 = p + 1 + 2 from by omega]; exact a2
  · rw [if_neg k1] at hf
    by_cases k2 : tx p = 114
    · rw [if_pos k2] at hf
      obtain ⟨h1, h2⟩ := o1N_none hf
      obtain ⟨h3, h4⟩ := o1N_none h2
      obtain ⟨h5, h6⟩ := o1N_none h4
      obtain ⟨a1, a2⟩ := tgF_none h1
      have b1 := odN_none h5
      have c1 := osN_none h6
      unfold nxN cnN btN whN adN
      rw [if_neg k1, if_neg k1, if_neg k1, if_pos k2, if_pos k2]
      have p4 : p + 3 ≤ p4N len tx p := by unfold p4N; omega
      refine ⟨by omega, by omega, Or.inl ⟨Or.inr k2, by omega, a1, ?_, by omega, by omega, Nat.pow_pos (by omega)⟩⟩
      rw [show p + 3 = p + 1 + 2 from by omega]; exact a2
    · rw [if_neg k2] at hf
      by_cases k3 : tx p = 115
      · rw [if_pos k3] at hf
        obtain ⟨h1, h2⟩ := o1N_none hf
        obtain ⟨a1, a2, a3, a4⟩ := nfN_none h1
        have c1 := osN_none h2
        have hn := ndN_le len tx (p + 1)
        obtain ⟨v1, v2, v3, v4⟩ := vvN_le (len := len) (tx := tx) (p := p + 1) _ hn (fun _ hj => ndN_dg hj)
        unfold nxN cnN
        rw [if_neg k1, if_neg k1, if_neg k2, if_neg k2]
        refine ⟨by omega, by omega, Or.inr ⟨k3, a3, a4, ?_⟩⟩
        rcases (show ndN len tx (p + 1) = 1 ∨ ndN len tx (p + 1) = 2 ∨ ndN len tx (p + 1) = 3 by omega) with z | z | z
        · have := v3 (by omega); omega
        · have := v2 (by omega); omega
        · omega
      · rw [if_neg k3] at hf; exact absurd hf sm_ne
/-- what the object has read of an order at p -/
def FC (len : Nat) (tx : Nat → Nat) (p : Nat) (X : Nat → Int32) (b : Int64) : Prop := X 5 = nI (tx p) ∧ X 8 = nI (cnN len tx p) ∧ (tx p ≠ 115 → X 6 = nI (whN tx p) ∧ X 7 = nI (adN len tx p) ∧ b = Int64.ofNat (btN len tx p))
def FM (len : Nat) (tx : Nat → Nat) (p : Nat) (X : Nat → Int32) (b : Int64) : Prop := X 10 = nI (tx p) ∧ X 13 = nI (cnN len tx p) ∧ (tx p ≠ 115 → X 11 = nI (whN tx p) ∧ X 12 = nI (adN len tx p) ∧ (tx p = 119 → b = Int64.ofNat (btN len tx p)))
theorem by_most {c b : Nat} (h1 : 1 ≤ c) (h4 : c ≤ 4) (hb : b < 256 ^ c) : 0 ≤ Int64.ofNat b ∧ Int64.ofNat b ≤ mostV (nI c) := by
  have hb2 : b < 4294967296 := Nat.lt_of_lt_of_le hb (by
    have : (256 : Nat) ^ c ≤ 256 ^ 4 := Nat.pow_le_pow_right (by omega) (by omega)
    exact this)
  have ht : (Int64.ofNat b).toInt = b := Int64.toInt_ofNat_of_lt (by omega)
  constructor
  · rw [Int64.le_iff_toInt_le, ht, show (0 : Int64).toInt = 0 from by decide]; omega
  · rw [Int64.le_iff_toInt_le, ht]
    rcases (show c = 1 ∨ c = 2 ∨ c = 3 ∨ c = 4 by omega) with rfl | rfl | rfl | rfl
    · rw [show (mostV (nI 1)).toInt = 255 from by decide]; omega
    · rw [show (mostV (nI 2)).toInt = 65535 from by decide]; omega
    · rw [show (mostV (nI 3)).toInt = 16777215 from by decide]; omega
    · rw [show (mostV (nI 4)).toInt = 4294967295 from by decide]; omega
section
variable {B : Nat} {w : Wd} {I : MI} {L : ML} {P : MP} {N : Nat → Int32} {st : Nat} {Ks : Nat → Nat → Int32} {len : Nat} {tx : Nat → Nat} {T : Nat}
theorem sc_order (h : CW B w I L P N st Ks len tx T) {p T' : Nat} (hf : fltN len tx p = none) (hT : T + 40 * (nxN len tx p - p) ≤ T') (hT2 : T' < 2147400000) (fc : FC len tx p (I (B + 122)) (L (B + 122) 9)) (htx : tx p < 128) : (∃ M J K Q, call 114 [.ref B] w I L P = some (.inl (some (.int (nI 1))), w, J, K, Q) ∧ CW B w J K Q M st Ks len tx T' ∧ Fr (B + 1) (B + 41) I J L K P Q ∧ ∀ w1 J K Q, MW B w1 J Q N st Ks len tx → FM len tx p (J (B + 284)) (K (B + 284) 14) → ∃ J', call 202 [.ref (B + 284)] w1 J K Q = some (.inl (some (.int (nI 0))), w1, J', K, Q) ∧ MW B w1 J' Q M st Ks len tx ∧ (∀ k, k ≠ 7 → J' (B + 284) k = J (B + 284) k) ∧ ∀ x, x ≠ B + 284 → x ≠ B + 285 → J' x = J x) ∨ (call 114 [.ref B] w I L P = some (.inl (some (.int (nI 0))), w, I, L, P) ∧ ∀ w1 J K Q, MW B w1 J Q N st Ks len tx → FM len tx p (J (B + 284)) (K (B + 284) 14) → ∃ v, v ≠ 0 ∧ call 202 [.ref (B + 284)] w1 J K Q = some (.inl (some (.int v)), w1, J, K, Q)) := by
  obtain ⟨hw, p0, tb, hst, q, k, n, md, hq, hbc, hlg⟩ := CW_bc h
  obtain ⟨q', hqT, hg, h0⟩ := CW_GN h
  have eq : q' = q := by
    have := hlg.1
    rw [h0, nI_eq (by omega) (by omega)] at this
    exact this
  subst eq
  obtain ⟨u1, u2, u3, u4, u5, u6, u7⟩ := CW_tb h
  have t0 := hw.1
  have hbc' := hbc
  obtain ⟨⟨hk0, hk, h1, i1⟩, -, -, -, i7, -, hbq, hcs, -, -, hi, -⟩ := hbc'
  obtain ⟨f5, f8, f6⟩ := fc
  obtain ⟨o1, o2, o3 | ⟨k3, o4, o5, o6⟩⟩ := flt_ok hf
  · obtain ⟨kk, k3, w2, a7, c1, c4, hb⟩ := o3
    obtain ⟨g6, g7, g9⟩ := f6 k3
    have n115 : nI (tx p) ≠ nI 115 := fun z => k3 (by rw [nI_eq (by omega) (by omega)] at z; exact z)
    obtain ⟨m1, m2⟩ := by_most c1 c4 hb
    -- the model's call
    have mc : ∀ w1 J K Q, MW B w1 J Q N st Ks len tx → FM len tx p (J (B + 284)) (K (B + 284) 14) → ∃ rd, (tx p = 119 ∧ rd = nI 0 ∨ tx p = 114 ∧ rd = nI 1) ∧ ∀ v J', call 161 [.ref (B + 284), .int (nI (whN tx p)), .int (nI (adN len tx p)), .int rd, .int (nI (cnN len tx p)), .long (Int64.ofNat (btN len tx p))] w1 J K Q = some (.inl (some (.int v)), w1, J', K, Q) → call 202 [.ref (B + 284)] w1 J K Q = some (.inl (some (.int v)), w1, J', K, Q) := by
      rintro w1 J K Q hm ⟨e10, e13, e11⟩
      obtain ⟨e11, e12, e14⟩ := e11 k3
      have w71 := hm.1.1
      rcases kk with k1 | k2
      · refine ⟨nI 0, Or.inl ⟨k1, rfl⟩, ?_⟩
        intro v J' e
        rw [Model_carries_E, Model_carries_0 _ _ _ _ _ w71, e10, k1, Model_carries_4_k119, Model_carries_32 _ _ _ _ _ w71, e11, e12, e13, e14 k1, e]
        simp only [kC_ret, Option.toList, List.cons_append, List.nil_append, fix1_int, fix1_ref, fix1_unk, fix1_null, fix1_long]
        rw [Model_carries_53]
      · refine ⟨nI 1, Or.inr ⟨k2, rfl⟩, ?_⟩
        intro v J' e
        have b0 : btN len tx p = 0 := by unfold btN; rw [if_neg (by omega)]
        rw [b0] at e
        rw [Model_carries_E, Model_carries_0 _ _ _ _ _ w71, e10, k2, Model_carries_4_k114, Model_carries_54 _ _ _ _ _ w71, e11, e12, e13, show (0 : Int64) = Int64.ofNat 0 from rfl, e]
        simp only [kC_ret, Option.toList, List.cons_append, List.nil_append, fix1_int, fix1_ref, fix1_unk, fix1_null, fix1_long]
        rw [Model_carries_72]
    have c28 : call 114 [.ref B] w I L P = kC (call 30 [.ref (B + 1), .int (nI (whN tx p))] w I L P) (fun v w1 I1 L1 P1 => go 114 42 [.ref B, unk] (v.toList ++ []) w1 I1 L1 P1) := by
      rw [Two_obeyOrder_E, Two_obeyOrder_0 _ _ _ _ _ _ t0, u3, rf_some, Two_obeyOrder_4 _ _ _ _ _ _ _ u1, f5, if_pos n115, Two_obeyOrder_28 _ _ _ _ _ _ t0, p0, rf_some, Two_obeyOrder_32 _ _ _ _ _ _ _ t0, u3, rf_some, Two_obeyOrder_36 _ _ _ _ _ _ _ _ u1 tb.1, g6]
    by_cases hwk : whN tx p < k
    · obtain ⟨s, hs4, e0, -, -⟩ := hi.1 (whN tx p) (by omega)
      have tc := tb.2.2.2.2.2.1 (whN tx p) (by omega)
      obtain ⟨qq, s', hp, z1, z2, z3, -⟩ := hcs (whN tx p) (by omega)
      have es : s' = s := by
        rw [e0, nI_eq (by omega) (by omega)] at z2
        exact z2.symm
      subst es
      have c83 : ∃ rd, (tx p = 119 ∧ rd = nI 0 ∨ tx p = 114 ∧ rd = nI 1) ∧ call 114 [.ref B] w I L P = kC (call 8 [.ref (B + 1 + 7 + 7 * whN tx p), .int rd, .int (nI (adN len tx p)), .int (nI (cnN len tx p)), .long (Int64.ofNat (btN len tx p))] w I L P) (fun v w1 I1 L1 P1 => go 114 89 [.ref B, .ref (B + 1 + 7 + 7 * whN tx p)] (v.toList ++ []) w1 I1 L1 P1) := by
        rcases kk with k1 | k2
        · refine ⟨nI 0, Or.inl ⟨k1, rfl⟩, ?_⟩
          rw [c28, cl_callerAt tb hbq hk hwk I L i1]
          simp only [kC_ret, Option.toList, List.cons_append, List.nil_append, fix1_int, fix1_ref, fix1_unk, fix1_null, fix1_long]
          rw [Two_obeyOrder_42_1, fix1_ref, Two_obeyOrder_47_1 _ _ _ _ _ _ t0, u3, rf_some, Two_obeyOrder_52 _ _ _ _ _ _ _ _ u1, f5, if_pos (fun z => by rw [nI_eq (by omega) (by omega)] at z; omega), Two_obeyOrder_64, Two_obeyOrder_65 _ _ _ _ _ _ _ _ t0, u3, rf_some, Two_obeyOrder_69 _ _ _ _ _ _ _ _ _ u1 t0, u3, rf_some, g7, Two_obeyOrder_76 _ _ _ _ _ _ _ _ _ _ u1 t0, u3, rf_some, f8, Two_obeyOrder_83 _ _ _ _ _ _ _ _ _ _ _ u1 tc.1, g9]
          rfl
        · refine ⟨nI 1, Or.inr ⟨k2, rfl⟩, ?_⟩
          rw [c28, cl_callerAt tb hbq hk hwk I L i1]
          simp only [kC_ret, Option.toList, List.cons_append, List.nil_append, fix1_int, fix1_ref, fix1_unk, fix1_null, fix1_long]
          rw [Two_obeyOrder_42_1, fix1_ref, Two_obeyOrder_47_1 _ _ _ _ _ _ t0, u3, rf_some, Two_obeyOrder_52 _ _ _ _ _ _ _ _ u1, f5, if_neg (by rw [k2]; simp), Two_obeyOrder_60, Two_obeyOrder_65 _ _ _ _ _ _ _ _ t0, u3, rf_some, Two_obeyOrder_69 _ _ _ _ _ _ _ _ _ u1 t0, u3, rf_some, g7, Two_obeyOrder_76 _ _ _ _ _ _ _ _ _ _ u1 t0, u3, rf_some, f8, Two_obeyOrder_83 _ _ _ _ _ _ _ _ _ _ _ u1 tc.1, g9]
          rfl
      obtain ⟨rd, hrd, c83⟩ := c83
      have hrd2 : rd = nI 0 ∨ rd = nI 1 := by
        rcases hrd with ⟨-, z⟩ | ⟨-, z⟩
        · exact Or.inl z
        · exact Or.inr z
      have rdeq : ∀ rd', (tx p = 119 ∧ rd' = nI 0 ∨ tx p = 114 ∧ rd' = nI 1) → rd' = rd := by
        rintro rd' (⟨y1, y2⟩ | ⟨y1, y2⟩)
        · rcases hrd with ⟨z1, z2⟩ | ⟨z1, z2⟩
          · rw [y2, z2]
          · omega
        · rcases hrd with ⟨z1, z2⟩ | ⟨z1, z2⟩
          · omega
          · rw [y2, z2]
      have qok : qOk (nI (adN len tx p)) (nI (cnN len tx p)) (Int64.ofNat (btN len tx p)) := ⟨⟨nI_le (by omega) (by omega), nI_le (by omega) (by omega)⟩, ⟨nI_le (by omega) (by omega), nI_le (by omega) (by omega)⟩, m1, m2⟩
      by_cases hs : s' = 4
      · right
        subst hs
        constructor
        · rw [c83, cl_enqF tc hp I L z3]
          simp only [kC_ret, Option.toList, List.cons_append, List.nil_append, fix1_int, fix1_ref, fix1_unk, fix1_null, fix1_long]
          rw [Two_obeyOrder_89, if_pos n00, Two_obeyOrder_96, Two_obeyOrder_97 _ _ _ _ _ _ _ b01]
        · intro w1 J K Q hm fm
          obtain ⟨rd', hr', e⟩ := mc w1 J K Q hm fm
          rw [rdeq rd' hr'] at e
          obtain ⟨⟨w71, wd1, -⟩, ⟨p01, -⟩, m3, -⟩ := hm
          refine ⟨nI 3, by decide, e _ _ (((mo_queues2 w71 wd1 p01 J K (by rw [m3]; exact h1) hk hwk _ rd _ _).2 qok).trans (mo_queues3 w71 wd1 p01 J K (by omega) (by rw [m3]; exact e0) _ rd _ _))⟩
      · left
        obtain ⟨J, K, r1, r2, r3, r4⟩ := BR_enq (bt := Int64.ofNat (btN len tx p)) tb hbc hlg hwk (show s' < 4 by omega) e0 (show adN len tx p < 128 by omega) hrd2 (show 0 < cnN len tx p by omega) c4
        have f2 : Fr (B + 1) (B + 41) I J L K P P := Fr_mono r4 (by omega) (by omega)
        refine ⟨queN N (whN tx p) s' (nI (adN len tx p)) rd (nI (cnN len tx p)) (Int64.ofNat (btN len tx p)), J, K, P, ?_, CW_bus h f2 (by omega) (by omega) r2, f2, ?_⟩
        · rw [c83, r1]
          simp only [kC_ret, Option.toList, List.cons_append, List.nil_append, fix1_int, fix1_ref, fix1_unk, fix1_null, fix1_long]
          rw [Two_obeyOrder_89, if_neg n10, Two_obeyOrder_92, Two_obeyOrder_97 _ _ _ _ _ _ _ b11]
        · intro w1 J K Q hm fm
          obtain ⟨rd', hr', e⟩ := mc w1 J K Q hm fm
          rw [rdeq rd' hr'] at e
          have hm' := hm
          obtain ⟨⟨w71, wd1, -⟩, ⟨p01, -⟩, m3, -⟩ := hm'
          have e2 := ((mo_queues2 w71 wd1 p01 J K (by rw [m3]; exact h1) hk hwk _ rd _ _).2 qok).trans (mo_queues4 w71 wd1 p01 (by omega) J K (by omega) (show s' < 4 by omega) (by rw [m3]; exact e0) _ rd _ _)
          rw [m3] at e2
          refine ⟨_, e _ _ e2, ?_, ?_, ?_⟩
          · have := MW_set (MW_now hm (queN N (whN tx p) s' (nI (adN len tx p)) rd (nI (cnN len tx p)) (Int64.ofNat (btN len tx p)))) (k := 7) (by omega) (nI (s' + 1))
            rw [wr_ne _ _ (show B + 284 ≠ B + 285 by omega)] at this
            exact this
          · intro j hj; rw [wr_same, sN_ne hj]
          · intro x y1 y2; rw [wr_ne _ _ y1, wr_ne _ _ y2]
    · right
      constructor
      · rw [c28, cl_callerAtN tb I L (Or.inr (by rw [i1]; exact nI_le (by omega) (by omega)))]
        simp only [kC_ret, Option.toList, List.cons_append, List.nil_append, fix1_int, fix1_ref, fix1_unk, fix1_null, fix1_long]
        rw [Two_obeyOrder_42_0, Two_obeyOrder_96, Two_obeyOrder_97 _ _ _ _ _ _ _ b01]
      · intro w1 J K Q hm fm
        obtain ⟨rd', hr', e⟩ := mc w1 J K Q hm fm
        obtain ⟨⟨w71, wd1, -⟩, ⟨p01, -⟩, m3, -⟩ := hm
        refine ⟨nI 1, by decide, e _ _ (mo_queues1 w71 wd1 p01 J K (by rw [m3]; exact h1) hk _ _ rd' _ _ ?_)⟩
        rintro ⟨c, hc, ec⟩
        rw [nI_eq (by omega) (by omega)] at ec
        omega
  · left
    have e115 : nI (tx p) = nI 115 := by rw [k3]
    obtain ⟨J2, Q2, b1, b2, b3⟩ := cl_slots (f := cnN len tx p) tb ⟨⟨k, n, md, hbc⟩, hlg⟩ (by omega)
    have f2 : Fr (B + 1) (B + 41) I J2 L L P Q2 := b3
    refine ⟨slotsN N (cnN len tx p), J2, L, Q2, ?_, CW_bus h f2 (by omega) (by omega) b2, f2, ?_⟩
    · rw [Two_obeyOrder_E, Two_obeyOrder_0 _ _ _ _ _ _ t0, u3, rf_some, Two_obeyOrder_4 _ _ _ _ _ _ _ u1, f5, if_neg (fun z => z e115), Two_obeyOrder_12 _ _ _ _ _ _ t0, p0, rf_some, Two_obeyOrder_16 _ _ _ _ _ _ _ t0, u3, rf_some, Two_obeyOrder_20 _ _ _ _ _ _ _ _ u1 tb.1, f8, b1]
      simp only [kC_ret, Option.toList, List.cons_append, List.nil_append, fix1_int, fix1_ref, fix1_unk, fix1_null, fix1_long]
      rw [Two_obeyOrder_26 _ _ _ _ _ _ b11]
    · rintro w1 J K Q hm ⟨e10, e13, -⟩
      have hm' := hm
      obtain ⟨⟨w71, wd1, -⟩, ⟨p01, -⟩, m3, -⟩ := hm'
      have e := mo_passes w71 wd1 p01 (q := q') (f := cnN len tx p) (by omega) J K (by rw [m3]; exact hg) (by omega) o4 o5
      rw [m3] at e
      have e3 : call 202 [.ref (B + 284)] w1 J K Q = some (.inl (some (.int (nI 0))), w1, wr (wr J (B + 285) (slotsN N (cnN len tx p))) (B + 284) (sN (J (B + 284)) 7 (slotsN N (cnN len tx p) 0)), K, Q) := by
        rw [Model_carries_E, Model_carries_0 _ _ _ _ _ w71, e10, Model_carries_4_kd _ _ _ _ _ _ (show ¬ nI (tx p) = nI 114 from fun z => by rw [nI_eq (by omega) (by omega)] at z; omega) (show ¬ nI (tx p) = nI 119 from fun z => by rw [nI_eq (by omega) (by omega)] at z; omega), Model_carries_73 _ _ _ _ _ w71, e13, e]
        simp only [kC_ret, Option.toList, List.cons_append, List.nil_append, fix1_int, fix1_ref, fix1_unk, fix1_null, fix1_long]
        rw [Model_carries_81]
      refine ⟨_, e3, ?_, ?_, ?_⟩
      · have := MW_set (MW_now hm (slotsN N (cnN len tx p))) (k := 7) (by omega) (slotsN N (cnN len tx p) 0)
        rw [wr_ne _ _ (show B + 284 ≠ B + 285 by omega)] at this
        exact this
      · intro j hj; rw [wr_same, sN_ne hj]
      · intro x y1 y2; rw [wr_ne _ _ y1, wr_ne _ _ y2]
end
