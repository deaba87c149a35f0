/-! ===== simple methods of the class: the last ones ===== -/
def rB (h : vH) (P N : Prop) : vQ := fun r h' => h = h' ∧ (P ∧ r = some (vI 1) ∨ N ∧ r = some (vI 0))
theorem rB_ind {d c n m : Nat} {h : vH} {x : Int32} (h0 : L0 h) (h1 : isSt h 1) (e : hI h 2 0 = nI m) (hm : m < 4) : vm_C mX10_isIndividual d c n [vR (some 0), vI x] h (rB h (∃ i, i < m ∧ x = nI i) (¬ ix x m)) :=
  c_isIndividual h0 h1 e hm (fun i hi e => ⟨rfl, Or.inl ⟨⟨i, hi, e⟩, rfl⟩⟩) (fun hz => ⟨rfl, Or.inr ⟨ix_no (by omega) hz, rfl⟩⟩)
theorem rB_obj {d c n m : Nat} {h : vH} {x : Int32} (hd : 1 ≤ d) (h0 : L0 h) (h1 : isSt h 1) (e : hI h 2 0 = nI m) (hm : m < 4) : vm_C mX10_isObject d c n [vR (some 0), vI x] h (rB h (∃ i, 1 ≤ i ∧ i < 2 ^ m ∧ x = nI i) (¬ ob x m)) :=
  c_isObject hd h0 h1 e hm (fun i hi hj e => ⟨rfl, Or.inl ⟨⟨i, hi, hj, e⟩, rfl⟩⟩) (fun hz => ⟨rfl, Or.inr ⟨hz, rfl⟩⟩)
theorem rB_rel {d c n : Nat} {h : vH} {x : Int32} : vm_C mX10_isRelation d c n [vI x] h (rB h (∃ i, i < 2 ∧ x = nI i) (¬ ix x 2)) :=
  c_isRelation (fun i hi e => ⟨rfl, Or.inl ⟨⟨i, hi, e⟩, rfl⟩⟩) (fun hz => ⟨rfl, Or.inr ⟨ix_no (by decide) hz, rfl⟩⟩)
theorem rB_var {d c n : Nat} {h : vH} {x : Int32} : vm_C mX10_isVariable d c n [vI x] h (rB h (∃ i, i < 3 ∧ x = nI i) (¬ ix x 3)) :=
  c_isVariable (fun i hi e => ⟨rfl, Or.inl ⟨⟨i, hi, e⟩, rfl⟩⟩) (fun hz => ⟨rfl, Or.inr ⟨ix_no (by decide) hz, rfl⟩⟩)
theorem rB_sw {d c n : Nat} {h : vH} {x : Int32} : vm_C mX10_isSwitch d c n [vI x] h (rB h (∃ i, i < 2 ∧ x = nI i) (¬ ix x 2)) :=
  c_isSwitch (fun i hi e => ⟨rfl, Or.inl ⟨⟨i, hi, e⟩, rfl⟩⟩) (fun hz => ⟨rfl, Or.inr ⟨hz, rfl⟩⟩)
theorem prV_r {S : Nat → Int32} (hS : Sok S) {i p q : Nat} {b : Bool} (hi : i < 2) (hp : p < 3) (hq : q < 3) {x : Int32} (hx : ∀ j, j < 32 → bI x j = if j = 3 * p + q then b else bI (S (4 + i)) j) : x = nI (mkN (fun j => if j = 3 * p + q then b else bI (S (4 + i)) j) 9) := by
  obtain ⟨r, hr, hr2⟩ := hS.2.2.1 i hi
  refine bI_ext fun j hj => ?_
  rw [hx j hj, bI_nI, mkN_bit, decide_eq_true hj, Bool.true_and]
  by_cases h9 : j < 9
  · rw [decide_eq_true h9, Bool.true_and]
  · rw [decide_eq_false h9, Bool.false_and, if_neg (by omega), hr, bI_nI]
    rw [Nat.testBit_lt_two_pow (Nat.lt_of_lt_of_le hr2 (Nat.pow_le_pow_right (n := 2) (by decide) (show 9 ≤ j by omega))), Bool.and_false]
theorem c_setPair {d c n : Nat} {h : vH} {S : Nat → Int32} {H : List (Nat → Int32)} {t : Nat → Nat} {L : Nat} {Q : vQ} {x a b z : Int32} (hd : 5 ≤ d) (hR0 : cR h S H t L) (hS : Sok S) (k : ∀ h', fr (fun r => r ≤ 40) h h' → cR h' (f_setPair x a b z S H).2.1 (f_setPair x a b z S H).2.2 t L → Q (some (vI (f_setPair x a b z S H).1)) h') : vm_C mX10_setPair d c n [vR (some 0), vI x, vI a, vI b, vI z] h Q := by
  have hn := hS.n
  have h0 := hR0.1.1
  have h1 := hR0.1.2.1
  have e20 := hR0.n hS
  have no : ¬ (ix x 2 ∧ ix a (nS S) ∧ ix b (nS S) ∧ ix z 2) → Q (some (vI (-1))) h := fun hno => by
    have t1 := k h fr.rf
    unfold f_setPair at t1
    rw [cif_f hno] at t1
    exact t1 hR0
  refine bX10_setPair_0 (by omega) rB_rel ?_
  rintro r h' ⟨rfl, ⟨⟨i, hi, rfl⟩, rfl⟩ | ⟨hno, rfl⟩⟩
  · refine bX10_setPair_4 (fun hc => absurd hc (by decide +kernel)) (fun _ => bX10_setPair_7 h0.1 (by omega) (rB_ind h0 h1 e20 (by omega)) ?_)
    rintro r h' ⟨rfl, ⟨⟨p, hp, rfl⟩, rfl⟩ | ⟨hno, rfl⟩⟩
    · refine bX10_setPair_12 (fun hc => absurd hc (by decide +kernel)) (fun _ => bX10_setPair_15 h0.1 (by omega) (rB_ind h0 h1 e20 (by omega)) ?_)
      rintro r h' ⟨rfl, ⟨⟨q, hq, rfl⟩, rfl⟩ | ⟨hno, rfl⟩⟩
      · refine bX10_setPair_20 (fun hc => absurd hc (by decide +kernel)) (fun _ => bX10_setPair_23 (by omega) rB_sw ?_)
        rintro r h' ⟨rfl, ⟨⟨s, hs, rfl⟩, rfl⟩ | ⟨hno, rfl⟩⟩
        · refine bX10_setPair_28 (fun _ => ?_) (fun hc => absurd (by decide +kernel) hc)
          have yes : f_setPair (nI i) (nI p) (nI q) (nI s) S H = ((if bI (S (4 + i)) (3 * p + q) then 1 else 0), prV S (nI i) (nI p) (nI q) (nI s), push5 H S) := by
            unfold f_setPair
            rw [cif_t ⟨⟨i, hi, rfl⟩, ⟨p, hp, rfl⟩, ⟨q, hq, rfl⟩, ⟨s, hs, rfl⟩⟩, cs (show i < _ by omega), cs (show p < _ by omega), cs (show q < _ by omega)]
          rw [yes] at k
          refine bX10_setPair_33 (b2 := 1) (b3 := 2) (R := fun r h' => r = some (vI (if bI (S (4 + i)) (3 * p + q) then 1 else 0)) ∧ h = h') h0.1 h0.2.1 h1.1 h1.2.2.2.1 h1.2.1.1 (by omega) (c_hasPair (by omega) h1.2.1 hi (by omega) (by omega) ⟨by rw [hR0.2.1.2.2.1 i hi], rfl⟩) ?_
          rintro r h' ⟨rfl, rfl⟩
          have go : vm_E mX10_setPair d c n 54 [some (vR (some 0)), some (vI (nI i)), some (vI (nI p)), some (vI (nI q)), some (vI (nI s)), none] [vI (if bI (S (4 + i)) (3 * p + q) then 1 else 0)] h Q := by
            refine bX10_setPair_54 (b2 := 7) (R := fun r h' => r = none ∧ fr (fun r => r ≤ 38) h h' ∧ cR h' S (push5 H S) t L) h0.1 h0.2.2.1 hR0.1.2.2.1.1 (by omega) (by rw [h0.2.1]; exact c_rec (by omega) hR0 hS (fun h' f q => ⟨rfl, f, q⟩)) ?_
            rintro r h' ⟨rfl, f, w⟩
            have h0' := w.1.1
            have h1' := w.1.2.1
            have fin : vm_E mX10_setPair d c n 88 [some (vR (some 0)), some (vI (nI i)), some (vI (nI p)), some (vI (nI q)), some (vI (nI s)), some (vI (if bI (S (4 + i)) (3 * p + q) then 1 else 0))] [vI (if decide (nI s = 1) then 1 else 0), vI (nI q), vI (nI p), vI (nI i), vR (some 2)] h' Q := by
              refine bX10_setPair_88 (R := fun r h2 => r = none ∧ ∃ x : Int32, (∀ j, j < 32 → bI x j = if j = 3 * p + q then decide (nI s = 1) else bI (S (4 + i)) j) ∧ h2 = uI h' 4 i x) h1'.2.1.1 (by omega) (c_putPair (by omega) h1'.2.1 hi (by omega) (by omega) (fun x hx => ⟨rfl, x, by rw [← w.2.1.2.2.1 i hi]; exact hx, rfl⟩)) ?_
              rintro r h2 ⟨rfl, x, hx, rfl⟩
              have f2 := fr_uI h' 4 i x
              have ex := prV_r hS hi (show p < 3 by omega) (show q < 3 by omega) hx
              refine bX10_setPair_91 (k _ ((f.tr f2).wk 40 (fun r hr => by omega)) ⟨w.1.fr f2, sv_uI2 w.2.1 (Or.inr (Or.inr (Or.inl ⟨rfl, hi, rfl⟩))) (fun j _ => ?_), w.2.2.1.fr f2 (fun r hr => by omega), w.2.2.2.fr f2 (fun r hr => by omega)⟩)
              unfold prV putV
              rw [cs (show i < _ by omega), cs (show p < _ by omega), cs (show q < _ by omega), ← ex]
            refine bX10_setPair_67 (b2 := 1) h0'.1 h0'.2.1 h1'.1 (fun hc => ?_) (fun hc => ?_)
            · rw [h1'.2.2.2.1]
              rw [decide_eq_false hc] at fin
              exact bX10_setPair_87 fin
            · rw [h1'.2.2.2.1]
              rw [decide_eq_true (Classical.byContradiction hc)] at fin
              exact bX10_setPair_83 fin
          refine bX10_setPair_46 (fun hc => ?_) (fun hc => ?_)
          · cases e : bI (S (4 + i)) (3 * p + q)
            · rw [e] at go; exact bX10_setPair_53 go
            · rw [e] at hc; exact absurd hc (by decide +kernel)
          · cases e : bI (S (4 + i)) (3 * p + q)
            · rw [e] at hc; exact absurd rfl hc
            · rw [e] at go; exact bX10_setPair_49 go
        · exact bX10_setPair_28 (fun hc => absurd rfl hc) (fun _ => bX10_setPair_31 (no (fun z => hno z.2.2.2)))
      · exact bX10_setPair_20 (fun _ => bX10_setPair_31 (no (fun z => hno z.2.2.1))) (fun hc => absurd rfl hc)
    · exact bX10_setPair_12 (fun _ => bX10_setPair_31 (no (fun z => hno z.2.1))) (fun hc => absurd rfl hc)
  · exact bX10_setPair_4 (fun _ => bX10_setPair_31 (no (fun z => hno z.1))) (fun hc => absurd rfl hc)
theorem kS_bit {S : Nat → Int32} (hS : Sok S) {i : Nat} (hi : i < 32) : bI (S 7) i = (kS S).testBit i := by
  rw [hS.k.1, bI_nI, decide_eq_true hi, Bool.true_and]
theorem cnt2_ext {A B : Nat → Bool} (e : ∀ k, k < 512 → A k = B k) (v a u b : Nat) : cnt2 A v a u b = cnt2 B v a u b := cn_ext fun k hk => by rw [e k hk]
theorem vals_ext {A B : Nat → Bool} (e : ∀ k, k < 512 → A k = B k) (v : Nat) : ∀ i, vals A v i = vals B v i
  | 0 => rfl
  | i + 1 => by
    show vals A v i + (if cnt2 A v (i + 1) v (i + 1) = 0 then 0 else 2 ^ (i + 1)) = vals B v i + (if cnt2 B v (i + 1) v (i + 1) = 0 then 0 else 2 ^ (i + 1))
    rw [vals_ext e v i, cnt2_ext e]
theorem c_objects {d c n : Nat} {h : vH} {S : Nat → Int32} {H : List (Nat → Int32)} {t : Nat → Nat} {L : Nat} {Q : vQ} {x : Int32} (hd : 4 ≤ d) (hR0 : cR h S H t L) (hS : Sok S) (k : Q (some (vI (f_objects x S))) h) : vm_C mX10_objects d c n [vR (some 0), vI x] h Q := by
  have h0 := hR0.1.1
  have h1 := hR0.1.2.1
  refine bX10_objects_0 (by omega) rB_var ?_
  rintro r h' ⟨rfl, ⟨⟨i, hi, rfl⟩, rfl⟩ | ⟨hno, rfl⟩⟩
  · have yes : f_objects (nI i) S = if (kS S).testBit i then nI (vals (ctx S) i 7) else -7 := by
      unfold f_objects; rw [cif_t ⟨i, hi, rfl⟩, cs (show i < _ by omega)]
    rw [yes] at k
    refine bX10_objects_4 (fun _ => ?_) (fun hc => absurd (by decide +kernel) hc)
    refine bX10_objects_9 (b2 := 1) (R := fun r h' => r = some (vI (if (kS S).testBit i then 1 else 0)) ∧ h = h') h0.1 h0.2.1 h1.1 (by omega) (c_knows h1 (by omega) ⟨by rw [hR0.2.1.2.2.2.2.1, kS_bit hS (by omega)], rfl⟩) ?_
    rintro r h' ⟨rfl, rfl⟩
    cases e : (kS S).testBit i
    · rw [e] at k
      exact bX10_objects_17 (fun _ => bX10_objects_34 (bX10_objects_36 k)) (fun hc => absurd rfl hc)
    · rw [e] at k
      refine bX10_objects_17 (fun hc => absurd hc (by decide +kernel)) (fun _ => ?_)
      refine bX10_objects_20 (b2 := 1) (b3 := 5) (R := fun r h' => r = some (vI (nI (vals (ctx S) i 7))) ∧ h = h') h0.1 h0.2.1 h1.1 h1.2.2.2.2 h1.2.2.1.1 (by omega) (c_valuesOf (by omega) h1.2.2.1 hi ⟨by rw [vals_ext (fun k hk => hR0.2.1.2.2.2.2.2.2 k hk) i 7]; rfl, rfl⟩) ?_
      rintro r h' ⟨rfl, rfl⟩
      exact bX10_objects_31 (bX10_objects_36 k)
  · have no : f_objects x S = -1 := by unfold f_objects; rw [cif_f hno]
    rw [no] at k
    exact bX10_objects_4 (fun hc => absurd rfl hc) (fun _ => bX10_objects_7 k)
theorem c_together {d c n : Nat} {h : vH} {S : Nat → Int32} {H : List (Nat → Int32)} {t : Nat → Nat} {L : Nat} {Q : vQ} {x a y b : Int32} (hd : 4 ≤ d) (hR0 : cR h S H t L) (hS : Sok S) (k : Q (some (vI (f_together x a y b S))) h) : vm_C mX10_together d c n [vR (some 0), vI x, vI a, vI y, vI b] h Q := by
  have h0 := hR0.1.1
  have h1 := hR0.1.2.1
  have hn := hS.n
  have e20 := hR0.n hS
  have hp : 2 ^ nS S ≤ 8 := (by decide : ∀ m, m < 4 → 2 ^ m ≤ 8) _ (by omega)
  have no : ¬ (ix x 3 ∧ ob a (nS S) ∧ ix y 3 ∧ ob b (nS S)) → Q (some (vI (-1))) h := fun hno => by
    unfold f_together at k; rw [cif_f hno] at k; exact k
  refine bX10_together_0 (by omega) rB_var ?_
  rintro r h' ⟨rfl, ⟨⟨i, hi, rfl⟩, rfl⟩ | ⟨hno, rfl⟩⟩
  · refine bX10_together_4 (fun hc => absurd hc (by decide +kernel)) (fun _ => bX10_together_7 h0.1 (by omega) (rB_obj (by omega) h0 h1 e20 (by omega)) ?_)
    rintro r h' ⟨rfl, ⟨⟨p, hp1, hp2, rfl⟩, rfl⟩ | ⟨hno, rfl⟩⟩
    · refine bX10_together_12 (fun hc => absurd hc (by decide +kernel)) (fun _ => bX10_together_15 (by omega) rB_var ?_)
      rintro r h' ⟨rfl, ⟨⟨j, hj, rfl⟩, rfl⟩ | ⟨hno, rfl⟩⟩
      · refine bX10_together_19 (fun hc => absurd hc (by decide +kernel)) (fun _ => bX10_together_22 h0.1 (by omega) (rB_obj (by omega) h0 h1 e20 (by omega)) ?_)
        rintro r h' ⟨rfl, ⟨⟨q, hq1, hq2, rfl⟩, rfl⟩ | ⟨hno, rfl⟩⟩
        · refine bX10_together_28 (fun _ => ?_) (fun hc => absurd (by decide +kernel) hc)
          have yes : f_together (nI i) (nI p) (nI j) (nI q) S = if (kS S).testBit i && (kS S).testBit j then nI (cnt2 (ctx S) i p j q) else -7 := by
            unfold f_together
            rw [cif_t ⟨⟨i, hi, rfl⟩, ⟨p, hp1, hp2, rfl⟩, ⟨j, hj, rfl⟩, ⟨q, hq1, hq2, rfl⟩⟩, cs (show i < _ by omega), cs (show p < _ by omega), cs (show j < _ by omega), cs (show q < _ by omega)]
          rw [yes] at k
          refine bX10_together_33 (b2 := 1) (R := fun r h' => r = some (vI (if (kS S).testBit i then 1 else 0)) ∧ h = h') h0.1 h0.2.1 h1.1 (by omega) (c_knows h1 (by omega) ⟨by rw [hR0.2.1.2.2.2.2.1, kS_bit hS (by omega)], rfl⟩) ?_
          rintro r h' ⟨rfl, rfl⟩
          cases e : (kS S).testBit i
          · rw [e] at k
            exact bX10_together_41 (fun _ => bX10_together_55 k) (fun hc => absurd rfl hc)
          · rw [e] at k
            refine bX10_together_41 (fun hc => absurd hc (by decide +kernel)) (fun _ => ?_)
            refine bX10_together_44 (b2 := 1) (R := fun r h' => r = some (vI (if (kS S).testBit j then 1 else 0)) ∧ h = h') h0.1 h0.2.1 h1.1 (by omega) (c_knows h1 (by omega) ⟨by rw [hR0.2.1.2.2.2.2.1, kS_bit hS (by omega)], rfl⟩) ?_
            rintro r h' ⟨rfl, rfl⟩
            cases e2 : (kS S).testBit j
            · rw [e2] at k
              exact bX10_together_52 (fun hc => absurd rfl hc) (fun _ => bX10_together_55 k)
            · rw [e2] at k
              refine bX10_together_52 (fun _ => ?_) (fun hc => absurd (by decide +kernel) hc)
              refine bX10_together_58 (b2 := 1) (b3 := 5) (R := fun r h' => r = some (vI (nI (cnt2 (ctx S) i p j q))) ∧ h = h') h0.1 h0.2.1 h1.1 h1.2.2.2.2 h1.2.2.1.1 (by omega) (c_countOf (by omega) h1.2.2.1 hi hj (by omega) (by omega) ⟨by rw [cnt2_ext (fun k hk => hR0.2.1.2.2.2.2.2.2 k hk)]; rfl, rfl⟩) ?_
              rintro r h' ⟨rfl, rfl⟩
              exact bX10_together_73 k
        · exact bX10_together_28 (fun hc => absurd rfl hc) (fun _ => bX10_together_31 (no (fun z => hno z.2.2.2)))
      · exact bX10_together_19 (fun _ => bX10_together_31 (no (fun z => hno z.2.2.1))) (fun hc => absurd rfl hc)
    · exact bX10_together_12 (fun _ => bX10_together_31 (no (fun z => hno z.2.1))) (fun hc => absurd rfl hc)
  · exact bX10_together_4 (fun _ => bX10_together_31 (no (fun z => hno z.1))) (fun hc => absurd rfl hc)
def tc (x : Int32) : Prop := ∃ m, 32 ≤ m ∧ m < 127 ∧ x = nI m
def Tok (t : Nat → Nat) (L : Nat) : Prop := L ≤ 60 ∧ ∀ i, i < L → 32 ≤ t i ∧ t i < 127
noncomputable def f_type (x : Int32) (t : Nat → Nat) (L : Nat) : Int32 × (Nat → Nat) × Nat := cif (tc x) (if L = 60 then (-5, t, L) else (nI (L + 1), chp t L x.toNatClampNeg, L + 1)) (-1, t, L)
theorem f_type_ok {x : Int32} {t : Nat → Nat} {L : Nat} (hT : Tok t L) : Tok (f_type x t L).2.1 (f_type x t L).2.2 := by
  by_cases hx : tc x
  · unfold f_type; rw [cif_t hx]
    by_cases hL : L = 60
    · rw [if_pos hL]; exact hT
    · rw [if_neg hL]
      refine ⟨by have := hT.1; show L + 1 ≤ 60; omega, fun i hi => ?_⟩
      obtain ⟨m, m1, m2, rfl⟩ := hx
      show 32 ≤ (if i = L then (nI m).toNatClampNeg else t i) ∧ (if i = L then (nI m).toNatClampNeg else t i) < 127
      by_cases hiL : i = L
      · rw [if_pos hiL, cs (by omega)]; exact ⟨m1, m2⟩
      · rw [if_neg hiL]; exact hT.2 i (by have : i < L + 1 := hi; omega)
  · unfold f_type; rw [cif_f hx]; exact hT
theorem tc_of {x : Int32} (h1 : ¬ x < 32) (h2 : x ≤ 126) : tc x := by
  obtain ⟨j, hj, e⟩ := nI_of2 (n := 126) (by decide) (by
    intro hc; apply h1
    rw [Int32.lt_iff_toInt_lt] at hc ⊢
    have : (0 : Int32).toInt = 0 := by decide
    have : (32 : Int32).toInt = 32 := by decide
    omega) h2
  rw [e] at h1
  exact ⟨j, Nat.le_of_not_lt fun z => h1 (nI_lt (a := j) (b := 32) z (by decide)), by omega, e⟩
theorem tc_no {x : Int32} (h : x < 32 ∨ ¬ x ≤ 126) : ¬ tc x := by
  rintro ⟨m, m1, m2, rfl⟩
  rcases h with h | h
  · exact nI_nlt (a := m) (b := 32) m1 (by omega) h
  · exact h (nI_le (a := m) (b := 126) (by omega) (by decide))
theorem c_type {d c n : Nat} {h : vH} {S : Nat → Int32} {H : List (Nat → Int32)} {t : Nat → Nat} {L : Nat} {Q : vQ} {x : Int32} (hd : 2 ≤ d) (hR0 : cR h S H t L) (hT : Tok t L) (k : ∀ h', fr (fun r => r ≤ 40) h h' → cR h' S H (f_type x t L).2.1 (f_type x t L).2.2 → Q (some (vI (f_type x t L).1)) h') : vm_C mX10_type d c n [vR (some 0), vI x] h Q := by
  have h0 := hR0.1.1
  have no : ¬ tc x → Q (some (vI (-1))) h := fun hno => by
    unfold f_type at k; rw [cif_f hno] at k; exact k h fr.rf hR0
  refine bX10_type_0 (fun hc => bX10_type_12 (no (tc_no (Or.inl hc)))) (fun h1 => bX10_type_6 (fun h2 => ?_) (fun hc => bX10_type_12 (no (tc_no (Or.inr hc)))))
  have hx := tc_of h1 h2
  have e1 : f_type x t L = if L = 60 then (-5, t, L) else (nI (L + 1), chp t L x.toNatClampNeg, L + 1) := by unfold f_type; rw [cif_t hx]
  rw [e1] at k
  obtain ⟨m, m1, m2, rfl⟩ := hx
  rw [cs (show m < _ by omega)] at k
  refine bX10_type_14 (b2 := 39) (R := fun r h' => (L = 60 ∧ r = some (vI 0) ∧ h = h') ∨ (L < 60 ∧ r = some (vI 1) ∧ fr (fun r => r = 39 ∨ r = 40) h h' ∧ tv h' (chp t L m) (L + 1))) h0.1 h0.2.2.2.1 hR0.1.2.2.2.1.1 (by omega) (by
    rw [(chN m m2).2.1]
    exact c_append hR0.1.2.2.2.1 hR0.2.2.2 hT.1 m2 (fun hL => Or.inl ⟨hL, rfl, rfl⟩) (fun hL h' f w => Or.inr ⟨hL, rfl, f, w⟩)) ?_
  rintro r h' (⟨hL, rfl, rfl⟩ | ⟨hL, rfl, f, w⟩)
  · rw [if_pos hL] at k
    exact bX10_type_23 (fun _ => bX10_type_36 (bX10_type_38 (k h fr.rf hR0))) (fun hc => absurd rfl hc)
  · rw [if_neg (by omega)] at k
    have w2 : cR h' S H (chp t L m) (L + 1) := ⟨hR0.1.fr f, hR0.2.1.fr f (fun r hr => by omega), hR0.2.2.1.fr f (fun r hr => by omega), w⟩
    refine bX10_type_23 (fun hc => absurd hc (by decide +kernel)) (fun _ => bX10_type_26 (b2 := 39) w2.1.1.1 w2.1.1.2.2.2.1 w2.1.2.2.2.1.1 ?_)
    rw [w.1]
    exact bX10_type_38 (k h' (f.wk 40 (fun r hr => by omega)) w2)
theorem bL_lN {m : Nat} (hm : m < 9223372036854775808) {i : Nat} (hi : i < 64) : bL (lN m) i = m.testBit i := by
  show (BitVec.ofNat 64 m).getLsbD i = m.testBit i
  rw [BitVec.getLsbD_ofNat, decide_eq_true hi, Bool.true_and]
def tkN (S : Nat → Int32) : Nat := (S 8).toNatClampNeg
theorem Sok.t {S : Nat → Int32} (x : Sok S) : S 8 = nI (tkN S) ∧ tkN S < 1073741824 := by
  obtain ⟨-, -, -, -, -, ⟨m, h1, h2⟩, -⟩ := x
  have e : tkN S = m := by unfold tkN; rw [h1, cs (by omega)]
  rw [e]; exact ⟨h1, h2⟩
theorem tk_bit {S : Nat → Int32} (hS : Sok S) {i : Nat} (hi : i < 64) : bL (Int32.toInt64 (S 8)) i = (tkN S).testBit i := by
  have := hS.t
  rw [this.1, nI_l (by omega), bL_lN (by omega) hi]
theorem tk_hi {S : Nat → Int32} (hS : Sok S) {i : Nat} (hi : 30 ≤ i) : (tkN S).testBit i = false :=
  Nat.testBit_lt_two_pow (Nat.lt_of_lt_of_le hS.t.2 (Nat.pow_le_pow_right (n := 2) (by decide) hi))
def f_accommodated (S : Nat → Int32) : Int32 := nI (cn (fun i => (tkN S).testBit i) 30)
theorem cn_cut {p : Nat → Bool} (m n : Nat) (h : ∀ k, m ≤ k → k < m + n → p k = false) : cn p (m + n) = cn p m := by
  rw [cn_add, cn_0.mpr (fun k hk => h (m + k) (by omega) (by omega)), Nat.add_zero]
theorem c_accommodated {d c n : Nat} {h : vH} {S : Nat → Int32} {H : List (Nat → Int32)} {t : Nat → Nat} {L : Nat} {Q : vQ} (hd : 1 ≤ d) (hR0 : cR h S H t L) (hS : Sok S) (k : Q (some (vI (f_accommodated S))) h) : vm_C mX10_accommodated d c n [vR (some 0)] h Q := by
  have h0 := hR0.1.1
  have h1 := hR0.1.2.1
  refine bX10_accommodated_0 (b2 := 1) (R := fun r h' => r = some (vI (f_accommodated S)) ∧ h = h') h0.1 h0.2.1 h1.1 (by omega) (cL_bitCount ⟨?_, rfl⟩) ?_
  · have e : cn (bL (hL h 1 4)) 64 = cn (fun i => (tkN S).testBit i) 30 := by
      rw [hR0.2.1.2.2.2.2.2.1, cn_ext (q := fun i => (tkN S).testBit i) (fun k hk => tk_bit hS hk)]
      exact cn_cut 30 34 (fun k hk _ => tk_hi hS hk)
    unfold f_accommodated; rw [e]
  · rintro r h' ⟨rfl, rfl⟩
    exact bX10_accommodated_10 k
def pth (p : Nat → Bool) (x : Int32) (k n : Nat) : Nat → Int32
  | 0 => -7
  | r + 1 => if p k then (if nI n = x then nI k else pth p x (k + 1) (n + 1) r) else pth p x (k + 1) n r
theorem pth_no {p : Nat → Bool} {x : Int32} : ∀ (r k n : Nat), (∀ j, k ≤ j → p j = false) → pth p x k n r = -7
  | 0, _, _, _ => rfl
  | r + 1, k, n, h => by
    show (if p k then (if nI n = x then nI k else pth p x (k + 1) (n + 1) r) else pth p x (k + 1) n r) = -7
    rw [h k (Nat.le_refl k), if_neg (by decide)]
    exact pth_no r (k + 1) n (fun j hj => h j (by omega))
theorem pth_cut {p : Nat → Bool} {x : Int32} (s : Nat) : ∀ (r k n : Nat), (∀ j, k + r ≤ j → p j = false) → pth p x k n (r + s) = pth p x k n r
  | 0, k, n, h => by rw [Nat.zero_add]; exact pth_no s k n h
  | r + 1, k, n, h => by
    rw [show r + 1 + s = r + s + 1 by omega]
    show (if p k then (if nI n = x then nI k else pth p x (k + 1) (n + 1) (r + s)) else pth p x (k + 1) n (r + s)) = (if p k then (if nI n = x then nI k else pth p x (k + 1) (n + 1) r) else pth p x (k + 1) n r)
    rw [pth_cut s r (k + 1) (n + 1) (fun j hj => h j (by omega)), pth_cut s r (k + 1) n (fun j hj => h j (by omega))]
noncomputable def f_accommodatedPart (x : Int32) (S : Nat → Int32) : Int32 := cif (x < 0) (-1) (pth (fun i => (tkN S).testBit i) x 0 0 30)
theorem lbit1 (x : Int64) : lg_cmp (x &&& 1) 0 = 0 ↔ bL x 0 = false := by
  rw [lg_eq0]
  constructor
  · intro h
    have := congrArg (fun y => bL y 0) h
    simp only [bL_and, bL_0] at this
    rw [bL_1 0 (by decide)] at this
    simpa using this
  · intro h
    refine bL_ext fun i hi => ?_
    rw [bL_and, bL_0, bL_1 i hi]
    by_cases h0 : i = 0
    · subst h0; rw [h]; rfl
    · rw [decide_eq_false h0, Bool.and_false]
theorem c_accommodatedPart {d c n : Nat} {h : vH} {S : Nat → Int32} {H : List (Nat → Int32)} {t : Nat → Nat} {L : Nat} {Q : vQ} {x : Int32} (hR0 : cR h S H t L) (hS : Sok S) (k : Q (some (vI (f_accommodatedPart x S))) h) : vm_C mX10_accommodatedPart d c n [vR (some 0), vI x] h Q := by
  have h0 := hR0.1.1
  have h1 := hR0.1.2.1
  refine bX10_accommodatedPart_0 (fun hx => bX10_accommodatedPart_6 ?_) (fun hx => bX10_accommodatedPart_4 ?_)
  · have hx' : ¬ x < 0 := by
      intro hc
      rw [Int32.lt_iff_toInt_lt] at hc
      rw [Int32.le_iff_toInt_le] at hx
      omega
    have e : f_accommodatedPart x S = pth (fun i => (tkN S).testBit i) x 0 0 60 := by
      unfold f_accommodatedPart; rw [cif_f hx']; exact (pth_cut 30 30 0 0 (fun j hj => tk_hi hS (by omega))).symm
    rw [e] at k
    have go : ∀ r kk nn, kk + r = 60 → nn ≤ kk → Q (some (vI (pth (fun i => (tkN S).testBit i) x kk nn r))) h → vm_E mX10_accommodatedPart d c n 10 [some (vR (some 0)), some (vI x), some (vI (nI nn)), some (vI (nI kk))] [] h Q := by
      intro r
      induction r with
      | zero => intro kk nn hk hn q; exact bX10_accommodatedPart_10 (fun _ => bX10_accommodatedPart_48 q) (fun hc => absurd (nI_le (a := 60) (b := kk) (by omega) (by omega)) hc)
      | succ r ih =>
        intro kk nn hk hn q
        refine bX10_accommodatedPart_10 (fun hc => absurd hc (nI_ge (a := kk) (b := 60) (by omega) (by decide))) (fun _ => ?_)
        have eb : bL (UInt64.toInt64 (Int64.toUInt64 (hL h 1 4) >>> (Int64.toUInt64 (Int32.toInt64 (nI kk)) &&& Int64.toUInt64 63))) 0 = (tkN S).testBit kk := by
          rw [bL_ushr _ (su64 kk (by omega)), hR0.2.1.2.2.2.2.2.1, Nat.add_zero, tk_bit hS (by omega)]
        refine bX10_accommodatedPart_16 (b2 := 1) h0.1 h0.2.1 h1.1 (fun hc => ?_) (fun hc => ?_)
        · rw [lbit1, eb] at hc
          refine bX10_accommodatedPart_42 ?_
          rw [nI_1]
          refine ih (kk + 1) nn (by omega) (by omega) ?_
          have e2 : pth (fun i => (tkN S).testBit i) x kk nn (r + 1) = pth (fun i => (tkN S).testBit i) x (kk + 1) nn r := by
            show (if (tkN S).testBit kk then _ else _) = _
            rw [hc, if_neg (by decide)]
          rw [e2] at q; exact q
        · rw [lbit1, eb, Bool.not_eq_false] at hc
          have e2 : pth (fun i => (tkN S).testBit i) x kk nn (r + 1) = if nI nn = x then nI kk else pth (fun i => (tkN S).testBit i) x (kk + 1) (nn + 1) r := by
            show (if (tkN S).testBit kk then _ else _) = _
            rw [hc, if_pos rfl]
          rw [e2] at q
          refine bX10_accommodatedPart_32 (fun hne => bX10_accommodatedPart_39 (bX10_accommodatedPart_42 ?_)) (fun he => bX10_accommodatedPart_37 ?_)
          · rw [nI_1, nI_1]
            rw [if_neg hne] at q
            exact ih (kk + 1) (nn + 1) (by omega) (by omega) q
          · rw [if_pos (Classical.byContradiction he)] at q; exact q
    exact go 60 0 0 rfl (Nat.le_refl 0) k
  · have e : f_accommodatedPart x S = -1 := by
      unfold f_accommodatedPart
      rw [cif_t]
      rw [Int32.le_iff_toInt_le] at hx
      rw [Int32.lt_iff_toInt_lt]
      omega
    rw [e] at k; exact k
