/-! ===== the simple methods: what they answer and do, as functions of the vector (both sides are held against these) ===== -/
noncomputable def cif {α : Type} (P : Prop) (a b : α) : α := @ite α P (Classical.propDecidable P) a b
theorem cif_t {α : Type} {P : Prop} {a b : α} (h : P) : cif P a b = a := @if_pos P (Classical.propDecidable P) h α a b
theorem cif_f {α : Type} {P : Prop} {a b : α} (h : ¬ P) : cif P a b = b := @if_neg P (Classical.propDecidable P) h α a b
def ix (x : Int32) (n : Nat) : Prop := ∃ i, i < n ∧ x = nI i
theorem ix_no {x : Int32} {n : Nat} (hn : n < 2147483648) (h : x < 0 ∨ nI n ≤ x) : ¬ ix x n := by
  rintro ⟨i, hi, rfl⟩
  exact nI_out hi hn h
theorem ix_or (x : Int32) {n : Nat} (hn : n < 2147483648) : (x < 0 ∨ nI n ≤ x) ∨ ∃ i, i < n ∧ x = nI i := by
  rcases pk_ix x hn with h | h | h
  · exact Or.inl (Or.inl h)
  · exact Or.inl (Or.inr h)
  · exact Or.inr h
def ob (x : Int32) (n : Nat) : Prop := ∃ i, 1 ≤ i ∧ i < 2 ^ n ∧ x = nI i
def ctx (S : Nat → Int32) (a : Nat) : Bool := bI (S (9 + a / 32)) (a % 32)
def nS (S : Nat → Int32) : Nat := (S 0).toNatClampNeg
def kS (S : Nat → Int32) : Nat := (S 7).toNatClampNeg
def Sok (S : Nat → Int32) : Prop := (∃ n, S 0 = nI n ∧ 1 ≤ n ∧ n ≤ 3) ∧ (∀ i, i < 3 → ∃ p, S (1 + i) = nI p ∧ p < 2 ^ nS S) ∧ (∀ i, i < 2 → ∃ r, S (4 + i) = nI r ∧ r < 512) ∧ (S 6 = 0 ∨ S 6 = 1) ∧ (∃ k, S 7 = nI k ∧ k < 8) ∧ (∃ m, S 8 = nI m ∧ m < 1073741824) ∧ ∀ a, a < 512 → ctx S a = true → ∀ v, v < 3 → if (kS S).testBit v then 1 ≤ ofv a v ∧ ofv a v < 2 ^ nS S else ofv a v = 0
theorem Sok.n {S : Nat → Int32} (x : Sok S) : S 0 = nI (nS S) ∧ 1 ≤ nS S ∧ nS S ≤ 3 := by
  obtain ⟨⟨n, h1, h2, h3⟩, -⟩ := x
  have e : nS S = n := by unfold nS; rw [h1, cs (by omega)]
  rw [e]; exact ⟨h1, h2, h3⟩
theorem Sok.k {S : Nat → Int32} (x : Sok S) : S 7 = nI (kS S) ∧ kS S < 8 := by
  obtain ⟨-, -, -, -, ⟨k, h1, h2⟩, -⟩ := x
  have e : kS S = k := by unfold kS; rw [h1, cs (by omega)]
  rw [e]; exact ⟨h1, h2⟩
theorem Sok.o {S : Nat → Int32} (x : Sok S) : ok6 S := x.2.2.2.1
abbrev aR : Type := Int32 × (Nat → Int32) × List (Nat → Int32)
def setN (S : Nat → Int32) (x : Int32) : Nat → Int32 := fstV (fun j => if j = 0 then x else if j < 6 then 0 else S j)
noncomputable def f_setIndividuals (x : Int32) (S : Nat → Int32) (H : List (Nat → Int32)) : aR := cif (∃ m, 1 ≤ m ∧ m ≤ 3 ∧ x = nI m) (S 0, setN S x, push5 H S) (-1, S, H)
def putV (S : Nat → Int32) (i : Nat) (x : Int32) : Nat → Int32 := fun j => if j = i then x else S j
noncomputable def f_setPredicate (x y : Int32) (S : Nat → Int32) (H : List (Nat → Int32)) : aR := cif (ix x 3 ∧ ix y (2 ^ nS S)) (S (1 + x.toNatClampNeg), putV S (1 + x.toNatClampNeg) y, push5 H S) (-1, S, H)
def prV (S : Nat → Int32) (x a b z : Int32) : Nat → Int32 := putV S (4 + x.toNatClampNeg) (nI (mkN (fun j => if j = 3 * a.toNatClampNeg + b.toNatClampNeg then decide (z = 1) else bI (S (4 + x.toNatClampNeg)) j) 9))
noncomputable def f_setPair (x a b z : Int32) (S : Nat → Int32) (H : List (Nat → Int32)) : aR := cif (ix x 2 ∧ ix a (nS S) ∧ ix b (nS S) ∧ ix z 2) ((if bI (S (4 + x.toNatClampNeg)) (3 * a.toNatClampNeg + b.toNatClampNeg) then 1 else 0), prV S x a b z, push5 H S) (-1, S, H)
noncomputable def f_predicate (x : Int32) (S : Nat → Int32) : Int32 := cif (ix x 3) (S (1 + x.toNatClampNeg)) (-1)
noncomputable def f_relationHolds (x a b : Int32) (S : Nat → Int32) : Int32 := cif (ix x 2 ∧ ob a (nS S) ∧ ob b (nS S)) (if relN (S (4 + x.toNatClampNeg)).toNatClampNeg a.toNatClampNeg b.toNatClampNeg then 1 else 0) (-1)
def f_contextSize (S : Nat → Int32) : Int32 := nI (cn (ctx S) 512)
noncomputable def f_objects (x : Int32) (S : Nat → Int32) : Int32 := cif (ix x 3) (if (kS S).testBit x.toNatClampNeg then nI (vals (ctx S) x.toNatClampNeg 7) else -7) (-1)
noncomputable def f_together (x a y b : Int32) (S : Nat → Int32) : Int32 := cif (ix x 3 ∧ ob a (nS S) ∧ ix y 3 ∧ ob b (nS S)) (if (kS S).testBit x.toNatClampNeg && (kS S).testBit y.toNatClampNeg then nI (cnt2 (ctx S) x.toNatClampNeg a.toNatClampNeg y.toNatClampNeg b.toNatClampNeg) else -7) (-1)
def f_resetContext (S : Nat → Int32) (H : List (Nat → Int32)) : aR := (nI (cn (ctx S) 512), fstV S, push5 H S)
noncomputable def f_setAccommodation (x : Int32) (S : Nat → Int32) (H : List (Nat → Int32)) : aR := cif (ix x 2) (S 6, putV S 6 x, push5 H S) (-1, S, H)
/-! the class's side -/
theorem c_isVariable {d c n : Nat} {h : vH} {Q : vQ} {x : Int32} (k1 : ∀ i, i < 3 → x = nI i → Q (some (vI 1)) h) (k0 : (x < 0 ∨ nI 3 ≤ x) → Q (some (vI 0)) h) : vm_C mX10_isVariable d c n [vI x] h Q := by
  refine bX10_isVariable_0 (fun hc => bX10_isVariable_13 (bX10_isVariable_14 rfl (k0 (Or.inl hc)))) (fun h0 => bX10_isVariable_4 (fun hc => bX10_isVariable_13 (bX10_isVariable_14 rfl (k0 (Or.inr hc)))) (fun h3 => bX10_isVariable_9 (bX10_isVariable_14 rfl ?_)))
  rcases ix_or x (n := 3) (by decide) with (hh | hh) | ⟨j, hj, e⟩
  · exact absurd hh h0
  · exact absurd hh h3
  · exact k1 j hj e
theorem c_isSwitch {d c n : Nat} {h : vH} {Q : vQ} {x : Int32} (k1 : ∀ i, i < 2 → x = nI i → Q (some (vI 1)) h) (k0 : ¬ ix x 2 → Q (some (vI 0)) h) : vm_C mX10_isSwitch d c n [vI x] h Q := by
  refine bX10_isSwitch_0 (fun hc => bX10_isSwitch_9 (bX10_isSwitch_14 rfl (k1 0 (by decide) hc))) (fun h0 => bX10_isSwitch_4 (fun h1 => bX10_isSwitch_13 (bX10_isSwitch_14 rfl (k0 ?_))) (fun h1 => bX10_isSwitch_9 (bX10_isSwitch_14 rfl (k1 1 (by decide) (Classical.byContradiction h1)))))
  rintro ⟨i, hi, e⟩
  have hi2 : i = 0 ∨ i = 1 := by omega
  rcases hi2 with rfl | rfl
  · exact h0 e
  · exact h1 e
theorem c_isIndividual {d c n m : Nat} {h : vH} {Q : vQ} {x : Int32} (h0 : L0 h) (h1 : isSt h 1) (e : hI h 2 0 = nI m) (hm : m < 4) (k1 : ∀ i, i < m → x = nI i → Q (some (vI 1)) h) (k0 : (x < 0 ∨ nI m ≤ x) → Q (some (vI 0)) h) : vm_C mX10_isIndividual d c n [vR (some 0), vI x] h Q := by
  refine bX10_isIndividual_0 (fun hc => bX10_isIndividual_22 (bX10_isIndividual_23 rfl (k0 (Or.inl hc)))) (fun n0 => bX10_isIndividual_4 (b2 := 1) (b3 := 2) h0.1 h0.2.1 h1.1 h1.2.2.2.1 h1.2.1.1 (fun hc => bX10_isIndividual_22 (bX10_isIndividual_23 rfl (k0 (Or.inr (by rw [← e]; exact hc))))) (fun n3 => bX10_isIndividual_18 (bX10_isIndividual_23 rfl ?_)))
  rcases ix_or x (n := m) (by omega) with (hh | hh) | ⟨j, hj, e⟩
  · exact absurd hh n0
  · exact absurd (by rw [e]; exact hh) n3
  · exact k1 j hj e
theorem c_isObject {d c n m : Nat} {h : vH} {Q : vQ} {x : Int32} (hd : 1 ≤ d) (h0 : L0 h) (h1 : isSt h 1) (e : hI h 2 0 = nI m) (hm : m < 4) (k1 : ∀ i, 1 ≤ i → i < 2 ^ m → x = nI i → Q (some (vI 1)) h) (k0 : ¬ ob x m → Q (some (vI 0)) h) : vm_C mX10_isObject d c n [vR (some 0), vI x] h Q := by
  have hp : 1 ≤ 2 ^ m ∧ 2 ^ m ≤ 8 := (by decide : ∀ m, m < 4 → 1 ≤ 2 ^ m ∧ 2 ^ m ≤ 8) m hm
  refine bX10_isObject_0 (fun hc => bX10_isObject_23 (bX10_isObject_24 rfl (k0 ?_))) (fun n1 => ?_)
  · rintro ⟨i, i1, i2, rfl⟩
    exact nI_nlt (a := i) (b := 1) i1 (by omega) hc
  · refine bX10_isObject_5 (b2 := 1) (b3 := 2) (R := fun r h' => r = some (vI (nI (2 ^ m - 1))) ∧ h = h') h0.1 h0.2.1 h1.1 h1.2.2.2.1 h1.2.1.1 hd (c_everybody h1.2.1 hm e ⟨rfl, rfl⟩) ?_
    rintro r h' ⟨rfl, rfl⟩
    refine bX10_isObject_16 (fun hc => bX10_isObject_23 (bX10_isObject_24 rfl (k0 ?_))) (fun n2 => bX10_isObject_19 (bX10_isObject_24 rfl ?_))
    · rintro ⟨i, i1, i2, rfl⟩
      exact nI_nlt (a := 2 ^ m - 1) (b := i) (by omega) (by omega) hc
    · rcases ix_or x (n := 2 ^ m) (by omega) with (hh | hh) | ⟨j, hj, ej⟩
      · refine absurd ?_ n1
        rw [Int32.lt_iff_toInt_lt] at hh ⊢
        have : (1 : Int32).toInt = 1 := by decide
        have : (0 : Int32).toInt = 0 := by decide
        omega
      · refine absurd ?_ n2
        rw [Int32.le_iff_toInt_le, nI_toInt (by omega)] at hh
        rw [Int32.lt_iff_toInt_lt, nI_toInt (by omega)]
        omega
      · refine k1 j ?_ hj ej
        by_cases hj0 : j = 0
        · subst hj0; rw [ej] at n1; exact absurd (by decide +kernel) n1
        · omega
theorem fr.wk {A : Nat → Prop} {h h' : vH} (x : fr A h h') (N : Nat) (hA : ∀ r, A r → r ≤ N) : fr (fun r => r ≤ N) h h' := x.mono hA
theorem c_rec {d c n : Nat} {h : vH} {S : Nat → Int32} {H : List (Nat → Int32)} {t : Nat → Nat} {L : Nat} {Q : vQ} (hd : 2 ≤ d) (hR0 : cR h S H t L) (hS : Sok S) (k : ∀ h', fr (fun r => r ≤ 38) h h' → cR h' S (push5 H S) t L → Q none h') : vm_C mX2_record d c n [vR (some 7), vR (some 1)] h Q :=
  c_record hd hR0.1.2.2.1 hR0.1.2.1 (Or.inl (by decide)) hR0.2.1 hS.o hR0.2.2.1 (fun h' f hv' => k h' (f.wk 38 (fun r hr => hr.2)) ⟨hR0.1.fr f, hR0.2.1.fr f (fun r hr => by omega), hv', hR0.2.2.2.fr f (fun r hr => by omega)⟩)
theorem sv_uI2 {h : vH} {S T : Nat → Int32} (x : sv h 1 S) {a i j : Nat} {v : Int32} (hj : a = 2 ∧ i = 0 ∧ j = 0 ∨ a = 3 ∧ i < 3 ∧ j = 1 + i ∨ a = 4 ∧ i < 2 ∧ j = 4 + i ∨ a = 1 ∧ i = 3 ∧ j = 6) (e : ∀ q, q < 25 → T q = if q = j then v else S q) : sv (uI h a i v) 1 T := by
  obtain ⟨h1, h2, h3, h4, h5, h6, h7⟩ := x
  refine ⟨?_, fun q hq => ?_, fun q hq => ?_, ?_, ?_, ?_, fun k hk => ?_⟩
  · rw [hI_uI, e 0 (by omega)]; split <;> split <;> first | rfl | exact h1 | omega
  · rw [hI_uI, e _ (by omega)]; split <;> split <;> first | rfl | exact h2 q hq | omega
  · rw [hI_uI, e _ (by omega)]; split <;> split <;> first | rfl | exact h3 q hq | omega
  · rw [hI_uI, e _ (by omega)]; split <;> split <;> first | rfl | exact h4 | omega
  · rw [hI_uI, e _ (by omega)]; split <;> split <;> first | rfl | exact h5 | omega
  · rw [hL_uI, e _ (by omega), if_neg (by omega)]; exact h6
  · have : sA (uI h a i v) (1 + 5) k = sA h (1 + 5) k := rfl
    rw [this, h7 k hk, e _ (by omega), if_neg (by omega)]
theorem c_setPredicate {d c n : Nat} {h : vH} {S : Nat → Int32} {H : List (Nat → Int32)} {t : Nat → Nat} {L : Nat} {Q : vQ} {x y : Int32} (hd : 5 ≤ d) (hR0 : cR h S H t L) (hS : Sok S) (k : ∀ h', fr (fun r => r ≤ 40) h h' → cR h' (f_setPredicate x y S H).2.1 (f_setPredicate x y S H).2.2 t L → Q (some (vI (f_setPredicate x y S H).1)) h') : vm_C mX10_setPredicate d c n [vR (some 0), vI x, vI y] h Q := by
  obtain ⟨hn, hn1, hn3⟩ := hS.n
  have h0 := hR0.1.1
  have h1 := hR0.1.2.1
  have e20 : hI h 2 0 = nI (nS S) := by rw [← hn]; exact hR0.2.1.1
  have no : ¬ (ix x 3 ∧ ix y (2 ^ nS S)) → Q (some (vI (-1))) h := fun hno => by
    have t1 := k h fr.rf
    unfold f_setPredicate at t1
    rw [cif_f hno] at t1
    exact t1 hR0
  have hp : 1 ≤ 2 ^ nS S ∧ 2 ^ nS S ≤ 8 := (by decide : ∀ m, m < 4 → 1 ≤ 2 ^ m ∧ 2 ^ m ≤ 8) _ (by omega)
  refine bX10_setPredicate_0 (R := fun r h' => h = h' ∧ ((∃ i, i < 3 ∧ x = nI i) ∧ r = some (vI 1) ∨ ¬ ix x 3 ∧ r = some (vI 0))) (by omega) (c_isPredicate (fun i hi e => ⟨rfl, Or.inl ⟨⟨i, hi, e⟩, rfl⟩⟩) (fun hz => ⟨rfl, Or.inr ⟨ix_no (by decide) hz, rfl⟩⟩)) ?_
  rintro r h' ⟨rfl, ⟨⟨i, hi, rfl⟩, rfl⟩ | ⟨hno, rfl⟩⟩
  · refine bX10_setPredicate_4 (fun hc => absurd hc (by decide +kernel)) (fun _ => bX10_setPredicate_7 (fun hc => bX10_setPredicate_25 (no (fun z => ix_no (by omega) (Or.inl hc) z.2))) (fun hy0 => ?_))
    refine bX10_setPredicate_11 (b2 := 1) (b3 := 2) (R := fun r h' => r = some (vI (nI (2 ^ nS S - 1))) ∧ h = h') h0.1 h0.2.1 h1.1 h1.2.2.2.1 h1.2.1.1 (by omega) (c_everybody h1.2.1 (by omega) e20 ⟨rfl, rfl⟩) ?_
    rintro r h' ⟨rfl, rfl⟩
    refine bX10_setPredicate_22 (fun hc => ?_) (fun hc => bX10_setPredicate_25 (no (fun z => ?_)))
    · obtain ⟨j, hj, ej⟩ : ∃ j, j < 2 ^ nS S ∧ y = nI j := by
        rcases ix_or y (n := 2 ^ nS S) (by omega) with (hh | hh) | hh
        · exact absurd hh hy0
        · rw [Int32.le_iff_toInt_le, nI_toInt (by omega)] at hh
          rw [Int32.le_iff_toInt_le, nI_toInt (by omega)] at hc
          omega
        · exact hh
      have yes : f_setPredicate (nI i) y S H = (S (1 + i), putV S (1 + i) y, push5 H S) := by
        unfold f_setPredicate
        rw [cif_t ⟨⟨i, hi, rfl⟩, ⟨j, hj, ej⟩⟩, cs (by omega)]
      rw [yes] at k
      refine bX10_setPredicate_27 (b2 := 1) (b3 := 2) (R := fun r h' => r = some (vI (S (1 + i))) ∧ h = h') h0.1 h0.2.1 h1.1 h1.2.2.2.1 h1.2.1.1 (by omega) (c_setOf (by omega) h1.2.1 hi ⟨by rw [hR0.2.1.2.1 i hi], rfl⟩) ?_
      rintro r h' ⟨rfl, rfl⟩
      refine bX10_setPredicate_38 (b2 := 7) (R := fun r h' => r = none ∧ fr (fun r => r ≤ 38) h h' ∧ cR h' S (push5 H S) t L) h0.1 h0.2.2.1 hR0.1.2.2.1.1 (by omega) (by rw [h0.2.1]; exact c_rec (by omega) hR0 hS (fun h' f q => ⟨rfl, f, q⟩)) ?_
      rintro r h' ⟨rfl, f, q⟩
      have h0' := q.1.1
      have h1' := q.1.2.1
      refine bX10_setPredicate_50 (b2 := 1) (b3 := 2) (R := fun r h2 => r = none ∧ uI h' 3 i y = h2) h0'.1 h0'.2.1 h1'.1 h1'.2.2.2.1 h1'.2.1.1 (by omega) (c_giveSet (by omega) h1'.2.1 hi ⟨rfl, rfl⟩) ?_
      rintro r h2 ⟨rfl, rfl⟩
      have f2 := fr_uI h' 3 i y
      exact bX10_setPredicate_62 (k _ ((f.tr f2).wk 40 (fun r hr => by omega)) ⟨q.1.fr f2, sv_uI2 q.2.1 (Or.inr (Or.inl ⟨rfl, hi, rfl⟩)) (fun q _ => rfl), q.2.2.1.fr f2 (fun r hr => by omega), q.2.2.2.fr f2 (fun r hr => by omega)⟩)
    · obtain ⟨-, j, hj, ej⟩ := z
      rw [ej] at hc
      exact hc (nI_le (by omega) (by omega))
  · exact bX10_setPredicate_4 (fun _ => bX10_setPredicate_25 (no (fun z => hno z.1))) (fun hc => absurd rfl hc)
