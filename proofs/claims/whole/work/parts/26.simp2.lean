/-! ===== simple methods of the class, continued ===== -/
theorem cR.n {h : vH} {S : Nat → Int32} {H : List (Nat → Int32)} {t : Nat → Nat} {L : Nat} (x : cR h S H t L) (hS : Sok S) : hI h 2 0 = nI (nS S) := by rw [← hS.n.1]; exact x.2.1.1
theorem c_setIndividuals {d c n : Nat} {h : vH} {S : Nat → Int32} {H : List (Nat → Int32)} {t : Nat → Nat} {L : Nat} {Q : vQ} {x : Int32} (hd : 5 ≤ d) (hR0 : cR h S H t L) (hS : Sok S) (k : ∀ h', fr (fun r => r ≤ 40) h h' → cR h' (f_setIndividuals x S H).2.1 (f_setIndividuals x S H).2.2 t L → Q (some (vI (f_setIndividuals x S H).1)) h') : vm_C mX10_setIndividuals d c n [vR (some 0), vI x] h Q := by
  have h0 := hR0.1.1
  have h1 := hR0.1.2.1
  have no : ¬ (∃ m, 1 ≤ m ∧ m ≤ 3 ∧ x = nI m) → Q (some (vI (-1))) h := fun hno => by
    have t1 := k h fr.rf
    unfold f_setIndividuals at t1
    rw [cif_f hno] at t1
    exact t1 hR0
  refine bX10_setIndividuals_0 (fun hc => bX10_setIndividuals_10 (no ?_)) (fun n1 => bX10_setIndividuals_5 (fun hc => ?_) (fun hc => bX10_setIndividuals_10 (no ?_)))
  · rintro ⟨m, m1, m3, rfl⟩
    exact nI_nlt (a := m) (b := 1) m1 (by omega) hc
  · obtain ⟨m, m1, m3, rfl⟩ : ∃ m, 1 ≤ m ∧ m ≤ 3 ∧ x = nI m := by
      rcases ix_or x (n := 4) (by decide) with (hh | hh) | ⟨j, hj, ej⟩
      · refine absurd ?_ n1
        rw [Int32.lt_iff_toInt_lt] at hh ⊢
        have : (1 : Int32).toInt = 1 := by decide
        have : (0 : Int32).toInt = 0 := by decide
        omega
      · rw [Int32.le_iff_toInt_le] at hh hc
        have : (nI 4).toInt = 4 := by decide
        have : (3 : Int32).toInt = 3 := by decide
        omega
      · refine ⟨j, ?_, by omega, ej⟩
        by_cases hj0 : j = 0
        · subst hj0; rw [ej] at n1; exact absurd (by decide +kernel) n1
        · omega
    have yes : f_setIndividuals (nI m) S H = (S 0, setN S (nI m), push5 H S) := by
      unfold f_setIndividuals; rw [cif_t ⟨m, m1, m3, rfl⟩]
    rw [yes] at k
    refine bX10_setIndividuals_12 (b2 := 1) (b3 := 2) (b4 := 7) (R := fun r h' => r = none ∧ fr (fun r => r ≤ 38) h h' ∧ cR h' S (push5 H S) t L) h0.1 h0.2.1 h1.1 h1.2.2.2.1 h1.2.1.1 h0.2.2.1 hR0.1.2.2.1.1 (by omega) (by rw [h0.2.1]; exact c_rec (by omega) hR0 hS (fun h' f q => ⟨rfl, f, q⟩)) ?_
    rintro r h' ⟨rfl, f, q⟩
    have h0' := q.1.1
    have h1' := q.1.2.1
    refine bX10_setIndividuals_34 (b2 := 1) (b3 := 2) (R := fun r h2 => r = none ∧ pI (pI (uI h' 2 0 (nI m)) 3 3 (fun _ => 0)) 4 2 (fun _ => 0) = h2) h0'.1 h0'.2.1 h1'.1 h1'.2.2.2.1 h1'.2.1.1 (by omega) (c_World_begin h1'.2.1 ⟨rfl, rfl⟩) ?_
    rintro r h2 ⟨rfl, rfl⟩
    have f2 : fr (fun r => 2 ≤ r ∧ r ≤ 4) h' (pI (pI (uI h' 2 0 (nI m)) 3 3 (fun _ => 0)) 4 2 (fun _ => 0)) := (((fr_uI h' 2 0 (nI m)).tr (fr_pI _ 3 3 _)).tr (fr_pI _ 4 2 _)).mono (fun r hr => by omega)
    have s2 : sv (pI (pI (uI h' 2 0 (nI m)) 3 3 (fun _ => 0)) 4 2 (fun _ => 0)) 1 (fun j => if j = 0 then nI m else if j < 6 then 0 else S j) := by
      obtain ⟨g1, g2, g3, g4, g5, g6, g7⟩ := q.2.1
      refine ⟨?_, fun i hi => ?_, fun i hi => ?_, ?_, ?_, ?_, fun a ha => ?_⟩
      · rw [hI_pIn _ _ _ (by decide), hI_pIn _ _ _ (by decide), hI_uIs]; rfl
      · rw [hI_pIn _ _ _ (by decide), hI_pIlt _ _ _ _ hi]; show (0 : Int32) = if 1 + i = 0 then nI m else if 1 + i < 6 then 0 else S (1 + i); rw [if_neg (by omega), if_pos (by omega)]
      · rw [hI_pIlt _ _ _ _ hi]; show (0 : Int32) = if 4 + i = 0 then nI m else if 4 + i < 6 then 0 else S (4 + i); rw [if_neg (by omega), if_pos (by omega)]
      · rw [(f2.2 1 (by omega)).1]; exact g4
      · rw [(f2.2 1 (by omega)).1]; exact g5
      · rw [(f2.2 1 (by omega)).2]; exact g6
      · have e : sA (pI (pI (uI h' 2 0 (nI m)) 3 3 (fun _ => 0)) 4 2 (fun _ => 0)) (1 + 5) a = sA h' (1 + 5) a := rfl
        rw [e, g7 a ha]; show _ = bI (if 9 + a / 32 = 0 then nI m else if 9 + a / 32 < 6 then 0 else S (9 + a / 32)) (a % 32); rw [if_neg (by omega), if_neg (by omega)]
    have q1 := q.1.fr f2
    refine bX10_setIndividuals_45 (b2 := 1) (R := fun r h3 => r = none ∧ fgS (pI (pI (uI h' 2 0 (nI m)) 3 3 (fun _ => 0)) 4 2 (fun _ => 0)) 1 = h3) q1.1.1 q1.1.2.1 q1.2.1.1 (by omega) (c_forget (by omega) q1.2.1 ⟨rfl, rfl⟩) ?_
    rintro r h3 ⟨rfl, rfl⟩
    have f3 := fr_fgS (pI (pI (uI h' 2 0 (nI m)) 3 3 (fun _ => 0)) 4 2 (fun _ => 0)) 1
    have e0 : hI h 2 0 = S 0 := hR0.2.1.1
    rw [e0]
    exact bX10_setIndividuals_52 (k _ (((f.tr f2).tr f3).wk 40 (fun r hr => by omega)) ⟨q1.fr f3, sv_fg s2, (q.2.2.1.fr f2 (fun r hr => by omega)).fr f3 (fun r hr => by omega), (q.2.2.2.fr f2 (fun r hr => by omega)).fr f3 (fun r hr => by omega)⟩)
  · rintro ⟨m, m1, m3, rfl⟩
    exact hc (nI_le (a := m) (b := 3) m3 (by decide))
theorem c_individuals {d c n : Nat} {h : vH} {S : Nat → Int32} {H : List (Nat → Int32)} {t : Nat → Nat} {L : Nat} {Q : vQ} (hR0 : cR h S H t L) (k : Q (some (vI (S 0))) h) : vm_C mX10_individuals d c n [vR (some 0)] h Q := by
  have h0 := hR0.1.1
  have h1 := hR0.1.2.1
  refine bX10_individuals_0 (b2 := 1) (b3 := 2) h0.1 h0.2.1 h1.1 h1.2.2.2.1 h1.2.1.1 ?_
  rw [hR0.2.1.1]; exact k
theorem c_predicate {d c n : Nat} {h : vH} {S : Nat → Int32} {H : List (Nat → Int32)} {t : Nat → Nat} {L : Nat} {Q : vQ} {x : Int32} (hd : 3 ≤ d) (hR0 : cR h S H t L) (k : Q (some (vI (f_predicate x S))) h) : vm_C mX10_predicate d c n [vR (some 0), vI x] h Q := by
  have h0 := hR0.1.1
  have h1 := hR0.1.2.1
  refine bX10_predicate_0 (R := fun r h' => h = h' ∧ ((∃ i, i < 3 ∧ x = nI i) ∧ r = some (vI 1) ∨ ¬ ix x 3 ∧ r = some (vI 0))) (by omega) (c_isPredicate (fun i hi e => ⟨rfl, Or.inl ⟨⟨i, hi, e⟩, rfl⟩⟩) (fun hz => ⟨rfl, Or.inr ⟨ix_no (by decide) hz, rfl⟩⟩)) ?_
  rintro r h' ⟨rfl, ⟨⟨i, hi, rfl⟩, rfl⟩ | ⟨hno, rfl⟩⟩
  · have e : f_predicate (nI i) S = S (1 + i) := by unfold f_predicate; rw [cif_t ⟨i, hi, rfl⟩, cs (by omega)]
    rw [e] at k
    refine bX10_predicate_4 (fun hc => absurd hc (by decide +kernel)) (fun _ => bX10_predicate_7 (b2 := 1) (b3 := 2) (R := fun r h' => r = some (vI (S (1 + i))) ∧ h = h') h0.1 h0.2.1 h1.1 h1.2.2.2.1 h1.2.1.1 (by omega) (c_setOf (by omega) h1.2.1 hi ⟨by rw [hR0.2.1.2.1 i hi], rfl⟩) ?_)
    rintro r h' ⟨rfl, rfl⟩
    exact bX10_predicate_18 (bX10_predicate_22 k)
  · have e : f_predicate x S = -1 := by unfold f_predicate; rw [cif_f hno]
    rw [e] at k
    exact bX10_predicate_4 (fun _ => bX10_predicate_21 (bX10_predicate_22 k)) (fun hc => absurd rfl hc)
theorem c_relationHolds {d c n : Nat} {h : vH} {S : Nat → Int32} {H : List (Nat → Int32)} {t : Nat → Nat} {L : Nat} {Q : vQ} {x a b : Int32} (hd : 4 ≤ d) (hR0 : cR h S H t L) (hS : Sok S) (k : Q (some (vI (f_relationHolds x a b S))) h) : vm_C mX10_relationHolds d c n [vR (some 0), vI x, vI a, vI b] h Q := by
  have h0 := hR0.1.1
  have h1 := hR0.1.2.1
  have hn := hS.n
  have e20 := hR0.n hS
  have no : ¬ (ix x 2 ∧ ob a (nS S) ∧ ob b (nS S)) → Q (some (vI (-1))) h := fun hno => by
    unfold f_relationHolds at k; rw [cif_f hno] at k; exact k
  refine bX10_relationHolds_0 (R := fun r h' => h = h' ∧ ((∃ i, i < 2 ∧ x = nI i) ∧ r = some (vI 1) ∨ ¬ ix x 2 ∧ r = some (vI 0))) (by omega) (c_isRelation (fun i hi e => ⟨rfl, Or.inl ⟨⟨i, hi, e⟩, rfl⟩⟩) (fun hz => ⟨rfl, Or.inr ⟨ix_no (by decide) hz, rfl⟩⟩)) ?_
  rintro r h' ⟨rfl, ⟨⟨i, hi, rfl⟩, rfl⟩ | ⟨hno, rfl⟩⟩
  · refine bX10_relationHolds_4 (fun hc => absurd hc (by decide +kernel)) (fun _ => ?_)
    refine bX10_relationHolds_7 (R := fun r h' => h = h' ∧ ((∃ j, 1 ≤ j ∧ j < 2 ^ nS S ∧ a = nI j) ∧ r = some (vI 1) ∨ ¬ ob a (nS S) ∧ r = some (vI 0))) h0.1 (by omega) (c_isObject (by omega) h0 h1 e20 (by omega) (fun j j1 j2 e => ⟨rfl, Or.inl ⟨⟨j, j1, j2, e⟩, rfl⟩⟩) (fun hz => ⟨rfl, Or.inr ⟨hz, rfl⟩⟩)) ?_
    rintro r h' ⟨rfl, ⟨⟨j, j1, j2, rfl⟩, rfl⟩ | ⟨hno, rfl⟩⟩
    · refine bX10_relationHolds_12 (fun hc => absurd hc (by decide +kernel)) (fun _ => ?_)
      refine bX10_relationHolds_15 (R := fun r h' => h = h' ∧ ((∃ j, 1 ≤ j ∧ j < 2 ^ nS S ∧ b = nI j) ∧ r = some (vI 1) ∨ ¬ ob b (nS S) ∧ r = some (vI 0))) h0.1 (by omega) (c_isObject (by omega) h0 h1 e20 (by omega) (fun j j1 j2 e => ⟨rfl, Or.inl ⟨⟨j, j1, j2, e⟩, rfl⟩⟩) (fun hz => ⟨rfl, Or.inr ⟨hz, rfl⟩⟩)) ?_
      rintro r h' ⟨rfl, ⟨⟨q, q1, q2, rfl⟩, rfl⟩ | ⟨hno, rfl⟩⟩
      · have hp : 2 ^ nS S ≤ 8 := (by decide : ∀ m, m < 4 → 2 ^ m ≤ 8) _ (by omega)
        obtain ⟨r0, hr1, hr2⟩ := hS.2.2.1 i hi
        have yes : f_relationHolds (nI i) (nI j) (nI q) S = if relN r0 j q then 1 else 0 := by
          unfold f_relationHolds
          rw [cif_t ⟨⟨i, hi, rfl⟩, ⟨j, j1, j2, rfl⟩, ⟨q, q1, q2, rfl⟩⟩, cs (show i < _ by omega), hr1, cs (show r0 < _ by omega), cs (show j < _ by omega), cs (show q < _ by omega)]
        rw [yes] at k
        refine bX10_relationHolds_20 (fun _ => ?_) (fun hc => absurd (by decide +kernel) hc)
        refine bX10_relationHolds_25 (b2 := 1) (b3 := 2) (R := fun r h' => r = some (vI (if relN r0 j q then 1 else 0)) ∧ h = h') h0.1 h0.2.1 h1.1 h1.2.2.2.1 h1.2.1.1 (by omega) (c_relates (by omega) h1.2.1 hi (by rw [← hr1]; exact hR0.2.1.2.2.1 i hi) hr2 (by omega) (by omega) ⟨rfl, rfl⟩) ?_
        rintro r h' ⟨rfl, rfl⟩
        cases hrel : relN r0 j q
        · rw [hrel] at k
          exact bX10_relationHolds_38 (fun _ => bX10_relationHolds_45 (bX10_relationHolds_46 k)) (fun hc => absurd rfl hc)
        · rw [hrel] at k
          exact bX10_relationHolds_38 (fun hc => absurd hc (by decide +kernel)) (fun _ => bX10_relationHolds_41 (bX10_relationHolds_46 k))
      · exact bX10_relationHolds_20 (fun hc => absurd rfl hc) (fun _ => bX10_relationHolds_23 (no (fun z => hno z.2.2)))
    · exact bX10_relationHolds_12 (fun _ => bX10_relationHolds_23 (no (fun z => hno z.2.1))) (fun hc => absurd rfl hc)
  · exact bX10_relationHolds_4 (fun _ => bX10_relationHolds_23 (no (fun z => hno z.1))) (fun hc => absurd rfl hc)
theorem cR.sz {h : vH} {S : Nat → Int32} {H : List (Nat → Int32)} {t : Nat → Nat} {L : Nat} (x : cR h S H t L) : cn (sA h 6) 512 = cn (ctx S) 512 := cn_ext fun k hk => x.2.1.2.2.2.2.2.2 k hk
theorem c_contextSize {d c n : Nat} {h : vH} {S : Nat → Int32} {H : List (Nat → Int32)} {t : Nat → Nat} {L : Nat} {Q : vQ} (hd : 3 ≤ d) (hR0 : cR h S H t L) (k : Q (some (vI (f_contextSize S))) h) : vm_C mX10_contextSize d c n [vR (some 0)] h Q := by
  have h0 := hR0.1.1
  have h1 := hR0.1.2.1
  refine bX10_contextSize_0 (b2 := 1) (b3 := 5) (R := fun r h' => r = some (vI (f_contextSize S)) ∧ h = h') h0.1 h0.2.1 h1.1 h1.2.2.2.2 h1.2.2.1.1 (by omega) (c_size (by omega) h1.2.2.1 ⟨by unfold f_contextSize; rw [← hR0.sz], rfl⟩) ?_
  rintro r h' ⟨rfl, rfl⟩
  exact bX10_contextSize_10 k
theorem c_known {d c n : Nat} {h : vH} {S : Nat → Int32} {H : List (Nat → Int32)} {t : Nat → Nat} {L : Nat} {Q : vQ} (hR0 : cR h S H t L) (k : Q (some (vI (S 7))) h) : vm_C mX10_known d c n [vR (some 0)] h Q := by
  refine bX10_known_0 (b2 := 1) hR0.1.1.1 hR0.1.1.2.1 hR0.1.2.1.1 ?_
  rw [hR0.2.1.2.2.2.2.1]; exact k
theorem c_resetContext {d c n : Nat} {h : vH} {S : Nat → Int32} {H : List (Nat → Int32)} {t : Nat → Nat} {L : Nat} {Q : vQ} (hd : 5 ≤ d) (hR0 : cR h S H t L) (hS : Sok S) (k : ∀ h', fr (fun r => r ≤ 40) h h' → cR h' (f_resetContext S H).2.1 (f_resetContext S H).2.2 t L → Q (some (vI (f_resetContext S H).1)) h') : vm_C mX10_resetContext d c n [vR (some 0)] h Q := by
  have h0 := hR0.1.1
  have h1 := hR0.1.2.1
  refine bX10_resetContext_0 (b2 := 1) (b3 := 5) (R := fun r h' => r = some (vI (nI (cn (ctx S) 512))) ∧ h = h') h0.1 h0.2.1 h1.1 h1.2.2.2.2 h1.2.2.1.1 (by omega) (c_size (by omega) h1.2.2.1 ⟨by rw [← hR0.sz], rfl⟩) ?_
  rintro r h' ⟨rfl, rfl⟩
  refine bX10_resetContext_10 (b2 := 7) (R := fun r h' => r = none ∧ fr (fun r => r ≤ 38) h h' ∧ cR h' S (push5 H S) t L) h0.1 h0.2.2.1 hR0.1.2.2.1.1 (by omega) (by rw [h0.2.1]; exact c_rec (by omega) hR0 hS (fun h' f q => ⟨rfl, f, q⟩)) ?_
  rintro r h' ⟨rfl, f, q⟩
  refine bX10_resetContext_22 (b2 := 1) (R := fun r h3 => r = none ∧ fgS h' 1 = h3) q.1.1.1 q.1.1.2.1 q.1.2.1.1 (by omega) (c_forget (by omega) q.1.2.1 ⟨rfl, rfl⟩) ?_
  rintro r h3 ⟨rfl, rfl⟩
  have f3 := fr_fgS h' 1
  exact bX10_resetContext_29 (k _ ((f.tr f3).wk 40 (fun r hr => by omega)) ⟨q.1.fr f3, sv_fg q.2.1, q.2.2.1.fr f3 (fun r hr => by omega), q.2.2.2.fr f3 (fun r hr => by omega)⟩)
theorem c_setAccommodation {d c n : Nat} {h : vH} {S : Nat → Int32} {H : List (Nat → Int32)} {t : Nat → Nat} {L : Nat} {Q : vQ} {x : Int32} (hd : 5 ≤ d) (hR0 : cR h S H t L) (hS : Sok S) (k : ∀ h', fr (fun r => r ≤ 40) h h' → cR h' (f_setAccommodation x S H).2.1 (f_setAccommodation x S H).2.2 t L → Q (some (vI (f_setAccommodation x S H).1)) h') : vm_C mX10_setAccommodation d c n [vR (some 0), vI x] h Q := by
  have h0 := hR0.1.1
  have h1 := hR0.1.2.1
  refine bX10_setAccommodation_0 (R := fun r h' => h = h' ∧ ((∃ i, i < 2 ∧ x = nI i) ∧ r = some (vI 1) ∨ ¬ ix x 2 ∧ r = some (vI 0))) (by omega) (c_isSwitch (fun i hi e => ⟨rfl, Or.inl ⟨⟨i, hi, e⟩, rfl⟩⟩) (fun hz => ⟨rfl, Or.inr ⟨hz, rfl⟩⟩)) ?_
  rintro r h' ⟨rfl, ⟨⟨i, hi, rfl⟩, rfl⟩ | ⟨hno, rfl⟩⟩
  · have yes : f_setAccommodation (nI i) S H = (S 6, putV S 6 (nI i), push5 H S) := by unfold f_setAccommodation; rw [cif_t ⟨i, hi, rfl⟩]
    rw [yes] at k
    refine bX10_setAccommodation_4 (fun _ => ?_) (fun hc => absurd (by decide +kernel) hc)
    have fin : vm_E mX10_setAccommodation d c n 24 [some (vR (some 0)), some (vI (nI i)), none] [vI (S 6)] h Q := by
      refine bX10_setAccommodation_24 (b2 := 7) (R := fun r h' => r = none ∧ fr (fun r => r ≤ 38) h h' ∧ cR h' S (push5 H S) t L) h0.1 h0.2.2.1 hR0.1.2.2.1.1 (by omega) (by rw [h0.2.1]; exact c_rec (by omega) hR0 hS (fun h' f q => ⟨rfl, f, q⟩)) ?_
      rintro r h' ⟨rfl, f, q⟩
      have fin2 : vm_E mX10_setAccommodation d c n 50 [some (vR (some 0)), some (vI (nI i)), some (vI (S 6))] [vI (nI i), vR (some 1)] h' Q := by
        have f2 := fr_uI h' 1 3 (nI i)
        exact bX10_setAccommodation_50 q.1.2.1.1 (by have : i = 0 ∨ i = 1 := by omega
                                                     rcases this with rfl | rfl <;> decide +kernel) (k _ ((f.tr f2).wk 40 (fun r hr => by omega)) ⟨q.1.fr f2, sv_uI2 q.2.1 (Or.inr (Or.inr (Or.inr ⟨rfl, rfl, rfl⟩))) (fun q _ => rfl), q.2.2.1.fr f2 (fun r hr => by omega), q.2.2.2.fr f2 (fun r hr => by omega)⟩)
      refine bX10_setAccommodation_36 q.1.1.1 (fun hc => ?_) (fun hc => ?_)
      · rw [q.1.1.2.1]
        have : i = 0 := by
          by_cases h : i = 0
          · exact h
          · have : i = 1 := by omega
            subst this; exact absurd rfl hc
        subst this
        exact bX10_setAccommodation_49 fin2
      · rw [q.1.1.2.1]
        have : i = 1 := by
          by_cases h : i = 1
          · exact h
          · have : i = 0 := by omega
            subst this; exact absurd (by decide +kernel) hc
        subst this
        exact bX10_setAccommodation_45 fin2
    have e6 : hI h 1 3 = S 6 := hR0.2.1.2.2.2.1
    refine bX10_setAccommodation_9 (b2 := 1) h0.1 h0.2.1 h1.1 (fun hc => bX10_setAccommodation_23 ?_) (fun hc => bX10_setAccommodation_19 ?_)
    · rw [e6] at hc; rw [hc] at fin; exact fin
    · rw [e6] at hc
      rcases hS.o with h6 | h6
      · exact absurd h6 hc
      · rw [h6] at fin; exact fin
  · have no : f_setAccommodation x S H = (-1, S, H) := by unfold f_setAccommodation; rw [cif_f hno]
    rw [no] at k
    exact bX10_setAccommodation_4 (fun hc => absurd rfl hc) (fun _ => bX10_setAccommodation_7 (k h fr.rf hR0))
theorem c_historySize {d c n : Nat} {h : vH} {S : Nat → Int32} {H : List (Nat → Int32)} {t : Nat → Nat} {L : Nat} {Q : vQ} (hR0 : cR h S H t L) (k : Q (some (vI (nI H.length))) h) : vm_C mX10_historySize d c n [vR (some 0)] h Q := by
  refine bX10_historySize_0 (b2 := 7) hR0.1.1.1 hR0.1.1.2.2.1 hR0.1.2.2.1.1 ?_
  obtain ⟨p, -, -, e, -⟩ := hR0.2.2.1
  rw [e]; exact k
theorem c_undo0 {d c n : Nat} {h : vH} {S : Nat → Int32} {t : Nat → Nat} {L : Nat} {Q : vQ} (hd : 4 ≤ d) (hR0 : cR h S [] t L) (k : Q (some (vI (-6))) h) : vm_C mX10_undo d c n [vR (some 0)] h Q := by
  refine bX10_undo_0 (b2 := 7) (R := fun r h' => r = some (vI 0) ∧ h = h') hR0.1.1.1 hR0.1.1.2.2.1 hR0.1.2.2.1.1 (by omega) (by rw [hR0.1.1.2.1]; exact c_restore0 hR0.1.2.2.1 hR0.2.2.1 ⟨rfl, rfl⟩) ?_
  rintro r h' ⟨rfl, rfl⟩
  exact bX10_undo_11 (fun _ => bX10_undo_24 (bX10_undo_26 k)) (fun hc => absurd rfl hc)
theorem c_undo1 {d c n : Nat} {h : vH} {S T : Nat → Int32} {H : List (Nat → Int32)} {t : Nat → Nat} {L : Nat} {Q : vQ} (hd : 4 ≤ d) (hR0 : cR h S (H ++ [T]) t L) (k : ∀ h', fr (fun r => r ≤ 40) h h' → cR h' T H t L → Q (some (vI (nI H.length))) h') : vm_C mX10_undo d c n [vR (some 0)] h Q := by
  refine bX10_undo_0 (b2 := 7) (R := fun r h' => r = some (vI 1) ∧ fr (fun r => r ≤ 40) h h' ∧ cR h' T H t L) hR0.1.1.1 hR0.1.1.2.2.1 hR0.1.2.2.1.1 (by omega) (by
    rw [hR0.1.1.2.1]
    exact c_restore1 (by omega) hR0.1.2.2.1 hR0.1.2.1 (Or.inl (by decide)) hR0.2.2.1 (fun h' f s q => ⟨rfl, f.wk 40 (fun r hr => by omega), hR0.1.fr f, s, q, hR0.2.2.2.fr f (fun r hr => by omega)⟩)) ?_
  rintro r h' ⟨rfl, f, q⟩
  refine bX10_undo_11 (fun hc => absurd hc (by decide +kernel)) (fun _ => bX10_undo_14 (b2 := 7) q.1.1.1 q.1.1.2.2.1 q.1.2.2.1.1 ?_)
  obtain ⟨p, -, -, e, -⟩ := q.2.2.1
  rw [e]
  exact bX10_undo_26 (k h' f q)
theorem c_clearText {d c n : Nat} {h : vH} {S : Nat → Int32} {H : List (Nat → Int32)} {t : Nat → Nat} {L : Nat} {Q : vQ} (hR0 : cR h S H t L) (k : ∀ h', fr (fun r => r ≤ 40) h h' → cR h' S H t 0 → Q (some (vI (nI L))) h') : vm_C mX10_clearText d c n [vR (some 0)] h Q := by
  have f := fr_uI h 39 1 0
  refine bX10_clearText_0 (b2 := 39) (b3 := 39) hR0.1.1.1 hR0.1.1.2.2.2.1 hR0.1.2.2.2.1.1 hR0.1.1.2.2.2.1 hR0.1.2.2.2.1.1 ?_
  rw [hR0.2.2.2.1]
  exact k _ (f.wk 40 (fun r hr => by omega)) ⟨hR0.1.fr f, hR0.2.1.fr f (fun r hr => by omega), hR0.2.2.1.fr f (fun r hr => by omega), ⟨by rw [hI_uIs]; rfl, fun i hi => absurd hi (Nat.not_lt_zero i)⟩⟩
