/-! ===== the law: action by action, then its loop (written by wip/whole/gen_law.py) ===== -/
/-- what follows an action -/
def NX (d cx n j : Nat) (X : Nat × (Nat → Int32)) (Q : vQ) : Prop := ∀ h S H t L, Inv h S H t L → hX h = X → vm_E mL_law d cx n 724 [some vX, some (vR (some 0)), some (vR (some 366)), some (vI (nI j))] [] h Q
theorem lw_in {j N : Nat} (hj : j + 5 ≤ N) (hN : N ≤ 2560) : vp_in (nI j + 1) N ∧ vp_in (nI j + 2) N ∧ vp_in (nI j + 3) N ∧ vp_in (nI j + 4) N :=
  ⟨by rw [show nI j + 1 = nI (j + 1) from nI_add j 1]; exact vp_in_nI (by omega) (by omega), by rw [show nI j + 2 = nI (j + 2) from nI_add j 2]; exact vp_in_nI (by omega) (by omega), by rw [show nI j + 3 = nI (j + 3) from nI_add j 3]; exact vp_in_nI (by omega) (by omega), by rw [show nI j + 4 = nI (j + 4) from nI_add j 4]; exact vp_in_nI (by omega) (by omega)⟩
section
variable {d cx n j : Nat} {h : vH} {S : Nat → Int32} {H : List (Nat → Int32)} {t : Nat → Nat} {L : Nat} {X : Nat × (Nat → Int32)} {Q : vQ}
theorem lw_setIndividuals (hd : 400 ≤ d) (hj : j + 5 ≤ X.1) (hN : X.1 ≤ 2560) (x : Inv h S H t L) (eX : hX h = X) (nxt : NX d cx n j X Q) : vm_E mL_law d cx n 160 [some vX, some (vR (some 0)), some (vR (some 366)), some (vI (nI j))] [] h Q := by
  obtain ⟨xc, xm, hS, hH, hT⟩ := x
  have oo := o_setIndividuals (X.2 (Int32.toNatClampNeg (nI j + 1))) hS hH
  refine bL_law_160 (R := rC h (f_setIndividuals (X.2 (Int32.toNatClampNeg (nI j + 1))) S H).1 (f_setIndividuals (X.2 (Int32.toNatClampNeg (nI j + 1))) S H).2.1 (f_setIndividuals (X.2 (Int32.toNatClampNeg (nI j + 1))) S H).2.2 t L) (by rw [eX]; exact (lw_in hj hN).1) xc.1.1.1 (by omega) (by rw [eX]; exact c_setIndividuals (by omega) xc hS (fun h' f c => ⟨rfl, fr40 f, c⟩)) ?_
  rintro r h1 ⟨rfl, f1, c1⟩
  have m1 := mR_c xm f1
  have eX1 : hX h1 = X := f1.2.1.trans eX
  refine bL_law_169 (R := rM h1 (f_setIndividuals (X.2 (Int32.toNatClampNeg (nI j + 1))) S H).1 (f_setIndividuals (X.2 (Int32.toNatClampNeg (nI j + 1))) S H).2.1 (f_setIndividuals (X.2 (Int32.toNatClampNeg (nI j + 1))) S H).2.2 t L) (by rw [eX1]; exact (lw_in hj hN).1) m1.1.1 (by omega) (by rw [eX1]; exact m_setIndividuals (by omega) m1 (fun h' f c => ⟨rfl, f, c⟩)) ?_
  rintro r h2 ⟨rfl, f2, m2⟩
  exact bL_law_178 (fun _ => nxt h2 _ _ _ _ ⟨cR_m c1 f2, m2, oo.1, oo.2, hT⟩ ((mF_X f2).trans eX1)) (fun hz => absurd rfl hz)
theorem lw_setPredicate (hd : 400 ≤ d) (hj : j + 5 ≤ X.1) (hN : X.1 ≤ 2560) (x : Inv h S H t L) (eX : hX h = X) (nxt : NX d cx n j X Q) : vm_E mL_law d cx n 183 [some vX, some (vR (some 0)), some (vR (some 366)), some (vI (nI j))] [] h Q := by
  obtain ⟨xc, xm, hS, hH, hT⟩ := x
  have oo := o_setPredicate (X.2 (Int32.toNatClampNeg (nI j + 1))) (X.2 (Int32.toNatClampNeg (nI j + 2))) hS hH
  refine bL_law_183 (R := rC h (f_setPredicate (X.2 (Int32.toNatClampNeg (nI j + 1))) (X.2 (Int32.toNatClampNeg (nI j + 2))) S H).1 (f_setPredicate (X.2 (Int32.toNatClampNeg (nI j + 1))) (X.2 (Int32.toNatClampNeg (nI j + 2))) S H).2.1 (f_setPredicate (X.2 (Int32.toNatClampNeg (nI j + 1))) (X.2 (Int32.toNatClampNeg (nI j + 2))) S H).2.2 t L) (by rw [eX]; exact (lw_in hj hN).1) (by rw [eX]; exact (lw_in hj hN).2.1) xc.1.1.1 (by omega) (by rw [eX]; exact c_setPredicate (by omega) xc hS (fun h' f c => ⟨rfl, fr40 f, c⟩)) ?_
  rintro r h1 ⟨rfl, f1, c1⟩
  have m1 := mR_c xm f1
  have eX1 : hX h1 = X := f1.2.1.trans eX
  refine bL_law_197 (R := rM h1 (f_setPredicate (X.2 (Int32.toNatClampNeg (nI j + 1))) (X.2 (Int32.toNatClampNeg (nI j + 2))) S H).1 (f_setPredicate (X.2 (Int32.toNatClampNeg (nI j + 1))) (X.2 (Int32.toNatClampNeg (nI j + 2))) S H).2.1 (f_setPredicate (X.2 (Int32.toNatClampNeg (nI j + 1))) (X.2 (Int32.toNatClampNeg (nI j + 2))) S H).2.2 t L) (by rw [eX1]; exact (lw_in hj hN).1) (by rw [eX1]; exact (lw_in hj hN).2.1) m1.1.1 (by omega) (by rw [eX1]; exact m_setPredicate (by omega) m1 hS (fun h' f c => ⟨rfl, f, c⟩)) ?_
  rintro r h2 ⟨rfl, f2, m2⟩
  exact bL_law_211 (fun _ => nxt h2 _ _ _ _ ⟨cR_m c1 f2, m2, oo.1, oo.2, hT⟩ ((mF_X f2).trans eX1)) (fun hz => absurd rfl hz)
theorem lw_setPair (hd : 400 ≤ d) (hj : j + 5 ≤ X.1) (hN : X.1 ≤ 2560) (x : Inv h S H t L) (eX : hX h = X) (nxt : NX d cx n j X Q) : vm_E mL_law d cx n 216 [some vX, some (vR (some 0)), some (vR (some 366)), some (vI (nI j))] [] h Q := by
  obtain ⟨xc, xm, hS, hH, hT⟩ := x
  have oo := o_setPair (X.2 (Int32.toNatClampNeg (nI j + 1))) (X.2 (Int32.toNatClampNeg (nI j + 2))) (X.2 (Int32.toNatClampNeg (nI j + 3))) (X.2 (Int32.toNatClampNeg (nI j + 4))) hS hH
  refine bL_law_216 (R := rC h (f_setPair (X.2 (Int32.toNatClampNeg (nI j + 1))) (X.2 (Int32.toNatClampNeg (nI j + 2))) (X.2 (Int32.toNatClampNeg (nI j + 3))) (X.2 (Int32.toNatClampNeg (nI j + 4))) S H).1 (f_setPair (X.2 (Int32.toNatClampNeg (nI j + 1))) (X.2 (Int32.toNatClampNeg (nI j + 2))) (X.2 (Int32.toNatClampNeg (nI j + 3))) (X.2 (Int32.toNatClampNeg (nI j + 4))) S H).2.1 (f_setPair (X.2 (Int32.toNatClampNeg (nI j + 1))) (X.2 (Int32.toNatClampNeg (nI j + 2))) (X.2 (Int32.toNatClampNeg (nI j + 3))) (X.2 (Int32.toNatClampNeg (nI j + 4))) S H).2.2 t L) (by rw [eX]; exact (lw_in hj hN).1) (by rw [eX]; exact (lw_in hj hN).2.1) (by rw [eX]; exact (lw_in hj hN).2.2.1) (by rw [eX]; exact (lw_in hj hN).2.2.2) xc.1.1.1 (by omega) (by rw [eX]; exact c_setPair (by omega) xc hS (fun h' f c => ⟨rfl, fr40 f, c⟩)) ?_
  rintro r h1 ⟨rfl, f1, c1⟩
  have m1 := mR_c xm f1
  have eX1 : hX h1 = X := f1.2.1.trans eX
  refine bL_law_240 (R := rM h1 (f_setPair (X.2 (Int32.toNatClampNeg (nI j + 1))) (X.2 (Int32.toNatClampNeg (nI j + 2))) (X.2 (Int32.toNatClampNeg (nI j + 3))) (X.2 (Int32.toNatClampNeg (nI j + 4))) S H).1 (f_setPair (X.2 (Int32.toNatClampNeg (nI j + 1))) (X.2 (Int32.toNatClampNeg (nI j + 2))) (X.2 (Int32.toNatClampNeg (nI j + 3))) (X.2 (Int32.toNatClampNeg (nI j + 4))) S H).2.1 (f_setPair (X.2 (Int32.toNatClampNeg (nI j + 1))) (X.2 (Int32.toNatClampNeg (nI j + 2))) (X.2 (Int32.toNatClampNeg (nI j + 3))) (X.2 (Int32.toNatClampNeg (nI j + 4))) S H).2.2 t L) (by rw [eX1]; exact (lw_in hj hN).1) (by rw [eX1]; exact (lw_in hj hN).2.1) (by rw [eX1]; exact (lw_in hj hN).2.2.1) (by rw [eX1]; exact (lw_in hj hN).2.2.2) m1.1.1 (by omega) (by rw [eX1]; exact m_setPair (by omega) m1 hS (fun h' f c => ⟨rfl, f, c⟩)) ?_
  rintro r h2 ⟨rfl, f2, m2⟩
  exact bL_law_264 (fun _ => nxt h2 _ _ _ _ ⟨cR_m c1 f2, m2, oo.1, oo.2, hT⟩ ((mF_X f2).trans eX1)) (fun hz => absurd rfl hz)
theorem lw_individuals (hd : 400 ≤ d) (hj : j + 5 ≤ X.1) (hN : X.1 ≤ 2560) (x : Inv h S H t L) (eX : hX h = X) (nxt : NX d cx n j X Q) : vm_E mL_law d cx n 269 [some vX, some (vR (some 0)), some (vR (some 366)), some (vI (nI j))] [] h Q := by
  obtain ⟨xc, xm, hS, hH, hT⟩ := x
  refine bL_law_269 (R := rC h (S 0) S H t L)  xc.1.1.1 (by omega) (by exact c_individuals xc ⟨rfl, cF.rf, xc⟩) ?_
  rintro r h1 ⟨rfl, f1, c1⟩
  have m1 := mR_c xm f1
  have eX1 : hX h1 = X := f1.2.1.trans eX
  refine bL_law_273 (R := rM h1 (S 0) S H t L)  m1.1.1 (by omega) (by exact m_individuals m1 ⟨rfl, mF_rf h1, m1⟩) ?_
  rintro r h2 ⟨rfl, f2, m2⟩
  exact bL_law_277 (fun _ => nxt h2 _ _ _ _ ⟨cR_m c1 f2, m2, hS, hH, hT⟩ ((mF_X f2).trans eX1)) (fun hz => absurd rfl hz)
theorem lw_predicate (hd : 400 ≤ d) (hj : j + 5 ≤ X.1) (hN : X.1 ≤ 2560) (x : Inv h S H t L) (eX : hX h = X) (nxt : NX d cx n j X Q) : vm_E mL_law d cx n 282 [some vX, some (vR (some 0)), some (vR (some 366)), some (vI (nI j))] [] h Q := by
  obtain ⟨xc, xm, hS, hH, hT⟩ := x
  refine bL_law_282 (R := rC h (f_predicate (X.2 (Int32.toNatClampNeg (nI j + 1))) S) S H t L) (by rw [eX]; exact (lw_in hj hN).1) xc.1.1.1 (by omega) (by rw [eX]; exact c_predicate (by omega) xc ⟨rfl, cF.rf, xc⟩) ?_
  rintro r h1 ⟨rfl, f1, c1⟩
  have m1 := mR_c xm f1
  have eX1 : hX h1 = X := f1.2.1.trans eX
  refine bL_law_291 (R := rM h1 (f_predicate (X.2 (Int32.toNatClampNeg (nI j + 1))) S) S H t L) (by rw [eX1]; exact (lw_in hj hN).1) m1.1.1 (by omega) (by rw [eX1]; exact m_predicate (by omega) m1 ⟨rfl, mF_rf h1, m1⟩) ?_
  rintro r h2 ⟨rfl, f2, m2⟩
  exact bL_law_300 (fun _ => nxt h2 _ _ _ _ ⟨cR_m c1 f2, m2, hS, hH, hT⟩ ((mF_X f2).trans eX1)) (fun hz => absurd rfl hz)
theorem lw_relationHolds (hd : 400 ≤ d) (hj : j + 5 ≤ X.1) (hN : X.1 ≤ 2560) (x : Inv h S H t L) (eX : hX h = X) (nxt : NX d cx n j X Q) : vm_E mL_law d cx n 305 [some vX, some (vR (some 0)), some (vR (some 366)), some (vI (nI j))] [] h Q := by
  obtain ⟨xc, xm, hS, hH, hT⟩ := x
  refine bL_law_305 (R := rC h (f_relationHolds (X.2 (Int32.toNatClampNeg (nI j + 1))) (X.2 (Int32.toNatClampNeg (nI j + 2))) (X.2 (Int32.toNatClampNeg (nI j + 3))) S) S H t L) (by rw [eX]; exact (lw_in hj hN).1) (by rw [eX]; exact (lw_in hj hN).2.1) (by rw [eX]; exact (lw_in hj hN).2.2.1) xc.1.1.1 (by omega) (by rw [eX]; exact c_relationHolds (by omega) xc hS ⟨rfl, cF.rf, xc⟩) ?_
  rintro r h1 ⟨rfl, f1, c1⟩
  have m1 := mR_c xm f1
  have eX1 : hX h1 = X := f1.2.1.trans eX
  refine bL_law_324 (R := rM h1 (f_relationHolds (X.2 (Int32.toNatClampNeg (nI j + 1))) (X.2 (Int32.toNatClampNeg (nI j + 2))) (X.2 (Int32.toNatClampNeg (nI j + 3))) S) S H t L) (by rw [eX1]; exact (lw_in hj hN).1) (by rw [eX1]; exact (lw_in hj hN).2.1) (by rw [eX1]; exact (lw_in hj hN).2.2.1) m1.1.1 (by omega) (by rw [eX1]; exact m_relationHolds (by omega) m1 hS ⟨rfl, mF_rf h1, m1⟩) ?_
  rintro r h2 ⟨rfl, f2, m2⟩
  exact bL_law_343 (fun _ => nxt h2 _ _ _ _ ⟨cR_m c1 f2, m2, hS, hH, hT⟩ ((mF_X f2).trans eX1)) (fun hz => absurd rfl hz)
theorem lw_type (hd : 400 ≤ d) (hj : j + 5 ≤ X.1) (hN : X.1 ≤ 2560) (x : Inv h S H t L) (eX : hX h = X) (nxt : NX d cx n j X Q) : vm_E mL_law d cx n 348 [some vX, some (vR (some 0)), some (vR (some 366)), some (vI (nI j))] [] h Q := by
  obtain ⟨xc, xm, hS, hH, hT⟩ := x
  refine bL_law_348 (R := rC h (f_type (X.2 (Int32.toNatClampNeg (nI j + 1))) t L).1 S H (f_type (X.2 (Int32.toNatClampNeg (nI j + 1))) t L).2.1 (f_type (X.2 (Int32.toNatClampNeg (nI j + 1))) t L).2.2) (by rw [eX]; exact (lw_in hj hN).1) xc.1.1.1 (by omega) (by rw [eX]; exact c_type (by omega) xc hT (fun h' f c => ⟨rfl, fr40 f, c⟩)) ?_
  rintro r h1 ⟨rfl, f1, c1⟩
  have m1 := mR_c xm f1
  have eX1 : hX h1 = X := f1.2.1.trans eX
  refine bL_law_357 (R := rM h1 (f_type (X.2 (Int32.toNatClampNeg (nI j + 1))) t L).1 S H (f_type (X.2 (Int32.toNatClampNeg (nI j + 1))) t L).2.1 (f_type (X.2 (Int32.toNatClampNeg (nI j + 1))) t L).2.2) (by rw [eX1]; exact (lw_in hj hN).1) m1.1.1 (by omega) (by rw [eX1]; exact m_type (by omega) m1 hT (fun h' f c => ⟨rfl, f, c⟩)) ?_
  rintro r h2 ⟨rfl, f2, m2⟩
  exact bL_law_366 (fun _ => nxt h2 _ _ _ _ ⟨cR_m c1 f2, m2, hS, hH, f_type_ok hT⟩ ((mF_X f2).trans eX1)) (fun hz => absurd rfl hz)
theorem lw_clearText (hd : 400 ≤ d) (hj : j + 5 ≤ X.1) (hN : X.1 ≤ 2560) (x : Inv h S H t L) (eX : hX h = X) (nxt : NX d cx n j X Q) : vm_E mL_law d cx n 371 [some vX, some (vR (some 0)), some (vR (some 366)), some (vI (nI j))] [] h Q := by
  obtain ⟨xc, xm, hS, hH, hT⟩ := x
  refine bL_law_371 (R := rC h (nI L) S H t 0)  xc.1.1.1 (by omega) (by exact c_clearText xc (fun h' f c => ⟨rfl, fr40 f, c⟩)) ?_
  rintro r h1 ⟨rfl, f1, c1⟩
  have m1 := mR_c xm f1
  have eX1 : hX h1 = X := f1.2.1.trans eX
  refine bL_law_375 (R := rM h1 (nI L) S H t 0)  m1.1.1 (by omega) (by exact m_clearText m1 (fun h' f c => ⟨rfl, f, c⟩)) ?_
  rintro r h2 ⟨rfl, f2, m2⟩
  exact bL_law_379 (fun _ => nxt h2 _ _ _ _ ⟨cR_m c1 f2, m2, hS, hH, ⟨Nat.zero_le _, fun i hi => absurd hi (Nat.not_lt_zero i)⟩⟩ ((mF_X f2).trans eX1)) (fun hz => absurd rfl hz)
theorem lw_syntaxFault (hd : 400 ≤ d) (hj : j + 5 ≤ X.1) (hN : X.1 ≤ 2560) (x : Inv h S H t L) (eX : hX h = X) (nxt : NX d cx n j X Q) : vm_E mL_law d cx n 384 [some vX, some (vR (some 0)), some (vR (some 366)), some (vI (nI j))] [] h Q := by
  obtain ⟨xc, xm, hS, hH, hT⟩ := x
  refine bL_law_384 (R := rC h (f_syntaxFault (chAt t L) L) S H t L)  xc.1.1.1 (by omega) (by exact c_syntaxFault (by omega) xc hT (fun h' f c => ⟨rfl, f, c⟩)) ?_
  rintro r h1 ⟨rfl, f1, c1⟩
  have m1 := mR_c xm f1
  have eX1 : hX h1 = X := f1.2.1.trans eX
  refine bL_law_388 (R := rM h1 (f_syntaxFault (chAt t L) L) S H t L)  m1.1.1 (by omega) (by exact m_syntaxFault (by omega) m1 hS hT (fun h' f c => ⟨rfl, f, c⟩)) ?_
  rintro r h2 ⟨rfl, f2, m2⟩
  exact bL_law_392 (fun _ => nxt h2 _ _ _ _ ⟨cR_m c1 f2, m2, hS, hH, hT⟩ ((mF_X f2).trans eX1)) (fun hz => absurd rfl hz)
theorem lw_unknownVariable (hd : 400 ≤ d) (hj : j + 5 ≤ X.1) (hN : X.1 ≤ 2560) (x : Inv h S H t L) (eX : hX h = X) (nxt : NX d cx n j X Q) : vm_E mL_law d cx n 397 [some vX, some (vR (some 0)), some (vR (some 366)), some (vI (nI j))] [] h Q := by
  obtain ⟨xc, xm, hS, hH, hT⟩ := x
  refine bL_law_397 (R := rC h (f_unknownVariable S (chAt t L) L) S H t L)  xc.1.1.1 (by omega) (by exact c_unknownVariable (by omega) xc hS hT (fun h' f c => ⟨rfl, f, c⟩)) ?_
  rintro r h1 ⟨rfl, f1, c1⟩
  have m1 := mR_c xm f1
  have eX1 : hX h1 = X := f1.2.1.trans eX
  refine bL_law_401 (R := rM h1 (f_unknownVariable S (chAt t L) L) S H t L)  m1.1.1 (by omega) (by exact m_unknownVariable (by omega) m1 hS hT (fun h' f c => ⟨rfl, f, c⟩)) ?_
  rintro r h2 ⟨rfl, f2, m2⟩
  exact bL_law_405 (fun _ => nxt h2 _ _ _ _ ⟨cR_m c1 f2, m2, hS, hH, hT⟩ ((mF_X f2).trans eX1)) (fun hz => absurd rfl hz)
theorem lw_unknownDepth (hd : 400 ≤ d) (hj : j + 5 ≤ X.1) (hN : X.1 ≤ 2560) (x : Inv h S H t L) (eX : hX h = X) (nxt : NX d cx n j X Q) : vm_E mL_law d cx n 410 [some vX, some (vR (some 0)), some (vR (some 366)), some (vI (nI j))] [] h Q := by
  obtain ⟨xc, xm, hS, hH, hT⟩ := x
  refine bL_law_410 (R := rC h (f_unknownDepth S (chAt t L) L) S H t L)  xc.1.1.1 (by omega) (by exact c_unknownDepth (by omega) xc hS hT (fun h' f c => ⟨rfl, f, c⟩)) ?_
  rintro r h1 ⟨rfl, f1, c1⟩
  have m1 := mR_c xm f1
  have eX1 : hX h1 = X := f1.2.1.trans eX
  refine bL_law_414 (R := rM h1 (f_unknownDepth S (chAt t L) L) S H t L)  m1.1.1 (by omega) (by exact m_unknownDepth (by omega) m1 hS hT (fun h' f c => ⟨rfl, f, c⟩)) ?_
  rintro r h2 ⟨rfl, f2, m2⟩
  exact bL_law_418 (fun _ => nxt h2 _ _ _ _ ⟨cR_m c1 f2, m2, hS, hH, hT⟩ ((mF_X f2).trans eX1)) (fun hz => absurd rfl hz)
theorem lw_partCount (hd : 400 ≤ d) (hj : j + 5 ≤ X.1) (hN : X.1 ≤ 2560) (x : Inv h S H t L) (eX : hX h = X) (nxt : NX d cx n j X Q) : vm_E mL_law d cx n 423 [some vX, some (vR (some 0)), some (vR (some 366)), some (vI (nI j))] [] h Q := by
  obtain ⟨xc, xm, hS, hH, hT⟩ := x
  refine bL_law_423 (R := rC h (f_partCount (chAt t L) L) S H t L)  xc.1.1.1 (by omega) (by exact c_partCount (by omega) xc hT (fun h' f c => ⟨rfl, f, c⟩)) ?_
  rintro r h1 ⟨rfl, f1, c1⟩
  have m1 := mR_c xm f1
  have eX1 : hX h1 = X := f1.2.1.trans eX
  refine bL_law_427 (R := rM h1 (f_partCount (chAt t L) L) S H t L)  m1.1.1 (by omega) (by exact m_partCount (by omega) m1 hS hT (fun h' f c => ⟨rfl, f, c⟩)) ?_
  rintro r h2 ⟨rfl, f2, m2⟩
  exact bL_law_431 (fun _ => nxt h2 _ _ _ _ ⟨cR_m c1 f2, m2, hS, hH, hT⟩ ((mF_X f2).trans eX1)) (fun hz => absurd rfl hz)
theorem lw_contextSize (hd : 400 ≤ d) (hj : j + 5 ≤ X.1) (hN : X.1 ≤ 2560) (x : Inv h S H t L) (eX : hX h = X) (nxt : NX d cx n j X Q) : vm_E mL_law d cx n 436 [some vX, some (vR (some 0)), some (vR (some 366)), some (vI (nI j))] [] h Q := by
  obtain ⟨xc, xm, hS, hH, hT⟩ := x
  refine bL_law_436 (R := rC h (f_contextSize S) S H t L)  xc.1.1.1 (by omega) (by exact c_contextSize (by omega) xc ⟨rfl, cF.rf, xc⟩) ?_
  rintro r h1 ⟨rfl, f1, c1⟩
  have m1 := mR_c xm f1
  have eX1 : hX h1 = X := f1.2.1.trans eX
  refine bL_law_440 (R := rM h1 (f_contextSize S) S H t L)  m1.1.1 (by omega) (by exact m_contextSize (by omega) m1 ⟨rfl, mF_rf h1, m1⟩) ?_
  rintro r h2 ⟨rfl, f2, m2⟩
  exact bL_law_444 (fun _ => nxt h2 _ _ _ _ ⟨cR_m c1 f2, m2, hS, hH, hT⟩ ((mF_X f2).trans eX1)) (fun hz => absurd rfl hz)
theorem lw_known (hd : 400 ≤ d) (hj : j + 5 ≤ X.1) (hN : X.1 ≤ 2560) (x : Inv h S H t L) (eX : hX h = X) (nxt : NX d cx n j X Q) : vm_E mL_law d cx n 449 [some vX, some (vR (some 0)), some (vR (some 366)), some (vI (nI j))] [] h Q := by
  obtain ⟨xc, xm, hS, hH, hT⟩ := x
  refine bL_law_449 (R := rC h (S 7) S H t L)  xc.1.1.1 (by omega) (by exact c_known xc ⟨rfl, cF.rf, xc⟩) ?_
  rintro r h1 ⟨rfl, f1, c1⟩
  have m1 := mR_c xm f1
  have eX1 : hX h1 = X := f1.2.1.trans eX
  refine bL_law_453 (R := rM h1 (S 7) S H t L)  m1.1.1 (by omega) (by exact m_known m1 ⟨rfl, mF_rf h1, m1⟩) ?_
  rintro r h2 ⟨rfl, f2, m2⟩
  exact bL_law_457 (fun _ => nxt h2 _ _ _ _ ⟨cR_m c1 f2, m2, hS, hH, hT⟩ ((mF_X f2).trans eX1)) (fun hz => absurd rfl hz)
theorem lw_objects (hd : 400 ≤ d) (hj : j + 5 ≤ X.1) (hN : X.1 ≤ 2560) (x : Inv h S H t L) (eX : hX h = X) (nxt : NX d cx n j X Q) : vm_E mL_law d cx n 462 [some vX, some (vR (some 0)), some (vR (some 366)), some (vI (nI j))] [] h Q := by
  obtain ⟨xc, xm, hS, hH, hT⟩ := x
  refine bL_law_462 (R := rC h (f_objects (X.2 (Int32.toNatClampNeg (nI j + 1))) S) S H t L) (by rw [eX]; exact (lw_in hj hN).1) xc.1.1.1 (by omega) (by rw [eX]; exact c_objects (by omega) xc hS ⟨rfl, cF.rf, xc⟩) ?_
  rintro r h1 ⟨rfl, f1, c1⟩
  have m1 := mR_c xm f1
  have eX1 : hX h1 = X := f1.2.1.trans eX
  refine bL_law_471 (R := rM h1 (f_objects (X.2 (Int32.toNatClampNeg (nI j + 1))) S) S H t L) (by rw [eX1]; exact (lw_in hj hN).1) m1.1.1 (by omega) (by rw [eX1]; exact m_objects (by omega) m1 hS ⟨rfl, mF_rf h1, m1⟩) ?_
  rintro r h2 ⟨rfl, f2, m2⟩
  exact bL_law_480 (fun _ => nxt h2 _ _ _ _ ⟨cR_m c1 f2, m2, hS, hH, hT⟩ ((mF_X f2).trans eX1)) (fun hz => absurd rfl hz)
theorem lw_together (hd : 400 ≤ d) (hj : j + 5 ≤ X.1) (hN : X.1 ≤ 2560) (x : Inv h S H t L) (eX : hX h = X) (nxt : NX d cx n j X Q) : vm_E mL_law d cx n 485 [some vX, some (vR (some 0)), some (vR (some 366)), some (vI (nI j))] [] h Q := by
  obtain ⟨xc, xm, hS, hH, hT⟩ := x
  refine bL_law_485 (R := rC h (f_together (X.2 (Int32.toNatClampNeg (nI j + 1))) (X.2 (Int32.toNatClampNeg (nI j + 2))) (X.2 (Int32.toNatClampNeg (nI j + 3))) (X.2 (Int32.toNatClampNeg (nI j + 4))) S) S H t L) (by rw [eX]; exact (lw_in hj hN).1) (by rw [eX]; exact (lw_in hj hN).2.1) (by rw [eX]; exact (lw_in hj hN).2.2.1) (by rw [eX]; exact (lw_in hj hN).2.2.2) xc.1.1.1 (by omega) (by rw [eX]; exact c_together (by omega) xc hS ⟨rfl, cF.rf, xc⟩) ?_
  rintro r h1 ⟨rfl, f1, c1⟩
  have m1 := mR_c xm f1
  have eX1 : hX h1 = X := f1.2.1.trans eX
  refine bL_law_509 (R := rM h1 (f_together (X.2 (Int32.toNatClampNeg (nI j + 1))) (X.2 (Int32.toNatClampNeg (nI j + 2))) (X.2 (Int32.toNatClampNeg (nI j + 3))) (X.2 (Int32.toNatClampNeg (nI j + 4))) S) S H t L) (by rw [eX1]; exact (lw_in hj hN).1) (by rw [eX1]; exact (lw_in hj hN).2.1) (by rw [eX1]; exact (lw_in hj hN).2.2.1) (by rw [eX1]; exact (lw_in hj hN).2.2.2) m1.1.1 (by omega) (by rw [eX1]; exact m_together (by omega) m1 hS ⟨rfl, mF_rf h1, m1⟩) ?_
  rintro r h2 ⟨rfl, f2, m2⟩
  exact bL_law_533 (fun _ => nxt h2 _ _ _ _ ⟨cR_m c1 f2, m2, hS, hH, hT⟩ ((mF_X f2).trans eX1)) (fun hz => absurd rfl hz)
theorem lw_resetContext (hd : 400 ≤ d) (hj : j + 5 ≤ X.1) (hN : X.1 ≤ 2560) (x : Inv h S H t L) (eX : hX h = X) (nxt : NX d cx n j X Q) : vm_E mL_law d cx n 538 [some vX, some (vR (some 0)), some (vR (some 366)), some (vI (nI j))] [] h Q := by
  obtain ⟨xc, xm, hS, hH, hT⟩ := x
  have oo := o_resetContext  hS hH
  refine bL_law_538 (R := rC h (f_resetContext S H).1 (f_resetContext S H).2.1 (f_resetContext S H).2.2 t L)  xc.1.1.1 (by omega) (by exact c_resetContext (by omega) xc hS (fun h' f c => ⟨rfl, fr40 f, c⟩)) ?_
  rintro r h1 ⟨rfl, f1, c1⟩
  have m1 := mR_c xm f1
  have eX1 : hX h1 = X := f1.2.1.trans eX
  refine bL_law_542 (R := rM h1 (f_resetContext S H).1 (f_resetContext S H).2.1 (f_resetContext S H).2.2 t L)  m1.1.1 (by omega) (by exact m_resetContext (by omega) m1 (fun h' f c => ⟨rfl, f, c⟩)) ?_
  rintro r h2 ⟨rfl, f2, m2⟩
  exact bL_law_546 (fun _ => nxt h2 _ _ _ _ ⟨cR_m c1 f2, m2, oo.1, oo.2, hT⟩ ((mF_X f2).trans eX1)) (fun hz => absurd rfl hz)
theorem lw_setAccommodation (hd : 400 ≤ d) (hj : j + 5 ≤ X.1) (hN : X.1 ≤ 2560) (x : Inv h S H t L) (eX : hX h = X) (nxt : NX d cx n j X Q) : vm_E mL_law d cx n 551 [some vX, some (vR (some 0)), some (vR (some 366)), some (vI (nI j))] [] h Q := by
  obtain ⟨xc, xm, hS, hH, hT⟩ := x
  have oo := o_setAccommodation (X.2 (Int32.toNatClampNeg (nI j + 1))) hS hH
  refine bL_law_551 (R := rC h (f_setAccommodation (X.2 (Int32.toNatClampNeg (nI j + 1))) S H).1 (f_setAccommodation (X.2 (Int32.toNatClampNeg (nI j + 1))) S H).2.1 (f_setAccommodation (X.2 (Int32.toNatClampNeg (nI j + 1))) S H).2.2 t L) (by rw [eX]; exact (lw_in hj hN).1) xc.1.1.1 (by omega) (by rw [eX]; exact c_setAccommodation (by omega) xc hS (fun h' f c => ⟨rfl, fr40 f, c⟩)) ?_
  rintro r h1 ⟨rfl, f1, c1⟩
  have m1 := mR_c xm f1
  have eX1 : hX h1 = X := f1.2.1.trans eX
  refine bL_law_560 (R := rM h1 (f_setAccommodation (X.2 (Int32.toNatClampNeg (nI j + 1))) S H).1 (f_setAccommodation (X.2 (Int32.toNatClampNeg (nI j + 1))) S H).2.1 (f_setAccommodation (X.2 (Int32.toNatClampNeg (nI j + 1))) S H).2.2 t L) (by rw [eX1]; exact (lw_in hj hN).1) m1.1.1 (by omega) (by rw [eX1]; exact m_setAccommodation (by omega) m1 (fun h' f c => ⟨rfl, f, c⟩)) ?_
  rintro r h2 ⟨rfl, f2, m2⟩
  exact bL_law_569 (fun _ => nxt h2 _ _ _ _ ⟨cR_m c1 f2, m2, oo.1, oo.2, hT⟩ ((mF_X f2).trans eX1)) (fun hz => absurd rfl hz)
theorem lw_accept (hd : 400 ≤ d) (hj : j + 5 ≤ X.1) (hN : X.1 ≤ 2560) (x : Inv h S H t L) (eX : hX h = X) (nxt : NX d cx n j X Q) : vm_E mL_law d cx n 574 [some vX, some (vR (some 0)), some (vR (some 366)), some (vI (nI j))] [] h Q := by
  obtain ⟨xc, xm, hS, hH, hT⟩ := x
  have oo := o_accept hS hH hT
  have ee := tE_acc (fT_agr hS hT).1 S H
  refine bL_law_574 (R := rC h (f_accept (fT (ta1 (wS S)) S (chAt t L) L) S H).1 (f_accept (fT (ta1 (wS S)) S (chAt t L) L) S H).2.1 (f_accept (fT (ta1 (wS S)) S (chAt t L) L) S H).2.2 t L)  xc.1.1.1 (by omega) (by exact c_accept (by omega) xc hS hT (fun h' f c => ⟨rfl, f, c⟩)) ?_
  rintro r h1 ⟨rfl, f1, c1⟩
  have m1 := mR_c xm f1
  have eX1 : hX h1 = X := f1.2.1.trans eX
  refine bL_law_578 (R := rM h1 (f_accept (fT (ta1 (wS S)) S (chAt t L) L) S H).1 (f_accept (fT (ta1 (wS S)) S (chAt t L) L) S H).2.1 (f_accept (fT (ta1 (wS S)) S (chAt t L) L) S H).2.2 t L)  m1.1.1 (by omega) (by rw [ee]; exact m_accept (by omega) m1 hS hT (fun h' f c => ⟨rfl, f, c⟩)) ?_
  rintro r h2 ⟨rfl, f2, m2⟩
  exact bL_law_582 (fun _ => nxt h2 _ _ _ _ ⟨cR_m c1 f2, m2, oo.1, oo.2, hT⟩ ((mF_X f2).trans eX1)) (fun hz => absurd rfl hz)
theorem lw_acceptable (hd : 400 ≤ d) (hj : j + 5 ≤ X.1) (hN : X.1 ≤ 2560) (x : Inv h S H t L) (eX : hX h = X) (nxt : NX d cx n j X Q) : vm_E mL_law d cx n 587 [some vX, some (vR (some 0)), some (vR (some 366)), some (vI (nI j))] [] h Q := by
  obtain ⟨xc, xm, hS, hH, hT⟩ := x
  have ee := tE_ans (fT_agr hS hT).1
  refine bL_law_587 (R := rC h (ansT (fT (ta1 (wS S)) S (chAt t L) L)) S H t L)  xc.1.1.1 (by omega) (by exact c_acceptable (by omega) xc hS hT (fun h' f c => ⟨rfl, f, c⟩)) ?_
  rintro r h1 ⟨rfl, f1, c1⟩
  have m1 := mR_c xm f1
  have eX1 : hX h1 = X := f1.2.1.trans eX
  refine bL_law_591 (R := rM h1 (ansT (fT (ta1 (wS S)) S (chAt t L) L)) S H t L)  m1.1.1 (by omega) (by rw [ee]; exact m_acceptable (by omega) m1 hS hT (fun h' f c => ⟨rfl, f, c⟩)) ?_
  rintro r h2 ⟨rfl, f2, m2⟩
  exact bL_law_595 (fun _ => nxt h2 _ _ _ _ ⟨cR_m c1 f2, m2, hS, hH, hT⟩ ((mF_X f2).trans eX1)) (fun hz => absurd rfl hz)
theorem lw_failingAt (hd : 400 ≤ d) (hj : j + 5 ≤ X.1) (hN : X.1 ≤ 2560) (x : Inv h S H t L) (eX : hX h = X) (nxt : NX d cx n j X Q) : vm_E mL_law d cx n 600 [some vX, some (vR (some 0)), some (vR (some 366)), some (vI (nI j))] [] h Q := by
  obtain ⟨xc, xm, hS, hH, hT⟩ := x
  have ee := tE_fail (fT_agr hS hT).1
  refine bL_law_600 (R := rC h (f_failingAt (fT (ta1 (wS S)) S (chAt t L) L)) S H t L)  xc.1.1.1 (by omega) (by exact c_failingAt (by omega) xc hS hT (fun h' f c => ⟨rfl, f, c⟩)) ?_
  rintro r h1 ⟨rfl, f1, c1⟩
  have m1 := mR_c xm f1
  have eX1 : hX h1 = X := f1.2.1.trans eX
  refine bL_law_604 (R := rM h1 (f_failingAt (fT (ta1 (wS S)) S (chAt t L) L)) S H t L)  m1.1.1 (by omega) (by rw [ee]; exact m_failingAt (by omega) m1 hS hT (fun h' f c => ⟨rfl, f, c⟩)) ?_
  rintro r h2 ⟨rfl, f2, m2⟩
  exact bL_law_608 (fun _ => nxt h2 _ _ _ _ ⟨cR_m c1 f2, m2, hS, hH, hT⟩ ((mF_X f2).trans eX1)) (fun hz => absurd rfl hz)
theorem lw_accommodated (hd : 400 ≤ d) (hj : j + 5 ≤ X.1) (hN : X.1 ≤ 2560) (x : Inv h S H t L) (eX : hX h = X) (nxt : NX d cx n j X Q) : vm_E mL_law d cx n 613 [some vX, some (vR (some 0)), some (vR (some 366)), some (vI (nI j))] [] h Q := by
  obtain ⟨xc, xm, hS, hH, hT⟩ := x
  refine bL_law_613 (R := rC h (f_accommodated S) S H t L)  xc.1.1.1 (by omega) (by exact c_accommodated (by omega) xc hS ⟨rfl, cF.rf, xc⟩) ?_
  rintro r h1 ⟨rfl, f1, c1⟩
  have m1 := mR_c xm f1
  have eX1 : hX h1 = X := f1.2.1.trans eX
  refine bL_law_617 (R := rM h1 (f_accommodated S) S H t L)  m1.1.1 (by omega) (by exact m_accommodated m1 hS ⟨rfl, mF_rf h1, m1⟩) ?_
  rintro r h2 ⟨rfl, f2, m2⟩
  exact bL_law_621 (fun _ => nxt h2 _ _ _ _ ⟨cR_m c1 f2, m2, hS, hH, hT⟩ ((mF_X f2).trans eX1)) (fun hz => absurd rfl hz)
theorem lw_accommodatedPart (hd : 400 ≤ d) (hj : j + 5 ≤ X.1) (hN : X.1 ≤ 2560) (x : Inv h S H t L) (eX : hX h = X) (nxt : NX d cx n j X Q) : vm_E mL_law d cx n 626 [some vX, some (vR (some 0)), some (vR (some 366)), some (vI (nI j))] [] h Q := by
  obtain ⟨xc, xm, hS, hH, hT⟩ := x
  refine bL_law_626 (R := rC h (f_accommodatedPart (X.2 (Int32.toNatClampNeg (nI j + 1))) S) S H t L) (by rw [eX]; exact (lw_in hj hN).1) xc.1.1.1 (by omega) (by rw [eX]; exact c_accommodatedPart xc hS ⟨rfl, cF.rf, xc⟩) ?_
  rintro r h1 ⟨rfl, f1, c1⟩
  have m1 := mR_c xm f1
  have eX1 : hX h1 = X := f1.2.1.trans eX
  refine bL_law_635 (R := rM h1 (f_accommodatedPart (X.2 (Int32.toNatClampNeg (nI j + 1))) S) S H t L) (by rw [eX1]; exact (lw_in hj hN).1) m1.1.1 (by omega) (by rw [eX1]; exact m_accommodatedPart m1 hS ⟨rfl, mF_rf h1, m1⟩) ?_
  rintro r h2 ⟨rfl, f2, m2⟩
  exact bL_law_644 (fun _ => nxt h2 _ _ _ _ ⟨cR_m c1 f2, m2, hS, hH, hT⟩ ((mF_X f2).trans eX1)) (fun hz => absurd rfl hz)
theorem lw_sizeBehind (hd : 400 ≤ d) (hj : j + 5 ≤ X.1) (hN : X.1 ≤ 2560) (x : Inv h S H t L) (eX : hX h = X) (nxt : NX d cx n j X Q) : vm_E mL_law d cx n 649 [some vX, some (vR (some 0)), some (vR (some 366)), some (vI (nI j))] [] h Q := by
  obtain ⟨xc, xm, hS, hH, hT⟩ := x
  have ee := size_eq (x := (X.2 (Int32.toNatClampNeg (nI j + 1)))) hS hT
  refine bL_law_649 (R := rC h (f_sizeBehind (ta1 (wS S)) (X.2 (Int32.toNatClampNeg (nI j + 1))) S (chAt t L) L) S H t L) (by rw [eX]; exact (lw_in hj hN).1) xc.1.1.1 (by omega) (by rw [eX]; exact c_sizeBehind (by omega) xc hS hT (fun h' f c => ⟨rfl, f, c⟩)) ?_
  rintro r h1 ⟨rfl, f1, c1⟩
  have m1 := mR_c xm f1
  have eX1 : hX h1 = X := f1.2.1.trans eX
  refine bL_law_658 (R := rM h1 (f_sizeBehind (ta1 (wS S)) (X.2 (Int32.toNatClampNeg (nI j + 1))) S (chAt t L) L) S H t L) (by rw [eX1]; exact (lw_in hj hN).1) m1.1.1 (by omega) (by rw [eX1]; rw [ee]; exact m_sizeBehind (by omega) m1 hS hT (fun h' f c => ⟨rfl, f, c⟩)) ?_
  rintro r h2 ⟨rfl, f2, m2⟩
  exact bL_law_667 (fun _ => nxt h2 _ _ _ _ ⟨cR_m c1 f2, m2, hS, hH, hT⟩ ((mF_X f2).trans eX1)) (fun hz => absurd rfl hz)
theorem lw_supports (hd : 400 ≤ d) (hj : j + 5 ≤ X.1) (hN : X.1 ≤ 2560) (x : Inv h S H t L) (eX : hX h = X) (nxt : NX d cx n j X Q) : vm_E mL_law d cx n 672 [some vX, some (vR (some 0)), some (vR (some 366)), some (vI (nI j))] [] h Q := by
  obtain ⟨xc, xm, hS, hH, hT⟩ := x
  have ee := supports_eq hS hT
  refine bL_law_672 (R := rC h (f_supports (ta1 (wS S)) S (chAt t L) L) S H t L)  xc.1.1.1 (by omega) (by exact c_supports (by omega) xc hS hT (fun h' f c => ⟨rfl, f, c⟩)) ?_
  rintro r h1 ⟨rfl, f1, c1⟩
  have m1 := mR_c xm f1
  have eX1 : hX h1 = X := f1.2.1.trans eX
  refine bL_law_676 (R := rM h1 (f_supports (ta1 (wS S)) S (chAt t L) L) S H t L)  m1.1.1 (by omega) (by rw [ee]; exact m_supports (by omega) m1 hS hT (fun h' f c => ⟨rfl, f, c⟩)) ?_
  rintro r h2 ⟨rfl, f2, m2⟩
  exact bL_law_680 (fun _ => nxt h2 _ _ _ _ ⟨cR_m c1 f2, m2, hS, hH, hT⟩ ((mF_X f2).trans eX1)) (fun hz => absurd rfl hz)
theorem lw_worldsTrue (hd : 400 ≤ d) (hj : j + 5 ≤ X.1) (hN : X.1 ≤ 2560) (x : Inv h S H t L) (eX : hX h = X) (nxt : NX d cx n j X Q) : vm_E mL_law d cx n 685 [some vX, some (vR (some 0)), some (vR (some 366)), some (vI (nI j))] [] h Q := by
  obtain ⟨xc, xm, hS, hH, hT⟩ := x
  have ee := worlds_eq hS hT
  refine bL_law_685 (R := rC h (f_worldsTrue S (chAt t L) L) S H t L)  xc.1.1.1 (by omega) (by exact c_worldsTrue (by omega) xc hS hT (fun h' f c => ⟨rfl, f, c⟩)) ?_
  rintro r h1 ⟨rfl, f1, c1⟩
  have m1 := mR_c xm f1
  have eX1 : hX h1 = X := f1.2.1.trans eX
  refine bL_law_689 (R := rM h1 (f_worldsTrue S (chAt t L) L) S H t L)  m1.1.1 (by omega) (by rw [ee]; exact m_worldsTrue (by omega) m1 hS hT (fun h' f c => ⟨rfl, f, c⟩)) ?_
  rintro r h2 ⟨rfl, f2, m2⟩
  exact bL_law_693 (fun _ => nxt h2 _ _ _ _ ⟨cR_m c1 f2, m2, hS, hH, hT⟩ ((mF_X f2).trans eX1)) (fun hz => absurd rfl hz)
theorem lw_historySize (hd : 400 ≤ d) (hj : j + 5 ≤ X.1) (hN : X.1 ≤ 2560) (x : Inv h S H t L) (eX : hX h = X) (nxt : NX d cx n j X Q) : vm_E mL_law d cx n 698 [some vX, some (vR (some 0)), some (vR (some 366)), some (vI (nI j))] [] h Q := by
  obtain ⟨xc, xm, hS, hH, hT⟩ := x
  refine bL_law_698 (R := rC h (nI H.length) S H t L)  xc.1.1.1 (by omega) (by exact c_historySize xc ⟨rfl, cF.rf, xc⟩) ?_
  rintro r h1 ⟨rfl, f1, c1⟩
  have m1 := mR_c xm f1
  have eX1 : hX h1 = X := f1.2.1.trans eX
  refine bL_law_702 (R := rM h1 (nI H.length) S H t L)  m1.1.1 (by omega) (by exact m_historySize m1 ⟨rfl, mF_rf h1, m1⟩) ?_
  rintro r h2 ⟨rfl, f2, m2⟩
  exact bL_law_706 (fun _ => nxt h2 _ _ _ _ ⟨cR_m c1 f2, m2, hS, hH, hT⟩ ((mF_X f2).trans eX1)) (fun hz => absurd rfl hz)
theorem lw_undo (hd : 400 ≤ d) (hj : j + 5 ≤ X.1) (hN : X.1 ≤ 2560) (x : Inv h S H t L) (eX : hX h = X) (nxt : NX d cx n j X Q) : vm_E mL_law d cx n 711 [some vX, some (vR (some 0)), some (vR (some 366)), some (vI (nI j))] [] h Q := by
  obtain ⟨xc, xm, hS, hH, hT⟩ := x
  rcases List.eq_nil_or_concat H with rfl | ⟨H0, T, eH⟩
  · refine bL_law_711 (R := rC h (-6) S [] t L)  xc.1.1.1 (by omega) (by exact c_undo0 (by omega) xc ⟨rfl, cF.rf, xc⟩) ?_
    rintro r h1 ⟨rfl, f1, c1⟩
    have m1 := mR_c xm f1
    have eX1 : hX h1 = X := f1.2.1.trans eX
    refine bL_law_715 (R := rM h1 (-6) S [] t L)  m1.1.1 (by omega) (by exact m_undo0 m1 ⟨rfl, mF_rf h1, m1⟩) ?_
    rintro r h2 ⟨rfl, f2, m2⟩
    exact bL_law_719 (fun _ => nxt h2 _ _ _ _ ⟨cR_m c1 f2, m2, hS, hH, hT⟩ ((mF_X f2).trans eX1)) (fun hz => absurd rfl hz)
  · rw [List.concat_eq_append] at eH
    subst eH
    refine bL_law_711 (R := rC h (nI H0.length) T H0 t L)  xc.1.1.1 (by omega) (by exact c_undo1 (by omega) xc (fun h' f c => ⟨rfl, fr40 f, c⟩)) ?_
    rintro r h1 ⟨rfl, f1, c1⟩
    have m1 := mR_c xm f1
    have eX1 : hX h1 = X := f1.2.1.trans eX
    refine bL_law_715 (R := rM h1 (nI H0.length) T H0 t L)  m1.1.1 (by omega) (by exact m_undo1 m1 (fun h' f c => ⟨rfl, f, c⟩)) ?_
    rintro r h2 ⟨rfl, f2, m2⟩
    exact bL_law_719 (fun _ => nxt h2 _ _ _ _ ⟨cR_m c1 f2, m2, hH T (by simp), fun U hU => hH U (by simp [hU]), hT⟩ ((mF_X f2).trans eX1)) (fun hz => absurd rfl hz)
end
theorem bI_31 : ∀ i, i < 32 → bI 31 i = decide (i < 5) := by decide +kernel
theorem and31 (v : Int32) : ∃ k, k < 32 ∧ v &&& 31 = nI k := ⟨mkN (fun i => bI v i) 5, mkN_lt _ 5, bI_ext fun i hi => by
  rw [bI_and, bI_31 i hi, bI_nI, mkN_bit, decide_eq_true hi, Bool.true_and, Bool.and_comm]⟩
theorem lw_loop {d cx n : Nat} {X : Nat × (Nat → Int32)} {Q : vQ} (hd : 400 ≤ d) (hN : X.1 ≤ 2560) (hQ : ∀ h, Q (some (vI 1)) h) : ∀ (m j : Nat) (h : vH) (S : Nat → Int32) (H : List (Nat → Int32)) (t : Nat → Nat) (L : Nat), X.1 < j + m → j ≤ X.1 + 5 → Inv h S H t L → hX h = X → vm_E mL_law d cx n 18 [some vX, some (vR (some 0)), some (vR (some 366)), some (vI (nI j))] [] h Q := by
  intro m
  induction m with
  | zero =>
    intro j h S H t L hm hj2 x eX
    refine bL_law_18 (fun _ => bL_law_730 (hQ h)) (fun hz => absurd ?_ hz)
    rw [eX, Int32.lt_iff_toInt_lt, show (5 : Int32) = nI 5 from rfl, show Int32.ofNat X.1 = nI X.1 from rfl, pk_sub_toInt (by omega) (by decide), nI_toInt (by omega)]
    omega
  | succ m ih =>
    intro j h S H t L hm hj2 x eX
    have hlt : (Int32.ofNat X.1 - 5) < nI j ↔ X.1 < j + 5 := by
      rw [Int32.lt_iff_toInt_lt, show (5 : Int32) = nI 5 from rfl, show Int32.ofNat X.1 = nI X.1 from rfl, pk_sub_toInt (by omega) (by decide), nI_toInt (by omega)]
      omega
    refine bL_law_18 (fun _ => bL_law_730 (hQ h)) (fun hz => ?_)
    rw [eX, hlt] at hz
    have hj : j + 5 ≤ X.1 := by omega
    have nxt : NX d cx n j X Q := fun h' S' H' t' L' x' eX' => by
      refine bL_law_724 ?_
      rw [show nI j + 5 = nI (j + 5) from nI_add j 5]
      exact ih (j + 5) h' S' H' t' L' (by omega) (by omega) x' eX'
    have g1 : vp_in (nI j) (hX h).1 := by rw [eX]; exact vp_in_nI (by omega) (by omega)
    obtain ⟨k, hk, ek⟩ := and31 (X.2 (Int32.toNatClampNeg (nI j)))
    have ek : (hX h).2 (Int32.toNatClampNeg (nI j)) &&& 31 = nI k := by rw [eX]; exact ek
    match k, hk, ek with
    | 0, _, ek => exact bL_law_26 (o := 128) (tgt := 160) g1 (by rw [ek]; decide +kernel) (by decide) (lw_setIndividuals hd hj hN x eX nxt)
    | 1, _, ek => exact bL_law_26 (o := 151) (tgt := 183) g1 (by rw [ek]; decide +kernel) (by decide) (lw_setPredicate hd hj hN x eX nxt)
    | 2, _, ek => exact bL_law_26 (o := 184) (tgt := 216) g1 (by rw [ek]; decide +kernel) (by decide) (lw_setPair hd hj hN x eX nxt)
    | 3, _, ek => exact bL_law_26 (o := 237) (tgt := 269) g1 (by rw [ek]; decide +kernel) (by decide) (lw_individuals hd hj hN x eX nxt)
    | 4, _, ek => exact bL_law_26 (o := 250) (tgt := 282) g1 (by rw [ek]; decide +kernel) (by decide) (lw_predicate hd hj hN x eX nxt)
    | 5, _, ek => exact bL_law_26 (o := 273) (tgt := 305) g1 (by rw [ek]; decide +kernel) (by decide) (lw_relationHolds hd hj hN x eX nxt)
    | 6, _, ek => exact bL_law_26 (o := 316) (tgt := 348) g1 (by rw [ek]; decide +kernel) (by decide) (lw_type hd hj hN x eX nxt)
    | 7, _, ek => exact bL_law_26 (o := 339) (tgt := 371) g1 (by rw [ek]; decide +kernel) (by decide) (lw_clearText hd hj hN x eX nxt)
    | 8, _, ek => exact bL_law_26 (o := 352) (tgt := 384) g1 (by rw [ek]; decide +kernel) (by decide) (lw_syntaxFault hd hj hN x eX nxt)
    | 9, _, ek => exact bL_law_26 (o := 365) (tgt := 397) g1 (by rw [ek]; decide +kernel) (by decide) (lw_unknownVariable hd hj hN x eX nxt)
    | 10, _, ek => exact bL_law_26 (o := 378) (tgt := 410) g1 (by rw [ek]; decide +kernel) (by decide) (lw_unknownDepth hd hj hN x eX nxt)
    | 11, _, ek => exact bL_law_26 (o := 391) (tgt := 423) g1 (by rw [ek]; decide +kernel) (by decide) (lw_partCount hd hj hN x eX nxt)
    | 12, _, ek => exact bL_law_26 (o := 404) (tgt := 436) g1 (by rw [ek]; decide +kernel) (by decide) (lw_contextSize hd hj hN x eX nxt)
    | 13, _, ek => exact bL_law_26 (o := 417) (tgt := 449) g1 (by rw [ek]; decide +kernel) (by decide) (lw_known hd hj hN x eX nxt)
    | 14, _, ek => exact bL_law_26 (o := 430) (tgt := 462) g1 (by rw [ek]; decide +kernel) (by decide) (lw_objects hd hj hN x eX nxt)
    | 15, _, ek => exact bL_law_26 (o := 453) (tgt := 485) g1 (by rw [ek]; decide +kernel) (by decide) (lw_together hd hj hN x eX nxt)
    | 16, _, ek => exact bL_law_26 (o := 506) (tgt := 538) g1 (by rw [ek]; decide +kernel) (by decide) (lw_resetContext hd hj hN x eX nxt)
    | 17, _, ek => exact bL_law_26 (o := 519) (tgt := 551) g1 (by rw [ek]; decide +kernel) (by decide) (lw_setAccommodation hd hj hN x eX nxt)
    | 18, _, ek => exact bL_law_26 (o := 542) (tgt := 574) g1 (by rw [ek]; decide +kernel) (by decide) (lw_accept hd hj hN x eX nxt)
    | 19, _, ek => exact bL_law_26 (o := 555) (tgt := 587) g1 (by rw [ek]; decide +kernel) (by decide) (lw_acceptable hd hj hN x eX nxt)
    | 20, _, ek => exact bL_law_26 (o := 568) (tgt := 600) g1 (by rw [ek]; decide +kernel) (by decide) (lw_failingAt hd hj hN x eX nxt)
    | 21, _, ek => exact bL_law_26 (o := 581) (tgt := 613) g1 (by rw [ek]; decide +kernel) (by decide) (lw_accommodated hd hj hN x eX nxt)
    | 22, _, ek => exact bL_law_26 (o := 594) (tgt := 626) g1 (by rw [ek]; decide +kernel) (by decide) (lw_accommodatedPart hd hj hN x eX nxt)
    | 23, _, ek => exact bL_law_26 (o := 617) (tgt := 649) g1 (by rw [ek]; decide +kernel) (by decide) (lw_sizeBehind hd hj hN x eX nxt)
    | 24, _, ek => exact bL_law_26 (o := 640) (tgt := 672) g1 (by rw [ek]; decide +kernel) (by decide) (lw_supports hd hj hN x eX nxt)
    | 25, _, ek => exact bL_law_26 (o := 653) (tgt := 685) g1 (by rw [ek]; decide +kernel) (by decide) (lw_worldsTrue hd hj hN x eX nxt)
    | 26, _, ek => exact bL_law_26 (o := 666) (tgt := 698) g1 (by rw [ek]; decide +kernel) (by decide) (lw_historySize hd hj hN x eX nxt)
    | 27, _, ek => exact bL_law_26 (o := 679) (tgt := 711) g1 (by rw [ek]; decide +kernel) (by decide) (lw_undo hd hj hN x eX nxt)
    | k + 28, hk, ek =>
      have e : ∀ q, q < 4 → vm_tsw (nI (q + 28)) 692 0 27 #[128, 151, 184, 237, 250, 273, 316, 339, 352, 365, 378, 391, 404, 417, 430, 453, 506, 519, 542, 555, 568, 581, 594, 617, 640, 653, 666, 679] = some 692 := by decide +kernel
      exact bL_law_26 (o := 692) (tgt := 724) g1 (by rw [ek]; exact e k (by omega)) (by decide) (nxt h S H t L x eX)
