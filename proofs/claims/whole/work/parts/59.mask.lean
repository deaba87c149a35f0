/-! ===== the reference's answers about a text ===== -/
section
variable {d cx n K : Nat} {h : vH} {S : Nat → Int32} {H : List (Nat → Int32)} {W : wT} {t : Nat → Nat} {L : Nat} {Q : vQ}
theorem mR.v (x : mR h S H t L) (hS : Sok S) : mV h (wS S) :=
  ⟨x.n hS, hS.n.2.1, by have := hS.n.2.2; show nS S < 4; omega, fun i hi => ⟨by rw [x.2.1 (1 + i) (by omega)]; exact (hS.w.1 i hi).1, (hS.w.1 i hi).2.2⟩, fun i hi => ⟨by rw [x.2.1 (4 + i) (by omega)]; exact (hS.w.2 i hi).1, (hS.w.2 i hi).2⟩⟩
theorem mR.gm {A : Nat → Nat → Prop} {h' : vH} (x : mR h S H t L) (f : fm A h h') (hA : ∀ r j, A r j → r ≠ 367 ∧ r ≠ 368 ∧ r ≠ 369 ∧ ¬ (r = 366 ∧ (j = 2 ∨ j = 4))) : mR h' S H t L :=
  ⟨x.1.fm f, x.2.1.fm f (fun r j z => (hA r j z).1), x.2.2.1.fm f (fun r j z => by have := hA r j z; omega), x.2.2.2.fm f (fun r j z => by have := hA r j z; omega)⟩
theorem mR.gb {h' : vH} (x : mR h S H t L) (f : fb h h') : mR h' S H t L := x.gm f (fun r j z => by unfold pB at z; omega)
theorem fb.m {h h' : vH} (f : fb h h') : mF h h' := fm.fr f (fun r j z => by unfold pB at z; omega)
theorem mR.s7 (x : mR h S H t L) (hS : Sok S) : hI h 367 7 = nI (kS S) := by rw [x.2.1 7 (by decide)]; exact hS.k.1
theorem ua_n {x : Option (Nat × Nat)} (hx : xok x) : ua x = -7 ↔ x = none := by
  cases x with
  | none => exact ⟨fun _ => rfl, fun _ => rfl⟩
  | some z => exact ⟨fun e => absurd e (nI_m7 (hx z rfl)), fun e => by cases e⟩
def rLk (h : vH) (t : Nat → Nat) (L K : Nat) : vQ := fun r h' => fb h h' ∧ ((∃ q, dsc (chAt t L) L = .inl q ∧ r = some (vI 0) ∧ hI h' 366 12 = nI q) ∨ ∃ y, dsc (chAt t L) L = .inr y ∧ r = some (vI 1) ∧ hI h' 366 14 = ua ((un y).2.1 K) ∧ (¬ (un y).2.1 K = none → hI h' 366 15 = ub ((un y).2.1 K)) ∧ hI h' 366 25 = nI (ln y))
theorem m_lk (hd : 31 ≤ d) (x : mR h S H t L) (hS : Sok S) (hT : Tok t L) (hK : K < 8) : vm_C mX11_reads d cx n [vR (some 366), vI 0, vI (nI K)] h (rLk h t L K) :=
  m_looks hd x.1 (x.v hS) x.2.2.2 hT hK (fun q e h' f e12 => ⟨f, Or.inl ⟨q, e, rfl, e12⟩⟩) (fun y e h' f a b c => ⟨f, Or.inr ⟨y, e, rfl, a, b, c⟩⟩)
theorem m_syntaxFault (hd : 40 ≤ d) (x : mR h S H t L) (hS : Sok S) (hT : Tok t L) (k : ∀ h', mF h h' → mR h' S H t L → Q (some (vI (f_syntaxFault (chAt t L) L))) h') : vm_C mX11_syntaxFault d cx n [vR (some 366)] h Q := by
  unfold f_syntaxFault at k
  refine bX11_syntaxFault_0 x.1.1 (by omega) (m_lk (K := 0) (by omega) x hS hT (by decide)) ?_
  rintro r h' ⟨f, ⟨q, e, rfl, e12⟩ | ⟨y, e, rfl, e14, e15, e25⟩⟩
  · rw [e] at k
    have x' := x.gb f
    refine bX11_syntaxFault_6 (fun _ => bX11_syntaxFault_14 x'.1.1 ?_) (fun hz => absurd rfl hz)
    rw [e12]
    exact bX11_syntaxFault_18 (k h' f.m x')
  · rw [e] at k
    exact bX11_syntaxFault_6 (fun hz => absurd hz (by decide +kernel)) (fun _ => bX11_syntaxFault_9 (bX11_syntaxFault_18 (k h' f.m (x.gb f))))
theorem m_partCount (hd : 40 ≤ d) (x : mR h S H t L) (hS : Sok S) (hT : Tok t L) (k : ∀ h', mF h h' → mR h' S H t L → Q (some (vI (f_partCount (chAt t L) L))) h') : vm_C mX11_partCount d cx n [vR (some 366)] h Q := by
  unfold f_partCount at k
  refine bX11_partCount_0 x.1.1 (by omega) (m_lk (K := 0) (by omega) x hS hT (by decide)) ?_
  rintro r h' ⟨f, ⟨q, e, rfl, e12⟩ | ⟨y, e, rfl, e14, e15, e25⟩⟩
  · rw [e] at k
    exact bX11_partCount_6 (fun _ => bX11_partCount_16 (bX11_partCount_18 (k h' f.m (x.gb f)))) (fun hz => absurd rfl hz)
  · rw [e] at k
    have x' := x.gb f
    refine bX11_partCount_6 (fun hz => absurd hz (by decide +kernel)) (fun _ => bX11_partCount_9 x'.1.1 ?_)
    rw [e25]
    exact bX11_partCount_18 (k h' f.m x')
theorem m_unknownVariable (hd : 40 ≤ d) (x : mR h S H t L) (hS : Sok S) (hT : Tok t L) (k : ∀ h', mF h h' → mR h' S H t L → Q (some (vI (f_unknownVariable S (chAt t L) L))) h') : vm_C mX11_unknownVariable d cx n [vR (some 366)] h Q := by
  unfold f_unknownVariable at k
  refine bX11_unknownVariable_0 (b2 := 367) (n_b2 := 25) (R := rLk h t L (kS S)) x.1.1 x.1.s.1 x.1.s.2 (vp_in_nI (n := 7) (by decide) (by decide)) (by omega) (by
    show vm_C mX11_reads (d - 1) 0 0 [vR (some 366), vI 0, vI (hI h 367 7)] h (rLk h t L (kS S))
    rw [x.s7 hS]
    exact m_lk (by omega) x hS hT hS.k.2) ?_
  rintro r h' ⟨f, ⟨q, e, rfl, e12⟩ | ⟨y, e, rfl, e14, e15, e25⟩⟩
  · rw [e] at k
    exact bX11_unknownVariable_12 (fun _ => bX11_unknownVariable_22 (bX11_unknownVariable_24 (k h' f.m (x.gb f)))) (fun hz => absurd rfl hz)
  · rw [e] at k
    have x' := x.gb f
    refine bX11_unknownVariable_12 (fun hz => absurd hz (by decide +kernel)) (fun _ => bX11_unknownVariable_15 x'.1.1 ?_)
    rw [e14]
    exact bX11_unknownVariable_24 (k h' f.m x')
theorem m_unknownDepth (hd : 40 ≤ d) (x : mR h S H t L) (hS : Sok S) (hT : Tok t L) (k : ∀ h', mF h h' → mR h' S H t L → Q (some (vI (f_unknownDepth S (chAt t L) L))) h') : vm_C mX11_unknownDepth d cx n [vR (some 366)] h Q := by
  unfold f_unknownDepth at k
  refine bX11_unknownDepth_0 (b2 := 367) (n_b2 := 25) (R := rLk h t L (kS S)) x.1.1 x.1.s.1 x.1.s.2 (vp_in_nI (n := 7) (by decide) (by decide)) (by omega) (by
    show vm_C mX11_reads (d - 1) 0 0 [vR (some 366), vI 0, vI (hI h 367 7)] h (rLk h t L (kS S))
    rw [x.s7 hS]
    exact m_lk (by omega) x hS hT hS.k.2) ?_
  rintro r h' ⟨f, ⟨q, e, rfl, e12⟩ | ⟨y, e, rfl, e14, e15, e25⟩⟩
  · rw [e] at k
    exact bX11_unknownDepth_12 (fun hz => absurd rfl hz) (fun _ => bX11_unknownDepth_15 (bX11_unknownDepth_38 (k h' f.m (x.gb f))))
  · rw [e] at k
    have x' := x.gb f
    have hx := ((un_ok y).2 (dsc_wf hT.k hT.1 e).2.1 (kS S)).1
    have k : ∀ h', mF h h' → mR h' S H t L → Q (some (vI (ub ((un y).2.1 (kS S))))) h' := k
    refine bX11_unknownDepth_12 (fun _ => bX11_unknownDepth_20 x'.1.1 (fun hz => bX11_unknownDepth_34 x'.1.1 ?_) (fun hz => bX11_unknownDepth_29 ?_)) (fun hz => absurd (show ¬ (1 : Int32) = 0 by decide +kernel) hz)
    · rw [e15 (fun z => hz (by rw [e14]; exact (ua_n hx).mpr z))]
      exact bX11_unknownDepth_38 (k h' f.m x')
    · have hz := Classical.byContradiction hz
      rw [e14, ua_n hx] at hz
      rw [hz] at k
      exact bX11_unknownDepth_38 (k h' f.m x')
/-! the error of a text -/
def rEr (h : vH) (t : Nat → Nat) (L K : Nat) : vQ := fun r h' => fb h h' ∧ ((∃ q, dsc (chAt t L) L = .inl q ∧ r = some (vI (-2))) ∨ ∃ y, dsc (chAt t L) L = .inr y ∧ (¬ (un y).2.1 K = none ∧ r = some (vI (-3)) ∨ (un y).2.1 K = none ∧ r = some (vI 0) ∧ hI h' 366 25 = nI (ln y)))
theorem m_error (hd : 40 ≤ d) (x : mR h S H t L) (hS : Sok S) (hT : Tok t L) (hK : K < 8) : vm_C mX11_error d cx n [vR (some 366), vI (nI K)] h (rEr h t L K) := by
  refine bX11_error_0 x.1.1 (by omega) (m_lk (by omega) x hS hT hK) ?_
  rintro r h' ⟨f, ⟨q, e, rfl, e12⟩ | ⟨y, e, rfl, e14, e15, e25⟩⟩
  · exact bX11_error_6 (fun hz => absurd rfl hz) (fun _ => bX11_error_9 (bX11_error_29 ⟨f, Or.inl ⟨q, e, rfl⟩⟩))
  · have x' := x.gb f
    have hx := ((un_ok y).2 (dsc_wf hT.k hT.1 e).2.1 K).1
    refine bX11_error_6 (fun _ => bX11_error_14 x'.1.1 (fun hz => bX11_error_28 (bX11_error_29 ?_)) (fun hz => bX11_error_23 (bX11_error_29 ?_))) (fun hz => absurd (show ¬ (1 : Int32) = 0 by decide +kernel) hz)
    · rw [e14, ua_n hx] at hz
      exact ⟨f, Or.inr ⟨y, e, Or.inr ⟨hz, rfl, e25⟩⟩⟩
    · rw [e14, ua_n hx] at hz
      exact ⟨f, Or.inr ⟨y, e, Or.inl ⟨hz, rfl⟩⟩⟩
end
/-! the three ways to read by a context -/
theorem acp_lt {n : Nat} {τ : Nat → Nat → Nat → Nat → Nat → Bool} {on : Bool} : ∀ (r : T) (i : Nat) (C : Nat → Bool) (m q : Nat), pts r → acp n τ on r i C m = .inl q → q < 60
  | .leaf, _, _, _, _, _, e => by cases e
  | .inner _ _ _ a r, i, C, m, q, w, e => by
    unfold acp at e
    split at e
    · obtain ⟨kd, pl, x, rfl, -, hp⟩ := w.1
      injection e with e
      rw [← e]; exact hp
    · exact acp_lt r _ _ _ q w.2 e
theorem trd_1 {n most : Nat} {τ : Nat → Nat → Nat → Nat → Nat → Bool} {on : Bool} : ∀ (r : T) (i : Nat) (C : Nat → Bool) (m : Nat), trd 1 most n τ on r i C m [] = (match acp n τ on r i C m with
    | .inl p => .inl p
    | .inr q => .inr (q.1, q.2, []))
  | .leaf, _, _, _ => rfl
  | .inner _ _ _ a r, i, C, m => by
    unfold trd acp
    rw [List.nil_append]
    have e1 : tS 1 (decide (kdT a = 1)) n (ac n τ a).1 C = !decide (kdT a = 1 ∧ al C (hasR n (ac n τ a).1) = false) := by
      unfold tS
      rw [decide_eq_true rfl, Bool.true_and]
      cases al C (hasR n (ac n τ a).1)
      · by_cases hk : kdT a = 1
        · rw [decide_eq_true hk, decide_eq_true ⟨hk, rfl⟩]; rfl
        · rw [decide_eq_false hk, decide_eq_false (fun z => hk z.1)]; rfl
      · rw [decide_eq_false (show ¬ (kdT a = 1 ∧ true = false) from fun z => by cases z.2)]
        cases decide (kdT a = 1) <;> rfl
    have e2 : tC 1 i most n (ac n τ a).1 C = fw n (ac n τ a).1 C := if_pos (Or.inl rfl)
    rw [e1, e2, if_neg (show ¬ (1 : Int32) = 3 by decide)]
    by_cases hp : kdT a = 1 ∧ al C (hasR n (ac n τ a).1) = false
    · have e3 : tF (!true) on (fw n (ac n τ a).1 C) = true ↔ on = false ∨ emp (fw n (ac n τ a).1 C) = true := by
        unfold tF
        cases on <;> cases emp (fw n (ac n τ a).1 C) <;> simp
      rw [decide_eq_true hp, if_pos hp, if_neg (show ¬ (!true) = true by decide)]
      by_cases ho : on = false ∨ emp (fw n (ac n τ a).1 C) = true
      · rw [if_pos (e3.mpr ho), if_pos ⟨hp, ho⟩]
      · rw [if_neg (fun z => ho (e3.mp z)), if_neg (fun z => ho z.2)]
        exact trd_1 r _ _ _
    · rw [decide_eq_false hp, if_neg hp, if_pos (show (!false) = true by decide), if_neg (show ¬ tF (!false) on (fw n (ac n τ a).1 C) = true from fun z => by cases z), if_neg (fun z => hp z.1)]
      exact trd_1 r _ _ _
theorem tkF_0 {n : Nat} {τ : Nat → Nat → Nat → Nat → Nat → Bool} (r : T) (C : Nat → Bool) : tkF n τ r 0 C = C := by cases r <;> rfl
theorem trd_2 {n most : Nat} {τ : Nat → Nat → Nat → Nat → Nat → Bool} {on : Bool} : ∀ (r : T) (i : Nat) (C : Nat → Bool) (m : Nat), trd 2 most n τ on r i C m [] = .inr (tkF n τ r (most - i) C, m, [])
  | .leaf, _, _, _ => rfl
  | .inner _ _ _ a r, i, C, m => by
    unfold trd
    rw [List.nil_append]
    have e1 : tS 2 (decide (kdT a = 1)) n (ac n τ a).1 C = true := by
      unfold tS
      rw [decide_eq_false (show ¬ (2 : Int32) = 1 by decide)]; rfl
    rw [e1, if_neg (show ¬ tF true on (tC 2 i most n (ac n τ a).1 C) = true from fun z => by cases z), if_neg (show ¬ (2 : Int32) = 3 by decide), if_pos rfl, trd_2 r]
    unfold tC
    by_cases hi : i < most
    · rw [if_pos (Or.inr ⟨rfl, hi⟩), show most - i = (most - (i + 1)) + 1 by omega]
      rfl
    · rw [if_neg (fun z => z.elim (by decide) (fun z => hi z.2)), show most - i = 0 by omega, show most - (i + 1) = 0 by omega, tkF_0]
      rfl
theorem trd_3 {n most : Nat} {τ : Nat → Nat → Nat → Nat → Nat → Bool} {on : Bool} : ∀ (r : T) (i : Nat) (C : Nat → Bool) (m : Nat) (A : List aT), trd 3 most n τ on r i C m A = .inr (C, m, A ++ (ac n τ r).2.1)
  | .leaf, _, C, m, A => by
    show (.inr (C, m, A) : Nat ⊕ ((Nat → Bool) × Nat × List aT)) = .inr (C, m, A ++ [])
    rw [List.append_nil]
  | .inner _ _ _ a r, i, C, m, A => by
    unfold trd
    have e1 : tS 3 (decide (kdT a = 1)) n (A ++ (ac n τ a).1) C = true := by
      unfold tS
      rw [decide_eq_false (show ¬ (3 : Int32) = 1 by decide)]; rfl
    have e2 : tC 3 i most n (A ++ (ac n τ a).1) C = C := if_neg (fun z => z.elim (by decide) (fun z => absurd z.1 (by decide)))
    rw [e1, e2, if_neg (show ¬ tF true on C = true from fun z => by cases z), if_pos rfl, if_pos rfl, trd_3 r, List.append_assoc]
    rfl
