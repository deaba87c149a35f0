/-! ===== the reference: a part taken; a text read by a context ===== -/
/-- whether a part is let stand; the context behind it -/
def tS (x1 : Int32) (b : Bool) (n : Nat) (B : List aT) (C : Nat → Bool) : Bool := !(decide (x1 = 1) && b && !al C (hasR n B))
def tC (x1 : Int32) (i most n : Nat) (B : List aT) (C : Nat → Bool) : Nat → Bool := if x1 = 1 ∨ x1 = 2 ∧ i < most then fw n B C else C
def tF (s on : Bool) (C : Nat → Bool) : Bool := !s && (!on || emp C)
def pE (r j : Nat) : Prop := r = 366 ∧ (j = 7 ∨ j = 27 ∨ j = 28)
def pT (r j : Nat) : Prop := (r = 366 ∧ (j = 7 ∨ j = 27 ∨ j = 28)) ∨ r = 372 ∨ r = 373 ∨ r = 374
theorem nI_shl : ∀ i, i < 30 → (1 : Int32) <<< (nI i &&& (31 : Int32)) = nI (2 ^ i) := by decide +kernel
section
variable {d cx n : Nat} {h : vH} {W : wT} {Q : vQ} {x1 : Int32}
theorem tk_end {x2 x3 : Int32} {o5 : Option vV} {s f : Bool} {i m l : Nat} (hM : LM h) (hi : i < 30) (e25 : hI h 366 25 = nI i) (e28 : hI h 366 28 = nI m) (e7 : hI h 366 7 = nI l)
    (k : ∀ h', fm pE h h' → hI h' 366 27 = (if f then x3 else -7) → hI h' 366 28 = nI (if s then m else m ||| 2 ^ i) → hI h' 366 7 = nI (if x1 = 3 then l else 0) → Q (some (vI (bN (!f)))) h') : vm_E mX11_takes d cx n 77 [some (vR (some 366)), some (vI x1), some (vI x2), some (vI x3), some (vI (bN s)), o5] [vI (bN f)] h Q := by
  -- the accommodated one put down
  have st3 : ∀ (u : vH) (y : Int32), fm pE h u → hI u 366 27 = (if f then x3 else -7) → hI u 366 28 = nI (if s then m else m ||| 2 ^ i) → y = nI (if x1 = 3 then l else 0) → vm_E mX11_takes d cx n 132 [some (vR (some 366)), some (vI x1), some (vI x2), some (vI x3), some (vI (bN s)), some (vI (bN f))] [vI y, vR (some 366)] u Q := fun u y fu e27 e28 ey => by
    have fin := k (uI u 366 7 y) (fu.tr ((fm_uI u 366 7 y).mono (fun r j z => by unfold pE; omega))) (by rw [hI_uIk _ _ _ (by decide)]; exact e27) (by rw [hI_uIk _ _ _ (by decide)]; exact e28) (by rw [hI_uIs]; exact ey)
    have hMu := hM.fm fu
    refine bX11_takes_132 hMu.1 (fun hz => bX11_takes_144 (bX11_takes_145 rfl ?_)) (fun hz => bX11_takes_140 (bX11_takes_145 rfl ?_))
    · rw [bN_1 hz] at fin; exact fin
    · rw [bN_0 (Classical.byContradiction hz)] at fin; exact fin
  have st2 : ∀ (u : vH) (y : Int32), fm pE h u → hI u 366 27 = (if f then x3 else -7) → hI u 366 7 = nI l → nI m ||| y = nI (if s then m else m ||| 2 ^ i) → vm_E mX11_takes d cx n 114 [some (vR (some 366)), some (vI x1), some (vI x2), some (vI x3), some (vI (bN s)), some (vI (bN f))] [vI y, vI (nI m), vR (some 366)] u Q := fun u y fu e27 e7 ey => by
    have fv : fm pE h (uI u 366 28 (nI m ||| y)) := fu.tr ((fm_uI u 366 28 _).mono (fun r j z => by unfold pE; omega))
    have g27 : hI (uI u 366 28 (nI m ||| y)) 366 27 = (if f then x3 else -7) := by rw [hI_uIk _ _ _ (by decide)]; exact e27
    have g7 : hI (uI u 366 28 (nI m ||| y)) 366 7 = nI l := by rw [hI_uIk _ _ _ (by decide)]; exact e7
    have g28 : hI (uI u 366 28 (nI m ||| y)) 366 28 = nI (if s then m else m ||| 2 ^ i) := by rw [hI_uIs]; exact ey
    refine bX11_takes_114 (hM.fm fu).1 (fun hz => bX11_takes_131 (st3 _ 0 fv g27 g28 (by rw [if_neg hz]; rfl))) (fun hz => bX11_takes_124 (hM.fm fv).1 (st3 _ _ fv g27 g28 (by rw [g7, if_pos (Classical.byContradiction hz)])))
  have st1 : ∀ y : Int32, y = (if f then x3 else -7) → vm_E mX11_takes d cx n 91 [some (vR (some 366)), some (vI x1), some (vI x2), some (vI x3), some (vI (bN s)), some (vI (bN f))] [vI y, vR (some 366)] h Q := fun y ey => by
    have fv : fm pE h (uI h 366 27 y) := (fm_uI h 366 27 _).mono (fun r j z => by unfold pE; omega)
    have g27 : hI (uI h 366 27 y) 366 27 = (if f then x3 else -7) := by rw [hI_uIs]; exact ey
    have g7 : hI (uI h 366 27 y) 366 7 = nI l := by rw [hI_uIk _ _ _ (by decide)]; exact e7
    have g28 : hI (uI h 366 27 y) 366 28 = nI m := by rw [hI_uIk _ _ _ (by decide)]; exact e28
    have g25 : hI (uI h 366 27 y) 366 25 = nI i := by rw [hI_uIk _ _ _ (by decide)]; exact e25
    refine bX11_takes_91 hM.1 hM.1 (fun hz => bX11_takes_108 (hM.fm fv).1 ?_) (fun hz => bX11_takes_104 ?_)
    · rw [g28, g25]
      refine st2 _ _ fv g27 g7 ?_
      rw [nI_shl i hi, nI_or, bN_0 hz]; rfl
    · rw [g28]
      refine st2 _ _ fv g27 g7 ?_
      rw [show (0 : Int32) = nI 0 from rfl, nI_or, Nat.or_zero, bN_1 hz]; rfl
  refine bX11_takes_77 (fun hz => bX11_takes_89 (st1 _ ?_)) (fun hz => bX11_takes_85 (st1 _ ?_))
  · rw [bN_0 hz]; rfl
  · rw [bN_1 hz]; rfl
theorem tk_mid {x2 x3 s6 : Int32} {o5 : Option vV} {s : Bool} {C : Nat → Bool} {i m l : Nat} (hM : LM h) (hd : 1 ≤ d) (hi : i < 30) (e25 : hI h 366 25 = nI i) (e28 : hI h 366 28 = nI m) (e7 : hI h 366 7 = nI l) (e6 : hI h 367 6 = s6) (hC : cxt h C)
    (k : ∀ h', fm pE h h' → hI h' 366 27 = (if tF s (decide (¬ s6 = 0)) C then x3 else -7) → hI h' 366 28 = nI (if s then m else m ||| 2 ^ i) → hI h' 366 7 = nI (if x1 = 3 then l else 0) → Q (some (vI (bN (!tF s (decide (¬ s6 = 0)) C)))) h') : vm_E mX11_takes d cx n 50 [some (vR (some 366)), some (vI x1), some (vI x2), some (vI x3), some (vI (bN s)), o5] [] h Q := by
  have fin : ∀ f : Bool, tF s (decide (¬ s6 = 0)) C = f → vm_E mX11_takes d cx n 77 [some (vR (some 366)), some (vI x1), some (vI x2), some (vI x3), some (vI (bN s)), o5] [vI (bN f)] h Q := fun f ef => tk_end hM hi e25 e28 e7 (by rw [← ef]; exact k)
  refine bX11_takes_50 (fun hz => bX11_takes_76 (fin false ?_)) (fun hz => ?_)
  · rw [bN_1 hz]; rfl
  · have hs := bN_0 (Classical.byContradiction hz)
    refine bX11_takes_55 (b2 := 367) (n_b2 := 25) hM.1 hM.s.1 hM.s.2 (vp_in_nI (n := 6) (by decide) (by decide)) (fun h0 => bX11_takes_72 (fin true ?_)) (fun h0 => ?_)
    · have h0 : hI h 367 6 = 0 := h0
      rw [e6] at h0
      rw [hs, h0]; rfl
    · have h0 : ¬ hI h 367 6 = 0 := h0
      rw [e6] at h0
      refine bX11_takes_65 (R := fun r h' => r = some (vI (nI (cn C 512))) ∧ h = h') hM.1 (by omega) (m_inContext hM hC ⟨rfl, rfl⟩) ?_
      rintro r h' ⟨rfl, rfl⟩
      have e : tF s (decide (¬ s6 = 0)) C = emp C := by rw [hs, decide_eq_true h0]; rfl
      have hc := cn_le C 512
      refine bX11_takes_69 (fun hz => bX11_takes_76 (fin false ?_)) (fun hz => bX11_takes_72 (fin true ?_))
      · rw [e]; exact decide_eq_false (fun z => hz (by rw [z]; rfl))
      · rw [e]; exact decide_eq_true ((nI_eq (a := cn C 512) (b := 0) (by omega) (by decide)).mp (Classical.byContradiction hz))
theorem m_takes {b : Bool} {x3 s6 : Int32} {B : List aT} {C : Nat → Bool} {i m most : Nat} (hM : LM h) (hd : 4 ≤ d) (w : mV h W) (e11 : hI h 366 11 = bN true) (hi : i < 30) (hm : most < 2147483648) (e25 : hI h 366 25 = nI i) (e26 : x1 = 2 → hI h 366 26 = nI most) (e28 : hI h 366 28 = nI m) (e7 : hI h 366 7 = nI B.length) (hl : B.length ≤ 62) (x : axs h true B) (vB : voks B) (e6 : hI h 367 6 = s6) (hC : cxt h C)
    (k : ∀ h', fm pT h h' → hI h' 366 27 = (if tF (tS x1 b W.1 B C) (decide (¬ s6 = 0)) (tC x1 i most W.1 B C) then x3 else -7) → hI h' 366 28 = nI (if tS x1 b W.1 B C then m else m ||| 2 ^ i) → hI h' 366 7 = nI (if x1 = 3 then B.length else 0) → cxt h' (tC x1 i most W.1 B C) → Q (some (vI (bN (!tF (tS x1 b W.1 B C) (decide (¬ s6 = 0)) (tC x1 i most W.1 B C))))) h') : vm_C mX11_takes d cx n [vR (some 366), vI x1, vI (bN b), vI x3] h Q := by
  have st2 : ∀ u, fm (fun r _ => r = 372 ∨ r = 373 ∨ r = 374) h u → cxt u (tC x1 i most W.1 B C) → vm_E mX11_takes d cx n 50 [some (vR (some 366)), some (vI x1), some (vI (bN b)), some (vI x3), some (vI (bN (tS x1 b W.1 B C))), none] [] u Q := fun u f c => by
    refine tk_mid (m := m) (l := B.length) (hM.fm f) (by omega) hi (by rw [f.2 366 25 (by omega)]; exact e25) (by rw [f.2 366 28 (by omega)]; exact e28) (by rw [f.2 366 7 (by omega)]; exact e7) (by rw [f.2 367 6 (by omega)]; exact e6) c (fun h' f' q1 q2 q3 => k h' ((f.mono (fun r j z => by unfold pT; omega)).tr (f'.mono (fun r j z => by unfold pE at z; unfold pT; omega))) q1 q2 q3 (c.fm f' (fun r j z => by unfold pE at z; omega)))
  have st1 : ∀ u, fm (fun r _ => r = 372 ∨ r = 373) h u → vm_E mX11_takes d cx n 22 [some (vR (some 366)), some (vI x1), some (vI (bN b)), some (vI x3), none, none] [vI (bN (tS x1 b W.1 B C))] u Q := fun u f => by
    have hMu := hM.fm f
    have c := hC.fm f (fun r j z => by omega)
    have f' : fm (fun r _ => r = 372 ∨ r = 373 ∨ r = 374) h u := f.mono (fun r j z => by omega)
    have turn : (x1 = 1 ∨ x1 = 2 ∧ i < most) → vm_E mX11_takes d cx n 45 [some (vR (some 366)), some (vI x1), some (vI (bN b)), some (vI x3), some (vI (bN (tS x1 b W.1 B C))), none] [] u Q := fun hz => by
      refine bX11_takes_45 (R := fun r h' => r = none ∧ fm (fun r _ => r = 373 ∨ r = 374) u h' ∧ cxt h' (fw W.1 B C)) hMu.1 (by omega) (m_turns (by omega) hMu (w.fm f (fun r j z => by omega)) (by rw [f.2 366 7 (by omega)]; exact e7) hl (axs_eq (fun k _ => f.2 370 k (by omega)) (fun _ j _ => f.2 371 j (by omega)) x) vB c (fun h' g q => ⟨rfl, g, q⟩)) ?_
      rintro r h' ⟨rfl, g, q⟩
      refine st2 h' (f'.tr (g.mono (fun r j z => by omega))) ?_
      unfold tC
      rw [if_pos hz]; exact q
    have stay : ¬ (x1 = 1 ∨ x1 = 2 ∧ i < most) → vm_E mX11_takes d cx n 50 [some (vR (some 366)), some (vI x1), some (vI (bN b)), some (vI x3), some (vI (bN (tS x1 b W.1 B C))), none] [] u Q := fun hz => st2 u f' (by unfold tC; rw [if_neg hz]; exact c)
    refine bX11_takes_22 (fun h1 => turn (Or.inl h1)) (fun h1 => bX11_takes_29 (fun h2 => stay (fun z => z.elim h1 (fun z => h2 z.1))) (fun h2 => ?_))
    have h2 := Classical.byContradiction h2
    have q26 := e26 h2
    refine bX11_takes_34 hMu.1 (fun hz => stay (fun z => ?_)) (fun hz => turn (Or.inr ⟨h2, Classical.byContradiction (fun z => hz ?_)⟩))
    · rw [f.2 366 26 (by omega), f.2 366 25 (by omega), q26, e25] at hz
      rcases z with z | z
      · exact h1 z
      · exact nI_ge z.2 hm hz
    · rw [f.2 366 26 (by omega), f.2 366 25 (by omega), q26, e25]
      exact nI_le (by omega) (by omega)
  have easy : tS x1 b W.1 B C = true → vm_E mX11_takes d cx n 17 [some (vR (some 366)), some (vI x1), some (vI (bN b)), some (vI x3), none, none] [] h Q := fun z => by
    refine bX11_takes_17 ?_
    have := st1 h fm.rf
    rw [z] at this
    exact this
  refine bX11_takes_0 (fun h1 => easy ?_) (fun h1 => bX11_takes_5 (fun h2 => easy ?_) (fun h2 => ?_))
  · unfold tS; rw [decide_eq_false h1]; rfl
  · unfold tS; rw [bN_0 h2, Bool.and_false]; rfl
  · have h1 := Classical.byContradiction h1
    have hb := bN_1 h2
    have es : tS x1 b W.1 B C = al C (hasR W.1 B) := by unfold tS; rw [decide_eq_true h1, hb, Bool.and_true, Bool.true_and, Bool.not_not]
    refine bX11_takes_9 (R := fun r h' => r = some (vI (bN (al C (hasR W.1 B)))) ∧ fm (fun r _ => r = 372 ∨ r = 373) h h') hM.1 (by omega) (m_isSupported (by omega) hM w e11 e7 hl x vB hC (fun h' f => ⟨rfl, f⟩)) ?_
    rintro r u ⟨rfl, f⟩
    have := st1 u f
    rw [es] at this
    refine bX11_takes_14 (fun hz => bX11_takes_21 ?_) (fun hz => bX11_takes_17 ?_)
    · rw [bN_0 hz] at this; exact this
    · rw [bN_1 hz] at this; exact this
end
/-! parts one behind the other, as the reference takes them -/
def trd (x1 : Int32) (most n : Nat) (τ : Nat → Nat → Nat → Nat → Nat → Bool) (on : Bool) : T → Nat → (Nat → Bool) → Nat → List aT → Nat ⊕ ((Nat → Bool) × Nat × List aT)
  | .leaf, _, C, m, A => .inr (C, m, A)
  | .inner _ _ _ a r, i, C, m, A =>
    if tF (tS x1 (decide (kdT a = 1)) n (A ++ (ac n τ a).1) C) on (tC x1 i most n (A ++ (ac n τ a).1) C) = true then .inl (plT a)
    else trd x1 most n τ on r (i + 1) (tC x1 i most n (A ++ (ac n τ a).1) C) (if tS x1 (decide (kdT a = 1)) n (A ++ (ac n τ a).1) C then m else m ||| 2 ^ i) (if x1 = 3 then A ++ (ac n τ a).1 else [])
section
variable {d cx n : Nat} {W : wT} {t : Nat → Nat} {L : Nat} {Q : vQ} {x1 x2 s6 : Int32} {most : Nat}
theorem ev_loop (hd : 30 ≤ d) (hm : most < 2147483648) : ∀ (mm p K i m : Nat) (C : Nat → Bool) (A : List aT) (h : vH) (o4 o5 : Option vV) (r : T), mE h true W t L → mpl h true p K none 0 A → hI h 366 25 = nI i → (x1 = 2 → hI h 366 26 = nI most) → hI h 366 28 = nI m → hI h 367 6 = s6 → cxt h C → p ≤ L → K < 8 → i + ln r ≤ 30 → dz (chAt t L) mm p = .inr (r, L) → (un r).2.1 K = none →
    (∀ q, trd x1 most W.1 (ta2 W) (decide (¬ s6 = 0)) r i C m A = .inl q → ∀ h', fb h h' → hI h' 366 27 = nI q → Q (some (vI 1)) h') →
    (∀ C' m' A', trd x1 most W.1 (ta2 W) (decide (¬ s6 = 0)) r i C m A = .inr (C', m', A') → ∀ h', fb h h' → mE h' true W t L → mpl h' true L ((kb r).2 K) none 0 A' → hI h' 366 27 = -7 → hI h' 366 28 = nI m' → cxt h' C' → Q (some (vI 1)) h') →
    vm_E mX11_reads d cx n 57 [some (vR (some 366)), some (vI x1), some (vI x2), some (vI 1), o4, o5] [] h Q := by
  intro mm
  induction mm with
  | zero => intro p K i m C A h o4 o5 r x y e25 e26 e28 e6 hC hp hK hl ed; unfold dz at ed; cases ed
  | succ mm ih =>
    intro p K i m C A h o4 o5 r x y e25 e26 e28 e6 hC hp hK hl ed hu kl kr
    have hL : L ≤ 60 := x.2.2.2.1.1
    have hcok := x.2.2.2.1.k
    rw [dz_s] at ed
    obtain ⟨t1, p1, e1, e2⟩ := bnd_i ed
    obtain ⟨r2, e3, rfl⟩ := mp_i e2
    obtain ⟨-, -, a1, rfl⟩ := ptz_p hcok e1
    refine pt_step hd x y hp hK (fun q eq => by rw [e1] at eq; cases eq) (fun a p' eq h' f y' ht => by cases ht) (fun a p' eq h' f y' _ => ?_)
    have wa := ptz_w hcok hL eq
    have hp' := ptz_p hcok eq
    rw [e1] at eq
    obtain ⟨ea, rfl⟩ := inr_i eq
    have ea : a1 = a := by
      unfold no cc at ea
      injection ea with _ _ _ ea _
      injection ea with _ _ _ ea _
    subst ea
    have x' := x.fa f
    have hkd : (if chAt t L p = 91 then 1 else 0) ≤ 1 := by split <;> omega
    have hb : decide (chAt t L p = 91) = decide (kdT (no (if chAt t L p = 91 then 1 else 0) p (cc a1 .leaf)) = 1) := decide_eq_decide.mpr (by
      show chAt t L p = 91 ↔ (if chAt t L p = 91 then 1 else 0) = 1
      by_cases h91 : chAt t L p = 91
      · rw [if_pos h91]; exact ⟨fun _ => rfl, fun _ => h91⟩
      · rw [if_neg h91]; exact ⟨fun z => absurd z h91, fun z => by cases z⟩)
    rw [hb]
    generalize (if chAt t L p = 91 then 1 else 0) = kd at *
    have hK' : (kb a1).1 K < 8 := (kb_lt a1).1 wa K hK
    have ux := hu
    rw [un_pt hkd] at ux
    have ua0 : (un a1).1 K = none := by
      cases e : (un a1).1 K with
      | none => rfl
      | some z => rw [e] at ux; cases ux
    rw [ua0] at ux y'
    have ux : (un r2).2.1 ((kb a1).1 K) = none := ux
    have y' : mpl h' true p1 ((kb a1).1 K) none 0 (A ++ (ac W.1 (ta2 W) a1).1) := y'
    have eac : (ac W.1 (ta2 W) (no kd p (cc a1 .leaf))).1 = (ac W.1 (ta2 W) a1).1 := (ac_no W.1 (ta2 W) kd p (cc a1 .leaf) (by omega)).trans (List.append_nil _)
    have et : ∀ X, trd x1 most W.1 (ta2 W) (decide (¬ s6 = 0)) (cc (no kd p (cc a1 .leaf)) r2) i C m A = X ↔ (if tF (tS x1 (decide (kdT (no kd p (cc a1 .leaf)) = 1)) W.1 (A ++ (ac W.1 (ta2 W) a1).1) C) (decide (¬ s6 = 0)) (tC x1 i most W.1 (A ++ (ac W.1 (ta2 W) a1).1) C) = true then .inl p
    else trd x1 most W.1 (ta2 W) (decide (¬ s6 = 0)) r2 (i + 1) (tC x1 i most W.1 (A ++ (ac W.1 (ta2 W) a1).1) C) (if tS x1 (decide (kdT (no kd p (cc a1 .leaf)) = 1)) W.1 (A ++ (ac W.1 (ta2 W) a1).1) C then m else m ||| 2 ^ i) (if x1 = 3 then A ++ (ac W.1 (ta2 W) a1).1 else [])) = X := fun X => by
      rw [← eac]; exact Iff.rfl
    generalize A ++ (ac W.1 (ta2 W) a1).1 = B at y' et
    have hi : i + (ln r2 + 1) ≤ 30 := hl
    obtain ⟨z1, z2, z3, z4, z5, z8, z9, z10, z11⟩ := id y'
    have hB : B.length ≤ 62 := by omega
    have q25 : hI h' 366 25 = nI i := by rw [f.2 366 25 (fun z => by unfold pA at z; omega)]; exact e25
    have q26 : x1 = 2 → hI h' 366 26 = nI most := fun z => by rw [f.2 366 26 (fun z => by unfold pA at z; omega)]; exact e26 z
    have q28 : hI h' 366 28 = nI m := by rw [f.2 366 28 (fun z => by unfold pA at z; omega)]; exact e28
    have q6 : hI h' 367 6 = s6 := by rw [f.2 367 6 (fun z => by unfold pA at z; omega)]; exact e6
    have qC : cxt h' C := hC.fm f (fun r j z => by unfold pA at z; omega)
    refine bX11_reads_161 (R := fun r h2 => r = some (vI (bN (!tF (tS x1 (decide (kdT (no kd p (cc a1 .leaf)) = 1)) W.1 B C) (decide (¬ s6 = 0)) (tC x1 i most W.1 B C)))) ∧ fm pT h' h2 ∧ hI h2 366 27 = (if tF (tS x1 (decide (kdT (no kd p (cc a1 .leaf)) = 1)) W.1 B C) (decide (¬ s6 = 0)) (tC x1 i most W.1 B C) then nI p else -7) ∧ hI h2 366 28 = nI (if tS x1 (decide (kdT (no kd p (cc a1 .leaf)) = 1)) W.1 B C then m else m ||| 2 ^ i) ∧ hI h2 366 7 = nI (if x1 = 3 then B.length else 0) ∧ cxt h2 (tC x1 i most W.1 B C)) x'.1.1 (by omega) (m_takes (most := most) (s6 := s6) x'.1 (by omega) x'.2.1 x'.2.2.2.2 (by omega) hm q25 q26 q28 z1 hB z8 z10 q6 qC (fun h2 f2 a1 a2 a3 a4 => ⟨rfl, f2, a1, a2, a3, a4⟩)) ?_
    rintro rr h2 ⟨rfl, f2, b27, b28, b7, bC⟩
    have f2b : fb h' h2 := f2.mono (fun r j z => by unfold pT at z; unfold pB; omega)
    generalize tS x1 (decide (kdT (no kd p (cc a1 .leaf)) = 1)) W.1 B C = s at et b27 b28 ⊢
    generalize tC x1 i most W.1 B C = C2 at et b27 bC ⊢
    cases hf : tF s (decide (¬ s6 = 0)) C2 with
    | true =>
      rw [hf] at b27
      refine bX11_reads_170 (fun hz => absurd rfl hz) (fun _ => bX11_reads_173 (kl p ((et _).mpr (if_pos hf)) h2 (f.b.tr f2b) b27))
    | false =>
      rw [hf] at b27
      have et : ∀ X, trd x1 most W.1 (ta2 W) (decide (¬ s6 = 0)) (cc (no kd p (cc a1 .leaf)) r2) i C m A = X ↔ trd x1 most W.1 (ta2 W) (decide (¬ s6 = 0)) r2 (i + 1) C2 (if s then m else m ||| 2 ^ i) (if x1 = 3 then B else []) = X := fun X => by
        rw [et X, if_neg (by rw [hf]; decide)]
      have x2' : mE h2 true W t L := x'.fm f2 (fun r j z => by unfold pT at z; omega)
      have y2 : mpl h2 true p1 ((kb a1).1 K) none 0 (if x1 = 3 then B else []) := by
        have g : ∀ j, ¬ (j = 7 ∨ j = 27 ∨ j = 28) → hI h2 366 j = hI h' 366 j := fun j z => f2.2 366 j (fun w => by unfold pT at w; omega)
        have hx : axs h2 true (if x1 = 3 then B else []) ∧ 2 * (if x1 = 3 then B else []).length ≤ p1 ∧ voks (if x1 = 3 then B else []) ∧ hI h2 366 7 = nI (if x1 = 3 then B else []).length := by
          by_cases h3 : x1 = 3
          · rw [if_pos h3] at b7
            rw [if_pos h3]
            exact ⟨axs_eq (fun k _ => f2.2 370 k (fun w => by unfold pT at w; omega)) (fun _ j _ => f2.2 371 j (fun w => by unfold pT at w; omega)) z8, z9, z10, b7⟩
          · rw [if_neg h3] at b7
            rw [if_neg h3]
            exact ⟨fun k a ea => (by cases ea), Nat.zero_le _, voks.nil, b7⟩
        exact ⟨hx.2.2.2, by rw [g _ (by omega)]; exact z2, by rw [g _ (by omega)]; exact z3, by rw [g _ (by omega)]; exact z4, by rw [g _ (by omega)]; exact z5, hx.1, hx.2.1, hx.2.2.1, z11⟩
      refine bX11_reads_170 (fun _ => pt_next (i := i) hd x2' y2 hp'.2.1 (by rw [f2.2 366 25 (fun z => by unfold pT at z; omega)]; exact q25) (fun h59 h3 f3 y3 q3 => ?_) (fun h59 h3 f3 y3 q3 => ?_)) (fun hz => absurd (show ¬ bN (!false) = 0 by decide +kernel) hz)
      all_goals have f3b := pN_b f3
      all_goals have c3 : cxt h3 C2 := bC.fm f3 (fun r j z => by unfold pN at z; omega)
      all_goals have g3 : ∀ r j, (r = 366 → j = 26 ∨ j = 27 ∨ j = 28) → hI h3 r j = hI h2 r j := fun r j z => f3.2 r j (fun w => by unfold pN at w; omega)
      · have pL := hcok.lt (p := p1) (by omega)
        have er : rsd (chAt t L) mm p1 = dz (chAt t L) mm (p1 + 1) := if_pos h59
        rw [er] at e3
        refine ih (p1 + 1) _ (i + 1) _ C2 _ h3 _ _ r2 (x2'.fm f3 (fun r j z => by unfold pN at z; omega)) y3 q3 (fun z => by rw [g3 _ _ (by omega), f2.2 366 26 (fun z => by unfold pT at z; omega)]; exact q26 z) (by rw [g3 _ _ (by omega)]; exact b28) (by rw [g3 _ _ (by omega), f2.2 367 6 (fun z => by unfold pT at z; omega)]; exact q6) c3 (by omega) hK' (by omega) e3 ux (fun q eq h4 f4 e27 => kl q ((et _).mpr eq) h4 (f.b.tr (f2b.tr (f3b.tr f4))) e27) (fun C' m' A' eq h4 f4 x4 y4 a b c => kr C' m' A' ((et _).mpr eq) h4 (f.b.tr (f2b.tr (f3b.tr f4))) x4 ?_ a b c)
        rw [kb_pt hkd]; exact y4
      · have er : rsd (chAt t L) mm p1 = .inr (.leaf, p1) := if_neg h59
        rw [er] at e3
        obtain ⟨rfl, rfl⟩ := inr_i e3
        rw [decide_eq_true rfl]
        refine kr _ _ _ ((et _).mpr rfl) h3 (f.b.tr (f2b.tr f3b)) (x2'.fm f3 (fun r j z => by unfold pN at z; omega)) ?_ (by rw [g3 _ _ (by omega)]; exact b27) (by rw [g3 _ _ (by omega)]; exact b28) c3
        rw [kb_pt hkd]; exact y3
/-- a text read by a context, once it is a text and nothing in it is unknown -/
theorem m_evals {h : vH} {K : Nat} {C : Nat → Bool} {r : T} (hd : 31 ≤ d) (hx : ¬ x1 = 0) (hM : LM h) (w : mV h W) (tx : mtx h t L) (hT : Tok t L) (hK : K < 8) (hm : most < 2147483648) (e26 : x1 = 2 → hI h 366 26 = nI most) (e6 : hI h 367 6 = s6) (hC : cxt h C) (ed : dsc (chAt t L) L = .inr r) (hu : (un r).2.1 K = none)
    (kl : ∀ q, trd x1 most W.1 (ta2 W) (decide (¬ s6 = 0)) r 0 C 0 [] = .inl q → ∀ h', fb h h' → hI h' 366 27 = nI q → Q (some (vI 1)) h')
    (kr : ∀ C' m' A', trd x1 most W.1 (ta2 W) (decide (¬ s6 = 0)) r 0 C 0 [] = .inr (C', m', A') → ∀ h', fb h h' → mE h' true W t L → mpl h' true L ((kb r).2 K) none 0 A' → hI h' 366 27 = -7 → hI h' 366 28 = nI m' → cxt h' C' → Q (some (vI 1)) h') : vm_C mX11_reads d cx n [vR (some 366), vI x1, vI (nI K)] h Q := by
  have hL : L ≤ 60 := hT.1
  obtain ⟨-, -, -, w4, w5, w6⟩ := dsc_wf hT.k hL ed
  refine rd_start (e := true) (Or.inr ⟨hx, rfl⟩) hM w tx hT (fun h1 f1 x1' y1 e25 e28 e27 => ?_)
  have g1 : ∀ r j, ¬ pS r j → hI h1 r j = hI h r j := f1.2
  refine ev_loop (most := most) (s6 := s6) (by omega) hm 61 0 K 0 0 C [] h1 _ _ r x1' y1 e25 (fun z => by rw [g1 _ _ (fun z => by unfold pS at z; omega)]; exact e26 z) e28 (by rw [g1 _ _ (fun z => by unfold pS at z; omega)]; exact e6) (hC.fm f1 (fun r j z => by unfold pS at z; omega)) (Nat.zero_le _) hK (by omega) w6 hu (fun q eq h2 f2 e => kl q eq h2 ((pS_b f1).tr f2) e) (fun C' m' A' eq h2 f2 x4 a b c e => kr C' m' A' eq h2 ((pS_b f1).tr f2) x4 a b c e)
end
