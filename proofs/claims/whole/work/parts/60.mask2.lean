/-! ===== the reference: accepting on trial, sizes, support ===== -/
theorem mF_tr {h h' h2 : vH} (x : mF h h') (y : mF h' h2) : mF h h2 := (fr.tr x y).mono (fun r z => by omega)
def tOKm (h : vH) (x : tR) : Prop := (∀ p, x = .inr (.inl p) → hI h 366 27 = nI p) ∧ ∀ C m K, x = .inr (.inr (C, m, K)) → cxt h C ∧ hI h 366 28 = nI m ∧ hI h 366 13 = nI K
def rTm (h : vH) (S : Nat → Int32) (t : Nat → Nat) (L : Nat) : vQ := fun r h' => fb h h' ∧ tOKm h' (fT (ta2 (wS S)) S (chAt t L) L) ∧ r = some (vI (ansT (fT (ta2 (wS S)) S (chAt t L) L)))
section
variable {d cx n : Nat} {h : vH} {S : Nat → Int32} {H : List (Nat → Int32)} {t : Nat → Nat} {L : Nat} {Q : vQ}
theorem m_tries (hd : 50 ≤ d) (x : mR h S H t L) (hS : Sok S) (hT : Tok t L) : vm_C mX11_tries d cx n [vR (some 366)] h (rTm h S t L) := by
  refine bX11_tries_0 (b2 := 367) (n_b2 := 25) (R := rEr h t L (kS S)) x.1.1 x.1.s.1 x.1.s.2 (vp_in_nI (n := 7) (by decide) (by decide)) (by omega) (by
    show vm_C mX11_error (d - 1) 0 0 [vR (some 366), vI (hI h 367 7)] h (rEr h t L (kS S))
    rw [x.s7 hS]
    exact m_error (by omega) x hS hT hS.k.2) ?_
  rintro r h1 ⟨f1, ⟨q, e, rfl⟩ | ⟨y, e, ⟨hu, rfl⟩ | ⟨hu, rfl, -⟩⟩⟩
  · have et : fT (ta2 (wS S)) S (chAt t L) L = .inl 2 := by unfold fT; rw [e]
    refine bX11_tries_11 (fun hz => absurd hz (by decide +kernel)) (fun _ => bX11_tries_16 ⟨f1, ⟨fun p z => (by rw [et] at z; cases z), fun C m K z => (by rw [et] at z; cases z)⟩, by rw [et]; rfl⟩)
  · have et : fT (ta2 (wS S)) S (chAt t L) L = .inl 3 := by unfold fT; rw [e]; exact if_neg hu
    refine bX11_tries_11 (fun hz => absurd hz (by decide +kernel)) (fun _ => bX11_tries_16 ⟨f1, ⟨fun p z => (by rw [et] at z; cases z), fun C m K z => (by rw [et] at z; cases z)⟩, by rw [et]; rfl⟩)
  · have x1 := x.gb f1
    have et : fT (ta2 (wS S)) S (chAt t L) L = (match acp (nS S) (ta2 (wS S)) (decide (¬ S 6 = 0)) y 0 (ctx S) 0 with
      | .inl p => .inr (.inl p)
      | .inr q => .inr (.inr (q.1, q.2, (kb y).2 (kS S)))) := by unfold fT; rw [e]; exact if_pos hu
    refine bX11_tries_11 (fun _ => bX11_tries_18 (R := fun r h' => r = none ∧ fm (fun r _ => r = 374) h1 h' ∧ cxt h' (ctx S)) x1.1.1 (by omega) (m_takesContext (b := false) (by omega) x1.1 x1.2.1 (fun h' f c => ⟨rfl, f, c⟩)) ?_) (fun hz => absurd (by decide +kernel) hz)
    rintro r h2 ⟨rfl, f2, c2⟩
    have f2b : fb h1 h2 := f2.mono (fun r j z => by unfold pB; omega)
    have x2 := x1.gb f2b
    have fin : ∀ X, acp (nS S) (ta2 (wS S)) (decide (¬ S 6 = 0)) y 0 (ctx S) 0 = X → ∀ h3, fb h2 h3 → (∀ p, X = .inl p → hI h3 366 27 = nI p) → (∀ C m, X = .inr (C, m) → hI h3 366 27 = -7 ∧ cxt h3 C ∧ hI h3 366 28 = nI m ∧ hI h3 366 13 = nI ((kb y).2 (kS S))) → vm_E mX11_tries d cx n 35 [some (vR (some 366)), some (vI 0), none] [vI 1] h3 (rTm h S t L) := by
      intro X eX h3 f3 g1 g2
      rw [eX] at et
      have x3 := x2.gb f3
      refine bX11_tries_35 (fun hz => absurd hz (by decide +kernel)) (fun _ => ?_)
      cases X with
      | inl p =>
        have et : fT (ta2 (wS S)) S (chAt t L) L = .inr (.inl p) := et
        have hp := acp_lt y 0 (ctx S) 0 p (dsc_wf hT.k hT.1 e).2.2.1 eX
        refine bX11_tries_40 x3.1.1 (fun _ => bX11_tries_56 (bX11_tries_58 ?_)) (fun hz => absurd (by rw [g1 p rfl]; exact nI_m7 hp) hz)
        exact ⟨f1.tr (f2b.tr f3), ⟨fun q z => (by rw [et] at z; injection z with z; injection z with z; rw [← z]; exact g1 p rfl), fun C m K z => (by rw [et] at z; injection z with z; cases z)⟩, by rw [et]; rfl⟩
      | inr q =>
        obtain ⟨C, m⟩ := q
        obtain ⟨e27, c3, e28, e13⟩ := g2 C m rfl
        have et : fT (ta2 (wS S)) S (chAt t L) L = .inr (.inr (C, m, (kb y).2 (kS S))) := et
        refine bX11_tries_40 x3.1.1 (fun hz => absurd e27 hz) (fun _ => bX11_tries_49 (R := fun r h' => r = some (vI (nI (cn C 512))) ∧ h3 = h') x3.1.1 (by omega) (m_inContext x3.1 c3 ⟨rfl, rfl⟩) ?_)
        rintro r h4 ⟨rfl, rfl⟩
        refine bX11_tries_53 (bX11_tries_58 ⟨f1.tr (f2b.tr f3), ⟨fun q z => (by rw [et] at z; injection z with z; cases z), fun C2 m2 K2 z => ?_⟩, by rw [et]; rfl⟩)
        rw [et] at z
        injection z with z; injection z with z; injection z with z1 z; injection z with z2 z3
        rw [← z1, ← z2, ← z3]
        exact ⟨c3, e28, e13⟩
    refine bX11_tries_23 (b2 := 367) (n_b2 := 25) (R := fun r h3 => r = some (vI 1) ∧ fb h2 h3 ∧ (∀ p, acp (nS S) (ta2 (wS S)) (decide (¬ S 6 = 0)) y 0 (ctx S) 0 = .inl p → hI h3 366 27 = nI p) ∧ ∀ C m, acp (nS S) (ta2 (wS S)) (decide (¬ S 6 = 0)) y 0 (ctx S) 0 = .inr (C, m) → hI h3 366 27 = -7 ∧ cxt h3 C ∧ hI h3 366 28 = nI m ∧ hI h3 366 13 = nI ((kb y).2 (kS S))) x2.1.1 x2.1.s.1 x2.1.s.2 (vp_in_nI (n := 7) (by decide) (by decide)) (by omega) ?_ ?_
    · show vm_C mX11_reads (d - 1) 0 0 [vR (some 366), vI 1, vI (hI h2 367 7)] h2 _
      rw [x2.s7 hS]
      refine m_evals (most := 0) (s6 := S 6) (by omega) (by decide) x2.1 (x2.v hS) x2.2.2.2 hT hS.k.2 (by decide) (fun z => absurd z (by decide)) (x2.2.1 6 (by decide)) c2 e hu (fun q eq h3 f3 e27 => ?_) (fun C' m' A' eq h3 f3 x3 y3 e27 e28 c3 => ?_)
      · have eq : trd 1 0 (nS S) (ta2 (wS S)) (decide (¬ S 6 = 0)) y 0 (ctx S) 0 [] = .inl q := eq
        rw [trd_1] at eq
        refine ⟨rfl, f3, fun p ep => ?_, fun C m ep => ?_⟩
        · rw [ep] at eq; injection eq with eq; rw [eq]; exact e27
        · rw [ep] at eq; cases eq
      · have eq : trd 1 0 (nS S) (ta2 (wS S)) (decide (¬ S 6 = 0)) y 0 (ctx S) 0 [] = .inr (C', m', A') := eq
        rw [trd_1] at eq
        refine ⟨rfl, f3, fun p ep => ?_, fun C m ep => ?_⟩
        · rw [ep] at eq; cases eq
        · rw [ep] at eq
          injection eq with eq; injection eq with q1 eq; injection eq with q2 q3
          have q1 : C = C' := q1
          have q2 : m = m' := q2
          rw [q1, q2]
          exact ⟨e27, c3, e28, y3.2.2.1⟩
    · rintro r h3 ⟨rfl, f3, g1, g2⟩
      exact fin _ rfl h3 f3 g1 g2
theorem m_acceptable (hd : 60 ≤ d) (x : mR h S H t L) (hS : Sok S) (hT : Tok t L) (k : ∀ h', mF h h' → mR h' S H t L → Q (some (vI (ansT (fT (ta2 (wS S)) S (chAt t L) L)))) h') : vm_C mX11_acceptable d cx n [vR (some 366)] h Q := by
  refine bX11_acceptable_0 x.1.1 (by omega) (m_tries (by omega) x hS hT) ?_
  rintro r h1 ⟨f, q, rfl⟩
  exact bX11_acceptable_4 (k h1 f.m (x.gb f))
theorem m_failingAt (hd : 60 ≤ d) (x : mR h S H t L) (hS : Sok S) (hT : Tok t L) (k : ∀ h', mF h h' → mR h' S H t L → Q (some (vI (f_failingAt (fT (ta2 (wS S)) S (chAt t L) L)))) h') : vm_C mX11_failingAt d cx n [vR (some 366)] h Q := by
  refine bX11_failingAt_0 x.1.1 (by omega) (m_tries (by omega) x hS hT) ?_
  rintro r h1 ⟨f, q, rfl⟩
  have x' := x.gb f
  have k := k h1 f.m x'
  generalize fT (ta2 (wS S)) S (chAt t L) L = X at q k ⊢
  match X, q, k with
  | .inl e, q, k =>
    have k : Q (some (vI (ansT (.inl e)))) h1 := k
    have ha := ansT_e e
    refine bX11_failingAt_4 (fun hz => bX11_failingAt_17 (bX11_failingAt_36 k)) (fun hz => bX11_failingAt_11 (fun h3 => absurd (ha.resolve_left hz) h3) (fun _ => bX11_failingAt_17 (bX11_failingAt_36 k)))
  | .inr (.inl p), q, k =>
    refine bX11_failingAt_4 (fun hz => absurd hz (show ¬ (-4 : Int32) = -2 by decide)) (fun _ => bX11_failingAt_11 (fun _ => bX11_failingAt_21 (fun hz => absurd rfl hz) (fun _ => bX11_failingAt_27 x'.1.1 ?_)) (fun hz => absurd (show ¬ (-4 : Int32) = -3 by decide) hz))
    rw [q.1 p rfl]
    exact bX11_failingAt_36 k
  | .inr (.inr (C, m, K)), q, k =>
    have hc := cn512 C
    have n2 : ∀ c, c < 513 → ¬ nI c = -2 ∧ ¬ nI c = -3 ∧ ¬ nI c = -4 := by decide +kernel
    obtain ⟨n2, n3, n4⟩ := n2 _ (show cn C 512 < 513 by omega)
    exact bX11_failingAt_4 (fun hz => absurd hz n2) (fun _ => bX11_failingAt_11 (fun _ => bX11_failingAt_21 (fun _ => bX11_failingAt_34 (bX11_failingAt_36 k)) (fun hz => absurd n4 hz)) (fun hz => absurd n3 hz))
/-- whether a context supports a whole text -/
theorem m_allSup {W : wT} {K : Nat} {C : Nat → Bool} {y : T} (hd : 40 ≤ d) (hM : LM h) (w : mV h W) (tx : mtx h t L) (hT : Tok t L) (hK : K < 8) (hC : cxt h C) (e : dsc (chAt t L) L = .inr y) (hu : (un y).2.1 K = none)
    (k : ∀ h', fb h h' → cxt h' C → Q (some (vI (bN (al C (hasR W.1 (ac W.1 (ta2 W) y).2.1))))) h') : vm_C mX11_isAllSupported d cx n [vR (some 366), vI (nI K)] h Q := by
  have vA : voks (ac W.1 (ta2 W) y).2.1 := ((ac_ok W.1 (ta2 W) y).2 (dsc_wf hT.k hT.1 e).2.1).1
  refine bX11_isAllSupported_0 (R := fun r h1 => r = some (vI 1) ∧ fb h h1 ∧ cxt h1 C ∧ hI h1 366 11 = bN true ∧ hI h1 366 7 = nI (ac W.1 (ta2 W) y).2.1.length ∧ (ac W.1 (ta2 W) y).2.1.length ≤ 62 ∧ axs h1 true (ac W.1 (ta2 W) y).2.1) hM.1 (by omega) (m_evals (most := 0) (s6 := hI h 367 6) (by omega) (by decide) hM w tx hT hK (by decide) (fun z => absurd z (by decide)) rfl hC e hu (fun q eq h3 f3 e27 => ?_) (fun C' m' A' eq h3 f3 x3 y3 e27 e28 c3 => ?_)) ?_
  · rw [trd_3] at eq; cases eq
  · rw [trd_3] at eq
    injection eq with eq; injection eq with q1 eq; injection eq with q2 q3
    rw [List.nil_append] at q3
    rw [← q1] at c3
    rw [← q3] at y3
    obtain ⟨z1, z2, z3, z4, z5, z8, z9, z10, z11⟩ := y3
    have hL := hT.1
    exact ⟨rfl, f3, c3, x3.2.2.2.2, z1, by omega, z8⟩
  · rintro r h1 ⟨rfl, f1, c1, e11, e7, hl, xs⟩
    have hM1 := hM.fm f1
    refine bX11_isAllSupported_6 (fun hz => absurd hz (by decide +kernel)) (fun _ => bX11_isAllSupported_9 (R := fun r h2 => r = some (vI (bN (al C (hasR W.1 (ac W.1 (ta2 W) y).2.1)))) ∧ fm (fun r _ => r = 372 ∨ r = 373) h1 h2) hM1.1 (by omega) (m_isSupported (by omega) hM1 (w.fm f1 (fun r j z => by unfold pB at z; omega)) e11 e7 hl xs vA c1 (fun h2 f2 => ⟨rfl, f2⟩)) ?_)
    rintro r h2 ⟨rfl, f2⟩
    have k := k h2 (f1.tr (f2.mono (fun r j z => by unfold pB; omega))) (c1.fm f2 (fun r j z => by omega))
    refine bX11_isAllSupported_14 (fun hz => bX11_isAllSupported_21 (bX11_isAllSupported_22 rfl ?_)) (fun hz => bX11_isAllSupported_17 (bX11_isAllSupported_22 rfl ?_))
    · rw [bN_0 hz] at k; exact k
    · rw [bN_1 hz] at k; exact k
theorem m_supports (hd : 60 ≤ d) (x : mR h S H t L) (hS : Sok S) (hT : Tok t L) (k : ∀ h', mF h h' → mR h' S H t L → Q (some (vI (f_supports (ta2 (wS S)) S (chAt t L) L))) h') : vm_C mX11_supports d cx n [vR (some 366)] h Q := by
  unfold f_supports at k
  refine bX11_supports_0 (b2 := 367) (n_b2 := 25) (R := rEr h t L (kS S)) x.1.1 x.1.s.1 x.1.s.2 (vp_in_nI (n := 7) (by decide) (by decide)) (by omega) (by
    show vm_C mX11_error (d - 1) 0 0 [vR (some 366), vI (hI h 367 7)] h (rEr h t L (kS S))
    rw [x.s7 hS]
    exact m_error (by omega) x hS hT hS.k.2) ?_
  rintro r h1 ⟨f1, ⟨q, e, rfl⟩ | ⟨y, e, ⟨hu, rfl⟩ | ⟨hu, rfl, -⟩⟩⟩
  · rw [e] at k
    exact bX11_supports_11 (fun hz => absurd hz (by decide +kernel)) (fun _ => bX11_supports_16 (k h1 f1.m (x.gb f1)))
  · rw [e] at k
    have k := k h1 f1.m (x.gb f1)
    have k : Q (some (vI (if (un y).2.1 (kS S) = none then (if al (ctx S) (hasR (nS S) (ac (nS S) (ta2 (wS S)) y).2.1) = true then 1 else 0) else -3))) h1 := k
    rw [if_neg hu] at k
    exact bX11_supports_11 (fun hz => absurd hz (by decide +kernel)) (fun _ => bX11_supports_16 k)
  · rw [e] at k
    have k : ∀ h', mF h h' → mR h' S H t L → Q (some (vI (if (un y).2.1 (kS S) = none then (if al (ctx S) (hasR (nS S) (ac (nS S) (ta2 (wS S)) y).2.1) = true then 1 else 0) else -3))) h' := k
    rw [if_pos hu] at k
    have x1 := x.gb f1
    refine bX11_supports_11 (fun _ => bX11_supports_18 (R := fun r h' => r = none ∧ fm (fun r _ => r = 374) h1 h' ∧ cxt h' (ctx S)) x1.1.1 (by omega) (m_takesContext (b := false) (by omega) x1.1 x1.2.1 (fun h' f c => ⟨rfl, f, c⟩)) ?_) (fun hz => absurd (by decide +kernel) hz)
    rintro r h2 ⟨rfl, f2, c2⟩
    have f2b : fb h1 h2 := f2.mono (fun r j z => by unfold pB; omega)
    have x2 := x1.gb f2b
    refine bX11_supports_23 (b2 := 367) (n_b2 := 25) (R := fun r h3 => r = some (vI (bN (al (ctx S) (hasR (nS S) (ac (nS S) (ta2 (wS S)) y).2.1)))) ∧ fb h2 h3) x2.1.1 x2.1.s.1 x2.1.s.2 (vp_in_nI (n := 7) (by decide) (by decide)) (by omega) (by
      show vm_C mX11_isAllSupported (d - 1) 0 0 [vR (some 366), vI (hI h2 367 7)] h2 _
      rw [x2.s7 hS]
      exact m_allSup (W := wS S) (by omega) x2.1 (x2.v hS) x2.2.2.2 hT hS.k.2 c2 e hu (fun h3 f3 _ => ⟨rfl, f3⟩)) ?_
    rintro r h3 ⟨rfl, f3⟩
    have k := k h3 (f1.tr (f2b.tr f3)).m (x2.gb f3)
    refine bX11_supports_34 (fun hz => bX11_supports_41 (bX11_supports_42 ?_)) (fun hz => bX11_supports_37 (bX11_supports_42 ?_))
    · rw [bN_0 hz] at k; exact k
    · rw [bN_1 hz] at k; exact k
theorem m_sizeBehind {x1 : Int32} (hd : 60 ≤ d) (x : mR h S H t L) (hS : Sok S) (hT : Tok t L) (k : ∀ h', mF h h' → mR h' S H t L → Q (some (vI (f_sizeBehind (ta2 (wS S)) x1 S (chAt t L) L))) h') : vm_C mX11_sizeBehind d cx n [vR (some 366), vI x1] h Q := by
  unfold f_sizeBehind at k
  refine bX11_sizeBehind_0 (fun h1 => ?_) (fun h1 => ?_)
  · have hneg : ¬ x1 < 0 := fun z => by
      rw [Int32.lt_iff_toInt_lt] at z
      rw [Int32.le_iff_toInt_le] at h1
      omega
    rw [cif_f hneg] at k
    obtain ⟨M, hM, ex⟩ : ∃ M, M < 2147483648 ∧ x1 = nI M := by
      have hlt := x1.toInt_lt
      have h0 : (0 : Int32).toInt = 0 := by decide
      rw [Int32.le_iff_toInt_le, h0] at h1
      refine ⟨x1.toInt.toNat, by omega, ?_⟩
      apply Int32.toInt_inj.mp
      rw [nI_toInt (by omega)]
      omega
    have eM : x1.toNatClampNeg = M := by rw [ex]; exact cs hM
    rw [eM] at k
    refine bX11_sizeBehind_6 (b2 := 367) (n_b2 := 25) (R := rEr h t L (kS S)) x.1.1 x.1.s.1 x.1.s.2 (vp_in_nI (n := 7) (by decide) (by decide)) (by omega) (by
      show vm_C mX11_error (d - 1) 0 0 [vR (some 366), vI (hI h 367 7)] h (rEr h t L (kS S))
      rw [x.s7 hS]
      exact m_error (by omega) x hS hT hS.k.2) ?_
    rintro r h1 ⟨f1, ⟨q, e, rfl⟩ | ⟨y, e, ⟨hu, rfl⟩ | ⟨hu, rfl, e25⟩⟩⟩
    · rw [e] at k
      exact bX11_sizeBehind_17 (fun _ => bX11_sizeBehind_30 (fun hz => absurd hz (by decide +kernel)) (fun _ => bX11_sizeBehind_34 (bX11_sizeBehind_40 (k h1 f1.m (x.gb f1))))) (fun hz => absurd (by decide +kernel) hz)
    · rw [e] at k
      have k := k h1 f1.m (x.gb f1)
      have k : Q (some (vI (if (un y).2.1 (kS S) = none then (if M ≤ ln y then nI (cn (tkF (nS S) (ta2 (wS S)) y M (ctx S)) 512) else -7) else -3))) h1 := k
      rw [if_neg hu] at k
      exact bX11_sizeBehind_17 (fun _ => bX11_sizeBehind_30 (fun hz => absurd hz (by decide +kernel)) (fun _ => bX11_sizeBehind_34 (bX11_sizeBehind_40 k))) (fun hz => absurd (by decide +kernel) hz)
    · rw [e] at k
      have k : ∀ h', mF h h' → mR h' S H t L → Q (some (vI (if (un y).2.1 (kS S) = none then (if M ≤ ln y then nI (cn (tkF (nS S) (ta2 (wS S)) y M (ctx S)) 512) else -7) else -3))) h' := k
      rw [if_pos hu] at k
      have x1' := x.gb f1
      have hln : ln y ≤ 20 := by have := (dsc_wf hT.k hT.1 e).2.2.2.1; have := hT.1; omega
      refine bX11_sizeBehind_17 (fun hz => absurd hz (by decide +kernel)) (fun _ => bX11_sizeBehind_22 x1'.1.1 (fun hz => ?_) (fun hz => ?_))
      · rw [e25, ex] at hz
        have hz : M ≤ ln y := by
          rcases Nat.lt_or_ge (ln y) M with z | z
          · exact absurd hz (nI_ge z hM)
          · exact z
        rw [if_pos hz] at k
        have f2 : fm (fun r j => r = 366 ∧ j = 26) h1 (uI h1 366 26 x1) := fm_uI _ _ _ _
        have x2 := x1'.gm f2 (fun r j z => by omega)
        have e26 : hI (uI h1 366 26 x1) 366 26 = nI M := by rw [hI_uIs, ex]
        have fm2 : mF h1 (uI h1 366 26 x1) := f2.fr (fun r j z => by omega)
        refine bX11_sizeBehind_41 (R := fun r h' => r = none ∧ fm (fun r _ => r = 374) (uI h1 366 26 x1) h' ∧ cxt h' (ctx S)) x1'.1.1 (by omega) (m_takesContext (b := false) (by omega) x2.1 x2.2.1 (fun h' f c => ⟨rfl, f, c⟩)) ?_
        generalize uI h1 366 26 x1 = h2 at f2 x2 e26 fm2 ⊢
        rintro r h3 ⟨rfl, f3, c3⟩
        have f3b : fb h2 h3 := f3.mono (fun r j z => by unfold pB; omega)
        have x3 := x2.gb f3b
        refine bX11_sizeBehind_51 (b2 := 367) (n_b2 := 25) (R := fun r h4 => r = some (vI 1) ∧ fb h3 h4 ∧ cxt h4 (tkF (nS S) (ta2 (wS S)) y M (ctx S))) x3.1.1 x3.1.s.1 x3.1.s.2 (vp_in_nI (n := 7) (by decide) (by decide)) (by omega) ?_ ?_
        · show vm_C mX11_reads (d - 1) 0 0 [vR (some 366), vI 2, vI (hI h3 367 7)] h3 _
          rw [x3.s7 hS]
          refine m_evals (most := M) (s6 := S 6) (by omega) (by decide) x3.1 (x3.v hS) x3.2.2.2 hT hS.k.2 hM (fun z => by rw [f3.2 366 26 (by omega)]; exact e26) (x3.2.1 6 (by decide)) c3 e hu (fun q eq h3 f3 e27 => ?_) (fun C' m' A' eq h3 f3 x3 y3 e27 e28 c3 => ?_)
          · rw [trd_2] at eq; cases eq
          · rw [trd_2] at eq
            injection eq with eq; injection eq with q1 eq
            rw [← q1] at c3
            exact ⟨rfl, f3, c3⟩
        · rintro r h4 ⟨rfl, f4, c4⟩
          have x4 := x3.gb f4
          refine bX11_sizeBehind_63 (fun hz => absurd hz (by decide +kernel)) (fun _ => bX11_sizeBehind_66 (R := fun r h' => r = some (vI (nI (cn (tkF (nS S) (ta2 (wS S)) y M (ctx S)) 512))) ∧ h4 = h') x4.1.1 (by omega) (m_inContext x4.1 c4 ⟨rfl, rfl⟩) ?_)
          rintro r h5 ⟨rfl, rfl⟩
          exact bX11_sizeBehind_70 (bX11_sizeBehind_75 (k h4 (mF_tr f1.m (mF_tr fm2 (mF_tr f3b.m f4.m))) x4))
      · rw [e25, ex] at hz
        have hz : ¬ M ≤ ln y := fun z => hz (nI_le z (by omega))
        rw [if_neg hz] at k
        exact bX11_sizeBehind_30 (fun _ => bX11_sizeBehind_38 (bX11_sizeBehind_40 (k h1 f1.m x1'))) (fun hz => absurd (by decide +kernel) hz)
  · have hneg : x1 < 0 := by
      rw [Int32.lt_iff_toInt_lt]
      rw [Int32.le_iff_toInt_le] at h1
      omega
    rw [cif_t hneg] at k
    exact bX11_sizeBehind_4 (k h fb.rf.m x)
end
