/-! ===== the reference: accepting, worlds ===== -/
def zA (C : Nat → Bool) (a k : Nat) : Int32 := mkI (fun b => decide (32 * k + b < a) && C (32 * k + b))
theorem mkI_ext {f g : Nat → Bool} (e : ∀ b, b < 32 → f b = g b) : mkI f = mkI g := bI_ext fun i hi => by rw [mkI_bit _ hi, mkI_bit _ hi, e i hi]
theorem zA_0 (C : Nat → Bool) (k : Nat) : zA C 0 k = 0 := bI_ext fun i hi => by
  unfold zA
  rw [mkI_bit _ hi, bI_0, decide_eq_false (by omega), Bool.false_and]
theorem zA_o (C : Nat → Bool) {a k : Nat} (h : ¬ k = a / 32) : zA C (a + 1) k = zA C a k := mkI_ext fun b hb => by
  have : decide (32 * k + b < a + 1) = decide (32 * k + b < a) := decide_eq_decide.mpr ⟨fun z => by omega, fun z => by omega⟩
  rw [this]
theorem zA_s {C : Nat → Bool} {a : Nat} {y : Int32} (h : y = if C a then (1 : Int32) <<< (nI (a % 32) &&& 31) else 0) : zA C a (a / 32) ||| y = zA C (a + 1) (a / 32) := bI_ext fun i hi => by
  unfold zA
  rw [bI_or, mkI_bit _ hi, mkI_bit _ hi]
  have ey : bI y i = (C a && decide (i = a % 32)) := by
    rw [h]
    cases C a
    · exact bI_0 i
    · rw [if_pos rfl, bI_shl (by omega) 1 hi, bI_1 _ (by omega), Bool.true_and]
      refine Bool.eq_iff_iff.mpr ?_
      rw [Bool.and_eq_true, decide_eq_true_iff, decide_eq_true_iff, decide_eq_true_iff]
      omega
  rw [ey]
  by_cases hi2 : i = a % 32
  · have e : 32 * (a / 32) + i = a := by omega
    rw [e, decide_eq_true hi2, decide_eq_false (Nat.lt_irrefl a), decide_eq_true (Nat.lt_succ_self a), Bool.and_true, Bool.false_and, Bool.false_or, Bool.true_and]
  · have : decide (32 * (a / 32) + i < a + 1) = decide (32 * (a / 32) + i < a) := decide_eq_decide.mpr ⟨fun z => by omega, fun z => by omega⟩
    rw [this, decide_eq_false hi2, Bool.and_false, Bool.or_false]
section
variable {d cx n : Nat} {h : vH} {S : Nat → Int32} {H : List (Nat → Int32)} {t : Nat → Nat} {L : Nat} {Q : vQ}
theorem acc_loop {x1 : Int32} {C : Nat → Bool} (hM : LM h) (hC : cxt h C) (h0 : ∀ i, i < 16 → hI h 367 (9 + i) = 0)
    (k : ∀ u, fm (fun r _ => r = 367) h u → (∀ i, i < 16 → hI u 367 (9 + i) = zA C 512 i) → (∀ i, i < 9 → hI u 367 i = hI h 367 i) → Q (some (vI x1)) u) : vm_E mX11_accept d cx n 63 [some (vR (some 366)), some (vI x1), some (vI (nI 0))] [] h Q := by
  refine vl_down 512 (fun a => ∀ u, fm (fun r _ => r = 367) h u → (∀ i, i < 16 → hI u 367 (9 + i) = zA C a i) → (∀ i, i < 9 → hI u 367 i = hI h 367 i) → vm_E mX11_accept d cx n 63 [some (vR (some 366)), some (vI x1), some (vI (nI a))] [] u Q)
    (fun u f g1 g2 => bX11_accept_63 (fun _ => bX11_accept_110 (k u f g1 g2)) (fun hz => absurd (by decide +kernel) hz)) (fun a ha ih u f g1 g2 => ?_) h fm.rf (fun i hi => by rw [h0 i hi, zA_0]) (fun _ _ => rfl)
  have hMu := hM.fm f
  have e9 : Int32.toNatClampNeg (9 + nI a / 32) = 9 + a / 32 := by rw [(div32 ha).1, cs (by omega)]
  have v9 : vp_in (9 + nI a / 32) 25 := by rw [(div32 ha).1]; exact vp_in_nI (by omega) (by decide)
  have st : ∀ y : Int32, (y = if C a then (1 : Int32) <<< (nI (a % 32) &&& 31) else 0) → vm_E mX11_accept d cx n 102 [some (vR (some 366)), some (vI x1), some (vI (nI a))] [vI y, vI (hI u 367 (Int32.toNatClampNeg (9 + nI a / 32))), vI (9 + nI a / 32), vR (some 367)] u Q := fun y ey => by
    refine bX11_accept_102 (n_sa3 := 25) hMu.s.2 v9 ?_
    rw [e9, g1 _ (by omega), nI_1, zA_s ey]
    refine ih _ (f.tr ((fm_uI _ 367 _ _).mono (fun r j z => z.1))) (fun i hi => ?_) (fun i hi => ?_)
    · rw [hI_uI]
      by_cases hia : i = a / 32
      · rw [if_pos ⟨rfl, by omega⟩, hia]
      · rw [if_neg (fun z => hia (by have := z.2; omega)), g1 i hi, zA_o C hia]
    · rw [hI_uIk _ _ _ (by omega)]; exact g2 i hi
  refine bX11_accept_63 (fun hz => absurd hz (nI_ge (a := a) (b := 512) ha (by decide))) (fun _ => bX11_accept_70 (b2 := 367) (b3 := 374) (n_b2 := 25) (n_b3 := 512) hMu.1 hMu.s.1 hMu.s.2 v9 hMu.con.1 hMu.con.2 (v512 ha) (fun hz => bX11_accept_101 (st 0 ?_)) (fun hz => bX11_accept_92 (st _ ?_)))
  · rw [cs (by omega), f.2 374 _ (by omega), hC a ha, bN_i] at hz
    rw [hz]; rfl
  · rw [cs (by omega), f.2 374 _ (by omega), hC a ha, bN_i, Bool.not_eq_false] at hz
    rw [hz, (div32 ha).2]; rfl
theorem m_accept (hd : 60 ≤ d) (x : mR h S H t L) (hS : Sok S) (hT : Tok t L) (k : ∀ h', mF h h' → mR h' (f_accept (fT (ta2 (wS S)) S (chAt t L) L) S H).2.1 (f_accept (fT (ta2 (wS S)) S (chAt t L) L) S H).2.2 t L → Q (some (vI (f_accept (fT (ta2 (wS S)) S (chAt t L) L) S H).1)) h') : vm_C mX11_accept d cx n [vR (some 366)] h Q := by
  refine bX11_accept_0 x.1.1 (by omega) (m_tries (by omega) x hS hT) ?_
  rintro r h1 ⟨f, q, rfl⟩
  have x1 := x.gb f
  have km := k
  have k := k h1 f.m
  generalize fT (ta2 (wS S)) S (chAt t L) L = X at q k km ⊢
  match X, q, k, km with
  | .inl e, q, k, km =>
    have k : Q (some (vI (ansT (.inl e)))) h1 := k x1
    have ha := ansT_e e
    refine bX11_accept_4 (fun hz => ?_) (fun _ => bX11_accept_9 k)
    rcases ha with z | z <;> rw [z] at hz <;> exact absurd hz (by decide +kernel)
  | .inr (.inl p), q, k, km => exact bX11_accept_4 (fun hz => absurd hz (show ¬ (0 : Int32) ≤ -4 by decide)) (fun _ => bX11_accept_9 (k x1))
  | .inr (.inr (C, m, K)), q, k, km =>
    obtain ⟨c1, e28, e13⟩ := q.2 C m K rfl
    have hc := cn512 C
    have n0 : ∀ c, c < 513 → (0 : Int32) ≤ nI c := by decide +kernel
    refine bX11_accept_4 (fun _ => ?_) (fun hz => absurd (n0 _ (show cn C 512 < 513 by omega)) hz)
    refine bX11_accept_11 (R := fun r h' => r = none ∧ fm (fun r j => r = 366 ∧ j = 2 ∨ r = 368) h1 h' ∧ mh h' (push5 H S)) x1.1.1 (by omega) (m_acts x1.1 x1.2.1 x1.2.2.1 (fun h' f q => ⟨rfl, f, q⟩)) ?_
    rintro r h2 ⟨rfl, f2, mh2⟩
    have hM2 := x1.1.fm f2
    have s2 := x1.2.1.fm f2 (fun r j z => by omega)
    have tx2 := x1.2.2.2.fm f2 (fun r j z => by omega)
    have c2 := c1.fm f2 (fun r j z => by omega)
    have e28 : hI h2 366 28 = nI m := by rw [f2.2 366 28 (by omega)]; exact e28
    have e13 : hI h2 366 13 = nI K := by rw [f2.2 366 13 (by omega)]; exact e13
    refine bX11_accept_15 (b2 := 367) (b3 := 367) (n_b2 := 25) (n_b3 := 25) hM2.1 hM2.s.1 hM2.s.2 (vp_in_nI (n := 7) (by decide) (by decide)) hM2.s.1 hM2.s.2 (vp_in_nI (n := 8) (by decide) (by decide)) ?_
    have f3 : fm (fun r _ => r = 367) h2 (uI (uI h2 367 (Int32.toNatClampNeg 7) (hI h2 366 13)) 367 (Int32.toNatClampNeg 8) (hI (uI h2 367 (Int32.toNatClampNeg 7) (hI h2 366 13)) 366 28)) := ((fm_uI _ 367 _ _).mono (fun r j z => z.1)).tr ((fm_uI _ 367 _ _).mono (fun r j z => z.1))
    have g3 : ∀ i, hI (uI (uI h2 367 (Int32.toNatClampNeg 7) (hI h2 366 13)) 367 (Int32.toNatClampNeg 8) (hI (uI h2 367 (Int32.toNatClampNeg 7) (hI h2 366 13)) 366 28)) 367 i = if i = 8 then nI m else if i = 7 then nI K else hI h2 367 i := fun i => by
      rw [hI_uI, hI_uI, hI_uI]
      show (if 367 = 367 ∧ i = 8 then (if 366 = 367 ∧ 28 = 7 then hI h2 366 13 else hI h2 366 28) else if 367 = 367 ∧ i = 7 then hI h2 366 13 else hI h2 367 i) = _
      rw [if_neg (show ¬ (366 = 367 ∧ 28 = 7) by decide), e28, e13]
      by_cases h8 : i = 8
      · rw [if_pos ⟨rfl, h8⟩, if_pos h8]
      · rw [if_neg (fun z => h8 z.2), if_neg h8]
        by_cases h7 : i = 7
        · rw [if_pos ⟨rfl, h7⟩, if_pos h7]
        · rw [if_neg (fun z => h7 z.2), if_neg h7]
    generalize uI (uI h2 367 (Int32.toNatClampNeg 7) (hI h2 366 13)) 367 (Int32.toNatClampNeg 8) (hI (uI h2 367 (Int32.toNatClampNeg 7) (hI h2 366 13)) 366 28) = h3 at f3 g3 ⊢
    have hM3 := hM2.fm f3
    have main := vl_down 16 (fun i => vm_E mX11_accept d cx n 39 [some (vR (some 366)), some (vI (ansT (.inr (.inr (C, m, K))))), some (vI (nI i))] [] (qI h3 367 9 i (fun _ => 0)) Q) ?_ (fun i hi ih => ?_)
    · rw [qI_0] at main; exact main
    · refine bX11_accept_39 (fun _ => bX11_accept_61 ?_) (fun hz => absurd (by decide +kernel) hz)
      have f4 : fm (fun r _ => r = 367) h3 (qI h3 367 9 16 (fun _ => 0)) := (fm_qI _ _ _ _ _).mono (fun r j z => z.1)
      have hM4 := hM3.fm f4
      refine acc_loop hM4 ((c2.fm f3 (fun r j z => by omega)).fm f4 (fun r j z => by omega)) (fun i hi => by rw [hI_qI, if_pos ⟨rfl, by omega, by omega⟩]) (fun u f5 g5 g6 => ?_)
      have f35 : fm (fun r _ => r = 367) h2 u := f3.tr (f4.tr f5)
      refine km u (mF_tr f.m (mF_tr (f2.fr (fun r j z => by omega)) (f35.fr (fun r j z => by omega)))) ⟨hM2.fm f35, fun i hi => ?_, mh2.fm f35 (fun r j z => by omega), tx2.fm f35 (fun r j z => by omega)⟩
      show hI u 367 i = accV S C m K i
      unfold accV
      by_cases h9 : 9 ≤ i
      · rw [if_neg (by omega), if_neg (by omega), if_pos h9]
        have := g5 (i - 9) (by omega)
        rw [show 9 + (i - 9) = i by omega] at this
        exact this
      · rw [g6 i (by omega), hI_qI, if_neg (by omega), g3]
        by_cases h7 : i = 7
        · rw [if_neg (by omega), if_pos h7, if_pos h7]
        · rw [if_neg h7]
          by_cases h8 : i = 8
          · rw [if_pos h8, if_neg h7, if_pos h8]
          · rw [if_neg h8, if_neg h7, if_neg h8, if_neg h9]; exact s2 i hi
    · have f4 : fm (fun r _ => r = 367) h3 (qI h3 367 9 i (fun _ => 0)) := (fm_qI _ _ _ _ _).mono (fun r j z => z.1)
      have hM4 := hM3.fm f4
      rw [← qI_s] at ih
      have e9 : 9 + nI i = nI (9 + i) := by rw [show (9 : Int32) = nI 9 from rfl, nI_add]
      refine bX11_accept_39 (fun hz => absurd hz (nI_ge (a := i) (b := 16) hi (by decide))) (fun _ => bX11_accept_45 (b2 := 367) (n_b2 := 25) hM4.1 hM4.s.1 hM4.s.2 (by rw [e9]; exact vp_in_nI (by omega) (by decide)) ?_)
      rw [e9, cs (by omega), nI_1]
      exact ih
/-! in how many worlds a text is true, as the reference sees it -/
def wC (S : Nat → Int32) (y : T) (w : Nat) : Bool := al (fun k => decide (k = 0)) (hasR (nS S) (ac (nS S) (ta2 (wP S (w % 2 ^ nS S) (w / 2 ^ nS S))) y).2.1)
def f_worlds2 (S : Nat → Int32) (c : Nat → Nat) (L : Nat) : Int32 := match dsc c L with
  | .inl _ => -2
  | .inr r => if (un r).2.1 0 = none then nI (cn (wC S r) (2 ^ (2 * nS S))) else -3
theorem wshl : ∀ m, m < 4 → (1 : Int32) <<< ((2 * nI m) &&& (31 : Int32)) = nI (2 ^ (2 * m)) := by decide +kernel
theorem wdiv : ∀ m, m < 4 → ∀ w, w < 64 → nI w >>> (nI m &&& (31 : Int32)) = nI (w / 2 ^ m) := by decide +kernel
theorem wlt : ∀ m, m < 4 → 2 ^ (2 * m) ≤ 64 ∧ ∀ w, w < 2 ^ (2 * m) → w / 2 ^ m < 8 ∧ w % 2 ^ m < 8 := by decide +kernel
theorem m_worldsTrue (hd : 60 ≤ d) (x : mR h S H t L) (hS : Sok S) (hT : Tok t L) (k : ∀ h', mF h h' → mR h' S H t L → Q (some (vI (f_worlds2 S (chAt t L) L))) h') : vm_C mX11_worldsTrue d cx n [vR (some 366)] h Q := by
  unfold f_worlds2 at k
  refine bX11_worldsTrue_0 (R := rEr h t L 0) x.1.1 (by omega) (m_error (K := 0) (by omega) x hS hT (by decide)) ?_
  rintro r h1 ⟨f1, ⟨q, e, rfl⟩ | ⟨y, e, ⟨hu, rfl⟩ | ⟨hu, rfl, -⟩⟩⟩
  · rw [e] at k
    exact bX11_worldsTrue_5 (fun hz => absurd hz (by decide +kernel)) (fun _ => bX11_worldsTrue_10 (k h1 f1.m (x.gb f1)))
  · rw [e] at k
    have k : Q (some (vI (if (un y).2.1 0 = none then nI (cn (wC S y) (2 ^ (2 * nS S))) else -3))) h1 := k h1 f1.m (x.gb f1)
    rw [if_neg hu] at k
    exact bX11_worldsTrue_5 (fun hz => absurd hz (by decide +kernel)) (fun _ => bX11_worldsTrue_10 k)
  · rw [e] at k
    have k : ∀ h', mF h h' → mR h' S H t L → Q (some (vI (if (un y).2.1 0 = none then nI (cn (wC S y) (2 ^ (2 * nS S))) else -3))) h' := k
    rw [if_pos hu] at k
    have x1 := x.gb f1
    have hn := hS.n
    have v1 := x1.v hS
    obtain ⟨w64, wl⟩ := wlt (nS S) (by omega)
    refine bX11_worldsTrue_5 (fun _ => bX11_worldsTrue_12 (b2 := 367) (b3 := 367) (n_b2 := 25) (n_b3 := 25) (R := fun r h' => r = none ∧ fm (fun r _ => r = 374) h1 h' ∧ cxt h' (fun k => decide (k = 0))) x1.1.1 x1.1.s.1 x1.1.s.2 (vp_in_nI (n := 1) (by decide) (by decide)) x1.1.s.1 x1.1.s.2 (vp_in_nI (n := 2) (by decide) (by decide)) (by omega) (m_takesContext (b := true) (by omega) x1.1 x1.2.1 (fun h' f c => ⟨rfl, f, c⟩)) ?_) (fun hz => absurd (by decide +kernel) hz)
    rintro r h2 ⟨rfl, f2, c2⟩
    have f2b : fb h1 h2 := f2.mono (fun r j z => by unfold pB; omega)
    have x2 := x1.gb f2b
    have v2 := x2.v hS
    have e1 : hI h1 367 (Int32.toNatClampNeg 1) = S 1 := x1.2.1 1 (by decide)
    have e2 : hI h1 367 (Int32.toNatClampNeg 2) = S 2 := x1.2.1 2 (by decide)
    rw [e1, e2]
    refine bX11_worldsTrue_34 ?_
    refine vl_down (2 ^ (2 * nS S)) (fun w => ∀ u, fm (fun r j => pB r j ∨ r = 367 ∧ (j = 1 ∨ j = 2)) h2 u → cxt u (fun k => decide (k = 0)) → vm_E mX11_worldsTrue d cx n 37 [some (vR (some 366)), some (vI 0), some (vI (S 1)), some (vI (S 2)), some (vI (nI (cn (wC S y) w))), some (vI (nI w))] [] u Q) (fun u f c => ?_) (fun w hw ih u f c => ?_) h2 fm.rf c2
    all_goals have hMu := x2.1.fm f
    all_goals have e0 : hI u 367 (Int32.toNatClampNeg 0) = nI (nS S) := (f.2 367 0 (fun z => by unfold pB at z; omega)).trans ((x2.2.1 0 (by decide)).trans hS.n.1)
    · refine bX11_worldsTrue_37 (b2 := 367) (n_b2 := 25) hMu.1 hMu.s.1 hMu.s.2 (vp_in_nI (n := 0) (by decide) (by decide)) (fun _ => ?_) (fun hz => absurd (by rw [e0, wshl _ (by omega)]; exact Int32.le_refl _) hz)
      refine bX11_worldsTrue_104 (b2 := 367) (b3 := 367) (n_b2 := 25) (n_b3 := 25) hMu.1 hMu.s.1 hMu.s.2 (vp_in_nI (n := 1) (by decide) (by decide)) hMu.s.1 hMu.s.2 (vp_in_nI (n := 2) (by decide) (by decide)) ?_
      show Q _ (uI (uI u 367 1 (S 1)) 367 2 (S 2))
      have fu : fm (fun r j => pB r j ∨ r = 367 ∧ (j = 1 ∨ j = 2)) h2 (uI (uI u 367 1 (S 1)) 367 2 (S 2)) := f.tr (((fm_uI u 367 1 _).mono (fun r j z => by omega)).tr ((fm_uI _ 367 2 _).mono (fun r j z => by omega)))
      have f0 : ∀ j, ¬ j = 1 → ¬ j = 2 → hI (uI (uI u 367 1 (S 1)) 367 2 (S 2)) 367 j = hI h2 367 j := fun j j1 j2 => fu.2 367 j (fun z => by unfold pB at z; omega)
      refine k _ (mF_tr f1.m (mF_tr f2b.m (fu.fr (fun r j z => by unfold pB at z; omega)))) ⟨x2.1.fm fu, fun i hi => ?_, x2.2.2.1.fm fu (fun r j z => by unfold pB at z; omega), x2.2.2.2.fm fu (fun r j z => by unfold pB at z; omega)⟩
      by_cases i1 : i = 1
      · rw [i1]; rfl
      · by_cases i2 : i = 2
        · rw [i2]; rfl
        · rw [f0 i i1 i2]; exact x2.2.1 i hi
    · have hw2 := wl w hw
      refine bX11_worldsTrue_37 (b2 := 367) (n_b2 := 25) hMu.1 hMu.s.1 hMu.s.2 (vp_in_nI (n := 0) (by decide) (by decide)) (fun hz => absurd hz (by rw [e0, wshl _ (by omega)]; exact nI_ge hw (by omega))) (fun _ => ?_)
      refine bX11_worldsTrue_52 (R := fun r h' => r = some (vI (nI (2 ^ nS S - 1))) ∧ u = h') hMu.1 (by omega) (m_full hMu (by omega) e0 ⟨rfl, rfl⟩) ?_
      rintro r h' ⟨rfl, rfl⟩
      rw [hMu.s.1]
      have ea : nI w &&& nI (2 ^ nS S - 1) = nI (w % 2 ^ nS S) := by rw [nI_and, Nat.and_two_pow_sub_one_eq_mod]
      have eg : ∀ g, g = uI (uI u 367 1 (nI (w % 2 ^ nS S))) 367 2 (nI (w / 2 ^ nS S)) → fm (fun r j => r = 367 ∧ (j = 1 ∨ j = 2)) u g ∧ hI g 367 1 = nI (w % 2 ^ nS S) ∧ hI g 367 2 = nI (w / 2 ^ nS S) := fun g eg => by
        subst eg
        exact ⟨((fm_uI u 367 1 _).mono (fun r j z => by omega)).tr ((fm_uI _ 367 2 _).mono (fun r j z => by omega)), rfl, rfl⟩
      have es : hI (uI u 367 (Int32.toNatClampNeg 1) (nI w &&& nI (2 ^ nS S - 1))) 367 (Int32.toNatClampNeg 0) = nI (nS S) := e0
      have go : vm_E mX11_worldsTrue d cx n 63 [some (vR (some 366)), some (vI 0), some (vI (S 1)), some (vI (S 2)), some (vI (nI (cn (wC S y) w))), some (vI (nI w))] [vI (nI (2 ^ nS S - 1)), vI (nI w), vI 1, vR (some 367)] u Q := by
        refine bX11_worldsTrue_63 (b3 := 367) (b4 := 367) (n_sa3 := 25) (n_b4 := 25) (n_b3 := 25) (R := fun r h' => r = some (vI (bN (wC S y w))) ∧ fm (fun r j => pB r j ∨ r = 367 ∧ (j = 1 ∨ j = 2)) h2 h' ∧ cxt h' (fun k => decide (k = 0))) hMu.s.2 (vp_in_nI (n := 1) (by decide) (by decide)) hMu.1 hMu.s.1 hMu.s.1 hMu.s.2 (vp_in_nI (n := 0) (by decide) (by decide)) hMu.s.2 (vp_in_nI (n := 2) (by decide) (by decide)) (by omega) ?_ ?_
        · rw [es, wdiv _ (by omega) w (by omega), ea]
          show vm_C mX11_isAllSupported (d - 1) 0 0 [vR (some 366), vI 0] (uI (uI u 367 1 (nI (w % 2 ^ nS S))) 367 2 (nI (w / 2 ^ nS S))) _
          obtain ⟨f3, g1, g2⟩ := eg _ rfl
          generalize uI (uI u 367 1 (nI (w % 2 ^ nS S))) 367 2 (nI (w / 2 ^ nS S)) = g at f3 g1 g2 ⊢
          have f3b : fm (fun r j => pB r j ∨ r = 367 ∧ (j = 1 ∨ j = 2)) h2 g := f.tr (f3.mono (fun r j z => Or.inr z))
          have o3 : ∀ j, ¬ j = 1 → ¬ j = 2 → hI g 367 j = hI h2 367 j := fun j j1 j2 => f3b.2 367 j (fun z => by unfold pB at z; omega)
          have vg : mV g (wP S (w % 2 ^ nS S) (w / 2 ^ nS S)) := by
            obtain ⟨a1, a2, a3, a4, a5⟩ := v2
            refine ⟨by rw [o3 0 (by decide) (by decide)]; exact a1, a2, a3, fun i hi => ?_, fun i hi => by rw [o3 (4 + i) (by omega) (by omega)]; exact a5 i hi⟩
            match i, hi with
            | 0, _ => exact ⟨g1, hw2.2⟩
            | 1, _ => exact ⟨g2, hw2.1⟩
            | 2, _ => exact ⟨by rw [o3 (1 + 2) (by decide) (by decide)]; exact (a4 2 (by decide)).1, (a4 2 (by decide)).2⟩
          exact m_allSup (W := wP S (w % 2 ^ nS S) (w / 2 ^ nS S)) (K := 0) (by omega) (x2.1.fm f3b) vg (x2.2.2.2.fm f3b (fun r j z => by unfold pB at z; omega)) hT (by decide) (c.fm f3 (fun r j z => by omega)) e hu (fun h' f4 c4 => ⟨rfl, f3b.tr (fm.mono f4 (fun r j z => Or.inl z)), c4⟩)
        · rintro r h3 ⟨rfl, f3, c3⟩
          have st : ∀ b : Bool, wC S y w = b → vm_E mX11_worldsTrue d cx n 95 [some (vR (some 366)), some (vI 0), some (vI (S 1)), some (vI (S 2)), some (vI (nI (cn (wC S y) w))), some (vI (nI w))] [vI (bN b), vI (nI (cn (wC S y) w))] h3 Q := fun b eb => by
            refine bX11_worldsTrue_95 ?_
            have := ih h3 f3 c3
            rw [cn_s, eb] at this
            rw [nI_1]
            cases b
            · rw [show nI (cn (wC S y) w) + bN false = nI (cn (wC S y) w + 0) by rw [← nI_add]; rfl]; exact this
            · rw [show nI (cn (wC S y) w) + bN true = nI (cn (wC S y) w + 1) by rw [← nI_add]; rfl]; exact this
          refine bX11_worldsTrue_87 (fun hz => bX11_worldsTrue_94 (st false (bN_0 hz))) (fun hz => bX11_worldsTrue_90 (st true (bN_1 hz)))
      exact go
end
