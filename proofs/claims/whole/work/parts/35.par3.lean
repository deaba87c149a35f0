/-! ===== the class's parser: units without signs ===== -/
/-- what a reading from place p0 on, u nodes used, o signs open, comes to -/
def pOK (L : Nat) (h : vH) (u o p0 : Nat) (res : PR) (Q : vQ) : Prop :=
  (∀ q, res = .inl q → ∀ h', fp 0 h h' → hI h' 41 4 = nI q → q ≤ L → Q (some (vR none)) h') ∧
  ∀ t p', res = .inr (t, p') → ∀ h' u' b, fp u h h' → hI h' 41 2 = nI u' → hI h' 41 3 = nI o → hI h' 41 4 = nI p' → nd h' t u u' b → hR h' (nA b) 8 = none → u' + p0 + 1 ≤ u + p' → Q (some (vR (some (nA b)))) h'
theorem pOK.pre {L : Nat} {h h1 : vH} {u o p0 : Nat} {res : PR} {Q : vQ} (x : pOK L h u o p0 res Q) (f : fp u h h1) : pOK L h1 u o p0 res Q :=
  ⟨fun q e h' f' => x.1 q e h' (f.z.tr f'), fun t p' e h' u' b f' => x.2 t p' e h' u' b (f.tr f')⟩
def rR (Q : vQ) : vQ := fun r h' => ∃ A, r = some (vR A) ∧ Q (some (vR A)) h'
theorem pOK.R {L : Nat} {h : vH} {u o p0 : Nat} {res : PR} {Q : vQ} (x : pOK L h u o p0 res Q) : pOK L h u o p0 res (rR Q) :=
  ⟨fun q e h' a b c => ⟨_, rfl, x.1 q e h' a b c⟩, fun t p' e h' u' b a1 a2 a3 a4 a5 a6 a7 => ⟨_, rfl, x.2 t p' e h' u' b a1 a2 a3 a4 a5 a6 a7⟩⟩
/-- the parser's numbers -/
def pst (h : vH) (u o p : Nat) : Prop := hI h 41 2 = nI u ∧ hI h 41 3 = nI o ∧ hI h 41 4 = nI p
theorem pst.at {h : vH} {u o p q : Nat} (x : pst h u o p) : pst (uI h 41 4 (nI q)) u o q :=
  ⟨by rw [hI_uIk _ _ _ (by decide)]; exact x.1, by rw [hI_uIk _ _ _ (by decide)]; exact x.2.1, hI_uIs _ _ _ _⟩
theorem c_simple {d cx n u o p kd nm pl pl2 : Nat} {h : vH} {t : Nat → Nat} {L : Nat} {Q : vQ} (hd : 1 ≤ d) (x : pin h t L) (ps : pst h u o p) (hu : u < 62) (hkd : 6 ≤ kd) (h1 : pl < 1000) (h2 : pl2 < 1000) (c1 : 120 ≤ chAt t L pl) (c2 : 120 ≤ chAt t L pl2)
    (k : ∀ h', fp u h h' → pst h' (u + 1) o p → nd h' (lf kd nm pl pl2 (chAt t L pl - 120) (chAt t L pl2 - 120)) u (u + 1) u → hR h' (nA u) 8 = none → Q (some (vR (some (nA u)))) h') : vm_C mX6_simple d cx n [vR (some 41), vI (nI kd), vI (nI nm), vI (nI pl), vI (nI pl2)] h Q := by
  have l := x.1.2.2.2.2.1
  have f1 : fp u h (tkn h u (nI kd)) := fp_tkn (Nat.le_refl _) hu
  refine bX6_simple_0 (R := fun r h' => r = some (vR (some (nA u))) ∧ tkn h u (nI kd) = h') l.1 hd (c_taken l hu ps.1 ⟨rfl, rfl⟩) ?_
  rintro r h' ⟨rfl, rfl⟩
  refine bX6_simple_5 (fun hz => absurd hz nofun) (fun _ => bX6_simple_12 (l.nk hu) ?_)
  have f2 : fp u h (uI (uI (uI (tkn h u (nI kd)) (nA u) 1 (nI nm)) (nA u) 2 (nI pl)) (nA u) 3 (nI pl2)) := ((f1.tr (fp_nI (Nat.le_refl _) hu)).tr (fp_nI (Nat.le_refl _) hu)).tr (fp_nI (Nat.le_refl _) hu)
  generalize eg : uI (uI (uI (tkn h u (nI kd)) (nA u) 1 (nI nm)) (nA u) 2 (nI pl)) (nA u) 3 (nI pl2) = g at f2
  have x2 := x.fp f2
  have l2 := x2.1.2.2.2.2.1
  refine bX6_simple_31 (b3 := 39) (R := fun r h' => r = some (vI (nI (chAt t L pl))) ∧ g = h') l2.1 l2.2.1 x2.1.2.2.2.1.1 hd (c_pat x2 h1 ⟨rfl, rfl⟩) ?_
  rintro r h' ⟨rfl, rfl⟩
  have e1 : nI (chAt t L pl) - 120 = nI (chAt t L pl - 120) := pk_sub (b := 120) c1
  have e2 : nI (chAt t L pl2) - 120 = nI (chAt t L pl2 - 120) := pk_sub (b := 120) c2
  have f3 : fp u h (uI g (nA u) 4 (nI (chAt t L pl - 120))) := f2.tr (fp_nI (Nat.le_refl _) hu)
  have x3 := x.fp f3
  have l3 := x3.1.2.2.2.2.1
  refine bX6_simple_41 (b4 := 39) (R := fun r h' => r = some (vI (nI (chAt t L pl2))) ∧ uI g (nA u) 4 (nI (chAt t L pl - 120)) = h') (l2.nk hu) l2.1 l2.2.1 x2.1.2.2.2.1.1 hd (by rw [e1]; exact c_pat x3 h2 ⟨rfl, rfl⟩) ?_
  rintro r h' ⟨rfl, rfl⟩
  refine bX6_simple_58 (l2.nk hu) (bX6_simple_64 ?_)
  rw [e2]
  have n41 := (nA41 u).symm
  refine k _ (f3.tr (fp_nI (Nat.le_refl _) hu)) ⟨?_, ?_, ?_⟩ (nd_i.mpr ⟨Nat.le_refl _, by omega, by omega, ⟨?_, fun _ => ⟨?_, ?_, ?_, ?_⟩, fun _ => ?_⟩, ?_⟩) ?_
  · rw [hI_uIn _ _ _ n41, hI_uIn _ _ _ n41, ← eg, hI_uIn _ _ _ n41, hI_uIn _ _ _ n41, hI_uIn _ _ _ n41, hI_tkn, if_neg (fun w => n41 w.1), if_pos ⟨rfl, rfl⟩]
  · rw [hI_uIn _ _ _ n41, hI_uIn _ _ _ n41, ← eg, hI_uIn _ _ _ n41, hI_uIn _ _ _ n41, hI_uIn _ _ _ n41, hI_tkn, if_neg (fun w => n41 w.1), if_neg (by omega)]; exact ps.2.1
  · rw [hI_uIn _ _ _ n41, hI_uIn _ _ _ n41, ← eg, hI_uIn _ _ _ n41, hI_uIn _ _ _ n41, hI_uIn _ _ _ n41, hI_tkn, if_neg (fun w => n41 w.1), if_neg (by omega)]; exact ps.2.2
  · rw [hI_uIk _ _ _ (by decide), hI_uIk _ _ _ (by decide), ← eg, hI_uIk _ _ _ (by decide), hI_uIk _ _ _ (by decide), hI_uIk _ _ _ (by decide), hI_tkn, if_pos ⟨rfl, rfl⟩]
  · rw [hI_uIk _ _ _ (by decide), hI_uIk _ _ _ (by decide), ← eg, hI_uIk _ _ _ (by decide), hI_uIk _ _ _ (by decide), hI_uIs]
  · rw [hI_uIk _ _ _ (by decide), hI_uIk _ _ _ (by decide), ← eg, hI_uIs]
  · rw [hI_uIk _ _ _ (by decide), hI_uIs]
  · rw [hI_uIs]
  · rw [hI_uIk _ _ _ (by decide), hI_uIk _ _ _ (by decide), ← eg, hI_uIk _ _ _ (by decide), hI_uIs]
  · refine cd_l.mpr ⟨?_, ?_⟩
    · rw [← eg]; show hR (tkn h u (nI kd)) (nA u) 6 = none; rw [hR_tkn, if_pos ⟨rfl, by decide, by decide⟩]
    · rw [← eg]; show hR (tkn h u (nI kd)) (nA u) 7 = none; rw [hR_tkn, if_pos ⟨rfl, by decide, by decide⟩]
  · rw [← eg]; show hR (tkn h u (nI kd)) (nA u) 8 = none; rw [hR_tkn, if_pos ⟨rfl, by decide, by decide⟩]
theorem c_aboutOne {d cx n u o p p0 kd nm : Nat} {h : vH} {t : Nat → Nat} {L : Nat} {Q : vQ} (hd : 3 ≤ d) (x : pin h t L) (ps : pst h u o p) (hu : u < 62) (hkd : 6 ≤ kd) (h1 : p0 + 1 ≤ p) (hp : p ≤ L) (k : pOK L h u o p0 (sz1 (chAt t L) kd nm p) Q) : vm_C mX6_aboutOne d cx n [vR (some 41), vI (nI kd), vI (nI nm)] h Q := by
  have l := x.1.2.2.2.2.1
  have hL := x.2.2.1
  unfold sz1 at k
  refine bX6_aboutOne_0 (R := fun r h' => (isv (chAt t L p) = true ∧ r = some (vI 1) ∧ uI h 41 4 (nI (p + 1)) = h') ∨ (¬ isv (chAt t L p) = true ∧ r = some (vI 0) ∧ h = h')) l.1 (by omega) (c_skipVariable (by omega) x (by omega) ps.2.2 (fun hv => Or.inl ⟨hv, rfl, rfl⟩) (fun hv => Or.inr ⟨hv, rfl, rfl⟩)) ?_
  rintro r h' (⟨hv, rfl, rfl⟩ | ⟨hv, rfl, rfl⟩)
  · rw [if_pos hv] at k
    have hv2 := isv_iff.mp hv
    have f0 : fp u h (uI h 41 4 (nI (p + 1))) := fp_41
    refine bX6_aboutOne_9 (fun hz => absurd hz (by decide +kernel)) (fun _ => ?_)
    rw [ps.2.2]
    refine bX6_aboutOne_12 (R := rR Q) l.1 (by omega) (c_simple (by omega) (x.fp f0) (ps.at (q := p + 1)) hu hkd (by omega) (by omega) hv2.1 hv2.1 (fun h' f s nn e8 => ⟨_, rfl, k.2 _ _ rfl h' (u + 1) u (f0.tr f) s.1 s.2.1 s.2.2 nn e8 (by omega)⟩)) ?_
    rintro r h' ⟨A, rfl, q⟩
    exact bX6_aboutOne_20 (bX6_aboutOne_24 q)
  · rw [if_neg hv] at k
    exact bX6_aboutOne_9 (fun _ => bX6_aboutOne_23 (bX6_aboutOne_24 (k.1 p rfl h fp.rf ps.2.2 hp))) (fun hz => absurd rfl hz)
theorem c_aboutTwo {d cx n u o p p0 nm : Nat} {h : vH} {t : Nat → Nat} {L : Nat} {Q : vQ} (hd : 3 ≤ d) (x : pin h t L) (ps : pst h u o p) (hu : u < 62) (h1 : p0 + 1 ≤ p) (hp : p ≤ L) (k : pOK L h u o p0 (sz2 (chAt t L) nm p) Q) : vm_C mX6_aboutTwo d cx n [vR (some 41), vI (nI nm)] h Q := by
  have l := x.1.2.2.2.2.1
  have hL := x.2.2.1
  unfold sz2 at k
  refine bX6_aboutTwo_0 (R := fun r h' => (isv (chAt t L p) = true ∧ r = some (vI 1) ∧ uI h 41 4 (nI (p + 1)) = h') ∨ (¬ isv (chAt t L p) = true ∧ r = some (vI 0) ∧ h = h')) l.1 (by omega) (c_skipVariable (by omega) x (by omega) ps.2.2 (fun hv => Or.inl ⟨hv, rfl, rfl⟩) (fun hv => Or.inr ⟨hv, rfl, rfl⟩)) ?_
  rintro r h' (⟨hv, rfl, rfl⟩ | ⟨hv, rfl, rfl⟩)
  · rw [if_pos hv] at k
    have hv2 := isv_iff.mp hv
    have hpL := isv_lt x.cok hv
    have f0 : fp u h (uI h 41 4 (nI (p + 1))) := fp_41
    refine bX6_aboutTwo_9 (fun hz => absurd hz (by decide +kernel)) (fun _ => ?_)
    rw [ps.2.2]
    refine bX6_aboutTwo_12 (R := fun r h' => (isv (chAt t L (p + 1)) = true ∧ r = some (vI 1) ∧ uI (uI h 41 4 (nI (p + 1))) 41 4 (nI (p + 2)) = h') ∨ (¬ isv (chAt t L (p + 1)) = true ∧ r = some (vI 0) ∧ uI h 41 4 (nI (p + 1)) = h')) l.1 (by omega) (c_skipVariable (by omega) (x.fp f0) (by omega) (ps.at (q := p + 1)).2.2 (fun hv => Or.inl ⟨hv, rfl, rfl⟩) (fun hv => Or.inr ⟨hv, rfl, rfl⟩)) ?_
    rintro r h' (⟨hw, rfl, rfl⟩ | ⟨hw, rfl, rfl⟩)
    · rw [if_pos hw] at k
      have hw2 := isv_iff.mp hw
      have f1 : fp u h (uI (uI h 41 4 (nI (p + 1))) 41 4 (nI (p + 2))) := f0.tr fp_41
      refine bX6_aboutTwo_16 (fun hz => absurd hz (by decide +kernel)) (fun _ => ?_)
      refine bX6_aboutTwo_19 (R := rR Q) l.1 (by omega) ?_ ?_
      · rw [nI_1]
        exact c_simple (kd := 8) (by omega) (x.fp f1) ((ps.at (q := p + 1)).at (q := p + 2)) hu (by decide) (by omega) (by omega) hv2.1 hw2.1 (fun h' f s nn e8 => ⟨_, rfl, k.2 _ _ rfl h' (u + 1) u (f1.tr f) s.1 s.2.1 s.2.2 nn e8 (by omega)⟩)
      · rintro r h' ⟨A, rfl, q⟩
        exact bX6_aboutTwo_30 (bX6_aboutTwo_34 q)
    · rw [if_neg hw] at k
      exact bX6_aboutTwo_16 (fun _ => bX6_aboutTwo_33 (bX6_aboutTwo_34 (k.1 (p + 1) rfl _ f0.z (hI_uIs _ _ _ _) (by omega)))) (fun hz => absurd rfl hz)
  · rw [if_neg hv] at k
    exact bX6_aboutTwo_9 (fun _ => bX6_aboutTwo_33 (bX6_aboutTwo_34 (k.1 p rfl h fp.rf ps.2.2 hp))) (fun hz => absurd rfl hz)
theorem cnt_t : ∀ x, x < 127 → ((nI x - 48 < 1 → ¬ 49 ≤ x) ∧ (¬ nI x - 48 < 1 → 49 ≤ x)) ∧ ((nI x - 48 ≤ 3 → x ≤ 51) ∧ (¬ nI x - 48 ≤ 3 → ¬ x ≤ 51)) ∧ (48 ≤ x → nI x - 48 = nI (x - 48)) := by decide +kernel
theorem c_count {d cx n u o p p0 : Nat} {h : vH} {t : Nat → Nat} {L : Nat} {Q : vQ} (hd : 4 ≤ d) (x : pin h t L) (ps : pst h u o p) (hu : u < 62) (h1 : p0 + 1 ≤ p) (hp : p ≤ L) (k : pOK L h u o p0 (if 49 ≤ chAt t L p ∧ chAt t L p ≤ 51 then sz1 (chAt t L) 11 (chAt t L p - 48) (p + 1) else .inl p) Q) : vm_C mX6_count d cx n [vR (some 41), vI (nI (chAt t L p) - 48)] h Q := by
  have l := x.1.2.2.2.2.1
  have hc := cnt_t _ (x.c127 p)
  have no : ¬ (49 ≤ chAt t L p ∧ chAt t L p ≤ 51) → Q (some (vR none)) h := fun hz => by
    rw [if_neg hz] at k; exact k.1 p rfl h fp.rf ps.2.2 hp
  refine bX6_count_0 (fun hz => bX6_count_10 (no (fun z => hc.1.1 hz z.1))) (fun n1 => bX6_count_5 (fun n2 => bX6_count_12 (R := rR Q) l.1 (by omega) ?_ ?_) (fun hz => bX6_count_10 (no (fun z => hc.2.1.2 hz z.2))))
  · have y : 49 ≤ chAt t L p ∧ chAt t L p ≤ 51 := ⟨hc.1.2 n1, hc.2.1.1 n2⟩
    have hpL := x.cok.lt (p := p) (by omega)
    rw [if_pos y] at k
    have f0 : fp u h (uI h 41 4 (nI (p + 1))) := fp_41
    rw [ps.2.2, nI_1, hc.2.2 (by omega)]
    exact c_aboutOne (kd := 11) (p0 := p0) (by omega) (x.fp f0) (ps.at (q := p + 1)) hu (by decide) (by omega) (by omega) (k.pre f0).R
  · rintro r h' ⟨A, rfl, q⟩
    exact bX6_count_29 q
theorem c_comparison {d cx n u o p : Nat} {h : vH} {t : Nat → Nat} {L : Nat} {Q : vQ} (hd : 3 ≤ d) (x : pin h t L) (ps : pst h u o p) (hu : u < 62) (hp : p ≤ L) (k : pOK L h u o p (szc (chAt t L) p) Q) : vm_C mX6_comparison d cx n [vR (some 41)] h Q := by
  have l := x.1.2.2.2.2.1
  have hL := x.2.2.1
  unfold szc at k
  refine bX6_comparison_0 (R := fun r h' => (isv (chAt t L p) = true ∧ r = some (vI 1) ∧ uI h 41 4 (nI (p + 1)) = h') ∨ (¬ isv (chAt t L p) = true ∧ r = some (vI 0) ∧ h = h')) l.1 (by omega) (c_skipVariable (by omega) x (by omega) ps.2.2 (fun hv => Or.inl ⟨hv, rfl, rfl⟩) (fun hv => Or.inr ⟨hv, rfl, rfl⟩)) ?_
  rintro r h' (⟨hv, rfl, rfl⟩ | ⟨hv, rfl, rfl⟩)
  · rw [if_pos hv] at k
    have hv2 := isv_iff.mp hv
    have hpL := isv_lt x.cok hv
    have f0 : fp u h (uI h 41 4 (nI (p + 1))) := fp_41
    have s0 := ps.at (q := p + 1)
    have x0 := x.fp f0
    have hc := x.c127 (p + 1)
    generalize eg : uI h 41 4 (nI (p + 1)) = g at f0 s0 x0
    have l0 := x0.1.2.2.2.2.1
    refine bX6_comparison_9 (fun _ => ?_) (fun hz => absurd (by decide +kernel) hz)
    rw [ps.2.2]
    refine bX6_comparison_14 (b2 := 39) (R := fun r h' => r = some (vI (nI (chAt t L (p + 1)))) ∧ g = h') l0.1 l0.2.1 x0.1.2.2.2.1.1 (by omega) (by rw [s0.2.2]; exact c_pat x0 (by omega) ⟨rfl, rfl⟩) ?_
    rintro r h' ⟨rfl, rfl⟩
    have go : ∀ kd, (chAt t L (p + 1) = 61 ∨ chAt t L (p + 1) = 60 → kd = if chAt t L (p + 1) = 61 then 9 else 10) → vm_E mX6_comparison d cx n 37 [some (vR (some 41)), some (vI (nI p)), none] [vI (nI kd)] g Q := by
      intro kd hkd
      have bad : ¬ (chAt t L (p + 1) = 61 ∨ chAt t L (p + 1) = 60) → Q (some (vR none)) g := fun hz => by
        rw [if_neg hz] at k; exact k.1 (p + 1) rfl g f0.z s0.2.2 (by omega)
      have good : (chAt t L (p + 1) = 61 ∨ chAt t L (p + 1) = 60) → vm_E mX6_comparison d cx n 58 [some (vR (some 41)), some (vI (nI p)), some (vI (nI kd))] [] (uI g 41 4 (nI (p + 1 + 1))) Q := fun hz => by
        rw [if_pos hz] at k
        have hk2 := hkd hz
        rw [← hk2] at k
        have hk6 : 6 ≤ kd := by rw [hk2]; split <;> omega
        have hpL1 := x.cok.lt (p := p + 1) (by omega)
        have f1 : fp u h (uI g 41 4 (nI (p + 1 + 1))) := f0.tr fp_41
        have s1 := s0.at (q := p + 1 + 1)
        have x1 := x.fp f1
        generalize eg1 : uI g 41 4 (nI (p + 1 + 1)) = g1 at f1 s1 x1
        have l1 := x1.1.2.2.2.2.1
        refine bX6_comparison_58 (R := fun r h' => (isv (chAt t L (p + 2)) = true ∧ r = some (vI 1) ∧ uI g1 41 4 (nI (p + 2 + 1)) = h') ∨ (¬ isv (chAt t L (p + 2)) = true ∧ r = some (vI 0) ∧ g1 = h')) l1.1 (by omega) (c_skipVariable (by omega) x1 (by omega) s1.2.2 (fun hv => Or.inl ⟨hv, rfl, rfl⟩) (fun hv => Or.inr ⟨hv, rfl, rfl⟩)) ?_
        rintro r h' (⟨hw, rfl, rfl⟩ | ⟨hw, rfl, rfl⟩)
        · rw [if_pos hw] at k
          have hw2 := isv_iff.mp hw
          have f2 : fp u h (uI g1 41 4 (nI (p + 2 + 1))) := f1.tr fp_41
          refine bX6_comparison_62 (fun hz => absurd hz (by decide +kernel)) (fun _ => bX6_comparison_65 (R := rR Q) l1.1 (by omega) ?_ ?_)
          · rw [show nI p + 2 = nI (p + 2) from nI_add p 2]
            exact c_simple (nm := 0) (by omega) (x.fp f2) (s1.at (q := p + 2 + 1)) hu hk6 (by omega) (by omega) hv2.1 hw2.1 (fun h' f s nn e8 => ⟨_, rfl, k.2 _ _ rfl h' (u + 1) u (f2.tr f) s.1 s.2.1 s.2.2 nn e8 (by omega)⟩)
          · rintro r h' ⟨A, rfl, q⟩
            exact bX6_comparison_75 (bX6_comparison_79 q)
        · rw [if_neg hw] at k
          exact bX6_comparison_62 (fun _ => bX6_comparison_78 (bX6_comparison_79 (k.1 (p + 2) rfl _ f1.z s1.2.2 (by omega)))) (fun hz => absurd rfl hz)
      refine bX6_comparison_37 (R := fun r h' => (chAt t L (p + 1) = 61 ∧ r = some (vI 1) ∧ uI g 41 4 (nI (p + 1 + 1)) = h') ∨ (¬ chAt t L (p + 1) = 61 ∧ r = some (vI 0) ∧ g = h')) l0.1 (by omega) (c_skip (s := 61) (by omega) x0 (by omega) (by decide) s0.2.2 (fun hv => Or.inl ⟨hv, rfl, rfl⟩) (fun hv => Or.inr ⟨hv, rfl, rfl⟩)) ?_
      rintro r h' (⟨h61, rfl, rfl⟩ | ⟨h61, rfl, rfl⟩)
      · exact bX6_comparison_44 (fun _ => good (Or.inl h61)) (fun hz => absurd (by decide +kernel) hz)
      · refine bX6_comparison_44 (fun hz => absurd rfl hz) (fun _ => bX6_comparison_47 (R := fun r h' => (chAt t L (p + 1) = 60 ∧ r = some (vI 1) ∧ uI g 41 4 (nI (p + 1 + 1)) = h') ∨ (¬ chAt t L (p + 1) = 60 ∧ r = some (vI 0) ∧ g = h')) l0.1 (by omega) (c_skip (s := 60) (by omega) x0 (by omega) (by decide) s0.2.2 (fun hv => Or.inl ⟨hv, rfl, rfl⟩) (fun hv => Or.inr ⟨hv, rfl, rfl⟩)) ?_)
        rintro r h' (⟨h60, rfl, rfl⟩ | ⟨h60, rfl, rfl⟩)
        · exact bX6_comparison_53 (fun _ => good (Or.inr h60)) (fun hz => absurd (by decide +kernel) hz)
        · exact bX6_comparison_53 (fun hz => absurd rfl hz) (fun _ => bX6_comparison_56 (bad (by omega)))
    refine bX6_comparison_25 (fun hz => bX6_comparison_35 (go 10 (fun w => ?_))) (fun hz => bX6_comparison_30 (go 9 (fun w => ?_)))
    · rw [if_neg (fun z => hz (by rw [z]; rfl))]
    · rw [if_pos ((nI_eq (a := chAt t L (p + 1)) (b := 61) (by omega) (by decide)).mp (Classical.byContradiction hz))]
  · rw [if_neg hv] at k
    exact bX6_comparison_9 (fun hz => absurd rfl hz) (fun _ => bX6_comparison_12 (k.1 p rfl h fp.rf ps.2.2 hp))
