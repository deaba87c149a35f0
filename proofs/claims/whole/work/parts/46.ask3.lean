/-! ===== the class's last questions ===== -/
section
variable {d cx n : Nat} {h : vH} {S : Nat → Int32} {H : List (Nat → Int32)} {t : Nat → Nat} {L : Nat} {Q : vQ}
theorem sb_loop {M : Nat} {x1 : Int32} (ex : x1 = nI M) (hM : M < 2147483648) (hd : 210 ≤ d) (hS : Sok S) : ∀ (y : T) (lo hi b i : Nat) (p f l r2 : Option Nat) (C : Nat → Bool) (g : vH) (_ : hi ≤ 62) (_ : cR g S H t L) (_ : cd g y lo hi b p f l) (_ : (wft y).2) (_ : i ≤ M) (_ : eS (sA g 365) C) (_ : i + ln y < 100) (_ : ∀ h', cF g h' → cR h' S H t L → Q (some (vI (if M - i ≤ ln y then nI (cn (tkF (nS S) (ta1 (wS S)) y (M - i) C) 512) else -7))) h'), vm_E mX10_sizeBehind d cx n 64 [some (vR (some 0)), some (vI x1), some (vR r2), some (vI (nI i)), some (vR f)] [] g Q := by
  have fin : ∀ (y : T) (i : Nat) (r2 r4 : Option Nat) (C : Nat → Bool) (g : vH), cR g S H t L → i ≤ M → i < 100 → eS (sA g 365) C → (i = M ∨ y = .leaf) → (∀ h', cF g h' → cR h' S H t L → Q (some (vI (if M - i ≤ ln y then nI (cn (tkF (nS S) (ta1 (wS S)) y (M - i) C) 512) else -7))) h') → vm_E mX10_sizeBehind d cx n 101 [some (vR (some 0)), some (vI x1), some (vR r2), some (vI (nI i)), some (vR r4)] [] g Q := by
    intro y i r2 r4 C g c hi hi2 eC hy k
    subst ex
    have k := k g cF.rf c
    by_cases hiM : i = M
    · subst hiM
      have hsz := c.res
      have e0 : tkF (nS S) (ta1 (wS S)) y (i - i) C = C := by
        rw [Nat.sub_self]
        cases y <;> rfl
      rw [if_pos (by omega), e0] at k
      refine bX10_sizeBehind_101 (fun hz => absurd rfl hz) (fun _ => bX10_sizeBehind_106 (b4 := 364) (R := fun r h' => r = some (vI (nI (cn C 512))) ∧ g = h') c.1.1.1 c.1.1.2.2.2.2.2.2.2.2.2.2 hsz.1 (by omega) (c_size (by omega) hsz ⟨by rw [cn_ext eC], rfl⟩) ?_)
      rintro r h' ⟨rfl, rfl⟩
      exact bX10_sizeBehind_113 (bX10_sizeBehind_118 k)
    · have hyl : y = .leaf := hy.elim (fun z => absurd z hiM) id
      subst hyl
      have hl0 : ln (.leaf : T) = 0 := rfl
      rw [if_neg (show ¬ M - i ≤ ln (.leaf : T) by rw [hl0]; omega)] at k
      exact bX10_sizeBehind_101 (fun _ => bX10_sizeBehind_116 (bX10_sizeBehind_118 k)) (fun hz => absurd ((nI_eq (a := i) (b := M) (by omega) hM).mp (Classical.byContradiction hz)) hiM)
  intro y
  induction y with
  | leaf =>
    intro lo hi b i p f l r2 C g h62 c y w hi eC hl k
    refine bX10_sizeBehind_64 (fun _ => fin .leaf i r2 f C g c hi (by have : ln .leaf = 0 := rfl; omega) eC (Or.inr rfl) k) (fun hz => absurd y.1 hz)
  | inner kd nm v a r iha ihr =>
    intro lo hi b i p f l r2 C g h62 c y w him eC hl k
    obtain ⟨b', lo', hi', e1, e2, e3, e4, e5, e6, e7⟩ := cd_i.mp y
    have nb := nd_b e5
    have hln : i + (ln r + 1) < 100 := hl
    subst e1
    refine bX10_sizeBehind_64 (fun hz => absurd hz nofun) (fun _ => bX10_sizeBehind_69 (fun hz => ?_) (fun hz => ?_))
    · rw [ex] at hz
      have : M ≤ i := (nI_leI (by omega) (by omega)).mp hz
      exact fin _ i r2 _ C g c him (by omega) eC (Or.inl (by omega)) k
    · have hlt : i < M := by
        rw [ex] at hz
        exact Nat.lt_of_not_le fun z => hz (nI_le z (by omega))
      have hht := (nd_ht a).1 _ _ _ e5
      have va := (ac_ok (nS S) (ta1 (wS S)) a).1 w.1
      have h0 := c.1.1
      have rp := c.rep hS
      refine bX10_sizeBehind_74 (b4 := 354) (R := fun r h' => r = none ∧ fz (mset lo' hi' 365) g h' ∧ eS (sA h' 365) (fw (nS S) (ac (nS S) (ta1 (wS S)) a).1 (sA g 365))) h0.1 h0.2.2.2.2.2.2.1 rp.1.1 (by omega) (by
        rw [h0.2.2.2.2.2.2.2.2.2.2]
        exact (g_all (wS S) a).1 354 2 (d - 1) g lo' hi' b' (by omega) e5 w.1 _ _ _ 364 365 false g (fun _ => False) _ (Nat.le_refl _) fz.rf rp c.res (fun i i1 i2 => nA364 rfl (by omega)) (fun h' f e => ⟨rfl, f, e⟩)) ?_
      rintro r' h1 ⟨rfl, f1, q1⟩
      have fc := f1.c (by omega) (by decide) (by decide)
      have c1 := fc.2 _ _ _ _ c
      refine bX10_sizeBehind_88 (c1.ke.2 b' (by omega)) ?_
      rw [nI_1, f1.R]
      refine ihr hi' hi b (i + 1) _ _ _ r2 (fw (nS S) (ac (nS S) (ta1 (wS S)) a).1 C) h1 h62 c1 ((f1.nd r).2 _ _ _ _ _ _ h62 e7) w.2 (by omega) (q1.tr (fw_ext va eC)) (by omega) (fun h' f c' => ?_)
      have k2 := k h' (fc.1.tr f) c'
      rw [show M - i = (M - (i + 1)) + 1 by omega] at k2
      have e1 : tkF (nS S) (ta1 (wS S)) (.inner kd nm v a r) (M - (i + 1) + 1) C = tkF (nS S) (ta1 (wS S)) r (M - (i + 1)) (fw (nS S) (ac (nS S) (ta1 (wS S)) a).1 C) := rfl
      have e2 : (M - (i + 1) + 1 ≤ ln (.inner kd nm v a r)) = (M - (i + 1) ≤ ln r) := by
        apply propext
        show M - (i + 1) + 1 ≤ ln r + 1 ↔ _
        omega
      rw [e1] at k2
      simp only [e2] at k2
      exact k2
theorem c_sizeBehind {x1 : Int32} (hd : 310 ≤ d) (x : cR h S H t L) (hS : Sok S) (hT : Tok t L) (k : ∀ h', cF h h' → cR h' S H t L → Q (some (vI (f_sizeBehind (ta1 (wS S)) x1 S (chAt t L) L))) h') : vm_C mX10_sizeBehind d cx n [vR (some 0), vI x1] h Q := by
  unfold f_sizeBehind at k
  refine bX10_sizeBehind_0 (fun h1 => ?_) (fun h1 => ?_)
  · have hneg : ¬ x1 < 0 := fun z => by
      rw [Int32.lt_iff_toInt_lt] at z
      rw [Int32.le_iff_toInt_le] at h1
      omega
    rw [cif_f hneg] at k
    obtain ⟨M, hM, ex⟩ : ∃ M, M < 2147483648 ∧ x1 = nI M := by
      have hlt := x1.toInt_lt
      have h0 : (0 : Int32).toInt = 0 := by decide
      rw [Int32.le_iff_toInt_le, h0] at h1
      refine ⟨x1.toInt.toNat, by omega, ?_⟩
      apply Int32.toInt_inj.mp
      rw [nI_toInt (by omega)]
      omega
    have eM : x1.toNatClampNeg = M := by rw [ex]; exact cs hM
    rw [eM] at k
    have h0 := x.1.1
    refine bX10_sizeBehind_6 (b2 := 41) (R := rD h S H t L) h0.1 h0.2.2.2.2.1 x.1.2.2.2.2.1.1 (by omega) (c_disc (by omega) x hT) ?_
    rintro r h' ⟨f, c, ⟨q, e, rfl, e4⟩ | ⟨y, b, e, rfl, y2⟩⟩
    · rw [e] at k
      exact bX10_sizeBehind_13 (fun hz => absurd rfl hz) (fun _ => bX10_sizeBehind_18 (k h' f c))
    · rw [e] at k
      have k : ∀ h', cF h h' → cR h' S H t L → Q (some (vI (if (un y).2.1 (kS S) = none then (if M ≤ ln y then nI (cn (tkF (nS S) (ta1 (wS S)) y M (ctx S)) 512) else -7) else -3))) h' := k
      have h0' := c.1.1
      have wf := dsc_wf hT.c hT.1 e
      refine bX10_sizeBehind_13 (fun _ => bX10_sizeBehind_21 (b3 := 353) (b4 := 1) (R := rK h' S H t L y b (kS S)) h0'.1 h0'.2.2.2.2.2.1 h0'.2.1 c.1.2.1.1 c.ke.1 (by omega) (by
        rw [c.2.1.2.2.2.2.1, hS.k.1]
        exact c_suff (by omega) c wf.1 y2 hS.k.2) ?_) (fun hz => absurd nofun hz)
      rintro r h2 ⟨f2, c2, y3, q, ⟨eu, rfl, _⟩ | ⟨eu, rfl⟩⟩
      · rw [if_pos eu] at k
        have h02 := c2.1.1
        have st := c2.1.2.1
        refine bX10_sizeBehind_36 (fun _ => ?_) (fun hz => absurd (by decide +kernel) hz)
        refine bX10_sizeBehind_42 (b3 := 364) (b4 := 1) (R := fun r h3 => r = none ∧ uS h2 365 (sA h2 6) = h3) h02.1 h02.2.2.2.2.2.2.2.2.2.2 h02.2.1 st.1 c2.res.1 (by omega) (by
          rw [st.2.2.2.2]
          exact c_copyFrom c2.res st.2.2.1 ⟨rfl, rfl⟩) ?_
        rintro r h3 ⟨rfl, rfl⟩
        have f3 : fz (mset 0 0 365) h2 (uS h2 365 (sA h2 6)) := (fz_uS _ _ _).mono (fun r z => Or.inl z)
        have fc := f3.c (by decide) (by decide) (by decide)
        have c3 := fc.2 _ _ _ _ c2
        have hb := nd_b y3
        obtain ⟨e1, e2, e3, e4, e5⟩ := nd_i.mp ((f3.nd _).1 _ _ _ y3)
        refine bX10_sizeBehind_58 (c3.ke.2 b (by omega)) ?_
        refine sb_loop ex hM (by omega) hS y 0 62 b 0 _ _ _ _ (ctx S) _ (Nat.le_refl _) c3 e5 wf.2.1 (Nat.zero_le _) ((eS_uS _ _ _).tr (fun k hk => c2.2.1.2.2.2.2.2.2 k hk)) (by have := hT.1; omega) (fun h' f4 c4 => ?_)
        exact k h' (f.tr (f2.tr (fc.1.tr f4))) c4
      · rw [if_neg eu] at k
        exact bX10_sizeBehind_36 (fun hz => absurd rfl hz) (fun _ => bX10_sizeBehind_39 (k h2 (f.tr f2) c2))
  · have hneg : x1 < 0 := by
      rw [Int32.lt_iff_toInt_lt]
      rw [Int32.le_iff_toInt_le] at h1
      omega
    rw [cif_t hneg] at k
    exact bX10_sizeBehind_4 (k h cF.rf x)
theorem c_supports (hd : 310 ≤ d) (x : cR h S H t L) (hS : Sok S) (hT : Tok t L) (k : ∀ h', cF h h' → cR h' S H t L → Q (some (vI (f_supports (ta1 (wS S)) S (chAt t L) L))) h') : vm_C mX10_supports d cx n [vR (some 0)] h Q := by
  unfold f_supports at k
  have h0 := x.1.1
  refine bX10_supports_0 (b2 := 41) (R := rD h S H t L) h0.1 h0.2.2.2.2.1 x.1.2.2.2.2.1.1 (by omega) (c_disc (by omega) x hT) ?_
  rintro r h' ⟨f, c, ⟨q, e, rfl, e4⟩ | ⟨y, b, e, rfl, y2⟩⟩
  · rw [e] at k
    exact bX10_supports_7 (fun hz => absurd rfl hz) (fun _ => bX10_supports_12 (k h' f c))
  · rw [e] at k
    have k : ∀ h', cF h h' → cR h' S H t L → Q (some (vI (if (un y).2.1 (kS S) = none then (if al (ctx S) (hasR (nS S) (ac (nS S) (ta1 (wS S)) y).2.1) = true then 1 else 0) else -3))) h' := k
    have h0' := c.1.1
    have wf := dsc_wf hT.c hT.1 e
    refine bX10_supports_7 (fun _ => bX10_supports_15 (b3 := 353) (b4 := 1) (R := rK h' S H t L y b (kS S)) h0'.1 h0'.2.2.2.2.2.1 h0'.2.1 c.1.2.1.1 c.ke.1 (by omega) (by
      rw [c.2.1.2.2.2.2.1, hS.k.1]
      exact c_suff (by omega) c wf.1 y2 hS.k.2) ?_) (fun hz => absurd nofun hz)
    rintro r h2 ⟨f2, c2, y3, q, ⟨eu, rfl, _⟩ | ⟨eu, rfl⟩⟩
    · rw [if_pos eu] at k
      have h02 := c2.1.1
      have rp := c2.rep hS
      have hht := (nd_ht (no 2 0 y)).1 _ _ _ y3
      have va := (ac_ok (nS S) (ta1 (wS S)) (no 2 0 y)).1 wf.1
      refine bX10_supports_30 (fun _ => ?_) (fun hz => absurd (by decide +kernel) hz)
      refine bX10_supports_36 (b3 := 354) (R := fun r h' => r = none ∧ fz (mset 0 62 365) h2 h' ∧ eS (sA h' 365) (hasR (nS S) (ac (nS S) (ta1 (wS S)) y).2.1)) h02.1 h02.2.2.2.2.2.2.1 rp.1.1 (by omega) (by
        rw [h02.2.2.2.2.2.2.2.2.2.2]
        refine c_findS ((g_all (wS S) (no 2 0 y)).1 354 2 (d - 2) h2 0 62 b (by omega) y3 wf.1) va (by omega) (fz.rf (A := fun _ => False)) rp c2.res (fun i i1 i2 => nA364 rfl (by omega)) (fun h' f e => ⟨rfl, f, ?_⟩)
        rw [ac_no _ _ _ _ _ (by decide)] at e
        exact e) ?_
      rintro r h3 ⟨rfl, f3, q3⟩
      have fc := f3.c (by decide) (by decide) (by decide)
      have c3 := fc.2 _ _ _ _ c2
      have h03 := c3.1.1
      have st := c3.1.2.1
      have eal : al (ctx S) (hasR (nS S) (ac (nS S) (ta1 (wS S)) y).2.1) = al (sA h3 6) (sA h3 365) := al_ext (fun k hk => (c3.2.1.2.2.2.2.2.2 k hk).symm) q3.sy
      have k3 := k h3 (f.tr (f2.tr fc.1)) c3
      rw [eal] at k3
      refine bX10_supports_48 (b3 := 1) (b4 := 4 + 1) (R := fun r h' => r = some (vI (bN (al (sA h3 6) (sA h3 365)))) ∧ h3 = h') h03.1 h03.2.1 st.1 st.2.2.2.2 st.2.2.1.1 (by omega) (by
        rw [h03.2.2.2.2.2.2.2.2.2.2]
        refine c_isWithin st.2.2.1 c3.res (fun z => ⟨?_, rfl⟩) (fun z => ⟨?_, rfl⟩)
        · rw [show al (sA h3 6) (sA h3 365) = true from al_t.mpr z]; rfl
        · rw [show al (sA h3 6) (sA h3 365) = false from by
            cases e : al (sA h3 6) (sA h3 365)
            · rfl
            · exact absurd (al_t.mp e) z]; rfl) ?_
      rintro r h4 ⟨rfl, rfl⟩
      cases eb : al (sA h3 6) (sA h3 365)
      · rw [eb, if_neg (by decide)] at k3
        exact bX10_supports_62 (fun _ => bX10_supports_69 (bX10_supports_70 k3)) (fun hz => absurd rfl hz)
      · rw [eb, if_pos rfl] at k3
        exact bX10_supports_62 (fun hz => absurd hz (by decide +kernel)) (fun _ => bX10_supports_65 (bX10_supports_70 k3))
    · rw [if_neg eu] at k
      exact bX10_supports_30 (fun hz => absurd rfl hz) (fun _ => bX10_supports_33 (k h2 (f.tr f2) c2))
/-- the other world, as far as it stands -/
def oW (h : vH) (S : Nat → Int32) : Prop := hI h 360 0 = nI (nS S) ∧ hI h 361 2 = S 3 ∧ ∀ i, i < 2 → hI h 362 i = S (4 + i)
theorem oW.fz {h h' : vH} {A : Nat → Prop} (x : oW h S) (f : fz A h h') : oW h' S := by unfold oW at *; rw [f.I]; exact x
/-- what the counting of worlds writes: sets, and two numbers of the other world -/
def fo (h h' : vH) : Prop := h'.2.2 = h.2.2 ∧ (∀ r, r ≠ 361 → hI h' r = hI h r) ∧ ∀ r, ¬ mset 0 62 365 r → hL h' r = hL h r
theorem fo.rf {h : vH} : fo h h := ⟨rfl, fun _ _ => rfl, fun _ _ => rfl⟩
theorem fo.tr {h h' h2 : vH} (x : fo h h') (y : fo h' h2) : fo h h2 := ⟨y.1.trans x.1, fun r hr => (y.2.1 r hr).trans (x.2.1 r hr), fun r hr => (y.2.2 r hr).trans (x.2.2 r hr)⟩
theorem fo.f {h h' : vH} (x : fo h h') : fr (fun r => r = 361 ∨ mset 0 62 365 r) h h' := ⟨x.1, fun r hr => ⟨x.2.1 r (fun z => hr (Or.inl z)), x.2.2 r (fun z => hr (Or.inr z))⟩⟩
theorem fo.c {h h' : vH} (x : fo h h') : cF h h' ∧ ∀ (S : Nat → Int32) (H : List (Nat → Int32)) (t : Nat → Nat) (L : Nat), cR h S H t L → cR h' S H t L := by
  have key : ∀ r, r = 361 ∨ mset 0 62 365 r → 40 < r ∧ r < 366 := by
    rintro r (z | z | ⟨i, i1, i2, z⟩)
    · omega
    · omega
    · unfold nA at z; omega
  exact ⟨x.f.c (fun r hr => (key r hr).2), fun S H t L c => c.fr x.f (fun r hr => (key r hr).1)⟩
theorem fo.nd {h h' : vH} (x : fo h h') (t : T) : (∀ lo hi b, nd h t lo hi b → nd h' t lo hi b) :=
  (nd_same (fun i hi => x.2.1 _ (by unfold nA; omega)) (fun i _ => by rw [show hR h' = hR h from congrArg (fun q => q.1) x.1]) t).1
theorem oW.fo {h h' : vH} (x : oW h S) (f : fo h h') (h2 : hI h' 361 2 = hI h 361 2) : oW h' S := by
  unfold oW at *; rw [f.2.1 360 (by decide), f.2.1 362 (by decide), h2]; exact x
theorem c_isTrue {b p q : Nat} {y : T} (hd : 220 ≤ d) (x : cR h S H t L) (hS : Sok S) (w : (wft (no 2 0 y)).1) (y2 : nd h (no 2 0 y) 0 62 b) (o : oW h S) (e0 : hI h 361 0 = nI p) (e1 : hI h 361 1 = nI q) (hp : p < 8) (hq : q < 8) (k : ∀ h', fo h h' → hI h' 361 = hI h 361 → Q (some (vI (bN (!emp (fw (nS S) (ac (nS S) (ta1 (wP S p q)) y).2.1 (fun k => decide (k = 0))))))) h') : vm_C mX10_isTrueInOtherWorld d cx n [vR (some 0), vR (some (nA b))] h Q := by
  have h0 := x.1.1
  have hn := hS.n
  have hw := hS.w
  obtain ⟨l1, l2, l3, l4, l5, l6, l7, l8, l9, l10, l11, l12, l13⟩ := x.1.2.2.2.2.2
  refine bX10_isTrueInOtherWorld_0 (b3 := 364) (R := fun r h' => r = none ∧ uS h 365 (fun k => decide (k = 0)) = h') h0.1 h0.2.2.2.2.2.2.2.2.2.2 l13.1 (by omega) (c_makeFirst (by omega) l13 ⟨rfl, rfl⟩) ?_
  rintro r h' ⟨rfl, rfl⟩
  have f1 := fz_uS h 365 (fun k => decide (k = 0))
  have m0 : rep h 363 360 (wP S p q) := ⟨⟨l11, l12, l10, o.1, by show nS S < 4; omega, fun i hi => ?_, fun i hi => ⟨by rw [show hI h (360 + 2) i = S (4 + i) from o.2.2 i hi]; exact (hw.2 i hi).1, (hw.2 i hi).2⟩⟩, fun i hi => (x.1.2.2.2.2.1.2.2.2.2 i hi).2⟩
  · have m1 := f1.p m0
    have y3 := (f1.nd _).1 _ _ _ y2
    have hht := (nd_ht (no 2 0 y)).1 _ _ _ y3
    have va := (ac_ok (nS S) (ta1 (wP S p q)) (no 2 0 y)).1 w
    have l13' := l13.fr f1.f
    refine bX10_isTrueInOtherWorld_7 (b3 := 363) (R := fun r h' => r = none ∧ fz (mset 0 62 365) (uS h 365 (fun k => decide (k = 0))) h' ∧ eS (sA h' 365) (fw (nS S) (ac (nS S) (ta1 (wP S p q)) y).2.1 (fun k => decide (k = 0)))) h0.1 h0.2.2.2.2.2.2.2.2.2.1 l11 (by omega) (by
      rw [show hR (uS h 365 (fun k => decide (k = 0))) 0 9 = some 364 from h0.2.2.2.2.2.2.2.2.2.2]
      refine (g_all (wP S p q) (no 2 0 y)).1 363 360 (d - 1) _ 0 62 b (by omega) y3 w _ _ _ 364 365 false _ (fun _ => False) _ (Nat.le_refl _) fz.rf m1 l13' (fun i i1 i2 => nA364 rfl (by omega)) (fun h' f e => ⟨rfl, f, ?_⟩)
      have e2 : eS (sA h' 365) (fw (nS S) (ac (nS S) (ta1 (wP S p q)) (no 2 0 y)).1 (fun k => decide (k = 0))) := e.tr (fw_ext va (eS_uS _ _ _))
      rw [ac_no _ _ _ _ _ (by decide)] at e2
      exact e2) ?_
    rintro r h2 ⟨rfl, f2, q2⟩
    have fo2 : fo h h2 := ⟨f2.2.1.trans f1.2.1, fun r _ => by rw [f2.I, f1.I], fun r hr => (f2.2.2 r hr).trans (f1.2.2 r (fun z => hr (Or.inl z)))⟩
    have c2 := (fo2.c).2 _ _ _ _ x
    have h02 := c2.1.1
    have k2 := k h2 fo2 (by rw [f2.I, f1.I])
    have ee : emp (fw (nS S) (ac (nS S) (ta1 (wP S p q)) y).2.1 (fun k => decide (k = 0))) = emp (sA h2 365) := emp_ext q2.sy
    rw [ee] at k2
    refine bX10_isTrueInOtherWorld_20 (b3 := 364) (R := fun r h' => r = some (vI (bN (emp (sA h2 365)))) ∧ h2 = h') h02.1 h02.2.2.2.2.2.2.2.2.2.2 c2.res.1 (by omega) (c_isEmpty (by omega) c2.res (fun z => ⟨?_, rfl⟩) (fun z => ⟨?_, rfl⟩)) ?_
    · rw [show emp (sA h2 365) = true from emp_t.mpr z]; rfl
    · rw [show emp (sA h2 365) = false from by
        cases e : emp (sA h2 365)
        · rfl
        · exact absurd (emp_t.mp e) z]; rfl
    · rintro r h3 ⟨rfl, rfl⟩
      cases eb : emp (sA h2 365)
      · rw [eb] at k2
        exact bX10_isTrueInOtherWorld_27 (fun hz => absurd rfl hz) (fun _ => bX10_isTrueInOtherWorld_30 (bX10_isTrueInOtherWorld_35 rfl k2))
      · rw [eb] at k2
        exact bX10_isTrueInOtherWorld_27 (fun _ => bX10_isTrueInOtherWorld_34 (bX10_isTrueInOtherWorld_35 rfl k2)) (fun hz => absurd (by decide +kernel) hz)
  · match i, hi with
    | 0, _ => exact ⟨e0, hp⟩
    | 1, _ => exact ⟨e1, hq⟩
    | 2, _ => exact ⟨by rw [show hI h (360 + 1) 2 = S 3 from o.2.1]; exact (hw.1 2 (by decide)).1, (hw.1 2 (by decide)).2.2⟩
theorem sm_s (f : Nat → Nat) (n : Nat) : sm f (n + 1) = sm f n + f n := rfl
theorem c_worldsTrue (hd : 310 ≤ d) (x : cR h S H t L) (hS : Sok S) (hT : Tok t L) (k : ∀ h', cF h h' → cR h' S H t L → Q (some (vI (f_worldsTrue S (chAt t L) L))) h') : vm_C mX10_worldsTrue d cx n [vR (some 0)] h Q := by
  unfold f_worldsTrue at k
  have h0 := x.1.1
  refine bX10_worldsTrue_0 (b2 := 41) (R := rD h S H t L) h0.1 h0.2.2.2.2.1 x.1.2.2.2.2.1.1 (by omega) (c_disc (by omega) x hT) ?_
  rintro r h' ⟨f, c, ⟨q, e, rfl, e4⟩ | ⟨y, b, e, rfl, y2⟩⟩
  · rw [e] at k
    exact bX10_worldsTrue_7 (fun hz => absurd rfl hz) (fun _ => bX10_worldsTrue_12 (k h' f c))
  · rw [e] at k
    have hn := hS.n
    have hp2 : 1 ≤ 2 ^ nS S ∧ 2 ^ nS S ≤ 8 := (by decide : ∀ m, m < 4 → 1 ≤ 2 ^ m ∧ 2 ^ m ≤ 8) _ (by omega)
    let g : Nat → Nat → Bool := fun p q => !emp (fw (nS S) (ac (nS S) (ta1 (wP S p q)) y).2.1 (fun k => decide (k = 0)))
    have k : ∀ h', cF h h' → cR h' S H t L → Q (some (vI (if (un y).2.1 0 = none then nI (sm (fun p => cn (g p) (2 ^ nS S)) (2 ^ nS S)) else -3))) h' := k
    have h0' := c.1.1
    have wf := dsc_wf hT.c hT.1 e
    refine bX10_worldsTrue_7 (fun _ => bX10_worldsTrue_15 (b3 := 353) (R := rK h' S H t L y b 0) h0'.1 h0'.2.2.2.2.2.1 c.ke.1 (by omega) (c_suff (K := 0) (by omega) c wf.1 y2 (by decide)) ?_) (fun hz => absurd nofun hz)
    rintro r h2 ⟨f2, c2, y3, q, ⟨eu, rfl, _⟩ | ⟨eu, rfl⟩⟩
    · rw [if_pos eu] at k
      have h02 := c2.1.1
      have st := c2.1.2.1
      have ow := c2.1.2.2.2.2.2.2.2.2.2.2.2.2.2.2.1
      refine bX10_worldsTrue_24 (fun _ => ?_) (fun hz => absurd (by decide +kernel) hz)
      refine bX10_worldsTrue_30 (b3 := 1) (b4 := 2) (R := fun r h' => r = some (vI (nI (2 ^ nS S - 1))) ∧ h2 = h') h02.1 h02.2.1 st.1 st.2.2.2.1 st.2.1.1 (by omega) (c_everybody st.2.1 (by omega) (c2.n hS) ⟨rfl, rfl⟩) ?_
      rintro r h3 ⟨rfl, rfl⟩
      refine bX10_worldsTrue_42 (b3 := 360) (b4 := 1) (R := fun r h' => r = none ∧ pI (pI (uI h2 360 0 (hI h2 2 0)) (360 + 1) 3 (hI h2 3)) (360 + 2) 2 (hI h2 4) = h') h02.1 h02.2.2.2.2.2.2.2.2.1 h02.2.1 st.1 ow.1 (by omega) (by
        rw [st.2.2.2.1]
        exact c_World_copyFrom ow st.2.1 (Or.inr (by decide)) ⟨rfl, rfl⟩) ?_
      rintro r h3 ⟨rfl, rfl⟩
      have f3 : fr (fun r => 360 ≤ r ∧ r ≤ 362) h2 (pI (pI (uI h2 360 0 (hI h2 2 0)) (360 + 1) 3 (hI h2 3)) (360 + 2) 2 (hI h2 4)) := (((fr_uI h2 360 0 _).tr (fr_pI _ _ _ _)).tr (fr_pI _ _ _ _)).mono (fun r z => by omega)
      have o3 : oW (pI (pI (uI h2 360 0 (hI h2 2 0)) (360 + 1) 3 (hI h2 3)) (360 + 2) 2 (hI h2 4)) S := by
        refine ⟨?_, ?_, fun i hi => ?_⟩
        · rw [hI_pIn _ _ _ (by decide), hI_pIn _ _ _ (by decide), hI_uIs]; exact c2.n hS
        · rw [hI_pIn _ _ _ (by decide), hI_pIlt _ _ _ _ (by decide)]; exact c2.2.1.2.1 2 (by decide)
        · rw [hI_pIlt _ _ _ _ (by omega)]; exact c2.2.1.2.2.1 i hi
      have c3 := c2.fr f3 (fun r hr => by omega)
      have g3 := f3.c (fun r hr => by omega)
      have y4 : nd (pI (pI (uI h2 360 0 (hI h2 2 0)) (360 + 1) 3 (hI h2 3)) (360 + 2) 2 (hI h2 4)) (no 2 0 y) 0 62 b := (nd_same (fun i hi => (f3.2 _ (by unfold nA; omega)).1) (fun i _ => by rw [f3.r]) _).1 _ _ _ y3
      generalize pI (pI (uI h2 360 0 (hI h2 2 0)) (360 + 1) 3 (hI h2 3)) (360 + 2) 2 (hI h2 4) = u at o3 c3 g3 y4 ⊢
      refine bX10_worldsTrue_57 ?_
      have hsm : ∀ m, m ≤ 8 → sm (fun p => cn (g p) (2 ^ nS S)) m ≤ 8 * m := by
        intro m
        induction m with
        | zero => intro _; exact Nat.le_refl _
        | succ m ih =>
          intro hm
          have a1 := ih (by omega)
          have a2 := cn_le (g m) (2 ^ nS S)
          rw [sm_s]
          show sm (fun p => cn (g p) (2 ^ nS S)) m + cn (g m) (2 ^ nS S) ≤ 8 * (m + 1)
          omega
      have main : ∀ (v : vH) (o5 : Option vV), fo u v → hI v 361 2 = hI u 361 2 → vm_E mX10_worldsTrue d cx n 60 [some (vR (some 0)), some (vR (some (nA b))), some (vI (nI (sm (fun p => cn (g p) (2 ^ nS S)) 0))), some (vI (nI (2 ^ nS S - 1))), some (vI (nI 0)), o5] [] v Q :=
        vl_down (2 ^ nS S) (fun i => ∀ (v : vH) (o5 : Option vV), fo u v → hI v 361 2 = hI u 361 2 → vm_E mX10_worldsTrue d cx n 60 [some (vR (some 0)), some (vR (some (nA b))), some (vI (nI (sm (fun p => cn (g p) (2 ^ nS S)) i))), some (vI (nI (2 ^ nS S - 1))), some (vI (nI i)), o5] [] v Q) (fun v o5 fv ev => by
          have cv := fv.c
          exact bX10_worldsTrue_60 (fun _ => bX10_worldsTrue_123 (k v (f.tr (f2.tr (g3.tr cv.1))) (cv.2 _ _ _ _ c3))) (fun hz => absurd (nI_lt (by omega) (by omega)) hz)) (fun i hi ih v o5 fv ev => by
          refine bX10_worldsTrue_60 (fun hz => absurd hz (nI_nlt (by omega) (by omega))) (fun _ => bX10_worldsTrue_66 ?_)
          have inner : ∀ (v : vH), fo u v → hI v 361 2 = hI u 361 2 → vm_E mX10_worldsTrue d cx n 69 [some (vR (some 0)), some (vR (some (nA b))), some (vI (nI (sm (fun p => cn (g p) (2 ^ nS S)) i + cn (g i) 0))), some (vI (nI (2 ^ nS S - 1))), some (vI (nI i)), some (vI (nI 0))] [] v Q :=
            vl_down (2 ^ nS S) (fun j => ∀ (v : vH), fo u v → hI v 361 2 = hI u 361 2 → vm_E mX10_worldsTrue d cx n 69 [some (vR (some 0)), some (vR (some (nA b))), some (vI (nI (sm (fun p => cn (g p) (2 ^ nS S)) i + cn (g i) j))), some (vI (nI (2 ^ nS S - 1))), some (vI (nI i)), some (vI (nI j))] [] v Q) (fun v fv ev => by
              refine bX10_worldsTrue_69 (fun _ => bX10_worldsTrue_117 ?_) (fun hz => absurd (nI_lt (by omega) (by omega)) hz)
              rw [nI_1]
              exact ih v _ fv ev) (fun j hj jh v fv ev => by
              have cv := (fv.c).2 _ _ _ _ c3
              have hv0 := cv.1.1
              have owv := cv.1.2.2.2.2.2.2.2.2.2.2.2.2.2.2.1
              refine bX10_worldsTrue_69 (fun hz => absurd hz (nI_nlt (by omega) (by omega))) (fun _ => ?_)
              refine bX10_worldsTrue_75 (b3 := 360) (R := fun r h' => r = none ∧ uI v (360 + 1) 0 (nI i) = h') hv0.1 hv0.2.2.2.2.2.2.2.2.1 owv.1 (by omega) (c_giveSet (i := 0) (by omega) owv (by decide) ⟨rfl, rfl⟩) ?_
              rintro r h4 ⟨rfl, rfl⟩
              have fa : fo v (uI v (360 + 1) 0 (nI i)) := ⟨rfl, fun r hr => hI_uIn _ _ _ hr, fun _ _ => rfl⟩
              have cva := (fa.c).2 _ _ _ _ cv
              have owa := cva.1.2.2.2.2.2.2.2.2.2.2.2.2.2.2.1
              refine bX10_worldsTrue_85 (b3 := 360) (R := fun r h' => r = none ∧ uI (uI v (360 + 1) 0 (nI i)) (360 + 1) 1 (nI j) = h') cva.1.1.1 cva.1.1.2.2.2.2.2.2.2.2.1 owa.1 (by omega) (c_giveSet (i := 1) (by omega) owa (by decide) ⟨rfl, rfl⟩) ?_
              rintro r h4 ⟨rfl, rfl⟩
              have fb : fo v (uI (uI v (360 + 1) 0 (nI i)) (360 + 1) 1 (nI j)) := fa.tr ⟨rfl, fun r hr => hI_uIn _ _ _ hr, fun _ _ => rfl⟩
              have eb2 : hI (uI (uI v (360 + 1) 0 (nI i)) (360 + 1) 1 (nI j)) 361 2 = hI v 361 2 := by rw [hI_uI, if_neg (by omega), hI_uI, if_neg (by omega)]
              have eb0 : hI (uI (uI v (360 + 1) 0 (nI i)) (360 + 1) 1 (nI j)) 361 0 = nI i := by rw [hI_uI, if_neg (by omega), hI_uI, if_pos ⟨rfl, rfl⟩]
              have eb1 : hI (uI (uI v (360 + 1) 0 (nI i)) (360 + 1) 1 (nI j)) 361 1 = nI j := by rw [hI_uI, if_pos ⟨rfl, rfl⟩]
              generalize uI (uI v (360 + 1) 0 (nI i)) (360 + 1) 1 (nI j) = z at fb eb2 eb0 eb1 ⊢
              have fz' := fv.tr fb
              have cz := (fz'.c).2 _ _ _ _ c3
              refine bX10_worldsTrue_95 (R := fun r h' => fo z h' ∧ hI h' 361 = hI z 361 ∧ r = some (vI (bN (g i j)))) cz.1.1.1 (by omega) (c_isTrue (by omega) cz hS wf.1 (fz'.nd _ _ _ _ y4) (o3.fo fz' (by rw [eb2, ev])) eb0 eb1 (by omega) (by omega) (fun h' q1 q2 => ⟨q1, q2, rfl⟩)) ?_
              rintro r h5 ⟨q1, q2, rfl⟩
              have jh2 := jh h5 (fz'.tr q1) (by rw [q2, eb2, ev])
              rw [cn_s] at jh2
              cases eg : g i j
              · rw [eg, if_neg (by decide), Nat.add_zero] at jh2
                refine bX10_worldsTrue_101 (fun _ => bX10_worldsTrue_108 (bX10_worldsTrue_109 ?_)) (fun hz => absurd rfl hz)
                rw [nI_1, show (0 : Int32) = nI 0 from rfl, nI_add]; exact jh2
              · rw [eg, if_pos rfl] at jh2
                refine bX10_worldsTrue_101 (fun hz => absurd hz (by decide +kernel)) (fun _ => bX10_worldsTrue_104 (bX10_worldsTrue_109 ?_))
                rw [nI_1, nI_1]; exact jh2)
          exact inner v fv ev)
      exact main u _ fo.rf rfl
    · rw [if_neg eu] at k
      exact bX10_worldsTrue_24 (fun hz => absurd rfl hz) (fun _ => bX10_worldsTrue_27 (k h2 (f.tr f2) c2))
end
