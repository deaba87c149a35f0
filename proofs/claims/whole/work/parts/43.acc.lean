/-! ===== accepting: as functions of the tree; the class's Acceptance ===== -/
theorem lN_or {a b : Nat} (ha : a < 1073741824) (hb : b < 1073741824) : lN a ||| lN b = lN (a ||| b) := bL_ext fun i hi => by
  have := Nat.or_lt_two_pow (n := 30) ha hb
  rw [bL_or, bL_lN (by omega) hi, bL_lN (by omega) hi, bL_lN (by omega) hi, Nat.testBit_or]
theorem lN_shl : ∀ i, i < 30 → (1 : Int64) <<< (Int32.toInt64 (nI i) &&& (63 : Int64)) = lN (2 ^ i) := by decide +kernel
def kdT : T → Nat
  | .leaf => 0
  | .inner kd .. => kd
def plT : T → Nat
  | .leaf => 0
  | .inner _ _ v _ _ => v.1
/-- whether one set lies in another; whether one is empty -/
def al (C U : Nat → Bool) : Bool := decide (cn (fun k => C k && !U k) 512 = 0)
def emp (C : Nat → Bool) : Bool := decide (cn C 512 = 0)
theorem al_t {C U : Nat → Bool} : al C U = true ↔ ∀ k, k < 512 → C k = true → U k = true := by
  unfold al
  rw [decide_eq_true_iff, cn_0]
  constructor
  · intro h k hk hc
    have := h k hk
    rw [hc] at this
    cases e : U k
    · rw [e] at this; exact absurd this (by decide)
    · rfl
  · intro h k hk
    cases e : C k
    · rfl
    · rw [h k hk e]; rfl
theorem emp_t {C : Nat → Bool} : emp C = true ↔ ∀ k, k < 512 → C k = false := by unfold emp; rw [decide_eq_true_iff, cn_0]
theorem al_ext {C U C2 U2 : Nat → Bool} (e : eS C C2) (e2 : eS U U2) : al C U = al C2 U2 := by
  unfold al; rw [cn_ext (fun k hk => by rw [e k hk, e2 k hk])]
theorem emp_ext {C C2 : Nat → Bool} (e : eS C C2) : emp C = emp C2 := by unfold emp; rw [cn_ext e]
/-- parts one behind the other: the place of the one that fails, or the context and the parts accommodated -/
def acp (n : Nat) (τ : Nat → Nat → Nat → Nat → Nat → Bool) (on : Bool) : T → Nat → (Nat → Bool) → Nat → Nat ⊕ ((Nat → Bool) × Nat)
  | .leaf, _, C, m => .inr (C, m)
  | .inner _ _ _ a r, i, C, m =>
    if (kdT a = 1 ∧ al C (hasR n (ac n τ a).1) = false) ∧ (on = false ∨ emp (fw n (ac n τ a).1 C) = true) then .inl (plT a)
    else acp n τ on r (i + 1) (fw n (ac n τ a).1 C) (if kdT a = 1 ∧ al C (hasR n (ac n τ a).1) = false then m ||| 2 ^ i else m)
def eR : Nat ⊕ ((Nat → Bool) × Nat) → Nat ⊕ ((Nat → Bool) × Nat) → Prop
  | .inl a, .inl b => a = b
  | .inr x, .inr y => eS x.1 y.1 ∧ x.2 = y.2
  | _, _ => False
theorem acp_ext {n : Nat} {τ : Nat → Nat → Nat → Nat → Nat → Bool} {on : Bool} : ∀ (t : T) (i : Nat) (C C2 : Nat → Bool) (m : Nat), (wft t).2 → eS C C2 → eR (acp n τ on t i C m) (acp n τ on t i C2 m)
  | .leaf, _, _, _, _, _, e => ⟨e, rfl⟩
  | .inner _ _ _ a r, i, C, C2, m, w, e => by
    have e1 : al C (hasR n (ac n τ a).1) = al C2 (hasR n (ac n τ a).1) := al_ext e eS.rf
    have e2 : eS (fw n (ac n τ a).1 C) (fw n (ac n τ a).1 C2) := fw_ext ((ac_ok n τ a).1 w.1) e
    show eR (if (kdT a = 1 ∧ al C (hasR n (ac n τ a).1) = false) ∧ (on = false ∨ emp (fw n (ac n τ a).1 C) = true) then .inl (plT a) else acp n τ on r (i + 1) (fw n (ac n τ a).1 C) (if kdT a = 1 ∧ al C (hasR n (ac n τ a).1) = false then m ||| 2 ^ i else m)) (if (kdT a = 1 ∧ al C2 (hasR n (ac n τ a).1) = false) ∧ (on = false ∨ emp (fw n (ac n τ a).1 C2) = true) then .inl (plT a) else acp n τ on r (i + 1) (fw n (ac n τ a).1 C2) (if kdT a = 1 ∧ al C2 (hasR n (ac n τ a).1) = false then m ||| 2 ^ i else m))
    rw [e1, emp_ext e2]
    split
    · exact rfl
    · exact acp_ext r _ _ _ _ w.2 e2
/-- what accepting on trial writes -/
def fq (h h' : vH) : Prop := h'.2.2 = h.2.2 ∧ (∀ r, r ≠ 355 → hI h' r = hI h r) ∧ ∀ r, ¬ (r = 355 ∨ r = 357 ∨ r = 359 ∨ ∃ i, i < 62 ∧ (r = nA i + 2 ∨ r = nA i + 4)) → hL h' r = hL h r
theorem fq.rf {h : vH} : fq h h := ⟨rfl, fun _ _ => rfl, fun _ _ => rfl⟩
theorem fq.tr {h h' h2 : vH} (x : fq h h') (y : fq h' h2) : fq h h2 := ⟨y.1.trans x.1, fun r hr => (y.2.1 r hr).trans (x.2.1 r hr), fun r hr => (y.2.2 r hr).trans (x.2.2 r hr)⟩
theorem fq.K {h h' : vH} (x : fq h h') : hK h' = hK h := congrArg (fun q => q.2.1) x.1
theorem fq.R {h h' : vH} (x : fq h h') : hR h' = hR h := congrArg (fun q => q.1) x.1
theorem fq.f {h h' : vH} (x : fq h h') : fr (fun r => r = 355 ∨ r = 357 ∨ r = 359 ∨ ∃ i, i < 62 ∧ (r = nA i + 2 ∨ r = nA i + 4)) h h' := ⟨x.1, fun r hr => ⟨x.2.1 r (fun z => hr (Or.inl z)), x.2.2 r hr⟩⟩
theorem fq.f40 {h h' : vH} (x : fq h h') : fr (fun r => 40 < r) h h' := x.f.mono (by
  rintro r (z | z | z | ⟨i, _, z | z⟩)
  · omega
  · omega
  · omega
  · unfold nA at z; omega
  · unfold nA at z; omega)
theorem fz.q {h h' : vH} {lo hi w : Nat} (x : fz (mset lo hi w) h h') (h62 : hi ≤ 62) (hw : w = 357 ∨ w = 359) : fq h h' := ⟨x.2.1, fun r _ => by rw [x.I], fun r hr => x.2.2 r (by
  rintro (z | ⟨i, a, b, c⟩)
  · exact hr (by omega)
  · exact hr (Or.inr (Or.inr (Or.inr ⟨i, by omega, c⟩))))⟩
theorem mw.q {h h' : vH} {W : wT} (x : mw h 354 2 W) (f : fq h h') : mw h' 354 2 W := by
  unfold mw at *; rw [f.K, f.R, f.2.1 2 (by decide), f.2.1 (2 + 1) (by decide), f.2.1 (2 + 2) (by decide)]
  exact ⟨x.1, x.2.1, x.2.2.1.fr f.f, x.2.2.2⟩
theorem rep.q {h h' : vH} {W : wT} (x : rep h 354 2 W) (f : fq h h') : rep h' 354 2 W := ⟨x.1.q f, fun i hi => (x.2 i hi).fr f.f⟩
theorem fq.nd {h h' : vH} (x : fq h h') (t : T) : (∀ lo hi b, nd h t lo hi b → nd h' t lo hi b) ∧ ∀ lo hi y p f l, hi ≤ 62 → cd h t lo hi y p f l → cd h' t lo hi y p f l :=
  nd_same (fun i hi => x.2.1 _ (by unfold nA; omega)) (fun i _ => by rw [x.R]) t
def acO (h : vH) : Prop := (hK h)[355]? = some (0, 0) ∧ hR h 355 0 = some 354 ∧ hR h 355 1 = some 356 ∧ hR h 355 2 = some 358 ∧ isA h 356 357 ∧ isA h 358 359 ∧ (hK h)[1]? = some (7, 0)
theorem acO.q {h h' : vH} (x : acO h) (f : fq h h') : acO h' := by
  unfold acO at *; rw [f.K, f.R]
  exact ⟨x.1, x.2.1, x.2.2.1, x.2.2.2.1, x.2.2.2.2.1.fr f.f, x.2.2.2.2.2.1.fr f.f, x.2.2.2.2.2.2⟩
theorem nA355 {i w : Nat} (hw : w = 357 ∨ w = 359) (hi : i < 62) : ¬ (w = nA i + 2 ∨ w = nA i + 4) := by unfold nA; omega
theorem fq_uI {h : vH} {j : Nat} {v : Int32} : fq h (uI h 355 j v) := ⟨rfl, fun r hr => hI_uIn h j v hr, fun r _ => rfl⟩
theorem fq_uL {h : vH} {j : Nat} {v : Int64} : fq h (uL h 355 j v) := ⟨rfl, fun r _ => rfl, fun r hr => by funext k; rw [hL_uL, if_neg (fun z => hr (Or.inl z.1))]⟩
theorem c_succ {W : wT} {on : Bool} : ∀ (t : T) (d cx n i m lo hi y : Nat) (h : vH) (p f l r1 : Option Nat) (o5 : Option vV) (C : Nat → Bool) (Q : vQ), 200 ≤ d → rep h 354 2 W → acO h → (hI h 1 3 = 0 ↔ on = false) → hi ≤ 62 → cd h t lo hi y p f l → (wft t).2 → pts t → i + ln t ≤ 30 → m < 2 ^ 30 → eS (sA h 357) C → hL h 355 3 = lN m →
    (∀ pl, acp W.1 (ta1 W) on t i C m = .inl pl → ∀ h', fq h h' → hI h' 355 4 = nI pl → Q (some (vI 0)) h') →
    (∀ C' m', acp W.1 (ta1 W) on t i C m = .inr (C', m') → ∀ h', fq h h' → eS (sA h' 357) C' → hL h' 355 3 = lN m' → m' < 2 ^ 30 → Q (some (vI 1)) h') →
    vm_E mX0_succeeds d cx n 30 [some (vR (some 355)), some (vR r1), some (vR (some 1)), some (vI (nI i)), some (vR f), o5] [] h Q
  | .leaf, d, cx, n, i, m, lo, hi, y, h, p, f, l, r1, o5, C, Q, hd, rp0, a0, ho, h62, c, w, pt, hl, hm, eC, em, kf, ks => by
    refine bX0_succeeds_30 (fun _ => bX0_succeeds_154 (ks C m rfl h fq.rf eC em hm)) (fun hz => absurd c.1 hz)
  | .inner k0 n0 v0 a r, d, cx, n, i, m, lo, hi, y, h, p, f, l, r1, o5, C, Q, hd, rp0, a0, ho, h62, c, w, pt, hl, hm, eC, em, kf, ks => by
    obtain ⟨b, lo', hi', e1, e2, e3, e4, e5, e6, e7⟩ := cd_i.mp c
    have nb := nd_b e5
    have hb62 : b < 62 := by omega
    subst e1
    obtain ⟨⟨kd, pl, x, ea, hkd, hpl⟩, pt2⟩ := pt
    have hht := (nd_ht a).1 _ _ _ e5
    have va := (ac_ok W.1 (ta1 W) a).1 w.1
    have trn0 : ∀ g : vH, fq h g → trn W 354 2 (d - 2) lo' hi' g (ac W.1 (ta1 W) a).1 (some (nA b)) := fun g fg => (g_all W a).1 354 2 (d - 2) g lo' hi' b (by omega) ((fg.nd a).1 _ _ _ e5) w.1
    have ek : kdT a = kd := by rw [ea]; rfl
    have ep : plT a = pl := by rw [ea]; rfl
    have fd0 : fd h kd 0 (pl, 0, 0, 0) b := by
      rw [ea] at e5
      exact (nd_i.mp e5).2.2.2.1
    have gb := (rp0.2 b hb62).1
    have hln : i + (ln r + 1) ≤ 30 := hl
    have kf : ∀ pl', (if (kdT a = 1 ∧ al C (hasR W.1 (ac W.1 (ta1 W) a).1) = false) ∧ (on = false ∨ emp (fw W.1 (ac W.1 (ta1 W) a).1 C) = true) then (.inl (plT a) : Nat ⊕ ((Nat → Bool) × Nat)) else acp W.1 (ta1 W) on r (i + 1) (fw W.1 (ac W.1 (ta1 W) a).1 C) (if kdT a = 1 ∧ al C (hasR W.1 (ac W.1 (ta1 W) a).1) = false then m ||| 2 ^ i else m)) = .inl pl' → ∀ h', fq h h' → hI h' 355 4 = nI pl' → Q (some (vI 0)) h' := kf
    have ks : ∀ C' m', (if (kdT a = 1 ∧ al C (hasR W.1 (ac W.1 (ta1 W) a).1) = false) ∧ (on = false ∨ emp (fw W.1 (ac W.1 (ta1 W) a).1 C) = true) then (.inl (plT a) : Nat ⊕ ((Nat → Bool) × Nat)) else acp W.1 (ta1 W) on r (i + 1) (fw W.1 (ac W.1 (ta1 W) a).1 C) (if kdT a = 1 ∧ al C (hasR W.1 (ac W.1 (ta1 W) a).1) = false then m ||| 2 ^ i else m)) = .inr (C', m') → ∀ h', fq h h' → eS (sA h' 357) C' → hL h' 355 3 = lN m' → m' < 2 ^ 30 → Q (some (vI 1)) h' := ks
    -- from 73 on: the sets are turned
    have tail : ∀ (g : vH) (sup : Bool), fq h g → eS (sA g 357) C → hL g 355 3 = lN m → (sup = false ↔ (kdT a = 1 ∧ al C (hasR W.1 (ac W.1 (ta1 W) a).1) = false)) → vm_E mX0_succeeds d cx n 73 [some (vR (some 355)), some (vR r1), some (vR (some 1)), some (vI (nI i)), some (vR (some (nA b))), some (vI (bN sup))] [] g Q := by
      intro g sup fg eCg emg hsup
      have rg := rp0.q fg
      have ag := a0.q fg
      refine bX0_succeeds_73 (b5 := 354) (R := fun r h' => r = none ∧ fz (mset lo' hi' 357) g h' ∧ eS (sA h' 357) (fw W.1 (ac W.1 (ta1 W) a).1 (sA g 357))) ag.1 ag.2.1 rg.1.1 (by omega) (by
        rw [ag.2.2.1]
        exact trn0 g fg _ _ _ 356 357 false g (fun _ => False) _ (by omega) fz.rf rg ag.2.2.2.2.1 (fun i i1 i2 => nA355 (Or.inl rfl) (by omega)) (fun h' f e => ⟨rfl, f, e⟩)) ?_
      rintro r' h1 ⟨rfl, f1, q1⟩
      have fq1 := f1.q (by omega) (Or.inl rfl)
      have f2 := fg.tr fq1
      have r1' := rp0.q f2
      have a1 := a0.q f2
      have q2 : eS (sA h1 357) (fw W.1 (ac W.1 (ta1 W) a).1 C) := q1.tr (fw_ext va eCg)
      have em1 : hL h1 355 3 = lN m := by
        rw [f1.2.2 355 (by
          rintro (z | ⟨i, i1, i2, z⟩)
          · exact absurd z (by decide)
          · unfold nA at z; omega)]; exact emg
      have g1b := (r1'.2 b hb62).1
      have on1 : hI h1 1 3 = 0 ↔ on = false := by rw [f2.2.1 1 (by decide)]; exact ho
      -- the part is taken
      have go : ¬ ((kdT a = 1 ∧ al C (hasR W.1 (ac W.1 (ta1 W) a).1) = false) ∧ (on = false ∨ emp (fw W.1 (ac W.1 (ta1 W) a).1 C) = true)) → vm_E mX0_succeeds d cx n 120 [some (vR (some 355)), some (vR r1), some (vR (some 1)), some (vI (nI i)), some (vR (some (nA b))), some (vI (bN sup))] [] h1 Q := fun hno => by
        rw [if_neg hno] at kf ks
        have fin : ∀ y0 : Int64, y0 = lN (if kdT a = 1 ∧ al C (hasR W.1 (ac W.1 (ta1 W) a).1) = false then 2 ^ i else 0) → vm_E mX0_succeeds d cx n 137 [some (vR (some 355)), some (vR r1), some (vR (some 1)), some (vI (nI i)), some (vR (some (nA b))), some (vI (bN sup))] [vJ y0, vJ (hL h1 355 3), vR (some 355)] h1 Q := fun y0 ey => by
          have hp : (if kdT a = 1 ∧ al C (hasR W.1 (ac W.1 (ta1 W) a).1) = false then 2 ^ i else 0) < 2 ^ 30 := by
            split
            · exact Nat.pow_lt_pow_right (by decide) (by omega)
            · decide
          have eor : (if kdT a = 1 ∧ al C (hasR W.1 (ac W.1 (ta1 W) a).1) = false then m ||| 2 ^ i else m) = m ||| (if kdT a = 1 ∧ al C (hasR W.1 (ac W.1 (ta1 W) a).1) = false then 2 ^ i else 0) := by
            split
            · rfl
            · rw [Nat.or_zero]
          rw [eor] at kf ks
          refine bX0_succeeds_137 a1.1 g1b ?_
          rw [nI_1, em1, ey, lN_or hm hp]
          have f3 := f2.tr (fq_uL (h := h1) (j := 3) (v := lN (m ||| (if kdT a = 1 ∧ al C (hasR W.1 (ac W.1 (ta1 W) a).1) = false then 2 ^ i else 0))))
          refine c_succ r d cx n (i + 1) _ hi' hi y _ _ _ _ r1 _ (fw W.1 (ac W.1 (ta1 W) a).1 C) Q hd (rp0.q f3) (a0.q f3) (by rw [f3.2.1 1 (by decide)]; exact ho) h62 (by rw [f3.R]; exact (f3.nd r).2 _ _ _ _ _ _ h62 e7) w.2 pt2 (by omega) (Nat.or_lt_two_pow hm hp) ?_ ?_ (fun pl' e h' f4 q => kf pl' e h' (f3.tr f4) q) (fun C' m' e h' f4 q3 q4 q5 => ks C' m' e h' (f3.tr f4) q3 q4 q5)
          · have : sA (uL h1 355 3 (lN (m ||| (if kdT a = 1 ∧ al C (hasR W.1 (ac W.1 (ta1 W) a).1) = false then 2 ^ i else 0)))) 357 = sA h1 357 := by
              funext k; unfold sA; rw [hL_uL, if_neg (by omega)]
            rw [this]; exact q2
          · rw [hL_uL, if_pos ⟨rfl, rfl⟩]
        refine bX0_succeeds_120 a1.1 (fun hz => bX0_succeeds_134 (fin _ ?_)) (fun hz => bX0_succeeds_130 (fin _ ?_))
        · rw [if_pos (hsup.mp (bN_0 hz)), lN_shl i (by omega)]
        · rw [if_neg (fun z => by have := hsup.mpr z; rw [bN_1 hz] at this; cases this)]; rfl
      have stop : ((kdT a = 1 ∧ al C (hasR W.1 (ac W.1 (ta1 W) a).1) = false) ∧ (on = false ∨ emp (fw W.1 (ac W.1 (ta1 W) a).1 C) = true)) → vm_E mX0_succeeds d cx n 109 [some (vR (some 355)), some (vR r1), some (vR (some 1)), some (vI (nI i)), some (vR (some (nA b))), some (vI (bN sup))] [] h1 Q := fun hyes => by
        rw [if_pos hyes] at kf
        refine bX0_succeeds_109 g1b a1.1 (kf _ rfl _ (f2.tr fq_uI) ?_)
        rw [hI_uIs, f2.2.1 (nA b) (by unfold nA; omega), fd0.2.2 (Or.inr hkd), ep]
      refine bX0_succeeds_87 (fun hz => go (fun z => by have := hsup.mpr z.1; rw [bN_1 hz] at this; cases this)) (fun hz => ?_)
      have hs := hsup.mp (bN_0 (Classical.byContradiction hz))
      refine bX0_succeeds_92 a1.2.2.2.2.2.2 (fun h0 => stop ⟨hs, Or.inl (on1.mp h0)⟩) (fun h0 => ?_)
      refine bX0_succeeds_99 (b5 := 356) (R := fun r h' => h1 = h' ∧ ((emp (fw W.1 (ac W.1 (ta1 W) a).1 C) = true ∧ r = some (vI 1)) ∨ (¬ emp (fw W.1 (ac W.1 (ta1 W) a).1 C) = true ∧ r = some (vI 0)))) a1.1 a1.2.2.1 a1.2.2.2.2.1.1 (by omega) (c_isEmpty (by omega) a1.2.2.2.2.1 (fun he => ⟨rfl, Or.inl ⟨emp_t.mpr (fun k hk => by rw [← q2 k hk]; exact he k hk), rfl⟩⟩) (fun he => ⟨rfl, Or.inr ⟨fun z => he (fun k hk => by rw [q2 k hk]; exact emp_t.mp z k hk), rfl⟩⟩)) ?_
      rintro r' h2 ⟨rfl, ⟨he, rfl⟩ | ⟨he, rfl⟩⟩
      · exact bX0_succeeds_106 (fun hz => absurd hz (by decide +kernel)) (fun _ => stop ⟨hs, Or.inr he⟩)
      · exact bX0_succeeds_106 (fun _ => go (fun z => z.2.elim (fun q => h0 (on1.mpr q)) he)) (fun hz => absurd rfl hz)
    refine bX0_succeeds_30 (fun hz => absurd hz nofun) (fun _ => bX0_succeeds_35 gb (fun hz => ?_) (fun hz => ?_))
    · have hk1 : ¬ kdT a = 1 := fun z => hz (by rw [fd0.1, ← ek, z]; rfl)
      exact tail h true fq.rf eC em ⟨fun z => absurd z (by decide), fun z => absurd z.1 hk1⟩
    · have hk1 : kdT a = 1 := by
        have := Classical.byContradiction hz
        rw [fd0.1] at this
        rw [ek]; exact (nI_eq (a := kd) (b := 1) (by omega) (by decide)).mp this
      refine bX0_succeeds_47 (b5 := 354) (R := fun r h' => r = none ∧ fz (mset lo' hi' 359) h h' ∧ eS (sA h' 359) (hasR W.1 (ac W.1 (ta1 W) a).1)) a0.1 a0.2.1 rp0.1.1 (by omega) (by
        rw [a0.2.2.2.1]
        exact c_findS (trn0 h fq.rf) va (by omega) (fz.rf (A := fun _ => False)) rp0 a0.2.2.2.2.2.1 (fun i i1 i2 => nA355 (Or.inr rfl) (by omega)) (fun h' f e => ⟨rfl, f, e⟩)) ?_
      rintro r' h1 ⟨rfl, f1, q1⟩
      have fq1 := f1.q (by omega) (Or.inr rfl)
      have a1 := a0.q fq1
      have no3 : ∀ q, q = 355 ∨ q = 357 → ¬ mset lo' hi' 359 q := by
        rintro q hq (z | ⟨i, i1, i2, z⟩)
        · omega
        · unfold nA at z; omega
      have s1 : sA h1 357 = sA h 357 := f1.S (no3 357 (Or.inr rfl))
      have em1 : hL h1 355 3 = lN m := by rw [f1.2.2 355 (no3 355 (Or.inl rfl))]; exact em
      have eal : al C (hasR W.1 (ac W.1 (ta1 W) a).1) = al (sA h1 357) (sA h1 359) := al_ext (by rw [s1]; exact eC.sy) q1.sy
      refine bX0_succeeds_60 (b5 := 356) (R := fun r h' => r = some (vI (bN (al C (hasR W.1 (ac W.1 (ta1 W) a).1)))) ∧ h1 = h') a1.1 a1.2.2.1 a1.2.2.2.2.1.1 (by omega) (by
        rw [a1.2.2.2.1]
        refine c_isWithin a1.2.2.2.2.1 a1.2.2.2.2.2.1 (fun z => ⟨?_, rfl⟩) (fun z => ⟨?_, rfl⟩)
        · rw [eal, al_t.mpr z]; rfl
        · rw [eal, show al (sA h1 357) (sA h1 359) = false from by
            cases e : al (sA h1 357) (sA h1 359)
            · rfl
            · exact absurd (al_t.mp e) z]; rfl) ?_
      rintro r' h2 ⟨rfl, rfl⟩
      exact bX0_succeeds_71 (tail h1 _ fq1 (by rw [s1]; exact eC) em1 ⟨fun z => ⟨hk1, z⟩, fun z => z.2⟩)
