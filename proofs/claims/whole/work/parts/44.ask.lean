/-! ===== the class's questions of a text ===== -/
/-- nothing of the reference is written -/
def cF (h h' : vH) : Prop := hK h' = hK h ∧ hX h' = hX h ∧ ∀ r, 366 ≤ r → hI h' r = hI h r ∧ hL h' r = hL h r ∧ hR h' r = hR h r
theorem cF.rf {h : vH} : cF h h := ⟨rfl, rfl, fun _ _ => ⟨rfl, rfl, rfl⟩⟩
theorem cF.tr {h h' h2 : vH} (x : cF h h') (y : cF h' h2) : cF h h2 := ⟨y.1.trans x.1, y.2.1.trans x.2.1, fun r hr => ⟨(y.2.2 r hr).1.trans (x.2.2 r hr).1, (y.2.2 r hr).2.1.trans (x.2.2 r hr).2.1, (y.2.2 r hr).2.2.trans (x.2.2 r hr).2.2⟩⟩
theorem fr.c {A : Nat → Prop} {h h' : vH} (x : fr A h h') (hA : ∀ r, A r → r < 366) : cF h h' := ⟨x.k, x.x, fun r hr => ⟨(x.2 r (fun z => by have := hA r z; omega)).1, (x.2 r (fun z => by have := hA r z; omega)).2, by rw [x.r]⟩⟩
theorem fp.c {u : Nat} {h h' : vH} (x : fp u h h') : cF h h' := ⟨x.2.1, x.2.2.1, fun r hr => ⟨funext fun j => x.2.2.2.1 r j (by
  rintro (z | ⟨i, h1, h2, z⟩)
  · omega
  · unfold nA at z; omega), by rw [x.1], funext fun j => x.R (by omega)⟩⟩
theorem cR.ke {h : vH} {S : Nat → Int32} {H : List (Nat → Int32)} {t : Nat → Nat} {L : Nat} (x : cR h S H t L) : ke h := ⟨x.1.2.2.2.2.2.1, fun i hi => (x.1.2.2.2.2.1.2.2.2.2 i hi).2.1⟩
theorem cR.ac {h : vH} {S : Nat → Int32} {H : List (Nat → Int32)} {t : Nat → Nat} {L : Nat} (x : cR h S H t L) : acO h := by
  obtain ⟨-, -, -, h1, h2, h3, h4, h5, h6, -⟩ := x.1.2.2.2.2.2
  exact ⟨h1, h2, h3, h4, h5, h6, x.1.2.1.1⟩
/-- the present world -/
def wS (S : Nat → Int32) : wT := (nS S, fun i => (S (1 + i)).toNatClampNeg, fun i => (S (4 + i)).toNatClampNeg)
theorem Sok.w {S : Nat → Int32} (hS : Sok S) : (∀ i, i < 3 → S (1 + i) = nI ((wS S).2.1 i) ∧ (wS S).2.1 i < 2 ^ nS S ∧ (wS S).2.1 i < 8) ∧ ∀ i, i < 2 → S (4 + i) = nI ((wS S).2.2 i) ∧ (wS S).2.2 i < 512 := by
  have hn := hS.n
  have hp : 2 ^ nS S ≤ 8 := (by decide : ∀ m, m < 4 → 2 ^ m ≤ 8) _ (by omega)
  refine ⟨fun i hi => ?_, fun i hi => ?_⟩
  · obtain ⟨p, e, hp2⟩ := hS.2.1 i hi
    have : (wS S).2.1 i = p := by show (S (1 + i)).toNatClampNeg = p; rw [e, cs (by omega)]
    rw [this]; exact ⟨e, hp2, by omega⟩
  · obtain ⟨p, e, hp2⟩ := hS.2.2.1 i hi
    have : (wS S).2.2 i = p := by show (S (4 + i)).toNatClampNeg = p; rw [e, cs (by omega)]
    rw [this]; exact ⟨e, hp2⟩
theorem cR.rep {h : vH} {S : Nat → Int32} {H : List (Nat → Int32)} {t : Nat → Nat} {L : Nat} (x : cR h S H t L) (hS : Sok S) : rep h 354 2 (wS S) := by
  obtain ⟨-, h1, h2, -⟩ := x.1.2.2.2.2.2
  have hn := hS.n
  have hw := hS.w
  exact ⟨⟨h1, h2, x.1.2.1.2.1, x.n hS, by show nS S < 4; omega, fun i hi => ⟨by rw [← (hw.1 i hi).1]; exact x.2.1.2.1 i hi, (hw.1 i hi).2.2⟩, fun i hi => ⟨by rw [← (hw.2 i hi).1]; exact x.2.1.2.2.1 i hi, (hw.2 i hi).2⟩⟩, fun i hi => (x.1.2.2.2.2.1.2.2.2.2 i hi).2⟩
theorem cR.on {h : vH} {S : Nat → Int32} {H : List (Nat → Int32)} {t : Nat → Nat} {L : Nat} (x : cR h S H t L) : hI h 1 3 = 0 ↔ decide (¬ S 6 = 0) = false := by
  rw [x.2.1.2.2.2.1, decide_eq_false_iff_not, Classical.not_not]
theorem un_no (r : T) (K : Nat) : (un (no 2 0 r)).1 K = (un r).2.1 K := rfl
theorem kb_no (r : T) (K : Nat) : (kb (no 2 0 r)).1 K = (kb r).2 K := rfl
theorem ac_no (n : Nat) (τ : Nat → Nat → Nat → Nat → Nat → Bool) (kd pl : Nat) (r : T) (h : kd ≤ 2) : (ac n τ (no kd pl r)).1 = (ac n τ r).2.1 := if_pos h
/-- the text read: a fault or a tree -/
def rD (h : vH) (S : Nat → Int32) (H : List (Nat → Int32)) (t : Nat → Nat) (L : Nat) : vQ := fun r h' => cF h h' ∧ cR h' S H t L ∧ ((∃ q, dsc (chAt t L) L = .inl q ∧ r = some (vR none) ∧ hI h' 41 4 = nI q) ∨ ∃ x b, dsc (chAt t L) L = .inr x ∧ r = some (vR (some (nA b))) ∧ nd h' (no 2 0 x) 0 62 b)
theorem c_disc {d cx n : Nat} {h : vH} {S : Nat → Int32} {H : List (Nat → Int32)} {t : Nat → Nat} {L : Nat} (hd : 63 ≤ d) (x : cR h S H t L) (hT : Tok t L) : vm_C mX6_discourse d cx n [vR (some 41)] h (rD h S H t L) :=
  c_discourse hd ⟨x.1, x.2.2.2, hT⟩ (fun q e h' f e4 => ⟨f.c, x.fp f, Or.inl ⟨q, e, rfl, e4⟩⟩) (fun r e h' b f y => ⟨f.c, x.fp f, Or.inr ⟨r, b, e, rfl, y⟩⟩)
def rK (h : vH) (S : Nat → Int32) (H : List (Nat → Int32)) (t : Nat → Nat) (L : Nat) (x : T) (b K : Nat) : vQ := fun r h' => cF h h' ∧ cR h' S H t L ∧ nd h' (no 2 0 x) 0 62 b ∧ kw h' ((un x).2.1 K) ∧ ((un x).2.1 K = none ∧ r = some (vI 1) ∧ hI h' 353 0 = nI ((kb x).2 K) ∨ ¬ (un x).2.1 K = none ∧ r = some (vI 0))
theorem Tok.c {t : Nat → Nat} {L : Nat} (_ : Tok t L) : cOk (chAt t L) L := fun i hi => by unfold chAt; rw [if_neg (by omega)]
theorem c_suff {d cx n b K : Nat} {h : vH} {S : Nat → Int32} {H : List (Nat → Int32)} {t : Nat → Nat} {L : Nat} {x : T} (hd : 130 ≤ d) (c : cR h S H t L) (w : (wft (no 2 0 x)).1) (y : nd h (no 2 0 x) 0 62 b) (hK : K < 8) : vm_C mX3_suffices d cx n [vR (some 353), vR (some (nA b)), vI (nI K)] h (rK h S H t L x b K) := by
  have key : ∀ h', fm (fun r j => r = 353 ∧ j ≤ 2) h h' → cF h h' ∧ cR h' S H t L ∧ nd h' (no 2 0 x) 0 62 b := fun h' f => by
    have f2 := f.fr (B := fun r => r = 353) (fun r j z => z.1)
    refine ⟨f2.c (fun r hr => by omega), c.fr f2 (fun r hr => by omega), (nd_same (fun i hi => ?_) (fun i _ => by rw [f.r]) _).1 _ _ _ y⟩
    exact funext fun j => f.2 _ _ (fun z => by unfold nA at z; omega)
  refine c_suffices hd c.ke y w hK (fun e h' f q z => ?_) (fun e h' f q => ?_)
  · obtain ⟨a1, a2, a3⟩ := key h' f
    rw [un_no] at e q
    rw [kb_no] at z
    exact ⟨a1, a2, a3, q, Or.inl ⟨e, rfl, z⟩⟩
  · obtain ⟨a1, a2, a3⟩ := key h' f
    rw [un_no] at e q
    exact ⟨a1, a2, a3, q, Or.inr ⟨e, rfl⟩⟩
/-! answers -/
def f_syntaxFault (c : Nat → Nat) (L : Nat) : Int32 := match dsc c L with
  | .inl q => nI q
  | .inr _ => -7
def f_unknownVariable (S : Nat → Int32) (c : Nat → Nat) (L : Nat) : Int32 := match dsc c L with
  | .inl _ => -2
  | .inr r => ua ((un r).2.1 (kS S))
def f_unknownDepth (S : Nat → Int32) (c : Nat → Nat) (L : Nat) : Int32 := match dsc c L with
  | .inl _ => -2
  | .inr r => ub ((un r).2.1 (kS S))
def f_partCount (c : Nat → Nat) (L : Nat) : Int32 := match dsc c L with
  | .inl _ => -2
  | .inr r => nI (ln r)
section
variable {d cx n : Nat} {h : vH} {S : Nat → Int32} {H : List (Nat → Int32)} {t : Nat → Nat} {L : Nat} {Q : vQ}
theorem c_syntaxFault (hd : 70 ≤ d) (x : cR h S H t L) (hT : Tok t L) (k : ∀ h', cF h h' → cR h' S H t L → Q (some (vI (f_syntaxFault (chAt t L) L))) h') : vm_C mX10_syntaxFault d cx n [vR (some 0)] h Q := by
  have h0 := x.1.1
  unfold f_syntaxFault at k
  refine bX10_syntaxFault_0 (b2 := 41) (R := rD h S H t L) h0.1 h0.2.2.2.2.1 x.1.2.2.2.2.1.1 (by omega) (c_disc (by omega) x hT) ?_
  rintro r h' ⟨f, c, ⟨q, e, rfl, e4⟩ | ⟨y, b, e, rfl, y2⟩⟩
  · have h0' := c.1.1
    rw [e] at k
    refine bX10_syntaxFault_7 (fun hz => absurd rfl hz) (fun _ => bX10_syntaxFault_10 (b2 := 41) h0'.1 h0'.2.2.2.2.1 c.1.2.2.2.2.1.1 ?_)
    rw [e4]
    exact bX10_syntaxFault_22 (k h' f c)
  · rw [e] at k
    exact bX10_syntaxFault_7 (fun _ => bX10_syntaxFault_20 (bX10_syntaxFault_22 (k h' f c))) (fun hz => absurd nofun hz)
theorem c_unknownVariable (hd : 200 ≤ d) (x : cR h S H t L) (hS : Sok S) (hT : Tok t L) (k : ∀ h', cF h h' → cR h' S H t L → Q (some (vI (f_unknownVariable S (chAt t L) L))) h') : vm_C mX10_unknownVariable d cx n [vR (some 0)] h Q := by
  have h0 := x.1.1
  unfold f_unknownVariable at k
  refine bX10_unknownVariable_0 (b2 := 41) (R := rD h S H t L) h0.1 h0.2.2.2.2.1 x.1.2.2.2.2.1.1 (by omega) (c_disc (by omega) x hT) ?_
  rintro r h' ⟨f, c, ⟨q, e, rfl, e4⟩ | ⟨y, b, e, rfl, y2⟩⟩
  · rw [e] at k
    exact bX10_unknownVariable_7 (fun hz => absurd rfl hz) (fun _ => bX10_unknownVariable_12 (k h' f c))
  · rw [e] at k
    have h0' := c.1.1
    have wf := dsc_wf hT.c hT.1 e
    refine bX10_unknownVariable_7 (fun _ => bX10_unknownVariable_15 (b3 := 353) (b4 := 1) (R := rK h' S H t L y b (kS S)) h0'.1 h0'.2.2.2.2.2.1 h0'.2.1 c.1.2.1.1 c.ke.1 (by omega) (by
      rw [c.2.1.2.2.2.2.1, hS.k.1]
      exact c_suff (by omega) c wf.1 y2 hS.k.2) ?_) (fun hz => absurd nofun hz)
    rintro r h2 ⟨f2, c2, y3, q, ⟨eu, rfl, _⟩ | ⟨eu, rfl⟩⟩
    · refine bX10_unknownVariable_30 (fun hz => absurd hz (by decide +kernel)) (fun _ => bX10_unknownVariable_33 (bX10_unknownVariable_45 ?_))
      have this : Q (some (vI (ua ((un y).2.1 (kS S))))) h2 := k h2 (f.tr f2) c2
      rw [show ua ((un y).2.1 (kS S)) = -7 by rw [eu]; rfl] at this
      exact this
    · have h0 := c2.1.1
      refine bX10_unknownVariable_30 (fun _ => bX10_unknownVariable_38 (b3 := 353) h0.1 h0.2.2.2.2.2.1 c2.ke.1 (bX10_unknownVariable_45 ?_)) (fun hz => absurd rfl hz)
      rw [q.1]; exact k h2 (f.tr f2) c2
theorem c_unknownDepth (hd : 200 ≤ d) (x : cR h S H t L) (hS : Sok S) (hT : Tok t L) (k : ∀ h', cF h h' → cR h' S H t L → Q (some (vI (f_unknownDepth S (chAt t L) L))) h') : vm_C mX10_unknownDepth d cx n [vR (some 0)] h Q := by
  have h0 := x.1.1
  unfold f_unknownDepth at k
  refine bX10_unknownDepth_0 (b2 := 41) (R := rD h S H t L) h0.1 h0.2.2.2.2.1 x.1.2.2.2.2.1.1 (by omega) (c_disc (by omega) x hT) ?_
  rintro r h' ⟨f, c, ⟨q, e, rfl, e4⟩ | ⟨y, b, e, rfl, y2⟩⟩
  · rw [e] at k
    exact bX10_unknownDepth_7 (fun hz => absurd rfl hz) (fun _ => bX10_unknownDepth_12 (k h' f c))
  · rw [e] at k
    have h0' := c.1.1
    have wf := dsc_wf hT.c hT.1 e
    refine bX10_unknownDepth_7 (fun _ => bX10_unknownDepth_15 (b3 := 353) (b4 := 1) (R := rK h' S H t L y b (kS S)) h0'.1 h0'.2.2.2.2.2.1 h0'.2.1 c.1.2.1.1 c.ke.1 (by omega) (by
      rw [c.2.1.2.2.2.2.1, hS.k.1]
      exact c_suff (by omega) c wf.1 y2 hS.k.2) ?_) (fun hz => absurd nofun hz)
    rintro r h2 ⟨f2, c2, y3, q, ⟨eu, rfl, _⟩ | ⟨eu, rfl⟩⟩
    · refine bX10_unknownDepth_30 (fun hz => absurd hz (by decide +kernel)) (fun _ => bX10_unknownDepth_33 (bX10_unknownDepth_45 ?_))
      have this : Q (some (vI (ub ((un y).2.1 (kS S))))) h2 := k h2 (f.tr f2) c2
      rw [show ub ((un y).2.1 (kS S)) = -7 by rw [eu]; rfl] at this
      exact this
    · have h0 := c2.1.1
      refine bX10_unknownDepth_30 (fun _ => bX10_unknownDepth_38 (b3 := 353) h0.1 h0.2.2.2.2.2.1 c2.ke.1 (bX10_unknownDepth_45 ?_)) (fun hz => absurd rfl hz)
      rw [q.2]; exact k h2 (f.tr f2) c2
theorem pc_loop : ∀ (y : T) (lo hi b i : Nat) (p f l r0 r1 : Option Nat) (_ : hi ≤ 62) (_ : ∀ i, i < 62 → (hK h)[nA i]? = some (5, 0)) (_ : cd h y lo hi b p f l) (_ : Q (some (vI (nI (i + ln y)))) h), vm_E mX10_partCount d cx n 22 [some (vR r0), some (vR r1), some (vI (nI i)), some (vR f)] [] h Q
  | .leaf, lo, hi, b, i, p, f, l, r0, r1, _, _, c, k => bX10_partCount_22 (fun _ => bX10_partCount_37 k) (fun hz => absurd c.1 hz)
  | .inner kd nm v a r, lo, hi, b, i, p, f, l, r0, r1, h62, g, c, k => by
    obtain ⟨b', lo', hi', e1, e2, e3, e4, e5, e6, e7⟩ := cd_i.mp c
    have nb := nd_b e5
    subst e1
    refine bX10_partCount_22 (fun hz => absurd hz nofun) (fun _ => bX10_partCount_26 (g b' (by omega)) ?_)
    rw [nI_1]
    refine pc_loop r _ _ _ _ _ _ _ _ _ h62 g e7 ?_
    have : i + 1 + ln r = i + (ln r + 1) := by omega
    rw [this]; exact k
theorem c_partCount (hd : 70 ≤ d) (x : cR h S H t L) (hT : Tok t L) (k : ∀ h', cF h h' → cR h' S H t L → Q (some (vI (f_partCount (chAt t L) L))) h') : vm_C mX10_partCount d cx n [vR (some 0)] h Q := by
  have h0 := x.1.1
  unfold f_partCount at k
  refine bX10_partCount_0 (b2 := 41) (R := rD h S H t L) h0.1 h0.2.2.2.2.1 x.1.2.2.2.2.1.1 (by omega) (c_disc (by omega) x hT) ?_
  rintro r h' ⟨f, c, ⟨q, e, rfl, e4⟩ | ⟨y, b, e, rfl, y2⟩⟩
  · rw [e] at k
    exact bX10_partCount_7 (fun hz => absurd rfl hz) (fun _ => bX10_partCount_12 (k h' f c))
  · rw [e] at k
    have hb := nd_b y2
    obtain ⟨e1, e2, e3, e4, e5⟩ := nd_i.mp y2
    refine bX10_partCount_7 (fun _ => bX10_partCount_15 (c.ke.2 b (by omega)) ?_) (fun hz => absurd nofun hz)
    refine pc_loop (i := 0) y _ _ _ _ _ _ _ _ (Nat.le_refl _) c.ke.2 e5 ?_
    rw [Nat.zero_add]; exact k h' f c
end
/-! accepting -/
abbrev tR : Type := Nat ⊕ (Nat ⊕ ((Nat → Bool) × Nat × Nat))
def fT (τ : Nat → Nat → Nat → Nat → Nat → Bool) (S : Nat → Int32) (c : Nat → Nat) (L : Nat) : tR := match dsc c L with
  | .inl _ => .inl 2
  | .inr r => if (un r).2.1 (kS S) = none then (match acp (nS S) τ (decide (¬ S 6 = 0)) r 0 (ctx S) 0 with
      | .inl p => .inr (.inl p)
      | .inr q => .inr (.inr (q.1, q.2, (kb r).2 (kS S)))) else .inl 3
def ansT : tR → Int32
  | .inl e => if e = 2 then -2 else -3
  | .inr (.inl _) => -4
  | .inr (.inr q) => nI (cn q.1 512)
def tOK (h : vH) (x : tR) : Prop := (∀ p, x = .inr (.inl p) → hI h 355 4 = nI p) ∧ ∀ C m K, x = .inr (.inr (C, m, K)) → eS (sA h 357) C ∧ hL h 355 3 = lN m ∧ m < 2 ^ 30 ∧ hI h 353 0 = nI K
def rT (h : vH) (S : Nat → Int32) (H : List (Nat → Int32)) (t : Nat → Nat) (L : Nat) : vQ := fun r h' => cF h h' ∧ cR h' S H t L ∧ tOK h' (fT (ta1 (wS S)) S (chAt t L) L) ∧ r = some (vI (ansT (fT (ta1 (wS S)) S (chAt t L) L)))
theorem c_try {d cx n : Nat} {h : vH} {S : Nat → Int32} {H : List (Nat → Int32)} {t : Nat → Nat} {L : Nat} {r : Option Nat} (hd : 300 ≤ d) (x : cR h S H t L) (hS : Sok S) (hT : Tok t L) (hr : (∃ q, dsc (chAt t L) L = .inl q ∧ r = none) ∨ ∃ y b, dsc (chAt t L) L = .inr y ∧ r = some (nA b) ∧ nd h (no 2 0 y) 0 62 b) : vm_C mX10_tryAccepting d cx n [vR (some 0), vR r] h (rT h S H t L) := by
  have h0 := x.1.1
  rcases hr with ⟨q, e, rfl⟩ | ⟨y, b, e, rfl, y2⟩
  · have ef : fT (ta1 (wS S)) S (chAt t L) L = .inl 2 := by unfold fT; rw [e]
    refine bX10_tryAccepting_0 (fun hz => absurd rfl hz) (fun _ => bX10_tryAccepting_4 ⟨cF.rf, x, ?_, ?_⟩)
    · rw [ef]; exact ⟨fun p z => (by cases z), fun C m K z => (by cases z)⟩
    · rw [ef]; rfl
  · have wf := dsc_wf hT.c hT.1 e
    have hb := nd_b y2
    refine bX10_tryAccepting_0 (fun _ => ?_) (fun hz => absurd nofun hz)
    refine bX10_tryAccepting_7 (b3 := 353) (b4 := 1) (R := rK h S H t L y b (kS S)) h0.1 h0.2.2.2.2.2.1 h0.2.1 x.1.2.1.1 x.ke.1 (by omega) (by
      rw [x.2.1.2.2.2.2.1, hS.k.1]
      exact c_suff (by omega) x wf.1 y2 hS.k.2) ?_
    rintro r h' ⟨f, c, y3, q, ⟨eu, rfl, ek⟩ | ⟨eu, rfl⟩⟩
    · have ef : fT (ta1 (wS S)) S (chAt t L) L = (match acp (nS S) (ta1 (wS S)) (decide (¬ S 6 = 0)) y 0 (ctx S) 0 with
          | .inl p => .inr (.inl p)
          | .inr q => .inr (.inr (q.1, q.2, (kb y).2 (kS S)))) := by unfold fT; rw [e]; exact if_pos eu
      unfold rT
      rw [ef]
      have h0' := c.1.1
      have a0 := c.ac
      have st := c.1.2.1
      refine bX10_tryAccepting_22 (fun _ => ?_) (fun hz => absurd (by decide +kernel) hz)
      refine bX10_tryAccepting_28 (b3 := 355) (R := fun r h2 => fq h' h2 ∧ ((∃ pl, acp (nS S) (ta1 (wS S)) (decide (¬ S 6 = 0)) y 0 (ctx S) 0 = .inl pl ∧ hI h2 355 4 = nI pl ∧ r = some (vI 0)) ∨ ∃ C m, acp (nS S) (ta1 (wS S)) (decide (¬ S 6 = 0)) y 0 (ctx S) 0 = .inr (C, m) ∧ eS (sA h2 357) C ∧ hL h2 355 3 = lN m ∧ m < 2 ^ 30 ∧ r = some (vI 1))) h0'.1 h0'.2.2.2.2.2.2.2.1 a0.1 (by omega) ?_ ?_
      · rw [h0'.2.1]
        refine bX0_succeeds_0 (b4 := 356) (R := fun r h2 => r = none ∧ uS h' 357 (sA h' 6) = h2) a0.1 a0.2.2.1 st.1 a0.2.2.2.2.1.1 (by omega) (by
          rw [st.2.2.2.2]
          exact c_copyFrom a0.2.2.2.2.1 st.2.2.1 ⟨rfl, rfl⟩) ?_
        rintro r h2 ⟨rfl, rfl⟩
        have f1 : fq h' (uS h' 357 (sA h' 6)) := ⟨rfl, fun _ _ => rfl, fun r hr => hL_pLn h' 8 _ (fun z => hr (by omega))⟩
        have f2 : fq h' (uI (uL (uS h' 357 (sA h' 6)) 355 3 0) 355 4 (-7)) := (f1.tr fq_uL).tr fq_uI
        have eC : eS (sA (uI (uL (uS h' 357 (sA h' 6)) 355 3 0) 355 4 (-7)) 357) (ctx S) := by
          have e1 : sA (uI (uL (uS h' 357 (sA h' 6)) 355 3 0) 355 4 (-7)) 357 = sA (uS h' 357 (sA h' 6)) 357 := by
            funext k
            show bL (hL (uL (uS h' 357 (sA h' 6)) 355 3 0) 357 (k / 64)) (k % 64) = _
            rw [hL_uL, if_neg (by omega)]; rfl
          rw [e1]
          exact (eS_uS _ _ _).tr (fun k hk => c.2.1.2.2.2.2.2.2 k hk)
        have em : hL (uI (uL (uS h' 357 (sA h' 6)) 355 3 0) 355 4 (-7)) 355 3 = lN 0 := by
          show hL (uL (uS h' 357 (sA h' 6)) 355 3 0) 355 3 = lN 0
          rw [hL_uL, if_pos ⟨rfl, rfl⟩]; rfl
        refine bX0_succeeds_13 (f1.K ▸ a0.1) (f1.K ▸ c.ke.2 b (by omega)) ?_
        generalize uI (uL (uS h' 357 (sA h' 6)) 355 3 0) 355 4 (-7) = g at f2 eC em ⊢
        rw [f2.R]
        obtain ⟨e1, e2, e3, e4, e5⟩ := nd_i.mp y3
        have acp0 : acp (wS S).1 (ta1 (wS S)) (decide (¬ S 6 = 0)) y 0 (ctx S) 0 = acp (nS S) (ta1 (wS S)) (decide (¬ S 6 = 0)) y 0 (ctx S) 0 := rfl
        exact c_succ (W := wS S) (on := decide (¬ S 6 = 0)) y _ _ _ 0 0 0 62 b g _ _ _ _ _ (ctx S) _ (by omega) ((c.rep hS).q f2) (a0.q f2) (by rw [f2.2.1 1 (by decide)]; exact c.on) (Nat.le_refl _) ((f2.nd y).2 _ _ _ _ _ _ (Nat.le_refl _) e5) wf.2.1 wf.2.2.1 (by have := hT.1; omega) (by decide) eC em (fun pl e h3 f3 q3 => ⟨f2.tr f3, Or.inl ⟨pl, e, q3, rfl⟩⟩) (fun C' m' e h3 f3 q3 q4 q5 => ⟨f2.tr f3, Or.inr ⟨C', m', e, q3, q4, q5, rfl⟩⟩)
      · rintro r h2 ⟨f2, ⟨pl, ea, q2, rfl⟩ | ⟨C, m, ea, q2, q3, q4, rfl⟩⟩
        · have fc := f2.f40
          refine bX10_tryAccepting_40 (fun _ => bX10_tryAccepting_56 (bX10_tryAccepting_58 ⟨f.tr (f2.f.c ?_), c.fr fc (fun r hr => hr), ?_, ?_⟩)) (fun hz => absurd rfl hz)
          · rintro r (z | z | z | ⟨i, hi, z | z⟩)
            · omega
            · omega
            · omega
            · unfold nA at z; omega
            · unfold nA at z; omega
          · rw [ea]; exact ⟨fun p z => (by injection z with z; injection z with z; rw [← z]; exact q2), fun C m K z => (by cases z)⟩
          · rw [ea]; rfl
        · have fc := f2.f40
          have c2 := c.fr fc (fun r hr => hr)
          have h02 := c2.1.1
          have a2 := c2.ac
          refine bX10_tryAccepting_40 (fun hz => absurd hz (by decide +kernel)) (fun _ => bX10_tryAccepting_43 (b3 := 355) (b4 := 356) (R := fun r h3 => r = some (vI (nI (cn C 512))) ∧ h2 = h3) h02.1 h02.2.2.2.2.2.2.2.1 a2.1 a2.2.2.1 a2.2.2.2.2.1.1 (by omega) (c_size (by omega) a2.2.2.2.2.1 ⟨by rw [cn_ext q2], rfl⟩) ?_)
          rintro r h3 ⟨rfl, rfl⟩
          refine bX10_tryAccepting_53 (bX10_tryAccepting_58 ⟨f.tr (f2.f.c ?_), c2, ?_, ?_⟩)
          · rintro r (z | z | z | ⟨i, hi, z | z⟩)
            · omega
            · omega
            · omega
            · unfold nA at z; omega
            · unfold nA at z; omega
          · rw [ea]
            refine ⟨fun p z => (by cases z), fun C' m' K z => ?_⟩
            injection z with z; injection z with z
            injection z with z1 z2; injection z2 with z2 z3
            rw [← z1, ← z2, ← z3]
            exact ⟨q2, q3, q4, by rw [f2.2.1 353 (by decide)]; exact ek⟩
          · rw [ea]; rfl
    · have ef : fT (ta1 (wS S)) S (chAt t L) L = .inl 3 := by unfold fT; rw [e]; exact if_neg eu
      refine bX10_tryAccepting_22 (fun hz => absurd rfl hz) (fun _ => bX10_tryAccepting_25 ⟨f, c, ?_, ?_⟩)
      · rw [ef]; exact ⟨fun p z => (by cases z), fun C m K z => (by cases z)⟩
      · rw [ef]; rfl
