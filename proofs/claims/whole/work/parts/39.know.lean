/-! ===== what is known where: as functions of the tree; the class's Knowledge ===== -/
def or2 (a b : Option (Nat × Nat)) : Option (Nat × Nat) := match a with
  | some x => some x
  | none => b
def shn (s : Nat) (a : Option (Nat × Nat)) : Option (Nat × Nat) := match a with
  | some x => some (x.1, x.2 + s)
  | none => none
theorem or2_a (a b c : Option (Nat × Nat)) : or2 (or2 a b) c = or2 a (or2 b c) := by cases a <;> rfl
theorem or2_n (a : Option (Nat × Nat)) : or2 a none = a := by cases a <;> rfl
theorem shn_or (s : Nat) (a b : Option (Nat × Nat)) : shn s (or2 a b) = or2 (shn s a) (shn s b) := by cases a <;> rfl
theorem shn_sh (s r : Nat) (a : Option (Nat × Nat)) : shn s (shn r a) = shn (s + r) a := by
  cases a with
  | none => rfl
  | some x => show some (x.1, x.2 + r + s) = some (x.1, x.2 + (s + r)); rw [show x.2 + r + s = x.2 + (s + r) by omega]
theorem shn_0 (a : Option (Nat × Nat)) : shn 0 a = a := by cases a <;> rfl
/-- known behind: a node, a chain -/
def kb : T → (Nat → Nat) × (Nat → Nat)
  | .leaf => (fun K => K, fun K => K)
  | .inner kd _ v l r => (fun K => if kd ≤ 2 then (kb l).2 K else if kd = 6 then K ||| 2 ^ v.2.2.1 else K, fun K => (kb r).2 ((kb l).1 K))
def lk1 (v pl K : Nat) : Option (Nat × Nat) := if K.testBit v = true then none else some (pl, 0)
/-- the first unknown variable and its depth: a node, a chain one behind the other, a chain each alone -/
def un : T → (Nat → Option (Nat × Nat)) × (Nat → Option (Nat × Nat)) × (Nat → Option (Nat × Nat))
  | .leaf => (fun _ => none, fun _ => none, fun _ => none)
  | .inner kd _ v l r => (fun K => if kd ≤ 2 then (un l).2.1 K else if kd = 4 then shn 1 ((un l).2.1 K) else if kd = 3 ∨ kd = 5 then shn 1 ((un l).2.2 K) else if kd = 6 then none else or2 (lk1 v.2.2.1 v.1 K) (lk1 v.2.2.2 v.2.1 K),
      fun K => or2 ((un l).1 K) ((un r).2.1 ((kb l).1 K)), fun K => or2 ((un l).1 K) ((un r).2.2 K))
def ht : T → Nat × Nat
  | .leaf => (0, 0)
  | .inner _ _ _ l r => (1 + (ht l).2, max (ht l).1 (ht r).2)
def lfok (kd nm : Nat) (v : Nat × Nat × Nat × Nat) : Prop := v.1 < 60 ∧ v.2.1 < 60 ∧ v.2.2.1 < 3 ∧ v.2.2.2 < 3 ∧ (kd = 7 → nm < 3) ∧ (kd = 8 → nm < 2) ∧ (kd = 11 → 1 ≤ nm ∧ nm ≤ 3) ∧ (kd = 6 ∨ kd = 7 ∨ kd = 11 → v.2.1 = v.1 ∧ v.2.2.2 = v.2.2.1)
/-- trees that texts give: a node, a chain -/
def wft : T → Prop × Prop
  | .leaf => (False, True)
  | .inner kd nm v l r => (kd ≤ 11 ∧ (6 ≤ kd → lfok kd nm v) ∧ (kd = 4 → ∃ a b, l = cc a (cc b .leaf)) ∧ (kd = 5 → ∃ a, l = cc a .leaf) ∧ (wft l).2, (wft l).1 ∧ (wft r).2)
theorem nd_same {h h' : vH} (eI : ∀ i, i < 62 → hI h' (nA i) = hI h (nA i)) (eR : ∀ i, i < 62 → hR h' (nA i) = hR h (nA i)) (t : T) : (∀ lo hi b, nd h t lo hi b → nd h' t lo hi b) ∧ ∀ lo hi x p f l, hi ≤ 62 → cd h t lo hi x p f l → cd h' t lo hi x p f l :=
  ⟨fun lo hi b y => (rp_ag t).1 _ _ _ y ⟨fun i i1 i2 j _ => by rw [eI i (by have := nd_b y; omega)], fun i i1 i2 j _ _ _ => by rw [eR i (by have := nd_b y; omega)]⟩, fun lo hi x p f l h62 y => (rp_ag t).2 _ _ _ _ _ _ y (fun i i1 i2 _ => ⟨fun j _ => by rw [eI i (by omega)], fun j _ _ => by rw [eR i (by omega)]⟩)⟩
def ua : Option (Nat × Nat) → Int32
  | none => -7
  | some x => nI x.1
def ub : Option (Nat × Nat) → Int32
  | none => -7
  | some x => nI x.2
def xok (x : Option (Nat × Nat)) : Prop := ∀ q, x = some q → q.1 < 60
theorem xok_or {a b : Option (Nat × Nat)} (x : xok a) (y : xok b) : xok (or2 a b) := by
  cases a with
  | none => exact y
  | some q => exact x
theorem xok_sh {a : Option (Nat × Nat)} {s : Nat} (x : xok a) : xok (shn s a) := by
  cases a with
  | none => exact fun _ h => nomatch h
  | some q => intro r e; injection e with e; subst e; exact x q rfl
theorem xok_n : xok none := fun _ h => nomatch h
theorem xok_l {v pl K : Nat} (h : pl < 60) : xok (lk1 v pl K) := by
  unfold lk1; split
  · exact xok_n
  · intro q e; injection e with e; subst e; exact h
theorem un_ok : ∀ t : T, ((wft t).1 → ∀ K, xok ((un t).1 K)) ∧ ((wft t).2 → ∀ K, xok ((un t).2.1 K) ∧ xok ((un t).2.2 K))
  | .leaf => ⟨fun h => h.elim, fun _ _ => ⟨xok_n, xok_n⟩⟩
  | .inner kd nm v l r => by
    refine ⟨fun ⟨w1, w2, w3, w4, w5⟩ K => ?_, fun ⟨w1, w2⟩ K => ⟨xok_or ((un_ok l).1 w1 K) ((un_ok r).2 w2 _).1, xok_or ((un_ok l).1 w1 K) ((un_ok r).2 w2 _).2⟩⟩
    show xok (if kd ≤ 2 then (un l).2.1 K else if kd = 4 then shn 1 ((un l).2.1 K) else if kd = 3 ∨ kd = 5 then shn 1 ((un l).2.2 K) else if kd = 6 then none else or2 (lk1 v.2.2.1 v.1 K) (lk1 v.2.2.2 v.2.1 K))
    split
    · exact ((un_ok l).2 w5 K).1
    · split
      · exact xok_sh ((un_ok l).2 w5 K).1
      · split
        · exact xok_sh ((un_ok l).2 w5 K).2
        · split
          · exact xok_n
          · have := w2 (by omega)
            exact xok_or (xok_l this.1) (xok_l this.2.1)
theorem or8 : ∀ v, v < 3 → ∀ K, K < 8 → K ||| 2 ^ v < 8 := by decide +kernel
theorem kb_lt : ∀ t : T, ((wft t).1 → ∀ K, K < 8 → (kb t).1 K < 8) ∧ ((wft t).2 → ∀ K, K < 8 → (kb t).2 K < 8)
  | .leaf => ⟨fun h => h.elim, fun _ _ h => h⟩
  | .inner kd nm v l r => by
    refine ⟨fun ⟨w1, w2, w3, w4, w5⟩ K hK => ?_, fun ⟨w1, w2⟩ K hK => (kb_lt r).2 w2 _ ((kb_lt l).1 w1 K hK)⟩
    show (if kd ≤ 2 then (kb l).2 K else if kd = 6 then K ||| 2 ^ v.2.2.1 else K) < 8
    split
    · exact (kb_lt l).2 w5 K hK
    · split
      · exact or8 _ (w2 (by omega)).2.2.1 K hK
      · exact hK
theorem nd_ht {h : vH} : ∀ t : T, (∀ lo hi b, nd h t lo hi b → (ht t).1 + lo ≤ hi) ∧ (∀ lo hi x p f l, cd h t lo hi x p f l → lo ≤ x → x < hi → (ht t).2 + lo + 1 ≤ hi) ∧ ∀ lo hi x p f l, cd h t lo hi x p f l → lo ≤ hi → (ht t).2 + lo ≤ hi
  | .leaf => ⟨fun lo hi b y => y.elim, fun lo hi x p f l _ h1 h2 => by show 0 + lo + 1 ≤ hi; omega, fun lo hi x p f l _ h1 => by show 0 + lo ≤ hi; omega⟩
  | .inner kd nm v l r => by
    refine ⟨fun lo hi b y => ?_, fun lo hi x p f l' y h1 h2 => ?_, fun lo hi x p f l' y h1 => ?_⟩
    · obtain ⟨e1, e2, e3, e4, e5⟩ := nd_i.mp y
      have := (nd_ht l).2.1 _ _ _ _ _ _ e5 e1 e2
      show 1 + (ht l).2 + lo ≤ hi
      omega
    · obtain ⟨b, lo', hi', e1, e2, e3, e4, e5, e6, e7⟩ := cd_i.mp y
      have a1 := (nd_ht l).1 _ _ _ e5
      have nb := nd_b e5
      show max (ht l).1 (ht r).2 + lo + 1 ≤ hi
      have a2 : (ht r).2 + lo + 1 ≤ hi := by
        rcases Nat.lt_or_ge x hi' with hx | hx
        · have := (nd_ht r).2.2 _ _ _ _ _ _ e7 (by omega)
          omega
        · have := (nd_ht r).2.1 _ _ _ _ _ _ e7 hx h2
          omega
      omega
    · obtain ⟨b, lo', hi', e1, e2, e3, e4, e5, e6, e7⟩ := cd_i.mp y
      have a1 := (nd_ht l).1 _ _ _ e5
      have nb := nd_b e5
      have a2 := (nd_ht r).2.2 _ _ _ _ _ _ e7 (by omega)
      show max (ht l).1 (ht r).2 + lo ≤ hi
      omega
/-! the class's Knowledge -/
def kw (h : vH) (x : Option (Nat × Nat)) : Prop := hI h 353 1 = ua x ∧ hI h 353 2 = ub x
def ke (h : vH) : Prop := (hK h)[353]? = some (3, 0) ∧ ∀ i, i < 62 → (hK h)[nA i]? = some (5, 0)
def fk (h h' : vH) : Prop := fm (fun r j => r = 353 ∧ (j = 1 ∨ j = 2)) h h'
theorem fk.rf {h : vH} : fk h h := fm.rf
theorem fk.tr {h h' h2 : vH} (x : fk h h') (y : fk h' h2) : fk h h2 := fm.tr x y
theorem fk.nn {h h' : vH} (x : fk h h') {i : Nat} (hi : i < 62) : hI h' (nA i) = hI h (nA i) := funext fun j => x.2 _ _ (fun z => by unfold nA at z; omega)
theorem fk.ek {h h' : vH} (x : fk h h') (k : ke h) : ke h' := by unfold ke at *; rw [fm.k x]; exact k
theorem fk.dn {h h' : vH} (x : fk h h') (t : T) : (∀ lo hi b, nd h t lo hi b → nd h' t lo hi b) ∧ ∀ lo hi y p f l, hi ≤ 62 → cd h t lo hi y p f l → cd h' t lo hi y p f l :=
  nd_same (fun i hi => x.nn hi) (fun i hi => by rw [fm.r x]) t
theorem nI_m7 {p : Nat} (h : p < 60) : ¬ nI p = -7 := by
  intro e
  have := congrArg Int32.toInt e
  rw [nI_toInt (by omega)] at this
  have h7 : (-7 : Int32).toInt = -7 := by decide
  omega
theorem c_look {d cx n v pl K sc : Nat} {h : vH} {x : Option (Nat × Nat)} {Q : vQ} (g : (hK h)[353]? = some (3, 0)) (hv : v < 8) (hx : xok x) (kx : kw h x) (k : ∀ h', fk h h' → kw h' (or2 x (shn sc (lk1 v pl K))) → Q none h') : vm_C mX3_look d cx n [vR (some 353), vI (nI v), vI (nI pl), vI (nI K), vI (nI sc)] h Q := by
  cases x with
  | some q =>
    refine bX3_look_0 g (fun _ => bX3_look_28 (k h fk.rf kx)) (fun hz => absurd (Classical.byContradiction hz) (by rw [kx.1]; exact nI_m7 (hx q rfl)))
  | none =>
    refine bX3_look_0 g (fun hz => absurd kx.1 hz) (fun _ => bX3_look_9 (fun hz => bX3_look_28 ?_) (fun hz => bX3_look_17 g (bX3_look_28 ?_)))
    · rw [ut8 hv, Bool.not_eq_false] at hz
      have e : lk1 v pl K = none := by unfold lk1; rw [if_pos hz]
      rw [e] at k
      exact k h fk.rf kx
    · have hz := Classical.byContradiction hz
      rw [ut8 hv] at hz
      have e : lk1 v pl K = some (pl, 0) := by unfold lk1; rw [if_neg (by rw [hz]; decide)]
      rw [e] at k
      refine k _ (fm.tr ((fm_uI h 353 1 _).mono (fun r j z => ⟨z.1, Or.inl z.2⟩)) ((fm_uI _ 353 2 _).mono (fun r j z => ⟨z.1, Or.inr z.2⟩))) ⟨?_, ?_⟩
      · rw [hI_uIk _ _ _ (by decide), hI_uIs]; rfl
      · rw [hI_uIs]; show nI sc = nI (0 + sc); rw [Nat.zero_add]
theorem ksw : ∀ kd, kd < 12 → vm_tsw (nI kd) 82 0 6 #[42, 42, 42, 62, 50, 62, 73] = some (if kd ≤ 2 then 42 else if kd = 4 then 50 else if kd = 3 ∨ kd = 5 then 62 else if kd = 6 then 73 else 82) := by decide +kernel
theorem c_know : ∀ t : T,
    (∀ (d cx n : Nat) (h : vH) (lo hi b K sc : Nat) (x : Option (Nat × Nat)) (Q : vQ), 2 * (ht t).1 ≤ d → ke h → nd h t lo hi b → (wft t).1 → K < 8 → xok x → kw h x → (∀ h', fk h h' → kw h' (or2 x (shn sc ((un t).1 K))) → Q (some (vI (nI ((kb t).1 K)))) h') → vm_C mX3_readOver d cx n [vR (some 353), vR (some (nA b)), vI (nI K), vI (nI sc)] h Q) ∧
    (∀ (d cx n : Nat) (h : vH) (lo hi y : Nat) (p f l r1 : Option Nat) (K sc : Nat) (x2 : Int32) (x : Option (Nat × Nat)) (Q : vQ), 2 * (ht t).2 + 1 ≤ d → ke h → hi ≤ 62 → cd h t lo hi y p f l → (wft t).2 → K < 8 → xok x → kw h x → (∀ h', fk h h' → kw h' (or2 x (shn sc ((un t).2.1 K))) → Q (some (vI (nI ((kb t).2 K)))) h') → vm_E mX3_readChain d cx n 9 [some (vR (some 353)), some (vR r1), some (vI x2), some (vI (nI sc)), some (vI (nI K)), some (vR f)] [] h Q) ∧
    (∀ (d cx n : Nat) (h : vH) (lo hi y : Nat) (p f l r1 : Option Nat) (K sc : Nat) (x : Option (Nat × Nat)) (Q : vQ), 2 * (ht t).2 + 1 ≤ d → ke h → hi ≤ 62 → cd h t lo hi y p f l → (wft t).2 → K < 8 → xok x → kw h x → (∀ h', fk h h' → kw h' (or2 x (shn sc ((un t).2.2 K))) → Q none h') → vm_E mX3_readEach d cx n 6 [some (vR (some 353)), some (vR r1), some (vI (nI K)), some (vI (nI sc)), some (vR f)] [] h Q)
  | .leaf => ⟨fun _ _ _ _ _ _ _ _ _ _ _ _ _ y => y.elim, fun d cx n h lo hi y p f l r1 K sc x2 x Q _ _ _ c _ _ _ kx k => by
      refine bX3_readChain_9 (fun _ => bX3_readChain_35 (k h fk.rf ?_)) (fun hz => absurd c.1 hz)
      show kw h (or2 x none); rw [or2_n]; exact kx, fun d cx n h lo hi y p f l r1 K sc x Q _ _ _ c _ _ _ kx k => by
      refine bX3_readEach_6 (fun _ => bX3_readEach_30 (k h fk.rf ?_)) (fun hz => absurd c.1 hz)
      show kw h (or2 x none); rw [or2_n]; exact kx⟩
  | .inner kd nm v l r => by
    refine ⟨fun d cx n h lo hi b K sc x Q hd g y w hK hx kx k => ?_, fun d cx n h lo hi y p f l' r1 K sc x2 x Q hd g h62 c w hK hx kx k => ?_, fun d cx n h lo hi y p f l' r1 K sc x Q hd g h62 c w hK hx kx k => ?_⟩
    · obtain ⟨w1, w2, w3, w4, w5⟩ := w
      obtain ⟨e1, e2, e3, e4, e5⟩ := nd_i.mp y
      have hd2 : 2 * (1 + (ht l).2) ≤ d := hd
      have gb := g.2 b (by omega)
      have sw := ksw kd (by omega)
      rw [← e4.1] at sw
      have k : ∀ h', fk h h' → kw h' (or2 x (shn sc (if kd ≤ 2 then (un l).2.1 K else if kd = 4 then shn 1 ((un l).2.1 K) else if kd = 3 ∨ kd = 5 then shn 1 ((un l).2.2 K) else if kd = 6 then none else or2 (lk1 v.2.2.1 v.1 K) (lk1 v.2.2.2 v.2.1 K)))) → Q (some (vI (nI (if kd ≤ 2 then (kb l).2 K else if kd = 6 then K ||| 2 ^ v.2.2.1 else K)))) h' := k
      refine bX3_readOver_0 (fun _ => ?_) (fun hz => absurd nofun hz)
      by_cases h2 : kd ≤ 2
      · rw [if_pos h2] at sw
        rw [if_pos h2, if_pos h2] at k
        refine bX3_readOver_6 (tgt := 52) gb sw (by decide) (bX3_readOver_52 (R := fun r h' => ∃ z, r = some (vI z) ∧ Q (some (vI z)) h') g.1 (by omega) (bX3_readChain_0 gb ((c_know l).2.1 _ _ _ _ _ _ _ _ _ _ _ _ _ _ _ _ (by omega) g e3 e5 w5 hK hx kx (fun h' f q => ⟨_, rfl, k h' f q⟩))) ?_)
        rintro r h' ⟨z, rfl, q⟩
        exact bX3_readOver_59 q
      rw [if_neg h2] at sw
      rw [if_neg h2, if_neg h2] at k
      by_cases h4 : kd = 4
      · rw [if_pos h4] at sw
        rw [if_pos h4, if_neg (by omega), shn_sh] at k
        refine bX3_readOver_6 (tgt := 60) gb sw (by decide) (bX3_readOver_60 (R := fun r h' => (∃ z, r = some (vI z)) ∧ Q (some (vI (nI K))) h') g.1 (by omega) (by rw [nI_1]; exact (bX3_readChain_0 gb ((c_know l).2.1 _ _ _ _ _ _ _ _ _ _ _ _ _ _ _ _ (by omega) g e3 e5 w5 hK hx kx (fun h' f q => ⟨⟨_, rfl⟩, k h' f q⟩)))) ?_)
        rintro r h' ⟨⟨z, rfl⟩, q⟩
        exact bX3_readOver_69 q
      rw [if_neg h4] at sw
      rw [if_neg h4] at k
      by_cases h35 : kd = 3 ∨ kd = 5
      · rw [if_pos h35] at sw
        rw [if_pos h35, if_neg (by omega), shn_sh] at k
        refine bX3_readOver_6 (tgt := 72) gb sw (by decide) (bX3_readOver_72 (R := fun r h' => r = none ∧ Q (some (vI (nI K))) h') g.1 (by omega) (by rw [nI_1]; exact (bX3_readEach_0 gb ((c_know l).2.2 _ _ _ _ _ _ _ _ _ _ _ _ _ _ _ (by omega) g e3 e5 w5 hK hx kx (fun h' f q => ⟨rfl, k h' f q⟩)))) ?_)
        rintro r h' ⟨rfl, q⟩
        exact bX3_readOver_81 q
      rw [if_neg h35] at sw
      rw [if_neg h35] at k
      have w6 := w2 (by omega)
      obtain ⟨q1, q2, q3, q4, -⟩ := id w6
      have e6 := e4.2.1 (by omega)
      have e7 := e4.2.2 (Or.inl (by omega))
      by_cases h6 : kd = 6
      · rw [if_pos h6] at sw
        rw [if_pos h6, if_pos h6] at k
        refine bX3_readOver_6 (tgt := 83) gb sw (by decide) (bX3_readOver_83 gb ?_)
        rw [e6.2.2.1, shl1 _ (by omega), nI_or]
        exact k h fk.rf (by show kw h (or2 x none); rw [or2_n]; exact kx)
      · rw [if_neg h6] at sw
        rw [if_neg h6, if_neg h6, shn_or, ← or2_a] at k
        refine bX3_readOver_6 (tgt := 92) gb sw (by decide) (bX3_readOver_92 (R := fun r h' => r = none ∧ fk h h' ∧ kw h' (or2 x (shn sc (lk1 v.2.2.1 v.1 K)))) gb g.1 (by omega) (by rw [e6.2.2.1, e7]; exact c_look g.1 (by omega) hx kx (fun h' f q => ⟨rfl, f, q⟩)) ?_)
        rintro r h' ⟨rfl, f, q⟩
        have g' := f.ek g
        refine bX3_readOver_106 (R := fun r h2 => r = none ∧ fk h' h2 ∧ kw h2 (or2 (or2 x (shn sc (lk1 v.2.2.1 v.1 K))) (shn sc (lk1 v.2.2.2 v.2.1 K)))) (g'.2 b (by omega)) g'.1 (by omega) (by rw [f.nn (by omega), e6.2.2.2, e6.2.1]; exact c_look g'.1 (by omega) (xok_or hx (xok_sh (xok_l w6.1))) q (fun h' f q => ⟨rfl, f, q⟩)) ?_
        rintro r h2 ⟨rfl, f2, q2⟩
        exact bX3_readOver_120 (k h2 (f.tr f2) q2)
    · obtain ⟨w1, w2⟩ := w
      obtain ⟨b, lo', hi', e1, e2, e3, e4, e5, e6, e7⟩ := cd_i.mp c
      have nb := nd_b e5
      have hd2 : 2 * (max (ht l).1 (ht r).2) + 1 ≤ d := hd
      have k : ∀ h', fk h h' → kw h' (or2 x (shn sc (or2 ((un l).1 K) ((un r).2.1 ((kb l).1 K))))) → Q (some (vI (nI ((kb r).2 ((kb l).1 K))))) h' := k
      rw [shn_or, ← or2_a] at k
      subst e1
      refine bX3_readChain_9 (fun hz => absurd hz nofun) (fun _ => bX3_readChain_14 (R := fun r h' => r = some (vI (nI ((kb l).1 K))) ∧ fk h h' ∧ kw h' (or2 x (shn sc ((un l).1 K)))) g.1 (by omega) ((c_know l).1 _ _ _ _ _ _ _ _ _ _ _ (by omega) g e5 w1 hK hx kx (fun h' f q => ⟨rfl, f, q⟩)) ?_)
      rintro r' h' ⟨rfl, f, q⟩
      have g' := f.ek g
      refine bX3_readChain_23 (g'.2 b (by omega)) ((c_know r).2.1 _ _ _ _ _ _ _ _ _ _ _ _ _ _ _ _ (by omega) g' h62 (by rw [fm.r f]; exact (f.dn r).2 _ _ _ _ _ _ h62 e7) w2 ((kb_lt l).1 w1 K hK) (xok_or hx (xok_sh ((un_ok l).1 w1 K))) q (fun h2 f2 q2 => k h2 (f.tr f2) q2))
    · obtain ⟨w1, w2⟩ := w
      obtain ⟨b, lo', hi', e1, e2, e3, e4, e5, e6, e7⟩ := cd_i.mp c
      have nb := nd_b e5
      have hd2 : 2 * (max (ht l).1 (ht r).2) + 1 ≤ d := hd
      have k : ∀ h', fk h h' → kw h' (or2 x (shn sc (or2 ((un l).1 K) ((un r).2.2 K)))) → Q none h' := k
      rw [shn_or, ← or2_a] at k
      subst e1
      refine bX3_readEach_6 (fun hz => absurd hz nofun) (fun _ => bX3_readEach_11 (R := fun r h' => (∃ z, r = some (vI z)) ∧ fk h h' ∧ kw h' (or2 x (shn sc ((un l).1 K)))) g.1 (by omega) ((c_know l).1 _ _ _ _ _ _ _ _ _ _ _ (by omega) g e5 w1 hK hx kx (fun h' f q => ⟨⟨_, rfl⟩, f, q⟩)) ?_)
      rintro r' h' ⟨⟨z, rfl⟩, f, q⟩
      have g' := f.ek g
      refine bX3_readEach_19 (g'.2 b (by omega)) ((c_know r).2.2 _ _ _ _ _ _ _ _ _ _ _ _ _ _ _ (by omega) g' h62 (by rw [fm.r f]; exact (f.dn r).2 _ _ _ _ _ _ h62 e7) w2 hK (xok_or hx (xok_sh ((un_ok l).1 w1 K))) q (fun h2 f2 q2 => k h2 (f.tr f2) q2))
theorem c_suffices {d cx n b K : Nat} {h : vH} {t : T} {Q : vQ} (hd : 130 ≤ d) (g : ke h) (y : nd h t 0 62 b) (w : (wft t).1) (hK : K < 8) (k1 : (un t).1 K = none → ∀ h', fm (fun r j => r = 353 ∧ j ≤ 2) h h' → kw h' ((un t).1 K) → hI h' 353 0 = nI ((kb t).1 K) → Q (some (vI 1)) h') (k0 : ¬ (un t).1 K = none → ∀ h', fm (fun r j => r = 353 ∧ j ≤ 2) h h' → kw h' ((un t).1 K) → Q (some (vI 0)) h') : vm_C mX3_suffices d cx n [vR (some 353), vR (some (nA b)), vI (nI K)] h Q := by
  have hh := (nd_ht t).1 _ _ _ y
  have f0 : fk h (uI (uI h 353 1 (-7)) 353 2 (-7)) := fm.tr ((fm_uI h 353 1 _).mono (fun r j z => ⟨z.1, Or.inl z.2⟩)) ((fm_uI _ 353 2 _).mono (fun r j z => ⟨z.1, Or.inr z.2⟩))
  have q0 : kw (uI (uI h 353 1 (-7)) 353 2 (-7)) none := ⟨by rw [hI_uIk _ _ _ (by decide), hI_uIs]; rfl, by rw [hI_uIs]; rfl⟩
  generalize eg : uI (uI h 353 1 (-7)) 353 2 (-7) = g0 at f0 q0
  refine bX3_suffices_0 (R := fun r h' => r = some (vI (nI ((kb t).1 K))) ∧ fk h h' ∧ kw h' ((un t).1 K)) g.1 (by omega) (by rw [eg]; exact (c_know t).1 _ _ _ _ _ _ _ _ _ _ _ (by omega) (f0.ek g) ((f0.dn t).1 _ _ _ y) w hK xok_n q0 (fun h' f q => ⟨rfl, f0.tr f, by rw [shn_0] at q; exact q⟩)) ?_
  rintro r h' ⟨rfl, f, q⟩
  have f2 : fm (fun r j => r = 353 ∧ j ≤ 2) h (uI h' 353 0 (nI ((kb t).1 K))) := (fm.mono f (fun r j z => ⟨z.1, by omega⟩)).tr ((fm_uI _ 353 0 _).mono (fun r j z => ⟨z.1, by omega⟩))
  have q2 : kw (uI h' 353 0 (nI ((kb t).1 K))) ((un t).1 K) := ⟨by rw [hI_uIk _ _ _ (by decide)]; exact q.1, by rw [hI_uIk _ _ _ (by decide)]; exact q.2⟩
  have g' := f.ek g
  refine bX3_suffices_20 g'.1 g'.1 (fun hz => bX3_suffices_36 (bX3_suffices_37 rfl (k0 (fun z => hz ?_) _ f2 q2))) (fun hz => bX3_suffices_32 (bX3_suffices_37 rfl (k1 ?_ _ f2 q2 (hI_uIs _ _ _ _))))
  · rw [q2.1, z]; rfl
  · have hz := Classical.byContradiction hz
    rw [q2.1] at hz
    cases e : (un t).1 K with
    | none => rfl
    | some s => rw [e] at hz; exact absurd hz (nI_m7 ((un_ok t).1 w K s e))
