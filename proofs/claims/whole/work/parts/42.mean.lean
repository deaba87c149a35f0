/-! ===== the class's Meaning ===== -/
def mset (lo hi w : Nat) (r : Nat) : Prop := r = w ∨ ∃ i, lo ≤ i ∧ i < hi ∧ (r = nA i + 2 ∨ r = nA i + 4)
def mout (lo hi w : Nat) : Prop := ∀ i, lo ≤ i → i < hi → ¬ (w = nA i + 2 ∨ w = nA i + 4)
theorem mset.mono {lo hi lo2 hi2 w r : Nat} (x : mset lo2 hi2 w r) (h1 : lo ≤ lo2) (h2 : hi2 ≤ hi) : mset lo hi w r := x.imp id (fun ⟨i, a, b, c⟩ => ⟨i, by omega, by omega, c⟩)
theorem mout.mono {lo hi lo2 hi2 w : Nat} (x : mout lo hi w) (h1 : lo ≤ lo2) (h2 : hi2 ≤ hi) : mout lo2 hi2 w := fun i a b => x i (by omega) (by omega)
/-- a node's words lie out of a stretch without it -/
theorem mout_w {lo hi x : Nat} (hx : x < lo ∨ hi ≤ x) : mout lo hi (nA x + 2) ∧ mout lo hi (nA x + 4) := ⟨fun i a b c => by unfold nA at c; omega, fun i a b c => by unfold nA at c; omega⟩
theorem bN_0 {b : Bool} (h : bN b = 0) : b = false := by cases b; rfl; exact absurd h (by decide +kernel)
theorem bN_1 {b : Bool} (h : ¬ bN b = 0) : b = true := by cases b; exact absurd rfl h; rfl
def rep (h : vH) (am wa : Nat) (W : wT) : Prop := mw h am wa W ∧ nk h
theorem fz.p {A : Nat → Prop} {h h' : vH} (x : fz A h h') {am wa : Nat} {W : wT} (m : rep h am wa W) : rep h' am wa W := ⟨x.w m.1, x.n m.2⟩
/-- a turn by the piece at r, of the acts A, its sets in the stretch from lo to hi -/
def trn (W : wT) (am wa D lo hi : Nat) (h : vH) (A : List aT) (r : Option Nat) : Prop := ∀ (d cx n a w : Nat) (bk : Bool) (g : vH) (B : Nat → Prop) (Q : vQ), D ≤ d → fz B h g → rep g am wa W → isA g a w → mout lo hi w → (∀ h', fz (mset lo hi w) g h' → eS (sA h' w) (dr W.1 bk A (sA g w)) → Q none h') → vm_C mX4_turn d cx n [vR (some am), vR r, vR (some a), vI (bN bk)] g Q
theorem c_findS {W : wT} {am wa D lo hi d cx n a w : Nat} {h g : vH} {A : List aT} {r : Option Nat} {B : Nat → Prop} {Q : vQ} (x : trn W am wa D lo hi h A r) (vA : voks A) (hd : D + 1 ≤ d) (f : fz B h g) (m : rep g am wa W) (ha : isA g a w) (ho : mout lo hi w) (k : ∀ h', fz (mset lo hi w) g h' → eS (sA h' w) (hasR W.1 A) → Q none h') : vm_C mX4_findSupporting d cx n [vR (some am), vR r, vR (some a)] g Q := by
  refine bX4_findSupporting_0 (R := fun r h' => r = none ∧ uS g w (fun _ => true) = h') ha.1 (by omega) (c_fill1 ha ⟨rfl, rfl⟩) ?_
  rintro r h' ⟨rfl, rfl⟩
  have f2 := fz_uS g w (fun _ => true)
  refine bX4_findSupporting_7 (R := fun r h' => r = none ∧ fz (mset lo hi w) (uS g w (fun _ => true)) h' ∧ eS (sA h' w) (bw W.1 A (sA (uS g w (fun _ => true)) w))) m.1.1 (by omega) (x _ _ _ a w true _ (fun r => B r ∨ r = w) _ (by omega) ((f.mono (fun r z => Or.inl z)).tr (f2.mono (fun r z => Or.inr z))) (f2.p m) (ha.fr f2.f) ho (fun h' f3 e => ⟨rfl, f3, e⟩)) ?_
  rintro r h' ⟨rfl, f3, e⟩
  exact bX4_findSupporting_14 (k h' ((f2.mono (fun r z => Or.inl z)).tr f3) (e.tr (bw_ext vA (eS_uS _ _ _))))
/-- what holds of a chain's pieces, for turns -/
def gFt (W : wT) (t : T) : Prop := ∀ (am wa d cx n : Nat) (h : vH) (lo hi y a w : Nat) (p f l r1 : Option Nat) (Q : vQ), 3 * (ht t).2 + 6 ≤ d → rep h am wa W → isA h a w → mout lo hi w → hi ≤ 62 → cd h t lo hi y p f l → (wft t).2 → (∀ h', fz (mset lo hi w) h h' → eS (sA h' w) (fw W.1 (ac W.1 (ta1 W) t).2.1 (sA h w)) → Q none h') → vm_E mX4_turnByChain d cx n 17 [some (vR (some am)), some (vR r1), some (vR (some a)), some (vI 0), some (vR f)] [] h Q
def gBt (W : wT) (t : T) : Prop := ∀ (am wa d cx n : Nat) (h : vH) (lo hi y a w : Nat) (p f l r1 : Option Nat) (Q : vQ), 3 * (ht t).2 + 6 ≤ d → rep h am wa W → isA h a w → mout lo hi w → hi ≤ 62 → cd h t lo hi y p f l → (wft t).2 → (∀ h', fz (mset lo hi w) h h' → eS (sA h' w) (bw W.1 (ac W.1 (ta1 W) t).2.1 (sA h w)) → vm_E mX4_turnByChain d cx n 17 [some (vR (some am)), some (vR r1), some (vR (some a)), some (vI 1), some (vR p)] [] h' Q) → vm_E mX4_turnByChain d cx n 17 [some (vR (some am)), some (vR r1), some (vR (some a)), some (vI 1), some (vR l)] [] h Q
def gCt (W : wT) (t : T) : Prop := ∀ (am wa d cx n : Nat) (h : vH) (lo hi b : Nat) (p f l r2 : Option Nat) (U : Nat → Bool) (Q : vQ), 3 * (ht t).2 + 6 ≤ d → rep h am wa W → hi ≤ 62 → b < 62 → cd h t lo hi b p f l → (wft t).2 → eS (sA h (nA b + 2)) U → (∀ h', fz (fun r => r = nA b + 2 ∨ mset lo hi (nA b + 4) r) h h' → eS (sA h' (nA b + 2)) (fun k => U k || (ac W.1 (ta1 W) t).2.2.1 k) → vm_E mX4_keepByChoice d cx n 45 [some (vR (some am)), some (vR (some (nA b))), some (vR r2), some (vR none)] [] h' Q) → vm_E mX4_keepByChoice d cx n 13 [some (vR (some am)), some (vR (some (nA b))), some (vR r2), some (vR f)] [] h Q
def gNt (W : wT) (t : T) : Prop := ∀ (am wa d : Nat) (h : vH) (lo hi b : Nat), 3 * (ht t).1 + 4 ≤ d → nd h t lo hi b → (wft t).1 → trn W am wa d lo hi h (ac W.1 (ta1 W) t).1 (some (nA b))
def gHt (W : wT) (t : T) : Prop := ∀ (am wa d : Nat) (h : vH) (lo hi y : Nat) (p f l : Option Nat), 3 * (ht t).2 + 4 ≤ d → hi ≤ 62 → cd h t lo hi y p f l → (wft t).2 → ¬ t = .leaf → ∃ lo' hi', lo ≤ lo' ∧ hi' ≤ hi ∧ (y < lo' ∨ hi' ≤ y) ∧ trn W am wa d lo' hi' h (ac W.1 (ta1 W) t).2.2.2.1 f
def gZt (W : wT) (t : T) : Prop := ∀ (am wa d : Nat) (h : vH) (lo hi y : Nat) (p f l : Option Nat), 3 * (ht t).2 + 4 ≤ d → hi ≤ 62 → cd h t lo hi y p f l → (wft t).2 → ¬ t = .leaf → ∃ lo' hi', lo ≤ lo' ∧ hi' ≤ hi ∧ (y < lo' ∨ hi' ≤ y) ∧ trn W am wa d lo' hi' h (ac W.1 (ta1 W) t).2.2.2.2 l
theorem trn.le {W : wT} {am wa D D2 lo hi : Nat} {h : vH} {A : List aT} {r : Option Nat} (x : trn W am wa D lo hi h A r) (hD : D ≤ D2) : trn W am wa D2 lo hi h A r := fun d cx n a w bk g B Q h1 => x d cx n a w bk g B Q (by omega)
theorem gFt_0 (W : wT) : gFt W .leaf := fun am wa d cx n h lo hi y a w p f l r1 Q _ _ _ _ _ c _ k => bX4_turnByChain_17 (fun _ => bX4_turnByChain_52 (k h fz.rf eS.rf)) (fun hz => absurd c.1 hz)
theorem gBt_0 (W : wT) : gBt W .leaf := fun am wa d cx n h lo hi y a w p f l r1 Q _ _ _ _ _ c _ k => by rw [c.2]; exact k h fz.rf eS.rf
theorem gCt_0 (W : wT) : gCt W .leaf := fun am wa d cx n h lo hi b p f l r2 U Q _ _ _ _ c _ e k => bX4_keepByChoice_13 (fun hz => by rw [hz]; exact k h fz.rf (e.tr (fun k _ => (Bool.or_false _).symm))) (fun hz => absurd c.1 hz)
theorem gFt_1 {W : wT} {kd nm : Nat} {v : Nat × Nat × Nat × Nat} {l r : T} (xN : gNt W l) (xF : gFt W r) : gFt W (.inner kd nm v l r) := by
  intro am wa d cx n h lo hi y a w p f l' r1 Q hd m ha ho h62 c wf k
  obtain ⟨w1, w2⟩ := wf
  obtain ⟨b, lo', hi', e1, e2, e3, e4, e5, e6, e7⟩ := cd_i.mp c
  have nb := nd_b e5
  have hd2 : 3 * (max (ht l).1 (ht r).2) + 6 ≤ d := hd
  have k : ∀ h', fz (mset lo hi w) h h' → eS (sA h' w) (fw W.1 ((ac W.1 (ta1 W) l).1 ++ (ac W.1 (ta1 W) r).2.1) (sA h w)) → Q none h' := k
  subst e1
  refine bX4_turnByChain_17 (fun hz => absurd hz nofun) (fun _ => bX4_turnByChain_22 (R := fun r h' => r = none ∧ fz (mset lo' hi' w) h h' ∧ eS (sA h' w) (fw W.1 (ac W.1 (ta1 W) l).1 (sA h w))) m.1.1 (by omega) (xN am wa (d - 1) h lo' hi' b (by omega) e5 w1 _ _ _ a w false h (fun _ => False) _ (Nat.le_refl _) fz.rf m ha (ho.mono e2 (by omega)) (fun h' f e => ⟨rfl, f, e⟩)) ?_)
  rintro r' h' ⟨rfl, f, e⟩
  have f' : fz (mset lo hi w) h h' := f.mono (fun r z => z.mono e2 (by omega))
  have m' := f.p m
  refine bX4_turnByChain_30 (fun _ => bX4_turnByChain_42 (m'.2 b (by omega)).1 (bX4_turnByChain_47 ?_)) (fun hz => absurd rfl hz)
  refine xF am wa d cx n h' hi' hi y a w _ _ _ r1 Q (by omega) m' (ha.fr f.f) (ho.mono (by omega) (Nat.le_refl _)) h62 (by rw [f.R]; exact (f.nd r).2 _ _ _ _ _ _ h62 e7) w2 (fun h2 f2 e0 => k h2 (f'.tr (f2.mono (fun r z => z.mono (by omega) (Nat.le_refl _)))) ?_)
  rw [fw_app]
  exact e0.tr (fw_ext ((ac_ok _ _ r).2 w2).1 e)
theorem gBt_1 {W : wT} {kd nm : Nat} {v : Nat × Nat × Nat × Nat} {l r : T} (xN : gNt W l) (xB : gBt W r) : gBt W (.inner kd nm v l r) := by
  intro am wa d cx n h lo hi y a w p f l' r1 Q hd m ha ho h62 c wf k
  obtain ⟨w1, w2⟩ := wf
  obtain ⟨b, lo', hi', e1, e2, e3, e4, e5, e6, e7⟩ := cd_i.mp c
  have nb := nd_b e5
  have hd2 : 3 * (max (ht l).1 (ht r).2) + 6 ≤ d := hd
  have k : ∀ h', fz (mset lo hi w) h h' → eS (sA h' w) (bw W.1 ((ac W.1 (ta1 W) l).1 ++ (ac W.1 (ta1 W) r).2.1) (sA h w)) → vm_E mX4_turnByChain d cx n 17 [some (vR (some am)), some (vR r1), some (vR (some a)), some (vI 1), some (vR p)] [] h' Q := k
  refine xB am wa d cx n h hi' hi y a w _ _ _ r1 Q (by omega) m ha (ho.mono (by omega) (Nat.le_refl _)) h62 e7 w2 (fun h1 f1 e0 => ?_)
  have m1 := f1.p m
  have f1' : fz (mset lo hi w) h h1 := f1.mono (fun r z => z.mono (by omega) (Nat.le_refl _))
  refine bX4_turnByChain_17 (fun hz => absurd hz nofun) (fun _ => bX4_turnByChain_22 (R := fun r h' => r = none ∧ fz (mset lo' hi' w) h1 h' ∧ eS (sA h' w) (bw W.1 (ac W.1 (ta1 W) l).1 (sA h1 w))) m1.1.1 (by omega) (xN am wa (d - 1) h lo' hi' b (by omega) e5 w1 _ _ _ a w true h1 _ _ (Nat.le_refl _) f1 m1 (ha.fr f1.f) (ho.mono e2 (by omega)) (fun h' f e => ⟨rfl, f, e⟩)) ?_)
  rintro r' h' ⟨rfl, f2, e⟩
  have m' := f2.p m1
  refine bX4_turnByChain_30 (fun hz => absurd hz (by decide +kernel)) (fun _ => bX4_turnByChain_34 (m'.2 b (by omega)).1 (bX4_turnByChain_47 ?_))
  rw [f2.R, f1.R, e6]
  refine k h' (f1'.tr (f2.mono (fun r z => z.mono e2 (by omega)))) ?_
  rw [bw_app]
  exact e.tr (bw_ext ((ac_ok _ _ l).1 w1) e0)
theorem gCt_1 {W : wT} {kd nm : Nat} {v : Nat × Nat × Nat × Nat} {l r : T} (xN : gNt W l) (xC : gCt W r) : gCt W (.inner kd nm v l r) := by
  intro am wa d cx n h lo hi b0 p f l' r2 U Q hd m h62 hb0 c wf eU k
  obtain ⟨w1, w2⟩ := wf
  obtain ⟨b, lo', hi', e1, e2, e3, e4, e5, e6, e7⟩ := cd_i.mp c
  have nb := nd_b e5
  have hd2 : 3 * (max (ht l).1 (ht r).2) + 6 ≤ d := hd
  have k : ∀ h', fz (fun r => r = nA b0 + 2 ∨ mset lo hi (nA b0 + 4) r) h h' → eS (sA h' (nA b0 + 2)) (fun k => U k || (hasR W.1 (ac W.1 (ta1 W) l).1 k || (ac W.1 (ta1 W) r).2.2.1 k)) → vm_E mX4_keepByChoice d cx n 45 [some (vR (some am)), some (vR (some (nA b0))), some (vR r2), some (vR none)] [] h' Q := k
  subst e1
  have n0 := m.2 b0 hb0
  have mo := mout_w e4
  refine bX4_keepByChoice_13 (fun hz => absurd hz nofun) (fun _ => bX4_keepByChoice_17 (R := fun r h' => r = none ∧ fz (mset lo' hi' (nA b0 + 4)) h h' ∧ eS (sA h' (nA b0 + 4)) (hasR W.1 (ac W.1 (ta1 W) l).1)) n0.1 m.1.1 (by omega) (by
    rw [show hR h (nA b0) 11 = some (nA b0 + 3) from n0.2.2.2.2]
    exact c_findS (xN am wa (d - 2) h lo' hi' b (by omega) e5 w1) ((ac_ok _ _ l).1 w1) (by omega) (fz.rf (A := fun _ => False)) m n0.2.2.1 mo.2 (fun h' f e => ⟨rfl, f, e⟩)) ?_)
  rintro r' h' ⟨rfl, f, e⟩
  have m' := f.p m
  have n1 := m'.2 b0 hb0
  have s2 : sA h' (nA b0 + 2) = sA h (nA b0 + 2) := f.S (fun z => z.elim (by omega) (fun ⟨i, a1, a2, a3⟩ => mo.1 i a1 a2 a3))
  refine bX4_keepByChoice_26 (b5 := nA b0 + 1) (R := fun r h2 => r = none ∧ uS h' (nA b0 + 2) (fun k => (sA h' (nA b0 + 2) k || sA h' (nA b0 + 4) k)) = h2) n1.1 n1.2.2.2.1 n1.2.1.1 (by omega) (by
    rw [show hR h' (nA b0) 11 = some (nA b0 + 3) from n1.2.2.2.2]
    exact c_unite n1.2.1 n1.2.2.1 ⟨rfl, rfl⟩) ?_
  rintro r' h2 ⟨rfl, rfl⟩
  have f2 := fz_uS h' (nA b0 + 2) (fun k => (sA h' (nA b0 + 2) k || sA h' (nA b0 + 4) k))
  have fA : fz (fun r => r = nA b0 + 2 ∨ mset lo hi (nA b0 + 4) r) h (uS h' (nA b0 + 2) (fun k => (sA h' (nA b0 + 2) k || sA h' (nA b0 + 4) k))) := (f.mono (fun r z => Or.inr (z.mono e2 (by omega)))).tr (f2.mono (fun r z => Or.inl z))
  refine bX4_keepByChoice_37 ((fA.p m).2 b (by omega)).1 ?_
  refine xC am wa d cx n _ hi' hi b0 _ _ _ r2 (fun k => U k || hasR W.1 (ac W.1 (ta1 W) l).1 k) Q (by omega) (fA.p m) h62 hb0 (by rw [fA.R]; exact (fA.nd r).2 _ _ _ _ _ _ h62 e7) w2 ((eS_uS _ _ _).tr (fun j hj => ?_)) (fun h3 f3 e3' => k h3 (fA.tr (f3.mono (fun r z => z.imp id (fun q => q.mono (by omega) (Nat.le_refl _))))) (e3'.tr (fun j hj => Bool.or_assoc _ _ _)))
  show (sA h' (nA b0 + 2) j || sA h' (nA b0 + 4) j) = (U j || hasR W.1 (ac W.1 (ta1 W) l).1 j)
  rw [s2, eU j hj, e j hj]
theorem gHt_1 {W : wT} {kd nm : Nat} {v : Nat × Nat × Nat × Nat} {l r : T} (xN : gNt W l) : gHt W (.inner kd nm v l r) := by
  intro am wa d h lo hi y p f l' hd h62 c wf _
  obtain ⟨w1, w2⟩ := wf
  obtain ⟨b, lo', hi', e1, e2, e3, e4, e5, e6, e7⟩ := cd_i.mp c
  have nb := nd_b e5
  have hd2 : 3 * (max (ht l).1 (ht r).2) + 4 ≤ d := hd
  subst e1
  exact ⟨lo', hi', e2, by omega, e4, xN am wa d h lo' hi' b (by omega) e5 w1⟩
theorem gZt_1 {W : wT} {kd nm : Nat} {v : Nat × Nat × Nat × Nat} {l r : T} (xN : gNt W l) (xZ : gZt W r) : gZt W (.inner kd nm v l r) := by
  intro am wa d h lo hi y p f l' hd h62 c wf _
  obtain ⟨w1, w2⟩ := wf
  obtain ⟨b, lo', hi', e1, e2, e3, e4, e5, e6, e7⟩ := cd_i.mp c
  have nb := nd_b e5
  have hd2 : 3 * (max (ht l).1 (ht r).2) + 4 ≤ d := hd
  cases r with
  | leaf =>
    rw [(cd_l.mp e7).2]
    exact ⟨lo', hi', e2, by omega, e4, xN am wa d h lo' hi' b (by omega) e5 w1⟩
  | inner k2 n2 v2 l2 r2 =>
    obtain ⟨lo2, hi2, q1, q2, q3, q4⟩ := xZ am wa d h hi' hi y _ _ _ (by omega) h62 e7 w2 nofun
    exact ⟨lo2, hi2, by omega, q2, q3, q4⟩
theorem tsw : ∀ kd, kd < 12 → vm_tsw (nI kd) 133 0 11 #[63, 63, 63, 106, 115, 83, 73, 124, 133, 133, 133, 124] = some (if kd ≤ 2 then 63 else if kd = 3 then 106 else if kd = 4 then 115 else if kd = 5 then 83 else if kd = 6 then 73 else if kd = 7 ∨ kd = 11 then 124 else 133) := by decide +kernel
theorem dr_t (n : Nat) (b : Bool) (X S : Nat → Bool) : dr n b [.inr X] S = fun k => S k && X k := by cases b <;> rfl
theorem gNt_1 {W : wT} {kd nm : Nat} {v : Nat × Nat × Nat × Nat} {l r : T} (xF : gFt W l) (xB : gBt W l) (xC : gCt W l) (xH : gHt W l) (xZ : gZt W l) : gNt W (.inner kd nm v l r) := by
  intro am wa D h0 lo hi b hD y0 wf d cx n a w bk h B Q hDd f0 m ha ho k
  have y := (f0.nd _).1 _ _ _ y0
  obtain ⟨w1, w2, w3, w4, w5⟩ := wf
  obtain ⟨e1, e2, e3, e4, e5⟩ := nd_i.mp y
  have hd2 : 3 * (1 + (ht l).2) + 4 ≤ D := hD
  have n0 := m.2 b (by omega)
  have gb := n0.1
  have mo := ho b e1 e2
  have sw := tsw kd (by omega)
  rw [← e4.1] at sw
  have k : ∀ h', fz (mset lo hi w) h h' → eS (sA h' w) (dr W.1 bk (if kd ≤ 2 then (ac W.1 (ta1 W) l).2.1 else if kd = 3 then [.inr (ac W.1 (ta1 W) l).2.2.1] else if kd = 4 then [.inr (fun k => !bw W.1 (ac W.1 (ta1 W) l).2.2.2.1 (fun j => !hasR W.1 (ac W.1 (ta1 W) l).2.2.2.2 j) k)] else if kd = 5 then [.inr (fun k => !hasR W.1 (ac W.1 (ta1 W) l).2.2.2.1 k)] else if kd = 6 then [.inl v.2.2.1] else [.inr (ta1 W kd nm v.2.2.1 v.2.2.2)]) (sA h w)) → Q none h' := k
  have va := (ac_ok W.1 (ta1 W) l).2 w5
  refine bX4_turn_0 (fun _ => ?_) (fun hz => absurd nofun hz)
  by_cases h2 : kd ≤ 2
  · rw [if_pos h2] at sw k
    refine bX4_turn_5 (tgt := 72) gb sw (by decide) (bX4_turn_72 (R := fun r h' => r = none ∧ Q none h') m.1.1 (by omega) ?_ ?_)
    · cases bk
      · exact bX4_turnByChain_0 (fun _ => bX4_turnByChain_11 gb (bX4_turnByChain_15 (xF am wa _ _ _ h lo hi b a w _ _ _ _ _ (by omega) m ha ho e3 e5 w5 (fun h' f e => ⟨rfl, k h' f e⟩)))) (fun hz => absurd rfl hz)
      · exact bX4_turnByChain_0 (fun hz => absurd hz (by decide +kernel)) (fun _ => bX4_turnByChain_4 gb (bX4_turnByChain_15 (xB am wa _ _ _ h lo hi b a w _ _ _ _ _ (by omega) m ha ho e3 e5 w5 (fun h' f e => bX4_turnByChain_17 (fun _ => bX4_turnByChain_52 ⟨rfl, k h' f e⟩) (fun hz => absurd rfl hz)))))
    · rintro r h' ⟨rfl, q⟩
      exact bX4_turn_79 (bX4_turn_148 q)
  rw [if_neg h2] at sw k
  by_cases h3 : kd = 3
  · rw [if_pos h3] at sw k
    rw [dr_t] at k
    refine bX4_turn_5 (tgt := 115) gb sw (by decide) (bX4_turn_115 (R := fun r h' => r = none ∧ Q none h') m.1.1 (by omega) ?_ ?_)
    · refine bX4_keepByChoice_0 (b4 := nA b + 1) (R := fun r h' => r = none ∧ uS h (nA b + 2) (fun _ => false) = h') gb n0.2.2.2.1 n0.2.1.1 (by omega) (c_fill0 n0.2.1 ⟨rfl, rfl⟩) ?_
      rintro r h' ⟨rfl, rfl⟩
      have f1 := fz_uS h (nA b + 2) (fun _ => false)
      refine bX4_keepByChoice_8 ((f1.p m).2 b (by omega)).1 ?_
      refine xC am wa _ _ _ _ lo hi b _ _ _ _ (fun _ => false) _ (by omega) (f1.p m) e3 (by omega) (by rw [f1.R]; exact (f1.nd l).2 _ _ _ _ _ _ e3 e5) w5 (eS_uS _ _ _) (fun h2 f2 eU => ?_)
      have fA : fz (fun r => r = nA b + 2 ∨ mset lo hi (nA b + 4) r) h h2 := (f1.mono (fun r z => Or.inl z)).tr f2
      have m2 := fA.p m
      have n2 := m2.2 b (by omega)
      have sw2 : sA h2 w = sA h w := fA.S (fun z => by
        rcases z with z | z | ⟨i, a1, a2, a3⟩
        · exact mo (Or.inl z)
        · exact mo (Or.inr z)
        · exact ho i a1 a2 a3)
      refine bX4_keepByChoice_45 (R := fun r h3 => r = none ∧ uS h2 w (fun k => (sA h2 w k && sA h2 (nA b + 2) k)) = h3) n2.1 (ha.fr fA.f).1 (by omega) (by
        rw [show hR h2 (nA b) 10 = some (nA b + 1) from n2.2.2.2.1]
        exact c_keep (ha.fr fA.f) n2.2.1 ⟨rfl, rfl⟩) ?_
      rintro r h3 ⟨rfl, rfl⟩
      refine bX4_keepByChoice_53 ⟨rfl, k _ ((fA.mono ?_).tr ((fz_uS _ _ _).mono (fun r z => Or.inl z))) ((eS_uS _ _ _).tr (fun j hj => ?_))⟩
      · rintro r (z | z | z)
        · exact Or.inr ⟨b, e1, e2, Or.inl z⟩
        · exact Or.inr ⟨b, e1, e2, Or.inr z⟩
        · exact Or.inr z
      · show (sA h2 w j && sA h2 (nA b + 2) j) = _
        rw [sw2, eU j hj]
        rfl
    · rintro r h' ⟨rfl, q⟩
      exact bX4_turn_121 (bX4_turn_148 q)
  rw [if_neg h3] at sw k
  by_cases h4 : kd = 4
  · rw [if_pos h4] at sw k
    rw [dr_t] at k
    have hne : ¬ l = .leaf := by
      obtain ⟨x1, x2, ex⟩ := w3 h4
      rw [ex]; exact nofun
    obtain ⟨lz, hz, z1, z2, z3, tz⟩ := xZ am wa (d - 3) h lo hi b _ _ _ (by omega) e3 e5 w5 hne
    obtain ⟨lh, hh, y1, y2, y3, th⟩ := xH am wa (d - 2) h lo hi b _ _ _ (by omega) e3 e5 w5 hne
    refine bX4_turn_5 (tgt := 124) gb sw (by decide) (bX4_turn_124 (R := fun r h' => r = none ∧ Q none h') m.1.1 (by omega) ?_ ?_)
    · refine bX4_keepByCondition_0 (R := fun r h' => r = none ∧ fz (mset lz hz (nA b + 2)) h h' ∧ eS (sA h' (nA b + 2)) (hasR W.1 (ac W.1 (ta1 W) l).2.2.2.2)) gb m.1.1 (by omega) (by
        rw [show hR h (nA b) 10 = some (nA b + 1) from n0.2.2.2.1]
        exact c_findS tz va.2.2 (by omega) (fz.rf (A := fun _ => False)) m n0.2.1 (mout_w z3).1 (fun h' f e => ⟨rfl, f, e⟩)) ?_
      rintro r h1 ⟨rfl, f1, q1⟩
      have m1 := f1.p m
      have n1 := m1.2 b (by omega)
      rw [show hR h (nA b) 10 = some (nA b + 1) from n0.2.2.2.1]
      refine bX4_keepByCondition_14 (R := fun r h2 => r = none ∧ uS h1 (nA b + 2) (fun k => !sA h1 (nA b + 2) k) = h2) n1.2.1.1 (by omega) (c_complement n1.2.1 ⟨rfl, rfl⟩) ?_
      rintro r h2 ⟨rfl, rfl⟩
      have f2 := fz_uS h1 (nA b + 2) (fun k => !sA h1 (nA b + 2) k)
      have q2 : eS (sA (uS h1 (nA b + 2) (fun k => !sA h1 (nA b + 2) k)) (nA b + 2)) (fun j => !hasR W.1 (ac W.1 (ta1 W) l).2.2.2.2 j) := (eS_uS _ _ _).tr (fun j hj => by show (!sA h1 (nA b + 2) j) = _; rw [q1 j hj])
      have mm : ∀ lo' hi' r, lo ≤ lo' → hi' ≤ hi → mset lo' hi' (nA b + 2) r → mset lo hi w r := by
        rintro lo' hi' r j1 j2 (z | ⟨i, i1, i2, i3⟩)
        · exact Or.inr ⟨b, e1, e2, Or.inl z⟩
        · exact Or.inr ⟨i, by omega, by omega, i3⟩
      have fA := (f1.mono (B := fun r => mset lo hi w r) (fun r z => mm _ _ r z1 z2 z)).tr (f2.mono (B := fun r => mset lo hi w r) (fun r z => Or.inr ⟨b, e1, e2, Or.inl z⟩))
      have m2 := fA.p m
      have n2 := m2.2 b (by omega)
      refine bX4_keepByCondition_18 (R := fun r h3 => r = none ∧ fz (mset lh hh (nA b + 2)) (uS h1 (nA b + 2) (fun k => !sA h1 (nA b + 2) k)) h3 ∧ eS (sA h3 (nA b + 2)) (bw W.1 (ac W.1 (ta1 W) l).2.2.2.1 (fun j => !hasR W.1 (ac W.1 (ta1 W) l).2.2.2.2 j))) n2.1 m2.1.1 (by omega) (by
        rw [fA.R]
        exact th _ _ _ (nA b + 1) (nA b + 2) true _ _ _ (by omega) fA m2 n2.2.1 (mout_w y3).1 (fun h' f e => ⟨rfl, f, e.tr (bw_ext va.2.1 q2)⟩)) ?_
      rintro r h3 ⟨rfl, f3, q3⟩
      have fB : fz (mset lo hi w) h h3 := fA.tr (f3.mono (by
        rintro r (z | ⟨i, i1, i2, i3⟩)
        · exact Or.inr ⟨b, e1, e2, Or.inl z⟩
        · exact Or.inr ⟨i, by omega, by omega, i3⟩))
      have m3 := fB.p m
      have n3 := m3.2 b (by omega)
      have no1 : ∀ g1 g2 : vH, ∀ lo' hi', lo ≤ lo' → hi' ≤ hi → fz (mset lo' hi' (nA b + 2)) g1 g2 → sA g2 w = sA g1 w := fun g1 g2 lo' hi' i1 i2 f => f.S (fun z => by
        rcases z with z | ⟨i, a1, a2, a3⟩
        · exact mo (Or.inl z)
        · exact ho i (by omega) (by omega) a3)
      have sw3 : sA h3 w = sA h w := by
        rw [no1 _ _ _ _ y1 y2 f3, sA_uSn _ _ (fun z => mo (Or.inl z)), no1 _ _ _ _ z1 z2 f1]
      refine bX4_keepByCondition_28 (R := fun r h4 => r = none ∧ uS h3 w (fun k => (sA h3 w k && !sA h3 (nA b + 2) k)) = h4) (ha.fr fB.f).1 (by omega) (c_remove (ha.fr fB.f) n3.2.1 ⟨rfl, rfl⟩) ?_
      rintro r h4 ⟨rfl, rfl⟩
      refine bX4_keepByCondition_33 ⟨rfl, k _ (fB.tr ((fz_uS _ _ _).mono (fun r z => Or.inl z))) ((eS_uS _ _ _).tr (fun j hj => ?_))⟩
      show (sA h3 w j && !sA h3 (nA b + 2) j) = _
      rw [sw3, q3 j hj]
    · rintro r h' ⟨rfl, q⟩
      exact bX4_turn_130 (bX4_turn_148 q)
  rw [if_neg h4] at sw k
  by_cases h5 : kd = 5
  · rw [if_pos h5] at sw k
    rw [dr_t] at k
    have hne : ¬ l = .leaf := by
      obtain ⟨x1, ex⟩ := w4 h5
      rw [ex]; exact nofun
    obtain ⟨lh, hh, y1, y2, y3, th⟩ := xH am wa (d - 2) h lo hi b _ _ _ (by omega) e3 e5 w5 hne
    refine bX4_turn_5 (tgt := 92) gb sw (by decide) (bX4_turn_92 (R := fun r h' => r = none ∧ fz (mset lh hh (nA b + 2)) h h' ∧ eS (sA h' (nA b + 2)) (hasR W.1 (ac W.1 (ta1 W) l).2.2.2.1)) gb m.1.1 (by omega) (by
        rw [show hR h (nA b) 10 = some (nA b + 1) from n0.2.2.2.1]
        exact c_findS th va.2.1 (by omega) (fz.rf (A := fun _ => False)) m n0.2.1 (mout_w y3).1 (fun h' f e => ⟨rfl, f, e⟩)) ?_)
    rintro r h1 ⟨rfl, f1, q1⟩
    have fA : fz (mset lo hi w) h h1 := f1.mono (by
      rintro r (z | ⟨i, i1, i2, i3⟩)
      · exact Or.inr ⟨b, e1, e2, Or.inl z⟩
      · exact Or.inr ⟨i, by omega, by omega, i3⟩)
    have m1 := fA.p m
    have n1 := m1.2 b (by omega)
    have sw1 : sA h1 w = sA h w := f1.S (fun z => by
      rcases z with z | ⟨i, a1, a2, a3⟩
      · exact mo (Or.inl z)
      · exact ho i (by omega) (by omega) a3)
    refine bX4_turn_104 (R := fun r h4 => r = none ∧ uS h1 w (fun k => (sA h1 w k && !sA h1 (nA b + 2) k)) = h4) n1.1 (ha.fr fA.f).1 (by omega) (by
      rw [show hR h1 (nA b) 10 = some (nA b + 1) from n1.2.2.2.1]
      exact c_remove (ha.fr fA.f) n1.2.1 ⟨rfl, rfl⟩) ?_
    rintro r h4 ⟨rfl, rfl⟩
    refine bX4_turn_112 (bX4_turn_148 (k _ (fA.tr ((fz_uS _ _ _).mono (fun r z => Or.inl z))) ((eS_uS _ _ _).tr (fun j hj => ?_))))
    show (sA h1 w j && !sA h1 (nA b + 2) j) = _
    rw [sw1, q1 j hj]
  rw [if_neg h5] at sw k
  have wl := w2 (by omega)
  by_cases h6 : kd = 6
  · rw [if_pos h6] at sw k
    subst h6
    refine bX4_turn_5 (tgt := 82) gb sw (by decide) (bX4_turn_82 (R := fun r h' => r = none ∧ Q none h') m.1.1 (by omega) (c_turnBySome (by omega) m.1 gb e4 wl ha (fun h' f e => ⟨rfl, k h' (f.mono (fun r z => Or.inl z)) e⟩)) ?_)
    rintro r h' ⟨rfl, q⟩
    exact bX4_turn_89 (bX4_turn_148 q)
  rw [if_neg h6] at sw k
  rw [dr_t] at k
  by_cases h7 : kd = 7 ∨ kd = 11
  · rw [if_pos h7] at sw
    refine bX4_turn_5 (tgt := 133) gb sw (by decide) (bX4_turn_133 (R := fun r h' => r = none ∧ Q none h') m.1.1 (by omega) (c_keepByOne (by omega) m.1 gb e4 h7 wl ha (fun h' f e => ⟨rfl, k h' (f.mono (fun r z => Or.inl z)) e⟩)) ?_)
    rintro r h' ⟨rfl, q⟩
    exact bX4_turn_139 (bX4_turn_148 q)
  · rw [if_neg h7] at sw
    refine bX4_turn_5 (tgt := 142) gb sw (by decide) (bX4_turn_142 (R := fun r h' => r = none ∧ Q none h') m.1.1 (by omega) (c_keepByTwo (by omega) m.1 gb e4 (by omega) wl ha (fun h' f e => ⟨rfl, k h' (f.mono (fun r z => Or.inl z)) e⟩)) ?_)
    rintro r h' ⟨rfl, q⟩
    exact bX4_turn_148 q
theorem g_all (W : wT) : ∀ t : T, gNt W t ∧ gFt W t ∧ gBt W t ∧ gCt W t ∧ gHt W t ∧ gZt W t
  | .leaf => ⟨fun _ _ _ _ _ _ _ _ y => y.elim, gFt_0 W, gBt_0 W, gCt_0 W, fun _ _ _ _ _ _ _ _ _ _ _ _ _ _ hz => absurd rfl hz, fun _ _ _ _ _ _ _ _ _ _ _ _ _ _ hz => absurd rfl hz⟩
  | .inner kd nm v l r => by
    obtain ⟨x1, x2, x3, x4, x5, x6⟩ := g_all W l
    obtain ⟨y1, y2, y3, y4, y5, y6⟩ := g_all W r
    exact ⟨gNt_1 x2 x3 x4 x5 x6, gFt_1 x1 y2, gBt_1 x1 y3, gCt_1 x1 y4, gHt_1 x1, gZt_1 x1 y6⟩
