/-! ===== the constructors ===== -/
def gr (a : Nat) (h h' : vH) : Prop := hX h' = hX h ∧ (∃ ks, hK h' = hK h ++ ks) ∧ ∀ r, r < (hK h).length → r ≠ a → hI h' r = hI h r ∧ hL h' r = hL h r ∧ hR h' r = hR h r
theorem gr.len {a : Nat} {h h' : vH} (x : gr a h h') : (hK h).length ≤ (hK h').length := by
  obtain ⟨-, ⟨ks, e⟩, -⟩ := x
  rw [e, List.length_append]; omega
theorem gr.tr {a b : Nat} {h h' h2 : vH} (x : gr a h h') (y : gr b h' h2) (hb : b = a ∨ (hK h).length ≤ b) : gr a h h2 := by
  have hl := x.len
  obtain ⟨x1, ⟨k1, e1⟩, x3⟩ := x
  obtain ⟨y1, ⟨k2, e2⟩, y3⟩ := y
  refine ⟨y1.trans x1, ⟨k1 ++ k2, by rw [e2, e1, List.append_assoc]⟩, fun r hr ha => ?_⟩
  have p := x3 r hr ha
  have q := y3 r (by omega) (by omega)
  exact ⟨q.1.trans p.1, q.2.1.trans p.2.1, q.2.2.trans p.2.2⟩
theorem gr.k {a b : Nat} {h h' : vH} {q : Nat × Nat} (x : gr a h h') (e : (hK h)[b]? = some q) : (hK h')[b]? = some q := by
  obtain ⟨-, ⟨ks, ek⟩, -⟩ := x
  rw [ek, List.getElem?_append_left (List.getElem?_eq_some_iff.mp e).1]; exact e
theorem k_lt {b : Nat} {h : vH} {q : Nat × Nat} (e : (hK h)[b]? = some q) : b < (hK h).length := (List.getElem?_eq_some_iff.mp e).1
theorem gr.row {a b : Nat} {h h' : vH} {q : Nat × Nat} (x : gr a h h') (e : (hK h)[b]? = some q) (hb : b ≠ a) : hI h' b = hI h b ∧ hL h' b = hL h b ∧ hR h' b = hR h b := x.2.2 b (k_lt e) hb
theorem gr_uN (a : Nat) (h : vH) (kd : Nat × Nat) : gr a h (uN h kd) := ⟨rfl, ⟨[kd], rfl⟩, fun r hr _ => by
  have : r ≠ (hK h).length := by omega
  refine ⟨?_, ?_, ?_⟩
  · show up1 (hI h) (hK h).length 0 r = hI h r
    funext j; unfold up1; rw [if_neg this]
  · show up1 (hL h) (hK h).length 0 r = hL h r
    funext j; unfold up1; rw [if_neg this]
  · show up1 (hR h) (hK h).length none r = hR h r
    funext j; unfold up1; rw [if_neg this]⟩
theorem uN_new (h : vH) (kd : Nat × Nat) {N : Nat} (e : (hK h).length = N) : (hK (uN h kd)).length = N + 1 ∧ (hK (uN h kd))[N]? = some kd ∧ (∀ j, hI (uN h kd) N j = 0) ∧ (∀ j, hL (uN h kd) N j = 0) := by
  subst e
  refine ⟨?_, ?_, fun j => ?_, fun j => ?_⟩
  · show (hK h ++ [kd]).length = _
    rw [List.length_append]; rfl
  · show (hK h ++ [kd])[(hK h).length]? = some kd
    rw [List.getElem?_append_right (Nat.le_refl _), Nat.sub_self]; rfl
  · show up1 (hI h) (hK h).length 0 (hK h).length j = 0
    unfold up1; rw [if_pos rfl]
  · show up1 (hL h) (hK h).length 0 (hK h).length j = 0
    unfold up1; rw [if_pos rfl]
theorem gr_uR (h : vH) (a j : Nat) (v : Option Nat) : gr a h (uR h a j v) := ⟨rfl, ⟨[], (List.append_nil _).symm⟩, fun r _ ha => ⟨rfl, rfl, by funext i; rw [hR_uR, if_neg (fun z => ha z.1)]⟩⟩
theorem gr_uI (h : vH) (a j : Nat) (v : Int32) : gr a h (uI h a j v) := ⟨rfl, ⟨[], (List.append_nil _).symm⟩, fun r _ ha => ⟨by funext i; rw [hI_uI, if_neg (fun z => ha z.1)], rfl, rfl⟩⟩
theorem gr_uS (h : vH) (w : Nat) (S : Nat → Bool) : gr w h (uS h w S) := by
  have f := fz_uS h w S
  exact ⟨congrArg (fun q => q.2.2) f.2.1, ⟨[], by rw [f.K, List.append_nil]⟩, fun r _ ha => ⟨by rw [f.I], f.2.2 r ha, by rw [f.R]⟩⟩
theorem hR_uRs (h : vH) (a j : Nat) (v : Option Nat) : hR (uR h a j v) a j = v := by rw [hR_uR, if_pos ⟨rfl, rfl⟩]
theorem hR_uRk (h : vH) (a : Nat) {j i : Nat} (v : Option Nat) (hi : i ≠ j) : hR (uR h a j v) a i = hR h a i := by rw [hR_uR, if_neg (fun z => hi z.2)]
theorem isA.g {a b w : Nat} {h h' : vH} (x : isA h b w) (f : gr a h h') (ha : b ≠ a) : isA h' b w := ⟨f.k x.1, by rw [(f.row x.1 ha).2.2]; exact x.2.1, f.k x.2.2⟩
theorem isW.g {a b : Nat} {h h' : vH} (x : isW h b) (f : gr a h h') (ha : b ≠ a) : isW h' b := by
  obtain ⟨x1, x2, x3, x4, x5⟩ := x
  have e := (f.row x1 ha).2.2
  exact ⟨f.k x1, f.k x2, f.k x3, by rw [e]; exact x4, by rw [e]; exact x5⟩
theorem isSt.g {a b : Nat} {h h' : vH} (x : isSt h b) (f : gr a h h') (ha : a < b ∨ b + 5 < a) : isSt h' b := by
  obtain ⟨x1, x2, x3, x4, x5⟩ := x
  have e := (f.row x1 (by omega)).2.2
  exact ⟨f.k x1, x2.g f (by omega), x3.g f (by omega), by rw [e]; exact x4, by rw [e]; exact x5⟩
theorem isN.g {a i : Nat} {h h' : vH} (x : isN h i) (f : gr a h h') (ha : a < 43 + 5 * i ∨ 43 + 5 * i + 4 < a) : isN h' i := by
  obtain ⟨x1, x2, x3, x4, x5⟩ := x
  have e := (f.row x1 (by omega)).2.2
  exact ⟨f.k x1, x2.g f (by omega), x3.g f (by omega), by rw [e]; exact x4, by rw [e]; exact x5⟩
section
variable {d c n a N : Nat} {h : vH} {Q : vQ}
theorem k_X1 (hd : 1 ≤ d) (g : (hK h)[a]? = some (1, 0)) (eN : (hK h).length = N) (hc : 1 ≤ c) (hn : 8 ≤ n) (k : ∀ h', gr a h h' → (hK h').length = N + 1 → isA h' a N → (∀ j, hL h' N j = 0) → Q none h') : vm_C mX1_init d c n [vR (some a)] h Q := by
  have ha := k_lt g
  obtain ⟨z1, z2, z3, z4⟩ := uN_new h (23, 8) eN
  have f1 := gr_uN a h (23, 8)
  have g' := f1.k g
  refine bX1_init_0 (by omega) (bX1_init_4 hc hn ?_)
  rw [eN]
  refine bX1_init_9 g' (k _ (f1.tr (gr_uR _ a 0 _) (Or.inl rfl)) z1 ⟨g', hR_uRs _ _ _ _, z2⟩ z4)
theorem k_X9 (hd : 1 ≤ d) (g : (hK h)[a]? = some (9, 0)) (eN : (hK h).length = a + 1) (hc : 2 ≤ c) (hn : 5 ≤ n) (k : ∀ h', gr a h h' → (hK h').length = a + 3 → isW h' a → hI h' a 0 = 2 → (∀ j, hI h' (a + 1) j = 0) → (∀ j, hI h' (a + 2) j = 0) → Q none h') : vm_C mX9_init d c n [vR (some a)] h Q := by
  have f0 := gr_uI h a 0 2
  obtain ⟨z1, z2, z3, z4⟩ := uN_new (uI h a 0 2) (20, 3) eN
  have f1 := f0.tr (gr_uN a (uI h a 0 2) (20, 3)) (Or.inl rfl)
  have g1 := f1.k g
  have i1 : hI (uN (uI h a 0 2) (20, 3)) a 0 = 2 := by rw [((gr_uN (a + 1) (uI h a 0 2) (20, 3)).row (f0.k g) (by omega)).1]; exact hI_uIs _ _ _ _
  refine bX9_init_0 (by omega) (bX9_init_4 g (by omega) (by omega) ?_)
  rw [show (hK (uI h a 0 2)).length = a + 1 from eN]
  generalize uN (uI h a 0 2) (20, 3) = u at z1 z2 z3 f1 g1 i1 ⊢
  have f2 := f1.tr (gr_uR u a 1 (some (a + 1))) (Or.inl rfl)
  have r2 : hR (uR u a 1 (some (a + 1))) a 1 = some (a + 1) := hR_uRs _ _ _ _
  refine bX9_init_13 g1 (by omega) (by omega) ?_
  rw [show (hK (uR u a 1 (some (a + 1)))).length = a + 2 from z1]
  have y1 : (hK (uR u a 1 (some (a + 1)))).length = a + 2 := z1
  have y2 : (hK (uR u a 1 (some (a + 1))))[a + 1]? = some (20, 3) := z2
  have y3 : ∀ j, hI (uR u a 1 (some (a + 1))) (a + 1) j = 0 := z3
  have y4 : (hK (uR u a 1 (some (a + 1))))[a]? = some (9, 0) := g1
  have y5 : hI (uR u a 1 (some (a + 1))) a 0 = 2 := i1
  generalize uR u a 1 (some (a + 1)) = v at y1 y2 y3 y4 y5 f2 r2 ⊢
  obtain ⟨w1, w2, w3, w4⟩ := uN_new v (20, 2) y1
  have f3 := gr_uN (a + 2) v (20, 2)
  have ra := f3.row y4 (by omega)
  have rb := f3.row y2 (by omega)
  have q4 := f3.k y4
  have q2 := f3.k y2
  have f4 := f2.tr f3 (Or.inr (by omega))
  generalize uN v (20, 2) = w at w1 w2 w3 f3 ra rb q4 q2 f4 ⊢
  refine bX9_init_20 q4 (k _ (f4.tr (gr_uR w a 2 (some (a + 2))) (Or.inl rfl)) w1 ⟨q4, q2, w2, ?_, hR_uRs _ _ _ _⟩ ?_ ?_ w3)
  · rw [hR_uRk _ _ _ (by decide), ra.2.2]; exact r2
  · show hI w a 0 = 2
    rw [ra.1]; exact y5
  · intro j
    show hI w (a + 1) j = 0
    rw [rb.1]; exact y3 j
theorem k_X7 (hd : 3 ≤ d) (g : (hK h)[a]? = some (7, 0)) (eN : (hK h).length = a + 1) (hc : 5 ≤ c) (hn : 17 ≤ n) (k : ∀ h', gr a h h' → (hK h').length = a + 6 → isSt h' a → hI h' (a + 1) 0 = 2 → (∀ j, hI h' (a + 2) j = 0) → (∀ j, hI h' (a + 3) j = 0) → hI h' a = hI h a → hL h' a = hL h a → eS (sA h' (a + 5)) (fun k => decide (k = 0)) → Q none h') : vm_C mX7_init d c n [vR (some a)] h Q := by
  obtain ⟨z1, z2, -, -⟩ := uN_new h (9, 0) eN
  have f1 := gr_uN (a + 1) h (9, 0)
  have g1 := f1.k g
  have r1 := f1.row g (by omega)
  refine bX7_init_0 (by omega) (bX7_init_4 (by omega) (by omega) ?_)
  rw [eN]
  have F1 : gr a h (uN h (9, 0)) := gr_uN a h (9, 0)
  generalize uN h (9, 0) = u1 at z1 z2 f1 g1 r1 F1 ⊢
  refine bX7_init_8 (c1 := 2) (n1 := 5) (R := fun r h' => r = none ∧ gr (a + 1) u1 h' ∧ (hK h').length = a + 4 ∧ isW h' (a + 1) ∧ hI h' (a + 1) 0 = 2 ∧ (∀ j, hI h' (a + 2) j = 0) ∧ ∀ j, hI h' (a + 3) j = 0) (by omega) (by omega) (by omega) (k_X9 (by omega) z2 z1 (by omega) (by omega) (fun h' f l w i0 i1 i2 => ⟨rfl, f, l, w, i0, i1, i2⟩)) ?_
  rintro r u2 ⟨rfl, f2, l2, w2, i20, i21, i22⟩
  have F2 := F1.tr f2 (Or.inr (by omega))
  have g2 := f2.k g1
  have r2 := f2.row g1 (by omega)
  -- the world put in, the context made
  refine bX7_init_12 g2 (by omega) (by omega) ?_
  rw [show (hK (uR u2 a 0 (some (a + 1)))).length = a + 4 from l2]
  have F3 := F2.tr (gr_uR u2 a 0 (some (a + 1))) (Or.inl rfl)
  have f3 := gr_uR u2 a 0 (some (a + 1))
  have w3 := w2.g f3 (by omega)
  have e3 : hR (uR u2 a 0 (some (a + 1))) a 0 = some (a + 1) := hR_uRs _ _ _ _
  have g3 : (hK (uR u2 a 0 (some (a + 1))))[a]? = some (7, 0) := g2
  have l3 : (hK (uR u2 a 0 (some (a + 1)))).length = a + 4 := l2
  have I3 : hI (uR u2 a 0 (some (a + 1))) = hI u2 := rfl
  have L3 : hL (uR u2 a 0 (some (a + 1))) = hL u2 := rfl
  generalize uR u2 a 0 (some (a + 1)) = u3 at F3 w3 e3 g3 l3 I3 L3 ⊢
  obtain ⟨z1, z2, -, -⟩ := uN_new u3 (1, 0) l3
  have f4 := gr_uN (a + 4) u3 (1, 0)
  have F4 := F3.tr f4 (Or.inr (by omega))
  have w4 := w3.g f4 (by omega)
  have r4 := f4.row g3 (by omega)
  have g4 := f4.k g3
  have i4 : ∀ b, b < a + 4 → hI (uN u3 (1, 0)) b = hI u3 b := fun b hb => (f4.2.2 b (by omega) (by omega)).1
  generalize uN u3 (1, 0) = u4 at z1 z2 f4 F4 w4 r4 g4 i4 ⊢
  refine bX7_init_19 (c1 := 1) (n1 := 8) (R := fun r h' => r = none ∧ gr (a + 4) u4 h' ∧ (hK h').length = a + 6 ∧ isA h' (a + 4) (a + 5)) (by omega) (by omega) (by omega) (k_X1 (by omega) z2 z1 (by omega) (by omega) (fun h' f l x _ => ⟨rfl, f, l, x⟩)) ?_
  rintro r u5 ⟨rfl, f5, l5, a5⟩
  have F5 := F4.tr f5 (Or.inr (by omega))
  have g5 := f5.k g4
  have r5 := f5.row g4 (by omega)
  have w5 := w4.g f5 (by omega)
  have i5 : ∀ b, b < a + 4 → hI u5 b = hI u4 b := fun b hb => (f5.2.2 b (by omega) (by omega)).1
  have f6 := gr_uR u5 a 1 (some (a + 4))
  have a6 := a5.g f6 (by omega)
  refine bX7_init_23 (b4 := a + 4) (R := fun r h' => r = none ∧ uS (uR u5 a 1 (some (a + 4))) (a + 5) (fun k => decide (k = 0)) = h') g5 g5 (hR_uRs _ _ _ _) a5.1 (by omega) (c_makeFirst (by omega) a6 ⟨rfl, rfl⟩) ?_
  rintro r h' ⟨rfl, rfl⟩
  have F6 := F5.tr f6 (Or.inl rfl)
  have w6 := w5.g f6 (by omega)
  have e61 : hR (uR u5 a 1 (some (a + 4))) a 1 = some (a + 4) := hR_uRs _ _ _ _
  have e60 : hR (uR u5 a 1 (some (a + 4))) a 0 = some (a + 1) := by rw [hR_uRk _ _ _ (by decide), r5.2.2, r4.2.2]; exact e3
  have g6 : (hK (uR u5 a 1 (some (a + 4))))[a]? = some (7, 0) := g5
  have l6 : (hK (uR u5 a 1 (some (a + 4)))).length = a + 6 := l5
  have I6 : hI (uR u5 a 1 (some (a + 4))) = hI u5 := rfl
  have L6 : hL (uR u5 a 1 (some (a + 4))) = hL u5 := rfl
  generalize uR u5 a 1 (some (a + 4)) = u6 at F6 w6 e61 e60 g6 l6 I6 L6 a6 ⊢
  have f7 := gr_uS u6 (a + 5) (fun k => decide (k = 0))
  have r7 := f7.row g6 (by omega)
  have I7 : hI (uS u6 (a + 5) (fun k => decide (k = 0))) = hI u6 := (fz_uS u6 (a + 5) _).I
  refine bX7_init_33 (k _ (F6.tr f7 (Or.inr (by omega))) ?_ ⟨f7.k g6, w6.g f7 (by omega), a6.g f7 (by omega), by rw [r7.2.2]; exact e60, by rw [r7.2.2]; exact e61⟩ ?_ ?_ ?_ ?_ ?_ (eS_uS _ _ _))
  · rw [(fz_uS u6 (a + 5) (fun k => decide (k = 0))).K]; exact l6
  · rw [I7, I6, i5 _ (by omega), i4 _ (by omega), I3]; exact i20
  · intro j; rw [I7, I6, i5 _ (by omega), i4 _ (by omega), I3]; exact i21 j
  · intro j; rw [I7, I6, i5 _ (by omega), i4 _ (by omega), I3]; exact i22 j
  · rw [I7, I6, r5.1, r4.1, I3, r2.1, r1.1]
  · rw [r7.2.1, L6, r5.2.1, r4.2.1, L3, r2.2.1, r1.2.1]
theorem k_X5 (hd : 2 ≤ d) (g : (hK h)[a]? = some (5, 0)) (eN : (hK h).length = a + 1) (hc : 4 ≤ c) (hn : 18 ≤ n) (k : ∀ h', gr a h h' → (hK h').length = a + 5 → (hK h')[a]? = some (5, 0) → isA h' (a + 1) (a + 2) → isA h' (a + 3) (a + 4) → hR h' a 10 = some (a + 1) → hR h' a 11 = some (a + 3) → Q none h') : vm_C mX5_init d c n [vR (some a)] h Q := by
  obtain ⟨z1, z2, -, -⟩ := uN_new h (1, 0) eN
  have F1 : gr a h (uN h (1, 0)) := gr_uN a h (1, 0)
  have g1 := F1.k g
  refine bX5_init_0 (by omega) (bX5_init_4 (by omega) (by omega) ?_)
  rw [eN]
  generalize uN h (1, 0) = u1 at z1 z2 g1 F1 ⊢
  refine bX5_init_8 (c1 := 1) (n1 := 8) (R := fun r h' => r = none ∧ gr (a + 1) u1 h' ∧ (hK h').length = a + 3 ∧ isA h' (a + 1) (a + 2)) (by omega) (by omega) (by omega) (k_X1 (by omega) z2 z1 (by omega) (by omega) (fun h' f l x _ => ⟨rfl, f, l, x⟩)) ?_
  rintro r u2 ⟨rfl, f2, l2, a2⟩
  have F2 := F1.tr f2 (Or.inr (by omega))
  have g2 := f2.k g1
  refine bX5_init_12 g2 (by omega) (by omega) ?_
  rw [show (hK (uR u2 a 10 (some (a + 1)))).length = a + 3 from l2]
  have f3 := gr_uR u2 a 10 (some (a + 1))
  have F3 := F2.tr f3 (Or.inl rfl)
  have a3 := a2.g f3 (by omega)
  have e3 : hR (uR u2 a 10 (some (a + 1))) a 10 = some (a + 1) := hR_uRs _ _ _ _
  have g3 : (hK (uR u2 a 10 (some (a + 1))))[a]? = some (5, 0) := g2
  have l3 : (hK (uR u2 a 10 (some (a + 1)))).length = a + 3 := l2
  generalize uR u2 a 10 (some (a + 1)) = u3 at F3 a3 e3 g3 l3 ⊢
  obtain ⟨z1, z2, -, -⟩ := uN_new u3 (1, 0) l3
  have f4 := gr_uN (a + 3) u3 (1, 0)
  have F4 := F3.tr f4 (Or.inr (by omega))
  have a4 := a3.g f4 (by omega)
  have r4 := f4.row g3 (by omega)
  have g4 := f4.k g3
  generalize uN u3 (1, 0) = u4 at z1 z2 f4 F4 a4 r4 g4 ⊢
  refine bX5_init_19 (c1 := 1) (n1 := 8) (R := fun r h' => r = none ∧ gr (a + 3) u4 h' ∧ (hK h').length = a + 5 ∧ isA h' (a + 3) (a + 4)) (by omega) (by omega) (by omega) (k_X1 (by omega) z2 z1 (by omega) (by omega) (fun h' f l x _ => ⟨rfl, f, l, x⟩)) ?_
  rintro r u5 ⟨rfl, f5, l5, b5⟩
  have F5 := F4.tr f5 (Or.inr (by omega))
  have g5 := f5.k g4
  have r5 := f5.row g4 (by omega)
  have a5 := a4.g f5 (by omega)
  have f6 := gr_uR u5 a 11 (some (a + 3))
  refine bX5_init_23 g5 (k _ (F5.tr f6 (Or.inl rfl)) l5 g5 (a5.g f6 (by omega)) (b5.g f6 (by omega)) ?_ (hR_uRs _ _ _ _))
  rw [hR_uRk _ _ _ (by decide), r5.2.2, r4.2.2]; exact e3
theorem k_X0 (hd : 2 ≤ d) {r1 : Option Nat} (g : (hK h)[a]? = some (0, 0)) (eN : (hK h).length = a + 1) (hc : 4 ≤ c) (hn : 18 ≤ n) (k : ∀ h', gr a h h' → (hK h').length = a + 5 → isA h' (a + 1) (a + 2) → isA h' (a + 3) (a + 4) → hR h' a 0 = r1 → hR h' a 1 = some (a + 1) → hR h' a 2 = some (a + 3) → Q none h') : vm_C mX0_init d c n [vR (some a), vR r1] h Q := by
  obtain ⟨z1, z2, -, -⟩ := uN_new h (1, 0) eN
  have F1 : gr a h (uN h (1, 0)) := gr_uN a h (1, 0)
  have g1 := F1.k g
  refine bX0_init_0 (by omega) (bX0_init_4 (by omega) (by omega) ?_)
  rw [eN]
  generalize uN h (1, 0) = u1 at z1 z2 g1 F1 ⊢
  refine bX0_init_8 (c1 := 1) (n1 := 8) (R := fun r h' => r = none ∧ gr (a + 1) u1 h' ∧ (hK h').length = a + 3 ∧ isA h' (a + 1) (a + 2)) (by omega) (by omega) (by omega) (k_X1 (by omega) z2 z1 (by omega) (by omega) (fun h' f l x _ => ⟨rfl, f, l, x⟩)) ?_
  rintro r u2 ⟨rfl, f2, l2, a2⟩
  have F2 := F1.tr f2 (Or.inr (by omega))
  have g2 := f2.k g1
  refine bX0_init_12 g2 (by omega) (by omega) ?_
  rw [show (hK (uR u2 a 1 (some (a + 1)))).length = a + 3 from l2]
  have f3 := gr_uR u2 a 1 (some (a + 1))
  have F3 := F2.tr f3 (Or.inl rfl)
  have a3 := a2.g f3 (by omega)
  have e3 : hR (uR u2 a 1 (some (a + 1))) a 1 = some (a + 1) := hR_uRs _ _ _ _
  have g3 : (hK (uR u2 a 1 (some (a + 1))))[a]? = some (0, 0) := g2
  have l3 : (hK (uR u2 a 1 (some (a + 1)))).length = a + 3 := l2
  generalize uR u2 a 1 (some (a + 1)) = u3 at F3 a3 e3 g3 l3 ⊢
  obtain ⟨z1, z2, -, -⟩ := uN_new u3 (1, 0) l3
  have f4 := gr_uN (a + 3) u3 (1, 0)
  have F4 := F3.tr f4 (Or.inr (by omega))
  have a4 := a3.g f4 (by omega)
  have r4 := f4.row g3 (by omega)
  have g4 := f4.k g3
  generalize uN u3 (1, 0) = u4 at z1 z2 f4 F4 a4 r4 g4 ⊢
  refine bX0_init_19 (c1 := 1) (n1 := 8) (R := fun r h' => r = none ∧ gr (a + 3) u4 h' ∧ (hK h').length = a + 5 ∧ isA h' (a + 3) (a + 4)) (by omega) (by omega) (by omega) (k_X1 (by omega) z2 z1 (by omega) (by omega) (fun h' f l x _ => ⟨rfl, f, l, x⟩)) ?_
  rintro r u5 ⟨rfl, f5, l5, b5⟩
  have F5 := F4.tr f5 (Or.inr (by omega))
  have g5 := f5.k g4
  have r5 := f5.row g4 (by omega)
  have a5 := a4.g f5 (by omega)
  have f6 := gr_uR u5 a 2 (some (a + 3))
  have f7 := gr_uR (uR u5 a 2 (some (a + 3))) a 0 r1
  refine bX0_init_23 g5 g5 (k _ ((F5.tr f6 (Or.inl rfl)).tr f7 (Or.inl rfl)) l5 ((a5.g f6 (by omega)).g f7 (by omega)) ((b5.g f6 (by omega)).g f7 (by omega)) (hR_uRs _ _ _ _) ?_ ?_)
  · rw [hR_uRk _ _ _ (by decide), hR_uRk _ _ _ (by decide), r5.2.2, r4.2.2]; exact e3
  · rw [hR_uRk _ _ _ (by decide)]; exact hR_uRs _ _ _ _
theorem k_X8 (hd : 1 ≤ d) (g : (hK h)[39]? = some (8, 0)) (eN : (hK h).length = 40) (hc : 1 ≤ c) (hn : 60 ≤ n) (k : ∀ h', gr 39 h h' → (hK h').length = 41 → isT h' → hI h' 39 = hI h 39 → Q none h') : vm_C mX8_init d c n [vR (some 39)] h Q := by
  obtain ⟨z1, z2, -, -⟩ := uN_new h (22, 60) eN
  have F1 : gr 39 h (uN h (22, 60)) := gr_uN 39 h (22, 60)
  have r1 := (gr_uN 40 h (22, 60)).row g (by decide)
  have g1 := F1.k g
  refine bX8_init_0 (by omega) (bX8_init_4 hc hn ?_)
  rw [eN]
  refine bX8_init_9 g1 (k _ (F1.tr (gr_uR _ 39 0 _) (Or.inl rfl)) z1 ⟨g1, hR_uRs _ _ _ _, z2⟩ r1.1)
end
