/-! ===== the law, from its start to its end ===== -/
theorem LX.g {h h' : vH} (x : LX h) (f : gr 366 h h') : LX h' := by
  obtain ⟨⟨a0, a1, a2, a3, a4, a5, a6, a7, a8, a9, a10⟩, b, c, d, e, ⟨e1, e2, e3, e4, e5, e6, e7, e8, e9, e10, e11, e12, e13⟩⟩ := x
  have r0 := (f.row a0 (by decide)).2.2
  have r354 := (f.row e2 (by decide)).2.2
  have r355 := (f.row e4 (by decide)).2.2
  have r363 := (f.row e11 (by decide)).2.2
  exact ⟨⟨f.k a0, by rw [r0]; exact a1, by rw [r0]; exact a2, by rw [r0]; exact a3, by rw [r0]; exact a4, by rw [r0]; exact a5, by rw [r0]; exact a6, by rw [r0]; exact a7, by rw [r0]; exact a8, by rw [r0]; exact a9, by rw [r0]; exact a10⟩, b.g f (by decide), c.g f (by decide), d.g f (by decide), e.g f (by decide), f.k e1, f.k e2, by rw [r354]; exact e3, f.k e4, by rw [r355]; exact e5, by rw [r355]; exact e6, by rw [r355]; exact e7, e8.g f (by decide), e9.g f (by decide), e10.g f (by decide), f.k e11, by rw [r363]; exact e12, e13.g f (by decide)⟩
theorem cR_g {h h' : vH} {S : Nat → Int32} {t : Nat → Nat} (x : LX h) (x2 : sv h 1 S) (x3 : hv h []) (x4 : tv h t 0) (l : (hK h).length = 366) (f : gr 366 h h') : cR h' S [] t 0 := by
  have r : ∀ b, b < 366 → hI h' b = hI h b ∧ hL h' b = hL h b := fun b hb => ⟨(f.2.2 b (by omega) (by omega)).1, (f.2.2 b (by omega) (by omega)).2.1⟩
  obtain ⟨s1, s2, s3, s4, s5, s6, s7⟩ := x2
  obtain ⟨p, p1, p2, p3, p4, p5⟩ := x3
  refine ⟨x.g f, ⟨by rw [(r (1 + 1) (by decide)).1]; exact s1, fun i hi => by rw [(r (1 + 2) (by decide)).1]; exact s2 i hi, fun i hi => by rw [(r (1 + 3) (by decide)).1]; exact s3 i hi, by rw [(r 1 (by decide)).1]; exact s4, by rw [(r 1 (by decide)).1]; exact s5, by rw [(r 1 (by decide)).2]; exact s6, fun k hk => ?_⟩, ⟨p, by rw [(r 7 (by decide)).1]; exact p1, p2, by rw [(r 7 (by decide)).1]; exact p3, p4, fun i S z => by simp at z⟩, ⟨by rw [(r 39 (by decide)).1]; exact x4.1, fun i hi => absurd hi (Nat.not_lt_zero i)⟩⟩
  rw [← s7 k hk]
  unfold sA
  rw [(r (1 + 5) (by decide)).2]
def vh_0 (L : Nat) (xs : Nat → Int32) : vH := (fun _ _ => 0, fun _ _ => 0, fun _ _ => none, [], (L, xs))
theorem law_main {L : Nat} {xs : Nat → Int32} (hL : L ≤ 2560) : vm_E mL_law 1000 600000 7302250 0 [some vX, none, none, none] [] (vh_0 L xs) (fun r _ => r = some (vI 1)) := by
  refine bL_law_0 (by decide) (by decide) ?_
  obtain ⟨z1, z2, -, -⟩ := uN_new (vh_0 L xs) (10, 0) (N := 0) rfl
  have eX : hX (uN (vh_0 L xs) (10, 0)) = (L, xs) := rfl
  rw [show (hK (vh_0 L xs)).length = 0 from rfl]
  generalize uN (vh_0 L xs) (10, 0) = u at z1 z2 eX ⊢
  refine bL_law_3 (c1 := 1000) (n1 := 10000) (R := fun r h' => r = none ∧ gr 0 u h' ∧ (hK h').length = 366 ∧ LX h' ∧ sv h' 1 S0 ∧ hv h' [] ∧ tv h' (fun _ => 0) 0) (by decide) (by decide) (by decide) (k_X10 (by decide) z2 z1 (Nat.le_refl _) (Nat.le_refl _) (fun h' f l a b c d => ⟨rfl, f, l, a, b, c, d⟩)) ?_
  rintro r v ⟨rfl, f, l, x1, x2, x3, x4⟩
  have eX : hX v = (L, xs) := f.1.trans eX
  refine bL_law_7 (by decide) (by decide) ?_
  obtain ⟨y1, y2, y3, -⟩ := uN_new v (11, 0) l
  have f1 := gr_uN 366 v (11, 0)
  rw [l]
  have eX : hX (uN v (11, 0)) = (L, xs) := eX
  generalize uN v (11, 0) = w at y1 y2 y3 f1 eX ⊢
  refine bL_law_11 (c1 := 16) (n1 := 40000) (R := fun r h' => r = none ∧ gr 366 w h' ∧ LM h' ∧ mS h' S0 ∧ hI h' 366 = hI w 366) (by decide) (by decide) (by decide) (k_X11 (by decide) y2 y1 (Nat.le_refl _) (Nat.le_refl _) (fun h' f a b c => ⟨rfl, f, a, b, c⟩)) ?_
  rintro r g ⟨rfl, f2, m1, m2, m3⟩
  have F := f1.tr f2 (Or.inl rfl)
  have eX : hX g = (L, xs) := f2.1.trans eX
  refine bL_law_15 ?_
  refine lw_loop (X := (L, xs)) (by decide) hL (fun _ => rfl) (L + 1) 0 g S0 [] (fun _ => 0) 0 (by show L < 0 + (L + 1); omega) (Nat.zero_le _) ⟨cR_g x1 x2 x3 x4 l F, ⟨m1, m2, ⟨by rw [m3]; exact y3 2, by decide, fun j T z => by simp at z⟩, ⟨by rw [m3]; exact y3 4, fun i hi => absurd hi (Nat.not_lt_zero i)⟩⟩, S0_ok, fun T hT => by simp at hT, ⟨by decide, fun i hi => absurd hi (Nat.not_lt_zero i)⟩⟩ eX
