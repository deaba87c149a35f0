/-! ===== the constructors of the class and of the reference (written by wip/whole/gen_con.py) ===== -/
def S0 : Nat → Int32 := fstV (fun j => if j = 0 then 2 else 0)
theorem S0_ok : Sok S0 := Sok_fst0 ⟨2, rfl, by decide, by decide⟩ (fun i hi => ⟨0, by show (if 1 + i = 0 then (2 : Int32) else 0) = nI 0; rw [if_neg (by omega)]; rfl, Nat.two_pow_pos _⟩) (fun i hi => ⟨0, by show (if 4 + i = 0 then (2 : Int32) else 0) = nI 0; rw [if_neg (by omega)]; rfl, by decide⟩) (Or.inl rfl) ⟨0, rfl, by decide⟩
/-- a part of the class is made and put into place J -/
def stp (J ad : Nat) (u u' : vH) : Prop := gr 0 u u' ∧ (∀ j, j ≠ J → hR u' 0 j = hR u 0 j) ∧ hR u' 0 J = some ad ∧ (hK u')[0]? = some (10, 0)
theorem stp_mk {J ad : Nat} {u v : vH} {kd : Nat × Nat} (g0 : (hK u)[0]? = some (10, 0)) (el : (hK u).length = ad) (had : ad ≠ 0) (f : gr ad (uN u kd) v) : stp J ad u (uR v 0 J (some ad)) := by
  have f1 := gr_uN 0 u kd
  have r1 := (gr_uN ad u kd).row g0 had.symm
  have g1 := f1.k g0
  have r2 := f.row g1 had.symm
  refine ⟨(f1.tr f (Or.inr (by omega))).tr (gr_uR v 0 J (some ad)) (Or.inl rfl), fun j hj => ?_, hR_uRs _ _ _ _, f.k g1⟩
  rw [hR_uRk _ _ _ hj, r2.2.2, r1.2.2]
theorem LPx.g {a : Nat} {h h' : vH} (x : LPx h) (f : gr a h h') (ha : a < 41 ∨ 352 < a) : LPx h' := by
  obtain ⟨x1, x2, x3, x4, x5⟩ := x
  have e1 := (f.row x1 (by omega)).2.2
  have e2 := (f.row x4 (by omega)).2.2
  exact ⟨f.k x1, by rw [e1]; exact x2, by rw [e1]; exact x3, f.k x4, fun i hi => ⟨by rw [e2]; exact (x5 i hi).1, (x5 i hi).2.g f (by omega)⟩⟩
theorem isH.g {a : Nat} {h h' : vH} (x : isH h) (f : gr a h h') (ha : a < 7 ∨ 38 < a) : isH h' := by
  obtain ⟨x1, x2, x3, x4⟩ := x
  have e1 := (f.row x1 (by omega)).2.2
  have e2 := (f.row x3 (by omega)).2.2
  exact ⟨f.k x1, by rw [e1]; exact x2, f.k x3, fun i hi => ⟨by rw [e2]; exact (x4 i hi).1, (x4 i hi).2.g f (by omega)⟩⟩
theorem isT.g {a : Nat} {h h' : vH} (x : isT h) (f : gr a h h') (ha : a < 39 ∨ 40 < a) : isT h' := by
  obtain ⟨x1, x2, x3⟩ := x
  have e1 := (f.row x1 (by omega)).2.2
  exact ⟨f.k x1, by rw [e1]; exact x2, f.k x3⟩
section
variable {d c n : Nat} {h : vH} {Q : vQ}
theorem k_X10 (hd : 10 ≤ d) (g : (hK h)[0]? = some (10, 0)) (eN : (hK h).length = 1) (hc : 1000 ≤ c) (hn : 10000 ≤ n) (k : ∀ h', gr 0 h h' → (hK h').length = 366 → LX h' → sv h' 1 S0 → hv h' [] → tv h' (fun _ => 0) 0 → Q none h') : vm_C mX10_init d c n [vR (some 0)] h Q := by
  have g0 := g
  have l0 := eN
  refine bX10_init_0 (by omega) (bX10_init_4 (by omega) (by omega) ?_)
  rw [eN]
  -- place 0
  obtain ⟨z1, z2, z3, z4⟩ := uN_new h (7, 0) l0
  have f0 := gr_uN 0 h (7, 0)
  have r0 := (gr_uN 1 h (7, 0)).row g0 (by decide)
  have gg := f0.k g0
  refine bX10_init_8 (c1 := 5) (n1 := 17) (R := fun r v => r = none ∧ gr 1 (uN h (7, 0)) v ∧ (hK v).length = 7 ∧ isSt v 1 ∧ hI v 2 0 = 2 ∧ (∀ j, hI v 3 j = 0) ∧ (∀ j, hI v 4 j = 0) ∧ (∀ j, hI v 1 j = 0) ∧ (∀ j, hL v 1 j = 0) ∧ eS (sA v 6) (fun k => decide (k = 0))) (by omega) (by omega) (by omega) (k_X7 (by omega) z2 z1 (by omega) (by omega) (fun v f l x1 x2 x3 x4 x5 x6 x7 => ⟨rfl, f, l, x1, x2, x3, x4, fun j => by rw [x5]; exact z3 j, fun j => by rw [x6]; exact z4 j, x7⟩)) ?_
  rintro r v0 ⟨rfl, f, lv, q1, q2, q3, q4, q5, q6, q7⟩
  have s0 := stp_mk (J := 0) g0 l0 (by decide) f
  have fe := gr_uR v0 0 0 (some 1)
  have l1 : (hK (uR v0 0 0 (some 1))).length = 7 := lv
  have p0_1 : isSt (uR v0 0 0 (some 1)) 1 := q1.g fe (by decide)
  have p0_2 : hI (uR v0 0 0 (some 1)) 2 0 = 2 := q2
  have p0_3 : ∀ j, hI (uR v0 0 0 (some 1)) 3 j = 0 := q3
  have p0_4 : ∀ j, hI (uR v0 0 0 (some 1)) 4 j = 0 := q4
  have p0_5 : ∀ j, hI (uR v0 0 0 (some 1)) 1 j = 0 := q5
  have p0_6 : ∀ j, hL (uR v0 0 0 (some 1)) 1 j = 0 := q6
  have p0_7 : eS (sA (uR v0 0 0 (some 1)) 6) (fun k => decide (k = 0)) := q7
  have g1 := s0.2.2.2
  have gv := f.k gg
  refine bX10_init_12 gv (by omega) (by omega) ?_
  rw [l1]
  clear fe f gg gv r0 f0 q1 q2 q3 q4 q5 q6 q7 lv z1 z2 z3 z4
  generalize uR v0 0 0 (some 1) = u1 at s0 l1 g1 p0_1 p0_2 p0_3 p0_4 p0_5 p0_6 p0_7 ⊢
  -- place 1
  obtain ⟨z1, z2, z3, z4⟩ := uN_new u1 (2, 0) l1
  have f1 := gr_uN 0 u1 (2, 0)
  have r0 := (gr_uN 7 u1 (2, 0)).row g1 (by decide)
  have gg := f1.k g1
  refine bX10_init_19 (c1 := 31) (n1 := 115) (R := fun r v => r = none ∧ gr 7 (uN u1 (2, 0)) v ∧ (hK v).length = 39 ∧ isH v ∧ ∀ j, hI v 7 j = 0) (by omega) (by omega) (by omega) (k_X2 (by omega) z2 z1 (by omega) (by omega) (fun v f l x1 x2 => ⟨rfl, f, l, x1, fun j => by rw [x2]; exact z3 j⟩)) ?_
  rintro r v1 ⟨rfl, f, lv, q1, q2⟩
  have s1 := stp_mk (J := 1) g1 l1 (by decide) f
  have fe := gr_uR v1 0 1 (some 7)
  have l2 : (hK (uR v1 0 1 (some 7))).length = 39 := lv
  have p1_1 : isH (uR v1 0 1 (some 7)) := q1.g fe (by decide)
  have p1_2 : ∀ j, hI (uR v1 0 1 (some 7)) 7 j = 0 := q2
  have g2 := s1.2.2.2
  have gv := f.k gg
  refine bX10_init_23 gv (by omega) (by omega) ?_
  rw [l2]
  clear fe f gg gv r0 f1 q1 q2 lv z1 z2 z3 z4
  generalize uR v1 0 1 (some 7) = u2 at s1 l2 g2 p1_1 p1_2 ⊢
  -- place 2
  obtain ⟨z1, z2, z3, z4⟩ := uN_new u2 (8, 0) l2
  have f2 := gr_uN 0 u2 (8, 0)
  have r0 := (gr_uN 39 u2 (8, 0)).row g2 (by decide)
  have gg := f2.k g2
  refine bX10_init_30 (c1 := 1) (n1 := 60) (R := fun r v => r = none ∧ gr 39 (uN u2 (8, 0)) v ∧ (hK v).length = 41 ∧ isT v ∧ ∀ j, hI v 39 j = 0) (by omega) (by omega) (by omega) (k_X8 (by omega) z2 z1 (by omega) (by omega) (fun v f l x1 x2 => ⟨rfl, f, l, x1, fun j => by rw [x2]; exact z3 j⟩)) ?_
  rintro r v2 ⟨rfl, f, lv, q1, q2⟩
  have s2 := stp_mk (J := 2) g2 l2 (by decide) f
  have fe := gr_uR v2 0 2 (some 39)
  have l3 : (hK (uR v2 0 2 (some 39))).length = 41 := lv
  have p2_1 : isT (uR v2 0 2 (some 39)) := q1.g fe (by decide)
  have p2_2 : ∀ j, hI (uR v2 0 2 (some 39)) 39 j = 0 := q2
  have g3 := s2.2.2.2
  have gv := f.k gg
  refine bX10_init_34 gv (by omega) (by omega) ?_
  rw [l3]
  clear fe f gg gv r0 f2 q1 q2 lv z1 z2 z3 z4
  generalize uR v2 0 2 (some 39) = u3 at s2 l3 g3 p2_1 p2_2 ⊢
  -- place 3
  obtain ⟨z1, z2, z3, z4⟩ := uN_new u3 (6, 0) l3
  have f3 := gr_uN 0 u3 (6, 0)
  have r0 := (gr_uN 41 u3 (6, 0)).row g3 (by decide)
  have gg := f3.k g3
  have ea : hR (uN u3 (6, 0)) 0 2 = some 39 := by rw [r0.2.2]; exact s2.2.2.1
  refine bX10_init_41 (c1 := 311) (n1 := 1922) (R := fun r v => r = none ∧ gr 41 (uN u3 (6, 0)) v ∧ (hK v).length = 353 ∧ LPx v) gg (by omega) (by omega) (by omega) (by rw [ea]; exact k_X6 (by omega) z2 z1 (by omega) (by omega) (fun v f l x1 => ⟨rfl, f, l, x1⟩)) ?_
  rintro r v3 ⟨rfl, f, lv, q1⟩
  have s3 := stp_mk (J := 3) g3 l3 (by decide) f
  have fe := gr_uR v3 0 3 (some 41)
  have l4 : (hK (uR v3 0 3 (some 41))).length = 353 := lv
  have p3_1 : LPx (uR v3 0 3 (some 41)) := q1.g fe (by decide)
  have g4 := s3.2.2.2
  have gv := f.k gg
  refine bX10_init_49 gv (by omega) (by omega) ?_
  rw [l4]
  clear fe f gg gv r0 f3 q1 lv z1 z2 z3 z4
  generalize uR v3 0 3 (some 41) = u4 at s3 l4 g4 p3_1 ⊢
  -- place 4
  obtain ⟨z1, z2, z3, z4⟩ := uN_new u4 (3, 0) l4
  have f4 := gr_uN 0 u4 (3, 0)
  have r0 := (gr_uN 353 u4 (3, 0)).row g4 (by decide)
  have gg := f4.k g4
  refine bX10_init_56 (c1 := 0) (n1 := 0) (R := fun r v => r = none ∧ gr 353 (uN u4 (3, 0)) v ∧ (hK v).length = 354 ∧ (hK v)[353]? = some (3, 0)) (by omega) (by omega) (by omega) (k_X3 (by omega) ⟨rfl, ⟨rfl, ⟨[], (List.append_nil _).symm⟩, fun _ _ _ => ⟨rfl, rfl, rfl⟩⟩, z1, z2⟩) ?_
  rintro r v4 ⟨rfl, f, lv, q1⟩
  have s4 := stp_mk (J := 4) g4 l4 (by decide) f
  have fe := gr_uR v4 0 4 (some 353)
  have l5 : (hK (uR v4 0 4 (some 353))).length = 354 := lv
  have p4_1 : (hK (uR v4 0 4 (some 353)))[353]? = some (3, 0) := fe.k q1
  have g5 := s4.2.2.2
  have gv := f.k gg
  refine bX10_init_60 gv (by omega) (by omega) ?_
  rw [l5]
  clear fe f gg gv r0 f4 q1 lv z1 z2 z3 z4
  generalize uR v4 0 4 (some 353) = u5 at s4 l5 g5 p4_1 ⊢
  -- place 5
  obtain ⟨z1, z2, z3, z4⟩ := uN_new u5 (4, 0) l5
  have f5 := gr_uN 0 u5 (4, 0)
  have r0 := (gr_uN 354 u5 (4, 0)).row g5 (by decide)
  have gg := f5.k g5
  have eb : hR (uN u5 (4, 0)) 0 0 = some 1 := by rw [r0.2.2, s4.2.1 0 (by decide), s3.2.1 0 (by decide), s2.2.1 0 (by decide), s1.2.1 0 (by decide)]; exact s0.2.2.1
  have G05 : gr 0 u1 u5 := s1.1.tr (s2.1.tr (s3.1.tr s4.1 (Or.inl rfl)) (Or.inl rfl)) (Or.inl rfl)
  have st5 : isSt (uN u5 (4, 0)) 1 := (p0_1.g G05 (by decide)).g f5 (by decide)
  have ea : hR (uN u5 (4, 0)) 1 0 = some 2 := st5.2.2.2.1
  refine bX10_init_67 (c1 := 0) (n1 := 0) (R := fun r v => r = none ∧ gr 354 (uN u5 (4, 0)) v ∧ (hK v).length = 355 ∧ (hK v)[354]? = some (4, 0) ∧ hR v 354 0 = some 2) gg eb st5.1 (by omega) (by omega) (by omega) (by rw [ea]; exact k_X4 (by omega) z2 ⟨rfl, gr_uR _ _ _ _, z1, z2, hR_uRs _ _ _ _⟩) ?_
  rintro r v5 ⟨rfl, f, lv, q1, q2⟩
  have s5 := stp_mk (J := 5) g5 l5 (by decide) f
  have fe := gr_uR v5 0 5 (some 354)
  have l6 : (hK (uR v5 0 5 (some 354))).length = 355 := lv
  have p5_1 : (hK (uR v5 0 5 (some 354)))[354]? = some (4, 0) := fe.k q1
  have p5_2 : hR (uR v5 0 5 (some 354)) 354 0 = some 2 := (by rw [(fe.row q1 (by decide)).2.2]; exact q2)
  have g6 := s5.2.2.2
  have gv := f.k gg
  refine bX10_init_78 gv (by omega) (by omega) ?_
  rw [l6]
  clear fe f gg gv r0 f5 q1 q2 lv z1 z2 z3 z4
  generalize uR v5 0 5 (some 354) = u6 at s5 l6 g6 p5_1 p5_2 ⊢
  -- place 6
  obtain ⟨z1, z2, z3, z4⟩ := uN_new u6 (0, 0) l6
  have f6 := gr_uN 0 u6 (0, 0)
  have r0 := (gr_uN 355 u6 (0, 0)).row g6 (by decide)
  have gg := f6.k g6
  have ea : hR (uN u6 (0, 0)) 0 5 = some 354 := by rw [r0.2.2]; exact s5.2.2.1
  refine bX10_init_85 (c1 := 4) (n1 := 18) (R := fun r v => r = none ∧ gr 355 (uN u6 (0, 0)) v ∧ (hK v).length = 360 ∧ (hK v)[355]? = some (0, 0) ∧ isA v 356 357 ∧ isA v 358 359 ∧ hR v 355 0 = some 354 ∧ hR v 355 1 = some 356 ∧ hR v 355 2 = some 358) gg (by omega) (by omega) (by omega) (by rw [ea]; exact k_X0 (by omega) z2 z1 (by omega) (by omega) (fun v f l x1 x2 x3 x4 x5 => ⟨rfl, f, l, f.k z2, x1, x2, x3, x4, x5⟩)) ?_
  rintro r v6 ⟨rfl, f, lv, q1, q2, q3, q4, q5, q6⟩
  have s6 := stp_mk (J := 6) g6 l6 (by decide) f
  have fe := gr_uR v6 0 6 (some 355)
  have l7 : (hK (uR v6 0 6 (some 355))).length = 360 := lv
  have p6_1 : (hK (uR v6 0 6 (some 355)))[355]? = some (0, 0) := fe.k q1
  have p6_2 : isA (uR v6 0 6 (some 355)) 356 357 := q2.g fe (by decide)
  have p6_3 : isA (uR v6 0 6 (some 355)) 358 359 := q3.g fe (by decide)
  have p6_4 : hR (uR v6 0 6 (some 355)) 355 0 = some 354 := (by rw [(fe.row q1 (by decide)).2.2]; exact q4)
  have p6_5 : hR (uR v6 0 6 (some 355)) 355 1 = some 356 := (by rw [(fe.row q1 (by decide)).2.2]; exact q5)
  have p6_6 : hR (uR v6 0 6 (some 355)) 355 2 = some 358 := (by rw [(fe.row q1 (by decide)).2.2]; exact q6)
  have g7 := s6.2.2.2
  have gv := f.k gg
  refine bX10_init_93 gv (by omega) (by omega) ?_
  rw [l7]
  clear fe f gg gv r0 f6 q1 q2 q3 q4 q5 q6 lv z1 z2 z3 z4
  generalize uR v6 0 6 (some 355) = u7 at s6 l7 g7 p6_1 p6_2 p6_3 p6_4 p6_5 p6_6 ⊢
  -- place 7
  obtain ⟨z1, z2, z3, z4⟩ := uN_new u7 (9, 0) l7
  have f7 := gr_uN 0 u7 (9, 0)
  have r0 := (gr_uN 360 u7 (9, 0)).row g7 (by decide)
  have gg := f7.k g7
  refine bX10_init_100 (c1 := 2) (n1 := 5) (R := fun r v => r = none ∧ gr 360 (uN u7 (9, 0)) v ∧ (hK v).length = 363 ∧ isW v 360) (by omega) (by omega) (by omega) (k_X9 (by omega) z2 z1 (by omega) (by omega) (fun v f l x1 _ _ _ => ⟨rfl, f, l, x1⟩)) ?_
  rintro r v7 ⟨rfl, f, lv, q1⟩
  have s7 := stp_mk (J := 7) g7 l7 (by decide) f
  have fe := gr_uR v7 0 7 (some 360)
  have l8 : (hK (uR v7 0 7 (some 360))).length = 363 := lv
  have p7_1 : isW (uR v7 0 7 (some 360)) 360 := q1.g fe (by decide)
  have g8 := s7.2.2.2
  have gv := f.k gg
  refine bX10_init_104 gv (by omega) (by omega) ?_
  rw [l8]
  clear fe f gg gv r0 f7 q1 lv z1 z2 z3 z4
  generalize uR v7 0 7 (some 360) = u8 at s7 l8 g8 p7_1 ⊢
  -- place 8
  obtain ⟨z1, z2, z3, z4⟩ := uN_new u8 (4, 0) l8
  have f8 := gr_uN 0 u8 (4, 0)
  have r0 := (gr_uN 363 u8 (4, 0)).row g8 (by decide)
  have gg := f8.k g8
  have ea : hR (uN u8 (4, 0)) 0 7 = some 360 := by rw [r0.2.2]; exact s7.2.2.1
  refine bX10_init_111 (c1 := 0) (n1 := 0) (R := fun r v => r = none ∧ gr 363 (uN u8 (4, 0)) v ∧ (hK v).length = 364 ∧ (hK v)[363]? = some (4, 0) ∧ hR v 363 0 = some 360) gg (by omega) (by omega) (by omega) (by rw [ea]; exact k_X4 (by omega) z2 ⟨rfl, gr_uR _ _ _ _, z1, z2, hR_uRs _ _ _ _⟩) ?_
  rintro r v8 ⟨rfl, f, lv, q1, q2⟩
  have s8 := stp_mk (J := 8) g8 l8 (by decide) f
  have fe := gr_uR v8 0 8 (some 363)
  have l9 : (hK (uR v8 0 8 (some 363))).length = 364 := lv
  have p8_1 : (hK (uR v8 0 8 (some 363)))[363]? = some (4, 0) := fe.k q1
  have p8_2 : hR (uR v8 0 8 (some 363)) 363 0 = some 360 := (by rw [(fe.row q1 (by decide)).2.2]; exact q2)
  have g9 := s8.2.2.2
  have gv := f.k gg
  refine bX10_init_119 gv (by omega) (by omega) ?_
  rw [l9]
  clear fe f gg gv r0 f8 q1 q2 lv z1 z2 z3 z4
  generalize uR v8 0 8 (some 363) = u9 at s8 l9 g9 p8_1 p8_2 ⊢
  -- place 9
  obtain ⟨z1, z2, z3, z4⟩ := uN_new u9 (1, 0) l9
  have f9 := gr_uN 0 u9 (1, 0)
  have r0 := (gr_uN 364 u9 (1, 0)).row g9 (by decide)
  have gg := f9.k g9
  refine bX10_init_126 (c1 := 1) (n1 := 8) (R := fun r v => r = none ∧ gr 364 (uN u9 (1, 0)) v ∧ (hK v).length = 366 ∧ isA v 364 365) (by omega) (by omega) (by omega) (k_X1 (by omega) z2 z1 (by omega) (by omega) (fun v f l x1 _ => ⟨rfl, f, l, x1⟩)) ?_
  rintro r v9 ⟨rfl, f, lv, q1⟩
  have s9 := stp_mk (J := 9) g9 l9 (by decide) f
  have fe := gr_uR v9 0 9 (some 364)
  have l10 : (hK (uR v9 0 9 (some 364))).length = 366 := lv
  have p9_1 : isA (uR v9 0 9 (some 364)) 364 365 := q1.g fe (by decide)
  have g10 := s9.2.2.2
  have gv := f.k gg
  refine bX10_init_130 gv ?_
  clear fe f gg gv r0 f9 q1 lv z1 z2 z3 z4
  generalize uR v9 0 9 (some 364) = u10 at s9 l10 g10 p9_1 ⊢
  have G9 : gr 0 u10 u10 := ⟨rfl, ⟨[], (List.append_nil _).symm⟩, fun _ _ _ => ⟨rfl, rfl, rfl⟩⟩
  have G8 : gr 0 u9 u10 := s9.1.tr G9 (Or.inl rfl)
  have G7 : gr 0 u8 u10 := s8.1.tr G8 (Or.inl rfl)
  have G6 : gr 0 u7 u10 := s7.1.tr G7 (Or.inl rfl)
  have G5 : gr 0 u6 u10 := s6.1.tr G6 (Or.inl rfl)
  have G4 : gr 0 u5 u10 := s5.1.tr G5 (Or.inl rfl)
  have G3 : gr 0 u4 u10 := s4.1.tr G4 (Or.inl rfl)
  have G2 : gr 0 u3 u10 := s3.1.tr G3 (Or.inl rfl)
  have G1 : gr 0 u2 u10 := s2.1.tr G2 (Or.inl rfl)
  have G0 : gr 0 u1 u10 := s1.1.tr G1 (Or.inl rfl)
  have e0 : hR u10 0 0 = some 1 := by rw [s9.2.1 0 (by decide), s8.2.1 0 (by decide), s7.2.1 0 (by decide), s6.2.1 0 (by decide), s5.2.1 0 (by decide), s4.2.1 0 (by decide), s3.2.1 0 (by decide), s2.2.1 0 (by decide), s1.2.1 0 (by decide)]; exact s0.2.2.1
  have e1 : hR u10 0 1 = some 7 := by rw [s9.2.1 1 (by decide), s8.2.1 1 (by decide), s7.2.1 1 (by decide), s6.2.1 1 (by decide), s5.2.1 1 (by decide), s4.2.1 1 (by decide), s3.2.1 1 (by decide), s2.2.1 1 (by decide)]; exact s1.2.2.1
  have e2 : hR u10 0 2 = some 39 := by rw [s9.2.1 2 (by decide), s8.2.1 2 (by decide), s7.2.1 2 (by decide), s6.2.1 2 (by decide), s5.2.1 2 (by decide), s4.2.1 2 (by decide), s3.2.1 2 (by decide)]; exact s2.2.2.1
  have e3 : hR u10 0 3 = some 41 := by rw [s9.2.1 3 (by decide), s8.2.1 3 (by decide), s7.2.1 3 (by decide), s6.2.1 3 (by decide), s5.2.1 3 (by decide), s4.2.1 3 (by decide)]; exact s3.2.2.1
  have e4 : hR u10 0 4 = some 353 := by rw [s9.2.1 4 (by decide), s8.2.1 4 (by decide), s7.2.1 4 (by decide), s6.2.1 4 (by decide), s5.2.1 4 (by decide)]; exact s4.2.2.1
  have e5 : hR u10 0 5 = some 354 := by rw [s9.2.1 5 (by decide), s8.2.1 5 (by decide), s7.2.1 5 (by decide), s6.2.1 5 (by decide)]; exact s5.2.2.1
  have e6 : hR u10 0 6 = some 355 := by rw [s9.2.1 6 (by decide), s8.2.1 6 (by decide), s7.2.1 6 (by decide)]; exact s6.2.2.1
  have e7 : hR u10 0 7 = some 360 := by rw [s9.2.1 7 (by decide), s8.2.1 7 (by decide)]; exact s7.2.2.1
  have e8 : hR u10 0 8 = some 363 := by rw [s9.2.1 8 (by decide)]; exact s8.2.2.1
  have e9 : hR u10 0 9 = some 364 := s9.2.2.1
  have w : ∀ b, b < 7 → b ≠ 0 → hI u10 b = hI u1 b ∧ hL u10 b = hL u1 b := fun b hb h0 => ⟨(G0.2.2 b (by omega) h0).1, (G0.2.2 b (by omega) h0).2.1⟩
  have r354 := (G5.row p5_1 (by decide)).2.2
  have r355 := (G6.row p6_1 (by decide)).2.2
  have r363 := (G8.row p8_1 (by decide)).2.2
  refine k u10 (s0.1.tr G0 (Or.inl rfl)) l10 ⟨⟨g10, e0, e1, e2, e3, e4, e5, e6, e7, e8, e9⟩, p0_1.g G0 (by decide), p1_1.g G1 (by decide), p2_1.g G2 (by decide), p3_1.g G3 (by decide), G4.k p4_1, G5.k p5_1, by rw [r354]; exact p5_2, G6.k p6_1, by rw [r355]; exact p6_4, by rw [r355]; exact p6_5, by rw [r355]; exact p6_6, p6_2.g G6 (by decide), p6_3.g G6 (by decide), p7_1.g G7 (by decide), G8.k p8_1, by rw [r363]; exact p8_2, p9_1⟩ ?_ ?_ ?_
  · refine ⟨?_, fun i hi => ?_, fun i hi => ?_, ?_, ?_, ?_, fun k hk => ?_⟩
    · rw [(w 2 (by decide) (by decide)).1]; exact p0_2
    · rw [(w 3 (by decide) (by decide)).1, p0_3]
      show (0 : Int32) = if 1 + i = 7 then 0 else if 9 ≤ 1 + i then (if 1 + i = 9 then 1 else 0) else if 1 + i = 0 then 2 else 0
      rw [if_neg (by omega), if_neg (by omega), if_neg (by omega)]
    · rw [(w 4 (by decide) (by decide)).1, p0_4]
      show (0 : Int32) = if 4 + i = 7 then 0 else if 9 ≤ 4 + i then (if 4 + i = 9 then 1 else 0) else if 4 + i = 0 then 2 else 0
      rw [if_neg (by omega), if_neg (by omega), if_neg (by omega)]
    · rw [(w 1 (by decide) (by decide)).1]; exact p0_5 3
    · rw [(w 1 (by decide) (by decide)).1]; exact p0_5 2
    · rw [(w 1 (by decide) (by decide)).2]; exact p0_6 4
    · have ek : sA u10 6 k = sA u1 6 k := by unfold sA; rw [(w 6 (by decide) (by decide)).2]
      show sA u10 6 k = ctx S0 k
      rw [ek, p0_7 k hk]
      exact (ctx_fst _ hk).symm
  · have r7 : hI u10 7 = hI u2 7 := (G1.2.2 7 (by omega) (by decide)).1
    exact ⟨0, by rw [r7]; exact p1_2 1, by decide, by rw [r7]; exact p1_2 2, by decide, fun i S z => by simp at z⟩
  · have r39 : hI u10 39 = hI u3 39 := (G2.2.2 39 (by omega) (by decide)).1
    exact ⟨by rw [r39]; exact p2_2 1, fun i hi => absurd hi (Nat.not_lt_zero i)⟩
/-- the reference's constructor, array by array -/
def jM (h : vH) (i : Nat) (u : vH) : Prop := gr 366 h u ∧ (hK u).length = 367 + i ∧ (hK u)[366]? = some (11, 0) ∧ (∀ k, k < i → ∀ e, mTab[k]? = some e → hR u 366 e.1 = some e.2.1 ∧ (hK u)[e.2.1]? = some e.2.2) ∧ hI u 366 = hI h 366 ∧ ∀ r, 367 ≤ r → r < 367 + i → ∀ j, hI u r j = 0
theorem jM_s {h u : vH} {i f t m : Nat} (hh : (hK h).length = 367) (x : jM h i u) (e : mTab[i]? = some (f, 367 + i, t, m)) (hf : ∀ k, k < i → mTab[k]?.map Prod.fst ≠ some f) : jM h (i + 1) (uR (uN u (t, m)) 366 f (some (367 + i))) := by
  obtain ⟨x1, x2, x3, x4, x5, x6⟩ := x
  obtain ⟨z1, z2, z3, -⟩ := uN_new u (t, m) x2
  have f1 := gr_uN (367 + i) u (t, m)
  have f2 := gr_uR (uN u (t, m)) 366 f (some (367 + i))
  have r1 := f1.row x3 (by omega)
  refine ⟨(x1.tr f1 (Or.inr (by omega))).tr f2 (Or.inl rfl), z1, f1.k x3, fun k hk e2 he => ?_, ?_, fun r h1 h2 j => ?_⟩
  · by_cases hki : k = i
    · rw [hki, e] at he
      injection he with he
      rw [← he]
      exact ⟨hR_uRs _ _ _ _, z2⟩
    · have q := x4 k (by omega) e2 he
      have hne : e2.1 ≠ f := fun z => hf k (by omega) (by rw [he]; show some e2.1 = some f; rw [z])
      exact ⟨by rw [hR_uRk _ _ _ hne, r1.2.2]; exact q.1, f1.k q.2⟩
  · show hI (uN u (t, m)) 366 = hI h 366
    rw [r1.1]; exact x5
  · show hI (uN u (t, m)) r j = 0
    by_cases hr : r = 367 + i
    · rw [hr]; exact z3 j
    · rw [(f1.2.2 r (by omega) hr).1]; exact x6 r h1 (by omega) j
theorem k_X11 (hd : 2 ≤ d) (g : (hK h)[366]? = some (11, 0)) (eN : (hK h).length = 367) (hc : 16 ≤ c) (hn : 40000 ≤ n) (k : ∀ h', gr 366 h h' → LM h' → mS h' S0 → hI h' 366 = hI h 366 → Q none h') : vm_C mX11_init d c n [vR (some 366)] h Q := by
  have x0 : jM h 0 h := ⟨⟨rfl, ⟨[], (List.append_nil _).symm⟩, fun _ _ _ => ⟨rfl, rfl, rfl⟩⟩, eN, g, fun k hk => absurd hk (Nat.not_lt_zero k), rfl, fun r h1 h2 => by omega⟩
  refine bX11_init_0 (by omega) (bX11_init_4 (by omega) (by omega) ?_)
  rw [eN]
  have x1 : jM h 1 (uR (uN h (20, 25)) 366 0 (some 367)) := jM_s eN x0 rfl (by decide)
  refine bX11_init_9 ((gr_uN 0 h (20, 25)).k x0.2.2.1) (by omega) (by omega) ?_
  rw [show (hK (uR (uN h (20, 25)) 366 0 (some 367))).length = 368 from x1.2.1]
  generalize uR (uN h (20, 25)) 366 0 (some 367) = u1 at x1 ⊢
  have x2 : jM h 2 (uR (uN u1 (20, 125)) 366 1 (some 368)) := jM_s eN x1 rfl (by decide)
  refine bX11_init_17 ((gr_uN 0 u1 (20, 125)).k x1.2.2.1) (by omega) (by omega) ?_
  rw [show (hK (uR (uN u1 (20, 125)) 366 1 (some 368))).length = 369 from x2.2.1]
  generalize uR (uN u1 (20, 125)) 366 1 (some 368) = u2 at x2 ⊢
  have x3 : jM h 3 (uR (uN u2 (20, 60)) 366 3 (some 369)) := jM_s eN x2 rfl (by decide)
  refine bX11_init_25 ((gr_uN 0 u2 (20, 60)).k x2.2.2.1) (by omega) (by omega) ?_
  rw [show (hK (uR (uN u2 (20, 60)) 366 3 (some 369))).length = 370 from x3.2.1]
  generalize uR (uN u2 (20, 60)) 366 3 (some 369) = u3 at x3 ⊢
  have x4 : jM h 4 (uR (uN u3 (20, 62)) 366 5 (some 370)) := jM_s eN x3 rfl (by decide)
  refine bX11_init_33 ((gr_uN 0 u3 (20, 62)).k x3.2.2.1) (by omega) (by omega) ?_
  rw [show (hK (uR (uN u3 (20, 62)) 366 5 (some 370))).length = 371 from x4.2.1]
  generalize uR (uN u3 (20, 62)) 366 5 (some 370) = u4 at x4 ⊢
  have x5 : jM h 5 (uR (uN u4 (21, 31744)) 366 6 (some 371)) := jM_s eN x4 rfl (by decide)
  refine bX11_init_42 ((gr_uN 0 u4 (21, 31744)).k x4.2.2.1) (by omega) (by omega) ?_
  rw [show (hK (uR (uN u4 (21, 31744)) 366 6 (some 371))).length = 372 from x5.2.1]
  generalize uR (uN u4 (21, 31744)) 366 6 (some 371) = u5 at x5 ⊢
  have x6 : jM h 6 (uR (uN u5 (21, 512)) 366 8 (some 372)) := jM_s eN x5 rfl (by decide)
  refine bX11_init_51 ((gr_uN 0 u5 (21, 512)).k x5.2.2.1) (by omega) (by omega) ?_
  rw [show (hK (uR (uN u5 (21, 512)) 366 8 (some 372))).length = 373 from x6.2.1]
  generalize uR (uN u5 (21, 512)) 366 8 (some 372) = u6 at x6 ⊢
  have x7 : jM h 7 (uR (uN u6 (21, 512)) 366 9 (some 373)) := jM_s eN x6 rfl (by decide)
  refine bX11_init_60 ((gr_uN 0 u6 (21, 512)).k x6.2.2.1) (by omega) (by omega) ?_
  rw [show (hK (uR (uN u6 (21, 512)) 366 9 (some 373))).length = 374 from x7.2.1]
  generalize uR (uN u6 (21, 512)) 366 9 (some 373) = u7 at x7 ⊢
  have x8 : jM h 8 (uR (uN u7 (21, 512)) 366 10 (some 374)) := jM_s eN x7 rfl (by decide)
  refine bX11_init_69 ((gr_uN 0 u7 (21, 512)).k x7.2.2.1) (by omega) (by omega) ?_
  rw [show (hK (uR (uN u7 (21, 512)) 366 10 (some 374))).length = 375 from x8.2.1]
  generalize uR (uN u7 (21, 512)) 366 10 (some 374) = u8 at x8 ⊢
  have x9 : jM h 9 (uR (uN u8 (20, 10)) 366 17 (some 375)) := jM_s eN x8 rfl (by decide)
  refine bX11_init_77 ((gr_uN 0 u8 (20, 10)).k x8.2.2.1) (by omega) (by omega) ?_
  rw [show (hK (uR (uN u8 (20, 10)) 366 17 (some 375))).length = 376 from x9.2.1]
  generalize uR (uN u8 (20, 10)) 366 17 (some 375) = u9 at x9 ⊢
  have x10 : jM h 10 (uR (uN u9 (20, 10)) 366 18 (some 376)) := jM_s eN x9 rfl (by decide)
  refine bX11_init_85 ((gr_uN 0 u9 (20, 10)).k x9.2.2.1) (by omega) (by omega) ?_
  rw [show (hK (uR (uN u9 (20, 10)) 366 18 (some 376))).length = 377 from x10.2.1]
  generalize uR (uN u9 (20, 10)) 366 18 (some 376) = u10 at x10 ⊢
  have x11 : jM h 11 (uR (uN u10 (20, 10)) 366 19 (some 377)) := jM_s eN x10 rfl (by decide)
  refine bX11_init_93 ((gr_uN 0 u10 (20, 10)).k x10.2.2.1) (by omega) (by omega) ?_
  rw [show (hK (uR (uN u10 (20, 10)) 366 19 (some 377))).length = 378 from x11.2.1]
  generalize uR (uN u10 (20, 10)) 366 19 (some 377) = u11 at x11 ⊢
  have x12 : jM h 12 (uR (uN u11 (20, 10)) 366 20 (some 378)) := jM_s eN x11 rfl (by decide)
  refine bX11_init_101 ((gr_uN 0 u11 (20, 10)).k x11.2.2.1) (by omega) (by omega) ?_
  rw [show (hK (uR (uN u11 (20, 10)) 366 20 (some 378))).length = 379 from x12.2.1]
  generalize uR (uN u11 (20, 10)) 366 20 (some 378) = u12 at x12 ⊢
  have x13 : jM h 13 (uR (uN u12 (21, 10)) 366 21 (some 379)) := jM_s eN x12 rfl (by decide)
  refine bX11_init_109 ((gr_uN 0 u12 (21, 10)).k x12.2.2.1) (by omega) (by omega) ?_
  rw [show (hK (uR (uN u12 (21, 10)) 366 21 (some 379))).length = 380 from x13.2.1]
  generalize uR (uN u12 (21, 10)) 366 21 (some 379) = u13 at x13 ⊢
  have x14 : jM h 14 (uR (uN u13 (21, 10)) 366 22 (some 380)) := jM_s eN x13 rfl (by decide)
  refine bX11_init_117 ((gr_uN 0 u13 (21, 10)).k x13.2.2.1) (by omega) (by omega) ?_
  rw [show (hK (uR (uN u13 (21, 10)) 366 22 (some 380))).length = 381 from x14.2.1]
  generalize uR (uN u13 (21, 10)) 366 22 (some 380) = u14 at x14 ⊢
  have x15 : jM h 15 (uR (uN u14 (21, 10)) 366 23 (some 381)) := jM_s eN x14 rfl (by decide)
  refine bX11_init_125 ((gr_uN 0 u14 (21, 10)).k x14.2.2.1) (by omega) (by omega) ?_
  rw [show (hK (uR (uN u14 (21, 10)) 366 23 (some 381))).length = 382 from x15.2.1]
  generalize uR (uN u14 (21, 10)) 366 23 (some 381) = u15 at x15 ⊢
  have x16 : jM h 16 (uR (uN u15 (21, 5120)) 366 24 (some 382)) := jM_s eN x15 rfl (by decide)
  have hM : LM (uR (uN u15 (21, 5120)) 366 24 (some 382)) := ⟨x16.2.2.1, fun e he => by
    obtain ⟨k, hk, ek⟩ := List.mem_iff_getElem.mp he
    exact x16.2.2.2.1 k hk e (by rw [List.getElem?_eq_getElem hk, ek])⟩
  have gN := (gr_uN 0 u15 (21, 5120)).k x15.2.2.1
  have k367 : (hK (uN u15 (21, 5120)))[367]? = some (20, 25) := (gr_uN 0 u15 (21, 5120)).k (x15.2.2.2.1 0 (by decide) _ rfl).2
  refine bX11_init_134 (b4 := 367) (b5 := 367) (n_b4 := 25) (n_b5 := 25) gN gN hM.s.1 k367 (vp_in_nI (n := 0) (by decide) (by decide)) (by rw [hR_uI]; exact hM.s.1) k367 (vp_in_nI (n := 9) (by decide) (by decide)) (bX11_init_152 ?_)
  generalize uR (uN u15 (21, 5120)) 366 24 (some 382) = u16 at x16 hM ⊢
  show Q none (uI (uI u16 367 0 2) 367 9 1)
  obtain ⟨y1, y2, y3, y4, y5, y6⟩ := x16
  have f1 := gr_uI u16 367 0 2
  have f2 := gr_uI (uI u16 367 0 2) 367 9 1
  have fm2 : fm (fun r _ => r = 367) u16 (uI (uI u16 367 0 2) 367 9 1) := ((fm_uI _ 367 0 _).mono (fun r j z => z.1)).tr ((fm_uI _ 367 9 _).mono (fun r j z => z.1))
  refine k _ ((y1.tr f1 (Or.inr (by omega))).tr f2 (Or.inr (by omega))) (hM.fm fm2) (fun i hi => ?_) ?_
  · rw [hI_uI]
    by_cases h9 : i = 9
    · rw [if_pos ⟨rfl, h9⟩, h9]; rfl
    · rw [if_neg (fun z => h9 z.2), hI_uI]
      by_cases h0 : i = 0
      · rw [if_pos ⟨rfl, h0⟩, h0]; rfl
      · rw [if_neg (fun z => h0 z.2), y6 367 (by decide) (by decide) i]
        show (0 : Int32) = if i = 7 then 0 else if 9 ≤ i then (if i = 9 then 1 else 0) else if i = 0 then 2 else 0
        rw [if_neg h9, if_neg h0]
        split
        · rfl
        · split <;> rfl
  · rw [← y5]
    funext j
    exact fm2.2 366 j (show ¬ (366 : Nat) = 367 by decide)
end
