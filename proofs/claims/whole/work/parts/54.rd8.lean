/-! ===== the reference's reader: choices and formulas, by induction ===== -/
theorem mpc.rmk {h g : vH} {e : Bool} {p K dp dp' : Nat} {u : Option Nat} {f : fR} {F : List fR} {A : List aT} {b1 b2 b3 : Bool} (y : mpc h e p K u dp (f :: F) A) (f1 : fm (fun r j => r = 366 ∧ j = 15 ∨ (r = 379 ∨ r = 380 ∨ r = 381) ∧ j = F.length) h g) (e15 : hI g 366 15 = nI dp') (c1 : hI g 379 F.length = bN b1) (c2 : hI g 380 F.length = bN b2) (c3 : hI g 381 F.length = bN b3) : mpc g e p K u dp' ((f.1, f.2.1, f.2.2.1, f.2.2.2.1, b1, b2, b3, f.2.2.2.2.2.2.2) :: F) A := by
  obtain ⟨z1, z2, z3, z4, z5, z6, ⟨⟨u1, u2, u3, u4, u5, u6, u7, u8⟩, z7⟩, z8, z9, z10, z11, z12⟩ := y
  refine ⟨?_, ?_, ?_, ?_, e15, ?_, ⟨⟨?_, ?_, ?_, ?_, c1, c2, c3, fun he hr a ha => ?_⟩, ?_⟩, ?_, z9, z10, z11, fun b hb => ?_⟩
  · rw [f1.2 _ _ (by omega)]; exact z1
  · rw [f1.2 _ _ (by omega)]; exact z2
  · rw [f1.2 _ _ (by omega)]; exact z3
  · rw [f1.2 _ _ (by omega)]; exact z4
  · rw [f1.2 _ _ (by omega)]; exact z6
  · rw [f1.2 _ _ (by omega)]; exact u1
  · rw [f1.2 _ _ (by omega)]; exact u2
  · rw [f1.2 _ _ (by omega)]; exact u3
  · rw [f1.2 _ _ (by omega)]; exact u4
  · rw [f1.2 _ _ (by omega)]; exact u8 he hr a ha
  · exact fxs_eq (fun r j h1 h2 h3 => f1.2 r j (by omega)) (fun _ j _ => f1.2 382 j (by omega)) z7
  · exact axs_eq (fun k _ => f1.2 370 k (by omega)) (fun _ j _ => f1.2 371 j (by omega)) z8
  · rcases List.mem_cons.mp hb with rfl | hb
    · exact z12 f (List.mem_cons_self ..)
    · exact z12 b (List.mem_cons_of_mem _ hb)
theorem ct_row {f : fR} (hk : ¬ f.1 = 2) (hh : f.2.2.2.2.2.2.1 = false) : ct f = if f.2.2.2.1 = 0 then 0 else 1 := by
  unfold ct
  by_cases h0 : f.2.2.2.1 = 0
  · rw [if_pos h0, if_neg]
    rintro (z | z | z)
    · exact hk z
    · rw [hh] at z; cases z
    · omega
  · rw [if_neg h0, if_pos (Or.inr (Or.inr (by omega)))]
/-- a row's frame when a row is read in it -/
theorem row_N {u : Option Nat} {dp : Nat} {f N : fR} {Y : Option (Nat × Nat)} (hk : ¬ f.1 = 2) (hrm : f.2.2.2.2.1 = false) (hh : f.2.2.2.2.2.2.1 = false) (g4 : N = f ∧ (u = none → Y = none) ∨ N = mkF f ∧ u = none ∧ ¬ Y = none) :
    N.1 = f.1 ∧ N.2.1 = f.2.1 ∧ N.2.2.1 = f.2.2.1 ∧ N.2.2.2.1 = f.2.2.2.1 ∧ N.2.2.2.2.1 = (decide (u = none ∧ ¬ Y = none) && decide (f.2.2.2.1 = 0)) ∧ N.2.2.2.2.2.1 = (f.2.2.2.2.2.1 || decide (u = none ∧ ¬ Y = none)) ∧ N.2.2.2.2.2.2.1 = false ∧ N.2.2.2.2.2.2.2 = f.2.2.2.2.2.2.2 := by
  rcases g4 with ⟨rfl, hz⟩ | ⟨rfl, h1, h2⟩
  · have hd : decide (u = none ∧ ¬ Y = none) = false := decide_eq_false (fun z => z.2 (hz z.1))
    rw [hd]
    exact ⟨rfl, rfl, rfl, rfl, by rw [hrm]; rfl, by rw [Bool.or_false], hh, rfl⟩
  · have hd : decide (u = none ∧ ¬ Y = none) = true := decide_eq_true ⟨h1, h2⟩
    have hb : rowB f = true := by unfold rowB; rw [decide_eq_true hk, hh]; rfl
    rw [hd]
    refine ⟨rfl, rfl, rfl, rfl, ?_, ?_, hh, rfl⟩
    · show (rowB f && decide (f.2.2.2.1 = 0)) = _; rw [hb]
    · show rowB f = _; rw [hb, Bool.or_true]
theorem sing_cc (a b r : T) : sing (cc a (cc b r)) = false := rfl
theorem g_2 {m : Nat} (i1 : gR1 m) (i2 : gR2 m) : gR2 (m + 1) := by
  intro d cx n h e W t L p K u dp f r A o Q B hf hk2 hfr hah hrm hha kf kk
  obtain ⟨x, y, hd, hp, hK, hF, ho⟩ := id B
  have hL := B.len
  have hcok := x.2.2.2.1.k
  have hrp := (y.2.2.2.2.2.2.2.2.2.2.2 f (List.mem_cons_self ..)).2
  have hF2 : r.length = o := by rw [List.length_cons] at hF; omega
  rw [pz_2] at kf kk
  refine i1 d cx n h e W t L p K u dp f r A o Q B (by omega) hk2 (fun q eq h' f' e4 => kf q (by rw [eq]; rfl) h' f' e4) (fun yt p1 eq n38 h1 f1 y1 => ?_)
  have x1 := x.fa f1
  have hp1 := pz_p1 hcok eq
  have hc1 := x.c127 p1
  rw [eq] at kf kk
  have kf : ∀ q, mp (wr 2 yt) (rst (chAt t L) 124 2 m o p1) = .inl q → ∀ h', fa h h' → hI h' 366 12 = nI q → Q (some (vI 0)) h' := kf
  generalize hY : (un yt).2.1 K = Y at y1
  obtain ⟨N1, g1, g2, g3, g4⟩ := udf_cons u dp f r Y
  obtain ⟨n1, n2, n3, n4, n5, n6, n7, n8⟩ := row_N (dp := dp) hk2 hrm hha g4
  have ect := ct_row hk2 hha
  rw [g1, g2, g3] at y1
  have hlr : (udf u dp r (shn (ct f) Y)).2.2.length = r.length := udf_len _ _ _ _
  have am1 := udf_am u dp r Y
  have un1 : (udf u dp r Y).1 = none ↔ u = none ∧ Y = none := udf_none
  have ev : decide (u = none ∧ ¬ (udf u dp r Y).1 = none) = decide (u = none ∧ ¬ Y = none) := by
    congr 1; apply propext
    rw [un1]
    exact ⟨fun z => ⟨z.1, fun q => z.2 ⟨z.1, q⟩⟩, fun z => ⟨z.1, fun q => z.2 q.2⟩⟩
  rw [ev] at am1
  -- the row counted
  have e1 : (udf u dp r (shn (ct f) Y)).1 = (udf u dp r (shn 1 Y)).1 := by
    rw [ect]
    by_cases h0 : f.2.2.2.1 = 0
    · rw [if_pos h0, shn_0, am1.1]
    · rw [if_neg h0]
  have e3 : (udf u dp r (shn (ct f) Y)).2.2 = (udf u dp r (shn 1 Y)).2.2 := by
    rw [ect]
    by_cases h0 : f.2.2.2.1 = 0
    · rw [if_pos h0, shn_0, am1.2.2]
    · rw [if_neg h0]
  have e2 : (udf u dp r (shn (ct f) Y)).2.1 + b01 N1.2.2.2.2.1 = (udf u dp r (shn 1 Y)).2.1 := by
    rw [ect, n5]
    by_cases h0 : f.2.2.2.1 = 0
    · rw [if_pos h0, shn_0, am1.2.1, decide_eq_true h0, Bool.and_true]
    · rw [if_neg h0, decide_eq_false h0, Bool.and_false]; rfl
  by_cases h124 : chAt t L p1 = 124
  · have p1L := hcok.lt (p := p1) (by omega)
    have enx : nx (chAt t L) p1 = nI 124 := (nx_v hc1 (by decide)).mpr h124
    have er : rst (chAt t L) 124 2 m o p1 = pz (chAt t L) m 2 o (p1 + 1) := if_pos h124
    have hM1 := x1.1
    have t16 := y1.t1
    rw [hlr] at t16
    have hv : vp_in (nI r.length) 10 := vp_in_nI (by omega) (by decide)
    have cm : Int32.toNatClampNeg (nI r.length) = r.length := cs (by omega)
    have frm : hI h1 379 r.length = bN N1.2.2.2.2.1 := by have := y1.f1.2.2.2.2.1; rw [hlr] at this; exact this
    have f15 : hI h1 366 15 = nI (udf u dp r (shn (ct f) Y)).2.1 := y1.2.2.2.2.1
    have fin : vm_E mX11_readsFormula d cx n 124 [some (vR (some 366)), some (vI 0), some (vI (nx (chAt t L) p1))] [vI (bN N1.2.2.2.2.1), vI (hI h1 366 15), vR (some 366)] h1 Q := by
      have e15 : hI h1 366 15 + bN N1.2.2.2.2.1 = nI (udf u dp r (shn 1 Y)).2.1 := by rw [f15, bN_n, nI_add, e2]
      have c16 : hI (uI h1 366 15 (nI (udf u dp r (shn 1 Y)).2.1)) 366 16 = nI r.length := by rw [hI_uIk _ _ _ (by decide)]; exact t16
      have fm2 : fm (fun q j => q = 366 ∧ j = 15 ∨ q = 379 ∧ j = r.length) h1 (uI (uI h1 366 15 (nI (udf u dp r (shn 1 Y)).2.1)) 379 r.length (vp_nar .boolean 0)) := ((fm_uI _ 366 15 _).mono (fun r' j z => Or.inl z)).tr ((fm_uI _ 379 _ _).mono (fun r' j z => Or.inr z))
      have f2 : fa h1 (uI (uI h1 366 15 (nI (udf u dp r (shn 1 Y)).2.1)) 379 r.length (vp_nar .boolean 0)) := fm2.mono (fun r' j z => by unfold pA; omega)
      have x2 := x1.fa f2
      have y2 : mpc (uI (uI h1 366 15 (nI (udf u dp r (shn 1 Y)).2.1)) 379 r.length (vp_nar .boolean 0)) e p1 ((kb yt).2 K) (udf u dp r (shn (ct f) Y)).1 (udf u dp r (shn 1 Y)).2.1 ((N1.1, N1.2.1, N1.2.2.1, N1.2.2.2.1, false, N1.2.2.2.2.2.1, N1.2.2.2.2.2.2.1, N1.2.2.2.2.2.2.2) :: (udf u dp r (shn (ct f) Y)).2.2) (A ++ (ac W.1 (ta2 W) yt).2.1) := by
        refine y1.rmk (fm2.mono (fun r' j z => by rw [hlr]; omega)) ?_ ?_ ?_ ?_
        · rw [hI_uIn _ _ _ (by decide), hI_uIs]
        · rw [hlr, hI_uIs]; rfl
        · rw [fm2.2 380 _ (by omega)]; exact y1.f1.2.2.2.2.2.1
        · rw [fm2.2 381 _ (by omega)]; exact y1.f1.2.2.2.2.2.2.1
      refine bX11_readsFormula_124 (b3 := 379) (n_b3 := 10) (R := fun q h' => q = none ∧ fa (uI (uI h1 366 15 (nI (udf u dp r (shn 1 Y)).2.1)) 379 r.length (vp_nar .boolean 0)) h' ∧ mpc h' e p1 N1.2.2.1 (udf u dp r (shn (ct f) Y)).1 (udf u dp r (shn 1 Y)).2.1 (rowE W (ac W.1 (ta2 W) yt).2.1 (N1.1, N1.2.1, N1.2.2.1, N1.2.2.2.1, false, N1.2.2.2.2.2.1, N1.2.2.2.2.2.2.1, N1.2.2.2.2.2.2.2) :: (udf u dp r (shn (ct f) Y)).2.2) A) hM1.1 hM1.1 hM1.rm.1 hM1.rm.2 (by rw [e15, c16]; exact hv) (by omega) (by
        rw [e15, c16, cm]
        exact m_endsRow (by omega) x2 y2 (by omega) (by omega) (by rw [n2, hfr]) (by show N1.2.2.2.1 + 1 ≤ p1; rw [n4]; omega) (fun h' f' q => ⟨rfl, f', q⟩)) ?_
      rintro q h3 ⟨rfl, f3, y3⟩
      have x3 := x2.fa f3
      refine bX11_readsFormula_142 x3.1.1 (bX11_readsFormula_293 ?_)
      rw [y3.2.1, nI_1]
      have y4 := y3.at (p' := p1 + 1) (by omega)
      rw [n3, hah] at y4
      have fA : fa h (uI h3 366 12 (nI (p1 + 1))) := ((f1.tr f2).tr f3).tr fa_12
      refine i2 d cx n _ e W t L (p1 + 1) K _ _ _ _ A o Q ⟨x3.fa fa_12, y4, hd, by omega, hK, by rw [List.length_cons, hlr, hF2], ho⟩ (by omega) (by show ¬ N1.1 = 2; rw [n1]; exact hk2) (by show N1.2.1 = A.length; rw [n2, hfr]) rfl rfl n7 (fun q eq2 h' f' e4 => kf q (by rw [er, eq2]; rfl) h' (fA.tr f') e4) (fun x2t p2 eq2 q38 q124 h' K' u' d' f' r' A2 f4 y5 ch => ?_) _
      obtain ⟨a2, b2, rfl⟩ := pz_cc (lv := 2) (by decide) eq2
      obtain ⟨c1, c2, c3, c4, c5, c6, c7, c8, c9, c10, c11⟩ := ch
      refine kk (cc (wr 2 yt) (cc a2 b2)) p2 (by show mp (wr 2 yt) (rst (chAt t L) 124 2 m o p1) = _; rw [er, eq2]; rfl) q38 q124 h' K' u' d' f' r' A2 (fA.tr f4) y5 ⟨?_, ?_, ?_, c4, ?_, c6, ?_, ?_, ?_, ?_, ?_⟩
      · rw [c1]; exact n1
      · rw [c2]; exact n2
      · rw [c3]; exact hah.symm
      · rw [c5]
        show (N1.2.2.2.2.2.1 || decide ((udf u dp r (shn (ct f) Y)).1 = none ∧ ¬ u' = none)) = _
        have eu' : u' = none ↔ (udf u dp r (shn (ct f) Y)).1 = none ∧ chU (N1.2.2.2.1 + 1) (cc a2 b2) K = none := by rw [c9]; exact udf_none
        have eu1 : (udf u dp r (shn (ct f) Y)).1 = none ↔ u = none ∧ Y = none := by rw [udf_none, shn_none]
        rw [n6, Bool.or_assoc]
        congr 1
        by_cases hu : u = none
        · by_cases hy : Y = none
          · rw [decide_eq_false (show ¬ (u = none ∧ ¬ Y = none) from fun z => z.2 hy), Bool.false_or]
            congr 1; apply propext
            exact ⟨fun z => ⟨hu, z.2⟩, fun z => ⟨eu1.mpr ⟨hu, hy⟩, z.2⟩⟩
          · rw [decide_eq_true (show u = none ∧ ¬ Y = none from ⟨hu, hy⟩), Bool.true_or]
            exact (decide_eq_true (show u = none ∧ ¬ u' = none from ⟨hu, fun z => hy (eu1.mp (eu'.mp z).1).2⟩)).symm
        · rw [decide_eq_false (fun z => hu z.1), decide_eq_false (fun z => hu (eu1.mp z.1).1), decide_eq_false (fun z => hu z.1)]; rfl
      · rw [c7]
        unfold chK
        rw [if_neg (fun z => by cases z.1), if_neg (fun z => by cases z.2)]
      · rw [c8]
        unfold chA
        rw [if_neg (fun z => by cases z.1), if_neg (fun z => by cases z.2)]
        congr 2
        funext k
        show (decide (0 < N1.2.2.2.1 + 1) && (hasR W.1 (ac W.1 (ta2 W) yt).2.1 k || (decide (0 < N1.2.2.2.1) && N1.2.2.2.2.2.2.2 k)) || (ac W.1 (ta2 W) (cc a2 b2)).2.2.1 k) = (decide (0 < f.2.2.2.1) && f.2.2.2.2.2.2.2 k || (hasR W.1 (ac W.1 (ta2 W) (wr 2 yt)).1 k || (ac W.1 (ta2 W) (cc a2 b2)).2.2.1 k))
        rw [wr2_ac, n4, n8, decide_eq_true (Nat.succ_pos _), Bool.true_and]
        cases hasR W.1 (ac W.1 (ta2 W) yt).2.1 k <;> cases (decide (0 < f.2.2.2.1) && f.2.2.2.2.2.2.2 k) <;> simp
      all_goals
        have ecU : chU f.2.2.2.1 (cc (wr 2 yt) (cc a2 b2)) K = or2 (shn 1 Y) (chU (N1.2.2.2.1 + 1) (cc a2 b2) K) := by
          unfold chU
          rw [if_neg (fun z => by cases z.2), if_neg (fun z => by cases z.1), ← shn_or]
          show shn 1 (or2 ((un (wr 2 yt)).1 K) ((un (cc a2 b2)).2.2 K)) = _
          rw [wr2_un, hY]
        rw [ecU, ← udf_or]
      · rw [c9, e1, e3]; rfl
      · rw [c10, e1, e3]; rfl
      · rw [c11, e1, e3]; rfl
    refine lh0 (by omega) x1 y1.2.1 (by omega) (bX11_readsFormula_84 (fun hz => absurd ((nx_v hc1 (s := 38) (by decide)).mp hz) n38) (fun _ => bX11_readsFormula_90 (fun hz => absurd enx hz) (fun _ => bX11_readsFormula_96 (fun hz => absurd enx hz) (fun _ => ?_))))
    refine bX11_readsFormula_102 (b2 := 379) (n_b2 := 10) hM1.1 hM1.rm.1 hM1.rm.2 (by rw [t16]; exact hv) (fun hz => bX11_readsFormula_123 ?_) (fun hz => bX11_readsFormula_119 ?_)
    · rw [t16, cm, frm] at hz
      rw [bN_0 hz] at fin; exact fin
    · rw [t16, cm, frm] at hz
      rw [bN_1 hz] at fin; exact fin
  · have er : rst (chAt t L) 124 2 m o p1 = .inr (.leaf, p1) := if_neg h124
    refine kk (cc (wr 2 yt) .leaf) p1 (by show mp (wr 2 yt) (rst (chAt t L) 124 2 m o p1) = _; rw [er]; rfl) n38 h124 h1 ((kb yt).2 K) _ _ N1 _ (ac W.1 (ta2 W) yt).2.1 f1 y1 ⟨n1, n2, n3, n7, ?_, by rw [n4]; omega, ?_, ?_, ?_, ?_, ?_⟩
    · rw [n6]
      congr 1
      have eu1 : (udf u dp r (shn (ct f) Y)).1 = none ↔ u = none ∧ Y = none := by rw [udf_none, shn_none]
      congr 1; apply propext
      rw [eu1]
      exact ⟨fun z => ⟨z.1, fun q => z.2 q.2⟩, fun z => ⟨z.1, fun q => z.2 ⟨z.1, q⟩⟩⟩
    · rw [n4]
      unfold chK
      by_cases h0 : f.2.2.2.1 = 0
      · rw [if_pos h0, if_pos ⟨h0, rfl⟩]
        show _ = (kb (wr 2 yt)).1 K
        rw [wr2_kb]
      · rw [if_neg h0, if_neg (fun z => h0 z.1)]
    · rw [n4, n8]
      unfold chA
      by_cases h0 : f.2.2.2.1 = 0
      · rw [if_pos h0, if_pos ⟨h0, rfl⟩]
        show _ = (ac W.1 (ta2 W) (wr 2 yt)).1 ++ []
        rw [wr2_ac, List.append_nil]
      · rw [if_neg h0, if_neg (fun z => h0 z.1)]
        congr 2
        funext k
        show (hasR W.1 (ac W.1 (ta2 W) yt).2.1 k || f.2.2.2.2.2.2.2 k) = (decide (0 < f.2.2.2.1) && f.2.2.2.2.2.2.2 k || (hasR W.1 (ac W.1 (ta2 W) (wr 2 yt)).1 k || false))
        rw [wr2_ac, decide_eq_true (show 0 < f.2.2.2.1 by omega), Bool.true_and, Bool.or_false, Bool.or_comm]
    all_goals
      have ecU : chU f.2.2.2.1 (cc (wr 2 yt) .leaf) K = shn (ct f) Y := by
        have eo : (un (cc (wr 2 yt) .leaf)).2.2 K = Y := by
          show or2 ((un (wr 2 yt)).1 K) none = Y
          rw [or2_n, wr2_un, hY]
        unfold chU
        rw [eo, ect]
        by_cases h0 : f.2.2.2.1 = 0
        · rw [if_pos ⟨h0, rfl⟩, if_pos h0, shn_0]
        · rw [if_neg (fun z => h0 z.1), if_neg h0]
      rw [ecU]
theorem g_3 {m : Nat} (i2 : gR2 m) (i3 : gR3 m) : gR3 (m + 1) := by
  intro d cx n h e W t L p K u dp f r A o Q B hf hk2 hfr hah hro hrm ham hha hob kf kx kk
  obtain ⟨x, y, hd, hp, hK, hF, ho⟩ := id B
  have hL := B.len
  have hcok := x.2.2.2.1.k
  have hF2 : r.length = o := by rw [List.length_cons] at hF; omega
  rw [pz_3] at kf kx kk
  refine i2 d cx n h e W t L p K u dp f r A o Q B (by omega) hk2 hfr hah hrm hha (fun q eq h' f' e4 => kf q (by rw [eq]; rfl) h' f' e4) (fun xt p1 eq n38 n124 h1 K1 u1 d1 f1 r1 A2 fa1 y1 ch => ?_)
  have x1 := x.fa fa1
  have hp1 := pz_p1 hcok eq
  have hc1 := x.c127 p1
  have wf1 := wr_wf (kd := 3) (by decide) _ ((pz_wf hcok hL m).2.2.1 _ _ _ _ eq)
  obtain ⟨ca, cb, rfl⟩ := pz_cc (lv := 2) (by decide) eq
  obtain ⟨c1, c2, c3, c4, c5, c6, c7, c8, c9, c10, c11⟩ := ch
  rw [eq] at kf kx kk
  rw [hro] at c7 c8 c9 c10 c11
  rw [ham, Bool.false_or] at c5
  rw [← wr3_kb] at c7
  rw [← wr3_ac] at c8
  rw [← wr3_un] at c9 c10 c11
  generalize hy1 : (un (wr 3 (cc ca cb))).1 K = Y1 at c9 c10 c11
  have hK2 := (kb_lt (wr 3 (cc ca cb))).1 wf1 K hK
  generalize hKc : (kb (wr 3 (cc ca cb))).1 K = K2 at c7 hK2
  generalize hAc : (ac W.1 (ta2 W) (wr 3 (cc ca cb))).1 = Ac at c8
  have hlr : r1.length = r.length := by rw [c11]; exact udf_len _ _ _ _
  have hl2 := y.2.2.2.2.2.2.2.2.1
  have t16 : hI h1 366 16 = nI o := by rw [y1.t1, hlr, hF2]
  -- the choice ends, whatever the frame's arrow marks
  have ends : ∀ (g : vH) (d2 : Nat) (b1 b2 b3 : Bool) (R : vQ) (dd : Nat), 10 ≤ dd → fa h1 g → mE g e W t L → mpc g e p1 K1 u1 d2 ((f1.1, f1.2.1, f1.2.2.1, f1.2.2.2.1, b1, b2, b3, f1.2.2.2.2.2.2.2) :: r1) (A ++ A2) → (∀ g', fa g g' → mpc g' e p1 K2 u1 d2 ((f1.1, f1.2.1, f1.2.2.1, 0, false, b2, b3, fun _ => false) :: r1) (A ++ Ac) → R none g') → vm_C mX11_endsChoice dd 0 0 [vR (some 366)] g R := by
    intro g d2 b1 b2 b3 R dd hdd fg xg yg kR
    by_cases h0 : f1.2.2.2.1 = 0
    · rw [if_pos h0] at c7 c8
      refine m_endsChoice0 xg yg (by omega) h0 (fun g' f' q => kR g' f' ?_)
      rw [c7, c8] at q; exact q
    · rw [if_neg h0] at c7 c8
      refine m_endsChoice1 (by omega) xg yg (by omega) (by omega) (by show f1.2.1 = A.length; rw [c2, hfr]) (by show 0 < f1.2.2.2.1; omega) c6 (by omega) (fun g' f' q => kR g' f' ?_)
      have q : mpc g' e p1 f1.2.2.1 u1 d2 ((f1.1, f1.2.1, f1.2.2.1, 0, false, b2, b3, fun _ => false) :: r1) (A ++ [.inr (fun a => hasR W.1 A2 a || f1.2.2.2.2.2.2.2 a)]) := q
      rw [c8] at q
      have e : f1.2.2.1 = K2 := by rw [c3, hah, c7]
      rw [← e]; exact q
  have hund : und (f1 :: r1) = und (f :: r) := by
    refine und_k _ _ ?_
    rw [List.map_cons, List.map_cons, c1, c11, udf_kinds]
  by_cases h62 : chAt t L p1 = 62
  · have p1L := hcok.lt (p := p1) (by omega)
    have enx : nx (chAt t L) p1 = nI 62 := (nx_v hc1 (by decide)).mpr h62
    have kf : ∀ q, (if chAt t L p1 = 62 then (if 8 ≤ o then .inl p1 else bnd (pz (chAt t L) m 3 (o + 1) (p1 + 1)) (fun t2 p2 => .inr (no 4 0 (cc (wr 3 (cc ca cb)) (cc t2 .leaf)), p2))) else .inr (wr 3 (cc ca cb), p1) : PR) = .inl q → ∀ h', fa h h' → hI h' 366 12 = nI q → Q (some (vI 0)) h' := kf
    have kx : ∀ t1 p', (if chAt t L p1 = 62 then (if 8 ≤ o then .inl p1 else bnd (pz (chAt t L) m 3 (o + 1) (p1 + 1)) (fun t2 p2 => .inr (no 4 0 (cc (wr 3 (cc ca cb)) (cc t2 .leaf)), p2))) else .inr (wr 3 (cc ca cb), p1) : PR) = .inr (t1, p') → ¬ und (f :: r) = 0 → ¬ chAt t L p' = 41 → ∀ h', fa h h' → hI h' 366 12 = nI p' → Q (some (vI 0)) h' := kx
    have kk : ∀ t1 p', (if chAt t L p1 = 62 then (if 8 ≤ o then .inl p1 else bnd (pz (chAt t L) m 3 (o + 1) (p1 + 1)) (fun t2 p2 => .inr (no 4 0 (cc (wr 3 (cc ca cb)) (cc t2 .leaf)), p2))) else .inr (wr 3 (cc ca cb), p1) : PR) = .inr (t1, p') → ∀ h' f', fa h h' → f'.1 = f.1 → f'.2.1 = f.2.1 → f'.2.2.1 = f.2.2.1 → mpc h' e p' ((kb t1).1 K) (udf u dp r ((un t1).1 K)).1 (udf u dp r ((un t1).1 K)).2.1 (f' :: (udf u dp r ((un t1).1 K)).2.2) (A ++ (ac W.1 (ta2 W) t1).1) → FE d cx n Q (und (f :: r)) (chAt t L p') h' := kk
    rw [if_pos h62] at kf kx kk
    have i16 : hI h1 366 16 = 8 ↔ o = 8 := by rw [t16]; exact nI_eq (a := o) (b := 8) (by omega) (by decide)
    have hM1 := x1.1
    have hv : vp_in (nI r1.length) 10 := vp_in_nI (by omega) (by decide)
    have cm : Int32.toNatClampNeg (nI r1.length) = r1.length := cs (by omega)
    have t16' := y1.t1
    refine lh0 (by omega) x1 y1.2.1 (by omega) (bX11_readsFormula_84 (fun hz => absurd ((nx_v hc1 (s := 38) (by decide)).mp hz) n38) (fun _ => bX11_readsFormula_90 (fun _ => bX11_readsFormula_157 (fun hz => absurd enx hz) (fun _ => bX11_readsFormula_163 hM1.1 (fun hz => ?_) (fun hz => ?_))) (fun hz => absurd ((nx_v hc1 (s := 124) (by decide)).mp (Classical.byContradiction hz)) n124)))
    · rw [i16] at hz
      rw [if_neg (by omega)] at kf kx kk
      have fam : hI h1 380 r1.length = bN f1.2.2.2.2.2.1 := y1.f1.2.2.2.2.2.1
      have fin : vm_E mX11_readsFormula d cx n 196 [some (vR (some 366)), some (vI 0), some (vI (nx (chAt t L) p1))] [vI (bN f1.2.2.2.2.2.1), vI (hI h1 366 15), vR (some 366)] h1 Q := by
        have e15 : hI h1 366 15 + bN f1.2.2.2.2.2.1 = nI (d1 + b01 f1.2.2.2.2.2.1) := by rw [y1.2.2.2.2.1, bN_n, nI_add]
        have ca16 : hI (uI h1 366 15 (nI (d1 + b01 f1.2.2.2.2.2.1))) 366 16 = nI r1.length := by rw [hI_uIk _ _ _ (by decide)]; exact t16'
        have cb16 : hI (uI (uI h1 366 15 (nI (d1 + b01 f1.2.2.2.2.2.1))) 380 r1.length (vp_nar .boolean 0)) 366 16 = nI r1.length := by rw [hI_uIn _ _ _ (by decide)]; exact ca16
        refine bX11_readsFormula_196 (b3 := 380) (n_b3 := 10) (b4 := 381) (n_b4 := 10) hM1.1 hM1.1 hM1.am.1 hM1.am.2 (by rw [e15, ca16]; exact hv) hM1.ha.1 hM1.ha.2 (by rw [e15, ca16, cm, cb16]; exact hv) ?_
        rw [e15, ca16, cm, cb16, cm]
        have fm2 : fm (fun q j => q = 366 ∧ j = 15 ∨ (q = 380 ∨ q = 381) ∧ j = r1.length) h1 (uI (uI (uI h1 366 15 (nI (d1 + b01 f1.2.2.2.2.2.1))) 380 r1.length (vp_nar .boolean 0)) 381 r1.length (vp_nar .boolean 1)) := (((fm_uI _ 366 15 _).mono (fun r' j z => Or.inl z)).tr ((fm_uI _ 380 _ _).mono (fun r' j z => Or.inr ⟨Or.inl z.1, z.2⟩))).tr ((fm_uI _ 381 _ _).mono (fun r' j z => Or.inr ⟨Or.inr z.1, z.2⟩))
        have w15 : hI (uI (uI (uI h1 366 15 (nI (d1 + b01 f1.2.2.2.2.2.1))) 380 r1.length (vp_nar .boolean 0)) 381 r1.length (vp_nar .boolean 1)) 366 15 = nI (d1 + b01 f1.2.2.2.2.2.1) := by rw [hI_uIn _ _ _ (by decide), hI_uIn _ _ _ (by decide), hI_uIs]
        have w380 : hI (uI (uI (uI h1 366 15 (nI (d1 + b01 f1.2.2.2.2.2.1))) 380 r1.length (vp_nar .boolean 0)) 381 r1.length (vp_nar .boolean 1)) 380 r1.length = bN false := by rw [hI_uIn _ _ _ (by decide), hI_uIs]; rfl
        have w381 : hI (uI (uI (uI h1 366 15 (nI (d1 + b01 f1.2.2.2.2.2.1))) 380 r1.length (vp_nar .boolean 0)) 381 r1.length (vp_nar .boolean 1)) 381 r1.length = bN true := by rw [hI_uIs]; rfl
        generalize uI (uI (uI h1 366 15 (nI (d1 + b01 f1.2.2.2.2.2.1))) 380 r1.length (vp_nar .boolean 0)) 381 r1.length (vp_nar .boolean 1) = h2 at fm2 w15 w380 w381 ⊢
        have f2 : fa h1 h2 := fm2.mono (fun r' j z => by unfold pA; omega)
        have x2 := x1.fa f2
        have y2 := y1.rmk (b1 := f1.2.2.2.2.1) (b2 := false) (b3 := true) (fm2.mono (fun r' j z => by omega)) w15 (by rw [fm2.2 379 _ (by omega)]; exact y1.f1.2.2.2.2.1) w380 w381
        refine bX11_readsFormula_220 (R := fun q h' => q = none ∧ fa h2 h' ∧ mpc h' e p1 K2 u1 (d1 + b01 f1.2.2.2.2.2.1) ((f1.1, f1.2.1, f1.2.2.1, 0, false, false, true, fun _ => false) :: r1) (A ++ Ac)) x2.1.1 (by omega) (ends h2 _ _ _ _ _ _ (by omega) f2 x2 y2 (fun g' f' q => ⟨rfl, f', q⟩)) ?_
        rintro q h3 ⟨rfl, f3, y3⟩
        have x3 := x2.fa f3
        refine bX11_readsFormula_224 (R := fun q h' => q = none ∧ fa h3 h' ∧ mpc h' e p1 K2 u1 (d1 + b01 f1.2.2.2.2.2.1) ((3, (A ++ Ac).length, K2, 0, false, false, false, fun _ => false) :: (f1.1, f1.2.1, f1.2.2.1, 0, false, false, true, fun _ => false) :: r1) (A ++ Ac)) x3.1.1 (by omega) (m_opens (its := 3) x3.1 y3 (by rw [List.length_cons]; omega) (by decide) (fun h' f' q => ⟨rfl, f', q⟩)) ?_
        rintro q h4 ⟨rfl, f4, y4⟩
        have x4 := x3.fa f4
        refine bX11_readsFormula_229 x4.1.1 (bX11_readsFormula_293 ?_)
        rw [y4.2.1, nI_1]
        have fA : fa h (uI h4 366 12 (nI (p1 + 1))) := ((((fa1.tr f2).tr f3).tr f4).tr fa_12)
        have ku : und ((3, (A ++ Ac).length, K2, 0, false, false, false, fun _ => false) :: (f1.1, f1.2.1, f1.2.2.1, 0, false, false, true, fun _ => false) :: r1) = und (f :: r) := by
          rw [← hund]; rfl
        have kob : okB ((3, (A ++ Ac).length, K2, 0, false, false, false, fun _ => false) :: (f1.1, f1.2.1, f1.2.2.1, 0, false, false, true, fun _ => false) :: r1) := by
          obtain ⟨g0, hg0, hn0⟩ := okB_k (G := (f1.1, f1.2.1, f1.2.2.1, 0, false, false, true, fun _ => false) :: r1) (by rw [List.map_cons, List.map_cons, c11, udf_kinds, c1]) hob
          exact ⟨g0, List.mem_cons_of_mem _ hg0, hn0⟩
        refine i3 d cx n _ e W t L (p1 + 1) K2 u1 (d1 + b01 f1.2.2.2.2.2.1) _ _ (A ++ Ac) (o + 1) Q ⟨x4.fa fa_12, y4.at (by omega), hd, by omega, hK2, by rw [List.length_cons, List.length_cons, hlr, hF2], by omega⟩ (by omega) (show ¬ (3 : Nat) = 2 by decide) rfl rfl rfl rfl rfl rfl kob (fun q eq2 h' f' e4 => kf q (by rw [eq2]; rfl) h' (fA.tr f') e4) (fun t2 p2 eq2 hu h41 h' f' e4 => kx _ p2 (by rw [eq2]; rfl) (by rw [← ku]; exact hu) h41 h' (fA.tr f') e4) (fun t2 p2 eq2 h5 g' f5 q1 q2 q3 y5 => ?_) _
        rw [ku]
        have x5 := (x4.fa fa_12).fa f5
        have hp2 := pz_p1 hcok eq2
        generalize hY2 : (un t2).1 K2 = Y2 at y5
        obtain ⟨N5, a1, a2, a3, a4⟩ := udf_cons u1 (d1 + b01 f1.2.2.2.2.2.1) (f1.1, f1.2.1, f1.2.2.1, 0, false, false, true, fun _ => false) r1 Y2
        have ect : ct (f1.1, f1.2.1, f1.2.2.1, 0, false, false, true, fun _ => false) = 1 := if_pos (Or.inr (Or.inl rfl))
        rw [ect] at a1 a2 a3
        rw [a1, a2, a3] at y5
        have n5 : N5.1 = f1.1 ∧ N5.2.1 = f1.2.1 ∧ N5.2.2.1 = f1.2.2.1 := by rcases a4 with ⟨rfl, _⟩ | ⟨rfl, _⟩ <;> exact ⟨rfl, rfl, rfl⟩
        -- the unknown, told by the whole
        have am1 := udf_am u dp r Y1
        rw [← c9] at am1
        have D : udf u1 (d1 + b01 f1.2.2.2.2.2.1) r1 (shn 1 Y2) = udf u dp r (shn 1 (or2 Y1 Y2)) := by
          rw [shn_or, ← udf_or, am1.1, am1.2.1, am1.2.2, ← c10, ← c11, c5]
        rw [D] at y5
        have eT : (un (no 4 0 (cc (wr 3 (cc ca cb)) (cc t2 .leaf)))).1 K = shn 1 (or2 Y1 Y2) := by
          show shn 1 (or2 ((un (wr 3 (cc ca cb))).1 K) (or2 ((un t2).1 ((kb (wr 3 (cc ca cb))).1 K)) none)) = _
          rw [or2_n, hy1, hKc, hY2]
        have eK : (kb (no 4 0 (cc (wr 3 (cc ca cb)) (cc t2 .leaf)))).1 K = K := rfl
        have eA : (ac W.1 (ta2 W) (no 4 0 (cc (wr 3 (cc ca cb)) (cc t2 .leaf)))).1 = [.inr (fun k => !bw W.1 Ac (fun j => !hasR W.1 (ac W.1 (ta2 W) t2).1 j) k)] := by
          rw [← hAc]; rfl
        have hlD : (udf u dp r (shn 1 (or2 Y1 Y2))).2.2.length = r.length := udf_len _ _ _ _
        have step : ∀ (R : vQ) (o1 : Option vV), (∀ h6 j, fa h5 h6 → mpc h6 e p2 K (udf u dp r (shn 1 (or2 Y1 Y2))).1 (udf u dp r (shn 1 (or2 Y1 Y2))).2.1 (N5 :: (udf u dp r (shn 1 (or2 Y1 Y2))).2.2) (A ++ [.inr (fun k => !bw W.1 Ac (fun j => !hasR W.1 (ac W.1 (ta2 W) t2).1 j) k)]) → vm_E mX11_endsFormula (d - 1) 0 0 4 [some (vR (some 366)), some (vI j)] [] h6 R) → vm_E mX11_endsFormula (d - 1) 0 0 4 [some (vR (some 366)), o1] [] h5 R := by
          intro R o1 kR
          rw [List.append_assoc] at y5
          refine ef_step (by omega) x5 y5 (by omega) (by omega) (by rw [q1]) (by rw [q2]) (by rw [n5.2.1, c2, hfr]) (by omega) (fun h6 j f6 y6 => kR h6 j f6 ?_)
          rw [n5.2.2, c3, hah] at y6; exact y6
        have out : ∀ h6, fa h5 h6 → mpc h6 e p2 K (udf u dp r (shn 1 (or2 Y1 Y2))).1 (udf u dp r (shn 1 (or2 Y1 Y2))).2.1 (N5 :: (udf u dp r (shn 1 (or2 Y1 Y2))).2.2) (A ++ [.inr (fun k => !bw W.1 Ac (fun j => !hasR W.1 (ac W.1 (ta2 W) t2).1 j) k)]) → FE d cx n Q (und (f :: r)) (chAt t L p2) h6 := fun h6 f6 y6 => by
          refine kk (no 4 0 (cc (wr 3 (cc ca cb)) (cc t2 .leaf))) p2 (by rw [eq2]; rfl) h6 N5 ((fA.tr f5).tr f6) (by rw [n5.1, c1]) (by rw [n5.2.1, c2]) (by rw [n5.2.2, c3]) ?_
          rw [eT, eK, eA]; exact y6
        exact ⟨fun hu o1 => step _ o1 (fun h6 j f6 y6 => (out h6 f6 y6).1 hu _), fun hu h41 o1 => step _ o1 (fun h6 j f6 y6 => (out h6 f6 y6).2 hu h41 _)⟩
      refine bX11_readsFormula_174 (b2 := 380) (n_b2 := 10) hM1.1 hM1.am.1 hM1.am.2 (by rw [t16']; exact hv) (fun hz => bX11_readsFormula_195 ?_) (fun hz => bX11_readsFormula_191 ?_)
      · rw [t16', cm, fam] at hz
        rw [bN_0 hz] at fin; exact fin
      · rw [t16', cm, fam] at hz
        rw [bN_1 hz] at fin; exact fin
    · rw [Classical.not_not, i16] at hz
      rw [if_pos (by omega)] at kf
      exact bX11_readsFormula_172 (kf p1 rfl h1 fa1 y1.2.1)
  · have kx : ∀ t1 p', (if chAt t L p1 = 62 then (if 8 ≤ o then .inl p1 else bnd (pz (chAt t L) m 3 (o + 1) (p1 + 1)) (fun t2 p2 => .inr (no 4 0 (cc (wr 3 (cc ca cb)) (cc t2 .leaf)), p2))) else .inr (wr 3 (cc ca cb), p1) : PR) = .inr (t1, p') → ¬ und (f :: r) = 0 → ¬ chAt t L p' = 41 → ∀ h', fa h h' → hI h' 366 12 = nI p' → Q (some (vI 0)) h' := kx
    have kk : ∀ t1 p', (if chAt t L p1 = 62 then (if 8 ≤ o then .inl p1 else bnd (pz (chAt t L) m 3 (o + 1) (p1 + 1)) (fun t2 p2 => .inr (no 4 0 (cc (wr 3 (cc ca cb)) (cc t2 .leaf)), p2))) else .inr (wr 3 (cc ca cb), p1) : PR) = .inr (t1, p') → ∀ h' f', fa h h' → f'.1 = f.1 → f'.2.1 = f.2.1 → f'.2.2.1 = f.2.2.1 → mpc h' e p' ((kb t1).1 K) (udf u dp r ((un t1).1 K)).1 (udf u dp r ((un t1).1 K)).2.1 (f' :: (udf u dp r ((un t1).1 K)).2.2) (A ++ (ac W.1 (ta2 W) t1).1) → FE d cx n Q (und (f :: r)) (chAt t L p') h' := kk
    rw [if_neg h62] at kx kk
    have out : ∀ g', fa h1 g' → mpc g' e p1 K2 u1 d1 ((f1.1, f1.2.1, f1.2.2.1, 0, false, f1.2.2.2.2.2.1, f1.2.2.2.2.2.2.1, fun _ => false) :: r1) (A ++ Ac) → FE d cx n Q (und (f :: r)) (chAt t L p1) g' := fun g' f' q => by
      refine kk (wr 3 (cc ca cb)) p1 rfl g' (f1.1, f1.2.1, f1.2.2.1, 0, false, f1.2.2.2.2.2.1, f1.2.2.2.2.2.2.1, fun _ => false) (fa1.tr f') c1 c2 c3 ?_
      rw [hy1, hKc, hAc, ← c9, ← c10, ← c11]; exact q
    have ec : ∀ (R : vQ) (dd : Nat), 10 ≤ dd → (∀ g', fa h1 g' → mpc g' e p1 K2 u1 d1 ((f1.1, f1.2.1, f1.2.2.1, 0, false, f1.2.2.2.2.2.1, f1.2.2.2.2.2.2.1, fun _ => false) :: r1) (A ++ Ac) → R none g') → vm_C mX11_endsChoice dd 0 0 [vR (some 366)] h1 R := fun R dd hdd kR => ends h1 d1 f1.2.2.2.2.1 f1.2.2.2.2.2.1 f1.2.2.2.2.2.2.1 R dd hdd fa.rf x1 y1 kR
    have n62 : ¬ nx (chAt t L) p1 = 62 := fun z => h62 ((nx_v hc1 (s := 62) (by decide)).mp z)
    have hM1 := x1.1
    have hob1 : okB (f1 :: r1) := okB_k (by rw [List.map_cons, List.map_cons, c11, udf_kinds, c1]) hob
    have hu3 : und (f :: r) < 2147483648 := by
      rw [← hund]
      have : ∀ F : List fR, (∀ g, g ∈ F → g.1 ≤ 3) → und F ≤ 3 := by
        intro F
        induction F with
        | nil => intro _; exact Nat.zero_le _
        | cons g s ih =>
          intro hs
          show (if g.1 = 3 then und s else g.1) ≤ 3
          split
          · exact ih (fun b hb => hs b (List.mem_cons_of_mem _ hb))
          · exact hs g (List.mem_cons_self ..)
      have := this (f1 :: r1) (fun g hg => (y1.2.2.2.2.2.2.2.2.2.2.2 g hg).1)
      omega
    have iu : nI (und (f :: r)) = 0 ↔ und (f :: r) = 0 := nI_eq (a := und (f :: r)) (b := 0) hu3 (by decide)
    refine lh0 (by omega) x1 y1.2.1 (by omega) (bX11_readsFormula_84 (fun hz => absurd ((nx_v hc1 (s := 38) (by decide)).mp hz) n38) (fun _ => bX11_readsFormula_90 (fun _ => bX11_readsFormula_157 (fun _ => ?_) (fun hz => absurd (Classical.byContradiction hz) n62)) (fun hz => absurd ((nx_v hc1 (s := 124) (by decide)).mp (Classical.byContradiction hz)) n124)))
    refine bX11_readsFormula_244 (R := fun q h' => q = some (vI (nI (und (f :: r)))) ∧ h1 = h') hM1.1 (by omega) (m_under hM1 y1 (by rw [List.length_cons]; omega) hob1 (by rw [hund]; exact ⟨rfl, rfl⟩)) ?_
    rintro q h2 ⟨rfl, rfl⟩
    refine bX11_readsFormula_248 (fun hz => ?_) (fun hz => ?_)
    · rw [iu] at hz
      refine bX11_readsFormula_257 (fun h41 => ?_) (fun h41 => bX11_readsFormula_263 (kx (wr 3 (cc ca cb)) p1 rfl hz (fun z => h41 ((nx_v hc1 (s := 41) (by decide)).mpr z)) h1 fa1 y1.2.1))
      have h41 := (nx_v hc1 (s := 41) (by decide)).mp h41
      refine bX11_readsFormula_265 (R := fun r h2 => r = none ∧ ∀ o2 : Int32, vm_E mX11_readsFormula d cx n 269 [some (vR (some 366)), some (vI 0), some (vI o2)] [] h2 Q) hM1.1 (by omega) ?_ ?_
      · refine bX11_endsFormula_0 (R := fun q h' => q = none ∧ fa h1 h' ∧ mpc h' e p1 K2 u1 d1 ((f1.1, f1.2.1, f1.2.2.1, 0, false, f1.2.2.2.2.2.1, f1.2.2.2.2.2.2.1, fun _ => false) :: r1) (A ++ Ac)) hM1.1 (by omega) (ec _ _ (by omega) (fun g' f' q => ⟨rfl, f', q⟩)) ?_
        rintro q h2 ⟨rfl, f2, q2⟩
        exact (out h2 f2 q2).2 hz h41 _
      · rintro q h2 ⟨rfl, q2⟩
        exact q2 _
    · rw [iu, Classical.not_not] at hz
      refine bX11_readsFormula_251 (R := fun r h2 => r = none ∧ Q (some (vI 1)) h2) hM1.1 (by omega) ?_ ?_
      · refine bX11_endsFormula_0 (R := fun q h' => q = none ∧ fa h1 h' ∧ mpc h' e p1 K2 u1 d1 ((f1.1, f1.2.1, f1.2.2.1, 0, false, f1.2.2.2.2.2.1, f1.2.2.2.2.2.2.1, fun _ => false) :: r1) (A ++ Ac)) hM1.1 (by omega) (ec _ _ (by omega) (fun g' f' q => ⟨rfl, f', q⟩)) ?_
        rintro q h2 ⟨rfl, f2, q2⟩
        exact (out h2 f2 q2).1 hz _
      · rintro q h2 ⟨rfl, q2⟩
        exact bX11_readsFormula_255 q2
theorem g_all2 : ∀ m, gR0 m ∧ gR1 m ∧ gR2 m ∧ gR3 m
  | 0 => ⟨fun _ _ _ _ _ _ _ _ _ _ _ _ _ _ _ _ _ hf => absurd hf (Nat.not_lt_zero _), fun _ _ _ _ _ _ _ _ _ _ _ _ _ _ _ _ _ _ hf => absurd hf (Nat.not_lt_zero _), fun _ _ _ _ _ _ _ _ _ _ _ _ _ _ _ _ _ _ hf => absurd hf (Nat.not_lt_zero _), fun _ _ _ _ _ _ _ _ _ _ _ _ _ _ _ _ _ _ hf => absurd hf (Nat.not_lt_zero _)⟩
  | m + 1 => by
    obtain ⟨i0, i1, i2, i3⟩ := g_all2 m
    exact ⟨g_0 i0 i3, g_1 i0 i1, g_2 i1 i2, g_3 i2 i3⟩
