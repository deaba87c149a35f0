/-! ===== the class's parser: units, formulas ===== -/
theorem pz_0 (c : Nat → Nat) (n o p : Nat) : pz c (n + 1) 0 o p = if c p = 33 then (if 8 ≤ o then .inl p else bnd (pz c n 0 (o + 1) (p + 1)) (fun t p' => .inr (no 5 0 (cc t .leaf), p'))) else if c p = 40 then (if 8 ≤ o then .inl p else bnd (pz c n 3 (o + 1) (p + 1)) (fun t p' => if c p' = 41 then .inr (t, p' + 1) else .inl p')) else sz c p := by
  rw [pz]
  by_cases h1 : c p = 33
  · rw [if_pos h1, if_pos h1]
    by_cases h2 : 8 ≤ o
    · rw [if_pos h2, if_pos h2]
    · rw [if_neg h2, if_neg h2]; cases pz c n 0 (o + 1) (p + 1) <;> rfl
  · rw [if_neg h1, if_neg h1]
    by_cases h1 : c p = 40
    · rw [if_pos h1, if_pos h1]
      by_cases h2 : 8 ≤ o
      · rw [if_pos h2, if_pos h2]
      · rw [if_neg h2, if_neg h2]; cases pz c n 3 (o + 1) (p + 1) <;> rfl
    · rw [if_neg h1, if_neg h1]
theorem pz_3 (c : Nat → Nat) (n o p : Nat) : pz c (n + 1) 3 o p = bnd (wrR 3 (pz c n 2 o p)) (fun t p' => if c p' = 62 then (if 8 ≤ o then .inl p' else bnd (pz c n 3 (o + 1) (p' + 1)) (fun t2 p2 => .inr (no 4 0 (cc t (cc t2 .leaf)), p2))) else .inr (t, p')) := by
  rw [pz]
  unfold bnd wrR
  cases pz c n 2 o p with
  | inl q => rfl
  | inr a =>
    obtain ⟨t, p'⟩ := a
    simp only
    by_cases h1 : c p' = 62
    · rw [if_pos h1, if_pos h1]
      by_cases h2 : 8 ≤ o
      · rw [if_pos h2, if_pos h2]
      · rw [if_neg h2, if_neg h2]; cases pz c n 3 (o + 1) (p' + 1) <;> rfl
    · rw [if_neg h1, if_neg h1]
theorem swt : ∀ x, x < 127 → Op.lookupswitch.offset (#[(33, 83), (35, 151), (40, 88), (69, 93), (112, 111), (113, 111), (114, 111), (115, 132), (116, 132)] : Array (Int × Int)).toList 180 (Int32.toInt (nI x)) = if x = 33 then 83 else if x = 40 then 88 else if x = 69 then 93 else if x = 112 ∨ x = 113 ∨ x = 114 then 111 else if x = 115 ∨ x = 116 then 132 else if x = 35 then 151 else 180 := by decide +kernel
theorem pst.up {h : vH} {u o p : Nat} (x : pst h u o p) : pst (uI (uI h 41 3 (nI (o + 1))) 41 4 (nI (p + 1))) u (o + 1) (p + 1) :=
  ⟨by rw [hI_uIk _ _ _ (by decide), hI_uIk _ _ _ (by decide)]; exact x.1, by rw [hI_uIk _ _ _ (by decide), hI_uIs], hI_uIs _ _ _ _⟩
theorem pst.dn {h : vH} {u o p : Nat} (x : pst h u (o + 1) p) : uI h 41 3 (hI h 41 3 - 1) = uI h 41 3 (nI o) ∧ pst (uI h 41 3 (nI o)) u o p :=
  ⟨by rw [x.2.1, nI_pred], by rw [hI_uIk _ _ _ (by decide)]; exact x.1, hI_uIs _ _ _ _, by rw [hI_uIk _ _ _ (by decide)]; exact x.2.2⟩
theorem nd_41 {h : vH} {t : T} {lo hi b j : Nat} {v : Int32} (x : nd h t lo hi b) : nd (uI h 41 j v) t lo hi b :=
  (rp_ag t).1 _ _ _ x ⟨fun i _ _ j _ => by rw [hI_uIn _ _ _ (nA41 i)], fun _ _ _ _ _ _ _ => rfl⟩
theorem c_negation {N d cx nn u o p : Nat} {h : vH} {t : Nat → Nat} {L : Nat} {Q : vQ} (A : A0 N) (hd : 6 * (8 - o) + 9 ≤ d) (x : pin h t L) (ps : pst h u o p) (hu : u ≤ p + 1) (ho : o ≤ 8) (hp : p < L) (hf : 4 * (L - p) < N + 1) (k : pOK L h u o p (if 8 ≤ o then .inl p else bnd (pz (chAt t L) N 0 (o + 1) (p + 1)) (fun t p' => .inr (no 5 0 (cc t .leaf), p'))) Q) : vm_C mX6_negation d cx nn [vR (some 41)] h Q := by
  have hL := x.2.2.1
  have l := x.1.2.2.2.2.1
  have f0 : fp u h (uI (uI h 41 3 (nI (o + 1))) 41 4 (nI (p + 1))) := fp_41.tr fp_41
  refine bX6_negation_0 (R := fun r h' => (o < 8 ∧ r = some (vI 1) ∧ uI (uI h 41 3 (nI (o + 1))) 41 4 (nI (p + 1)) = h') ∨ (8 ≤ o ∧ r = some (vI 0) ∧ h = h')) l.1 (by omega) (c_openSign l.1 ho ps.2.1 ps.2.2 (fun z => Or.inl ⟨z, rfl, rfl⟩) (fun z => Or.inr ⟨z, rfl, rfl⟩)) ?_
  rintro r h' (⟨hz, rfl, rfl⟩ | ⟨hz, rfl, rfl⟩)
  · rw [if_neg (by omega)] at k
    refine bX6_negation_4 (fun _ => ?_) (fun hc => absurd (by decide +kernel) hc)
    refine bX6_negation_9 (R := pRes L _ u (o + 1) (p + 1) (pz (chAt t L) N 0 (o + 1) (p + 1))) l.1 (by omega) (A _ _ _ _ _ _ _ _ _ _ (by omega) (x.fp f0) ps.up (by omega) (by omega) (by omega) (by omega) pRes_ok) ?_
    rintro r h' (⟨q, eq, rfl, f, e4, hq⟩ | ⟨t1, p1, u1, b1, eq, rfl, f, s1, n1, e81, hc1⟩)
    · have f1 := f0.z.tr f
      refine bX6_negation_13 (R := rR Q) (by rw [f1.k]; exact l.1) (by omega) (c_holding0 ⟨_, rfl, k.1 q (by rw [eq]; rfl) _ (f1.tr fp_41) (by rw [hI_uIk _ _ _ (by decide)]; exact e4) hq⟩) ?_
      rintro r h2 ⟨B, rfl, z⟩
      exact bX6_negation_30 z
    · have f1 := f0.tr f
      have nb1 := nd_b n1
      have hp1 := pz_p1 x.cok eq
      have f2 : fp u h (uI h' 41 3 (nI o)) := f1.tr fp_41
      have sd := s1.dn
      refine bX6_negation_13 (R := rR Q) (by rw [f1.k]; exact l.1) (by omega) ?_ ?_
      · rw [sd.1]
        refine c_holding (by omega) (l.fp f2) (by omega) sd.2.1 (nd_41 n1) e81 (fun h2 a1 a2 a3 a4 a5 a6 a7 => ⟨_, rfl, ?_⟩)
        exact k.2 (no 5 0 (cc t1 .leaf)) p1 (by rw [eq]; rfl) h2 (u1 + 1) u1 (f2.tr a1) a2 (by rw [a3]; exact sd.2.2.1) (by rw [a4]; exact sd.2.2.2) (nd_i.mpr ⟨by omega, by omega, by omega, ⟨a5, fun z => absurd z (by decide), fun z => absurd z (by decide)⟩, cd_w (by omega) _ _ _ (Nat.le_refl _) _ _ _ a6⟩) a7 (by omega)
      · rintro r h2 ⟨B, rfl, z⟩
        exact bX6_negation_30 z
  · rw [if_pos hz] at k
    exact bX6_negation_4 (fun hc => absurd rfl hc) (fun _ => bX6_negation_7 (k.1 p rfl h fp.rf ps.2.2 (by omega)))
theorem c_group {N d cx nn u o p : Nat} {h : vH} {t : Nat → Nat} {L : Nat} {Q : vQ} (A : A3 N) (hd : 6 * (8 - o) + 9 ≤ d) (x : pin h t L) (ps : pst h u o p) (hu : u ≤ p + 1) (ho : o ≤ 8) (hp : p < L) (hf : 4 * (L - p) < N + 1) (k : pOK L h u o p (if 8 ≤ o then .inl p else bnd (pz (chAt t L) N 3 (o + 1) (p + 1)) (fun t' p' => if chAt t L p' = 41 then .inr (t', p' + 1) else .inl p')) Q) : vm_C mX6_group d cx nn [vR (some 41)] h Q := by
  have hL := x.2.2.1
  have l := x.1.2.2.2.2.1
  have f0 : fp u h (uI (uI h 41 3 (nI (o + 1))) 41 4 (nI (p + 1))) := fp_41.tr fp_41
  refine bX6_group_0 (R := fun r h' => (o < 8 ∧ r = some (vI 1) ∧ uI (uI h 41 3 (nI (o + 1))) 41 4 (nI (p + 1)) = h') ∨ (8 ≤ o ∧ r = some (vI 0) ∧ h = h')) l.1 (by omega) (c_openSign l.1 ho ps.2.1 ps.2.2 (fun z => Or.inl ⟨z, rfl, rfl⟩) (fun z => Or.inr ⟨z, rfl, rfl⟩)) ?_
  rintro r h' (⟨hz, rfl, rfl⟩ | ⟨hz, rfl, rfl⟩)
  · rw [if_neg (by omega)] at k
    refine bX6_group_4 (fun _ => ?_) (fun hc => absurd (by decide +kernel) hc)
    refine bX6_group_9 (R := pRes L _ u (o + 1) (p + 1) (pz (chAt t L) N 3 (o + 1) (p + 1))) l.1 (by omega) (A _ _ _ _ _ _ _ _ _ _ (by omega) (x.fp f0) ps.up (by omega) (by omega) (by omega) (by omega) pRes_ok) ?_
    rintro r h' (⟨q, eq, rfl, f, e4, hq⟩ | ⟨t1, p1, u1, b1, eq, rfl, f, s1, n1, e81, hc1⟩)
    · have f1 := f0.z.tr f
      exact bX6_group_13 (by rw [f1.k]; exact l.1) (fun _ => bX6_group_41 (bX6_group_42 (k.1 q (by rw [eq]; rfl) _ (f1.tr fp_41) (by rw [hI_uIk _ _ _ (by decide)]; exact e4) hq))) (fun hc => absurd rfl hc)
    · have f1 := f0.tr f
      have hp1 := pz_p1 x.cok eq
      have f2 : fp u h (uI h' 41 3 (nI o)) := f1.tr fp_41
      have sd := s1.dn
      have x2 := x.fp f2
      have l2 := l.fp f2
      refine bX6_group_13 (by rw [f1.k]; exact l.1) (fun hc => absurd hc nofun) (fun _ => ?_)
      rw [sd.1]
      refine bX6_group_28 (R := fun r h2 => (chAt t L p1 = 41 ∧ r = some (vI 1) ∧ uI (uI h' 41 3 (nI o)) 41 4 (nI (p1 + 1)) = h2) ∨ (¬ chAt t L p1 = 41 ∧ r = some (vI 0) ∧ uI h' 41 3 (nI o) = h2)) l2.1 (by omega) (c_skip (s := 41) (by omega) x2 (by omega) (by decide) sd.2.2.2 (fun z => Or.inl ⟨z, rfl, rfl⟩) (fun z => Or.inr ⟨z, rfl, rfl⟩)) ?_
      rintro r h2 (⟨h41, rfl, rfl⟩ | ⟨h41, rfl, rfl⟩)
      · have sp := sd.2.at (q := p1 + 1)
        exact bX6_group_34 (fun hc => absurd hc (by decide +kernel)) (fun _ => bX6_group_37 (bX6_group_42 (k.2 t1 (p1 + 1) (by rw [eq]; exact if_pos h41) _ u1 b1 (f2.tr fp_41) sp.1 sp.2.1 sp.2.2 (nd_41 (nd_41 n1)) e81 (by omega))))
      · exact bX6_group_34 (fun _ => bX6_group_41 (bX6_group_42 (k.1 p1 (by rw [eq]; exact if_neg h41) _ f2.z sd.2.2.2 hp1.2))) (fun hc => absurd rfl hc)
  · rw [if_pos hz] at k
    exact bX6_group_4 (fun hc => absurd rfl hc) (fun _ => bX6_group_7 (k.1 p rfl h fp.rf ps.2.2 (by omega)))
theorem c_unit {N : Nat} (A : A0 N) (B : A3 N) : A0 (N + 1) := by
  intro d cx nn u o p h t L Q hd x ps hu ho hp hf k
  have hL := x.2.2.1
  have l := x.1.2.2.2.2.1
  have hc127 := x.c127 p
  have k2 : pOK L h u o p (pz (chAt t L) (N + 1) 0 o p) Q := k
  rw [pz_0] at k2
  have sw := swt _ hc127
  refine bX6_unit_0 (b2 := 39) (R := fun r h' => r = some (vI (nI (chAt t L p))) ∧ h = h') l.1 l.2.1 x.1.2.2.2.1.1 (by omega) (by rw [ps.2.2]; exact c_pat x (by omega) ⟨rfl, rfl⟩) ?_
  rintro r h' ⟨rfl, rfl⟩
  have f0 : ∀ q, fp u h (uI h 41 4 (nI q)) := fun q => fp_41
  by_cases h33 : chAt t L p = 33
  · rw [if_pos h33] at k2 sw
    have hpL := x.cok.lt (p := p) (by omega)
    refine bX6_unit_11 (tgt := 96) sw (by decide) (bX6_unit_96 (R := rR Q) l.1 (by omega) (c_negation A (by omega) x ps hu ho hpL hf k2.R) ?_)
    rintro r h2 ⟨C, rfl, z⟩
    exact bX6_unit_100 z
  rw [if_neg h33] at k2 sw
  by_cases h40 : chAt t L p = 40
  · rw [if_pos h40] at k2 sw
    have hpL := x.cok.lt (p := p) (by omega)
    refine bX6_unit_11 (tgt := 101) sw (by decide) (bX6_unit_101 (R := rR Q) l.1 (by omega) (c_group B (by omega) x ps hu ho hpL hf k2.R) ?_)
    rintro r h2 ⟨C, rfl, z⟩
    exact bX6_unit_105 z
  rw [if_neg h40] at k2 sw
  unfold sz at k2
  by_cases h69 : chAt t L p = 69
  · rw [if_pos h69] at k2 sw
    have hpL := x.cok.lt (p := p) (by omega)
    refine bX6_unit_11 (tgt := 106) sw (by decide) (bX6_unit_106 (R := rR Q) l.1 (by omega) ?_ ?_)
    · rw [ps.2.2, nI_1]
      exact c_aboutOne (kd := 6) (nm := 0) (p0 := p) (by omega) (x.fp (f0 _)) (ps.at (q := p + 1)) (by omega) (by decide) (by omega) (by omega) (k2.pre (f0 _)).R
    · rintro r h2 ⟨C, rfl, z⟩
      exact bX6_unit_123 z
  rw [if_neg h69] at k2 sw
  by_cases hpq : chAt t L p = 112 ∨ chAt t L p = 113 ∨ chAt t L p = 114
  · rw [if_pos hpq] at k2 sw
    have hpL := x.cok.lt (p := p) (by omega)
    refine bX6_unit_11 (tgt := 124) sw (by decide) (bX6_unit_124 (R := rR Q) l.1 (by omega) ?_ ?_)
    · rw [ps.2.2, nI_1, show nI (chAt t L p) - 112 = nI (chAt t L p - 112) from pk_sub (b := 112) (by omega)]
      exact c_aboutOne (kd := 7) (p0 := p) (by omega) (x.fp (f0 _)) (ps.at (q := p + 1)) (by omega) (by decide) (by omega) (by omega) (k2.pre (f0 _)).R
    · rintro r h2 ⟨C, rfl, z⟩
      exact bX6_unit_144 z
  rw [if_neg hpq] at k2 sw
  by_cases hst : chAt t L p = 115 ∨ chAt t L p = 116
  · rw [if_pos hst] at k2 sw
    have hpL := x.cok.lt (p := p) (by omega)
    refine bX6_unit_11 (tgt := 145) sw (by decide) (bX6_unit_145 (R := rR Q) l.1 (by omega) ?_ ?_)
    · rw [ps.2.2, nI_1, show nI (chAt t L p) - 115 = nI (chAt t L p - 115) from pk_sub (b := 115) (by omega)]
      exact c_aboutTwo (p0 := p) (by omega) (x.fp (f0 _)) (ps.at (q := p + 1)) (by omega) (by omega) (by omega) (k2.pre (f0 _)).R
    · rintro r h2 ⟨C, rfl, z⟩
      exact bX6_unit_163 z
  rw [if_neg hst] at k2 sw
  by_cases h35 : chAt t L p = 35
  · rw [if_pos h35] at k2 sw
    have hpL := x.cok.lt (p := p) (by omega)
    have x1 := x.fp (f0 (p + 1))
    have s1 := ps.at (q := p + 1)
    refine bX6_unit_11 (tgt := 164) sw (by decide) (bX6_unit_164 (b2 := 39) (R := fun r h' => r = some (vI (nI (chAt t L (p + 1)))) ∧ uI h 41 4 (nI (p + 1)) = h') l.1 l.2.1 x.1.2.2.2.1.1 (by omega) ?_ ?_)
    · rw [ps.2.2, nI_1, s1.2.2]
      exact c_pat x1 (by omega) ⟨rfl, rfl⟩
    · rintro r h2 ⟨rfl, rfl⟩
      refine bX6_unit_186 (R := rR Q) l.1 (by omega) (c_count (p0 := p) (by omega) x1 s1 (by omega) (by omega) (by omega) (k2.pre (f0 _)).R) ?_
      rintro r h2 ⟨C, rfl, z⟩
      exact bX6_unit_192 z
  rw [if_neg h35] at k2 sw
  refine bX6_unit_11 (tgt := 193) sw (by decide) (bX6_unit_193 (R := rR Q) l.1 (by omega) (c_comparison (by omega) x ps (by omega) hp k2.R) ?_)
  rintro r h2 ⟨C, rfl, z⟩
  exact bX6_unit_197 z
theorem c_add0w {d c n b b2 : Nat} {h : vH} {Q : vQ} (k1 : (hK h)[nA b]? = some (5, 0)) (k2 : (hK h)[nA b2]? = some (5, 0)) (e : hR h (nA b) 7 = none) (k : Q none (uR (uR (uR h (nA b2) 9 none) (nA b) 6 (some (nA b2))) (nA b) 7 (some (nA b2)))) : vm_C mX5_add d c n [vR (some (nA b)), vR (some (nA b2))] h Q := by
  have e2 : hR (uR h (nA b2) 9 (hR h (nA b) 7)) (nA b) 7 = none := by rw [hR_uR, if_neg (by omega), e]
  refine bX5_add_0 k1 k2 (fun hz => absurd e2 hz) (fun _ => bX5_add_15 k1 (bX5_add_31 k1 ?_))
  rw [e]; exact k
theorem c_joinedw {d cx n b b2 : Nat} {h : vH} {Q : vQ} (hd : 1 ≤ d) (k1 : (hK h)[nA b]? = some (5, 0)) (k2 : (hK h)[nA b2]? = some (5, 0)) (e : hR h (nA b) 7 = none) (k : Q (some (vR (some (nA b)))) (uR (uR (uR h (nA b2) 9 none) (nA b) 6 (some (nA b2))) (nA b) 7 (some (nA b2)))) : vm_C mX6_joined d cx n [vR (some 41), vR (some (nA b)), vR (some (nA b2))] h Q := by
  refine bX6_joined_0 (fun hz => absurd hz nofun) (fun _ => bX6_joined_4 (fun _ => bX6_joined_10 (R := fun r h' => r = none ∧ Q (some (vR (some (nA b)))) h') k1 hd (c_add0w k1 k2 e ⟨rfl, k⟩) ?_) (fun hz => absurd nofun hz))
  rintro r h' ⟨rfl, q⟩
  exact bX6_joined_15 q
theorem hI_3 (h : vH) (a b c i j k : Nat) (x y z : Option Nat) : hI (uR (uR (uR h a i x) b j y) c k z) = hI h := by rw [hI_uR, hI_uR, hI_uR]
theorem c_holdingW {d cx n b2 : Nat} {h : vH} {kd : Int32} {Q : vQ} (hd : 2 ≤ d) (l : LPx h) (hb : b2 < 62) (k : ∀ B h', fp 0 h h' → hI h' 41 4 = hI h 41 4 → Q (some (vR B)) h') : vm_C mX6_holding d cx n [vR (some 41), vI kd, vR (some (nA b2))] h Q := by
  refine bX6_holding_0 (fun _ => ?_) (fun hz => absurd nofun hz)
  rcases ix_or (hI h 41 2) (n := 62) (by decide) with hz | ⟨u, hu, eu⟩
  · refine bX6_holding_8 (R := fun r h' => r = some (vR none) ∧ h = h') l.1 (by omega) (bX6_taken_0 l.1 (fun _ => bX6_taken_28 ⟨rfl, rfl⟩) (fun h1 => bX6_taken_7 l.1 (fun _ => bX6_taken_28 ⟨rfl, rfl⟩) (fun h2 => absurd hz (fun z => z.elim h1 h2)))) ?_
    rintro r h' ⟨rfl, rfl⟩
    refine bX6_holding_14 (R := fun r h' => r = some (vR none) ∧ h = h') l.1 (by omega) (c_joined1 ⟨rfl, rfl⟩) ?_
    rintro r h' ⟨rfl, rfl⟩
    exact bX6_holding_18 (k none h fp.rf rfl)
  · have f1 : fp 0 h (tkn h u kd) := fp_tkn (Nat.zero_le _) hu
    have l' := l.fp f1
    have e7 : hR (tkn h u kd) (nA u) 7 = none := by rw [hR_tkn, if_pos ⟨rfl, by decide, by decide⟩]
    have eI : hI (tkn h u kd) 41 4 = hI h 41 4 := by rw [hI_tkn, if_neg (fun w => nA41 u w.1.symm), if_neg (by omega)]
    refine bX6_holding_8 (R := fun r h' => r = some (vR (some (nA u))) ∧ tkn h u kd = h') l.1 (by omega) (c_taken l hu eu ⟨rfl, rfl⟩) ?_
    rintro r h' ⟨rfl, e⟩
    rw [e] at f1 l' e7 eI
    refine bX6_holding_14 (R := fun r h2 => r = some (vR (some (nA u))) ∧ fp 0 h h2 ∧ hI h2 = hI h') l'.1 (by omega) (c_joinedw (by omega) (l'.nk hu) (l'.nk hb) e7 ⟨rfl, ((f1.tr (fp_nR (Nat.zero_le _) hb (by decide) (by decide))).tr (fp_nR (Nat.zero_le _) hu (by decide) (by decide))).tr (fp_nR (Nat.zero_le _) hu (by decide) (by decide)), hI_3 _ _ _ _ _ _ _ _ _ _⟩) ?_
    rintro r h2 ⟨rfl, a1, a2⟩
    exact bX6_holding_18 (k _ h2 a1 (by rw [a2]; exact eI))
def hldE (h : vH) (u : Nat) (kd : Int32) (b : Nat) : vH := uR (uR (uR (tkn h u kd) (nA b) 9 none) (nA u) 6 (some (nA b))) (nA u) 7 (some (nA b))
theorem c_holdE {d cx n u b2 : Nat} {h : vH} {kd : Int32} {Q : vQ} (hd : 2 ≤ d) (l : LPx h) (hu : u < 62) (eu : hI h 41 2 = nI u) (hb : b2 < u) (k : Q (some (vR (some (nA u)))) (hldE h u kd b2)) : vm_C mX6_holding d cx n [vR (some 41), vI kd, vR (some (nA b2))] h Q := by
  have l' : LPx (tkn h u kd) := l.fp (fp_tkn (Nat.zero_le _) hu)
  refine bX6_holding_0 (fun _ => bX6_holding_8 (R := fun r h' => r = some (vR (some (nA u))) ∧ tkn h u kd = h') l.1 (by omega) (c_taken l hu eu ⟨rfl, rfl⟩) ?_) (fun hz => absurd nofun hz)
  rintro r h' ⟨rfl, rfl⟩
  have e7 : hR (tkn h u kd) (nA u) 7 = none := by rw [hR_tkn, if_pos ⟨rfl, by decide, by decide⟩]
  refine bX6_holding_14 (R := fun r h' => r = some (vR (some (nA u))) ∧ hldE h u kd b2 = h') l'.1 (by omega) (c_joinedw (by omega) (l'.nk hu) (l'.nk (by omega)) e7 ⟨rfl, rfl⟩) ?_
  rintro r h' ⟨rfl, rfl⟩
  exact bX6_holding_18 k
theorem hI_hldE (h : vH) (u : Nat) (kd : Int32) (b : Nat) (r j : Nat) : hI (hldE h u kd b) r j = if r = nA u ∧ j = 0 then kd else if r = 41 ∧ j = 2 then nI (u + 1) else hI h r j := by
  unfold hldE; rw [hI_uR, hI_uR, hI_uR, hI_tkn]
theorem hR_hldEn (h : vH) {u : Nat} (kd : Int32) {b i j : Nat} (hu : i ≠ u) (hb : ¬ (i = b ∧ j = 9)) : hR (hldE h u kd b) (nA i) j = hR h (nA i) j := by
  have n1 : ¬ nA i = nA u := fun z => hu (nA_inj z)
  show hR (uR (uR (uR (tkn h u kd) (nA b) 9 none) (nA u) 6 (some (nA b))) (nA u) 7 (some (nA b))) (nA i) j = _
  rw [hR_uR, if_neg (fun z => n1 z.1), hR_uR, if_neg (fun z => n1 z.1), hR_uR, if_neg (fun z => hb ⟨nA_inj z.1, z.2⟩), hR_tkn, if_neg (fun z => n1 z.1)]
theorem hR_hldEu (h : vH) {u : Nat} (kd : Int32) {b : Nat} (hb : b ≠ u) : hR (hldE h u kd b) (nA u) 6 = some (nA b) ∧ hR (hldE h u kd b) (nA u) 7 = some (nA b) ∧ hR (hldE h u kd b) (nA u) 8 = none ∧ hR (hldE h u kd b) (nA b) 9 = none := by
  have n1 : ¬ nA u = nA b := fun z => hb (nA_inj z).symm
  have n2 : ¬ nA b = nA u := fun z => n1 z.symm
  refine ⟨?_, ?_, ?_, ?_⟩
  · show hR (uR (uR (uR (tkn h u kd) (nA b) 9 none) (nA u) 6 (some (nA b))) (nA u) 7 (some (nA b))) (nA u) 6 = _
    rw [hR_uR, if_neg (by omega), hR_uR, if_pos ⟨rfl, rfl⟩]
  · show hR (uR (uR (uR (tkn h u kd) (nA b) 9 none) (nA u) 6 (some (nA b))) (nA u) 7 (some (nA b))) (nA u) 7 = _
    rw [hR_uR, if_pos ⟨rfl, rfl⟩]
  · show hR (uR (uR (uR (tkn h u kd) (nA b) 9 none) (nA u) 6 (some (nA b))) (nA u) 7 (some (nA b))) (nA u) 8 = _
    rw [hR_uR, if_neg (by omega), hR_uR, if_neg (by omega), hR_uR, if_neg (fun z => n1 z.1), hR_tkn, if_pos ⟨rfl, by decide, by decide⟩]
  · show hR (uR (uR (uR (tkn h u kd) (nA b) 9 none) (nA u) 6 (some (nA b))) (nA u) 7 (some (nA b))) (nA b) 9 = _
    rw [hR_uR, if_neg (fun z => n2 z.1), hR_uR, if_neg (fun z => n2 z.1), hR_uR, if_pos ⟨rfl, rfl⟩]
theorem fp_hldE {h : vH} {lo u b : Nat} {kd : Int32} (h1 : lo ≤ b) (h2 : b < u) (h3 : u < 62) : fp lo h (hldE h u kd b) :=
  (((fp_tkn (by omega) h3).tr (fp_nR h1 (by omega) (by decide) (by decide))).tr (fp_nR (by omega) h3 (by decide) (by decide))).tr (fp_nR (by omega) h3 (by decide) (by decide))
theorem c_formula {N : Nat} (A : A2 N) (B : A3 N) : A3 (N + 1) := by
  intro d cx nn u o p h t L Q hd x ps hu ho hp hf k
  have hL := x.2.2.1
  have l := x.1.2.2.2.2.1
  have k2 : pOK L h u o p (pz (chAt t L) (N + 1) 3 o p) Q := k
  rw [pz_3] at k2
  refine bX6_formula_0 (R := pRes L h u o p (wrR 3 (pz (chAt t L) N 2 o p))) l.1 (by omega) (A _ _ _ _ _ _ _ _ _ _ (by omega) x ps hu ho hp (by omega) pRes_ok) ?_
  rintro r h' (⟨q, eq, rfl, f, e4, hq⟩ | ⟨t1, p1, u1, b1, eq, rfl, f, s1, n1, e81, hc1⟩)
  · exact bX6_formula_4 (fun _ => bX6_formula_25 (k2.1 q (by rw [eq]; rfl) h' f e4 hq)) (fun hc => absurd rfl hc)
  · have x' := x.fp f
    have l' := l.fp f
    have hp1 := wrR_p x.cok eq
    have nb1 := nd_b n1
    have hc127 := x.c127 p1
    rw [eq] at k2
    refine bX6_formula_4 (fun hc => absurd hc nofun) (fun _ => bX6_formula_9 (b3 := 39) (R := fun r h2 => r = some (vI (nI (chAt t L p1))) ∧ h' = h2) l'.1 l'.2.1 x'.1.2.2.2.1.1 (by omega) (by rw [s1.2.2]; exact c_pat x' (by omega) ⟨rfl, rfl⟩) ?_)
    rintro r h2 ⟨rfl, rfl⟩
    refine bX6_formula_20 (fun hz => ?_) (fun hz => bX6_formula_25 (k2.2 t1 p1 (if_neg (fun z => hz (by rw [z]; rfl))) h' u1 b1 f s1.1 s1.2.1 s1.2.2 n1 e81 hc1))
    have hz := (nI_eq (a := chAt t L p1) (b := 62) (by omega) (by decide)).mp hz
    have hpL := x.cok.lt (p := p1) (by omega)
    have k3 : pOK L h u o p (if 8 ≤ o then .inl p1 else bnd (pz (chAt t L) N 3 (o + 1) (p1 + 1)) (fun t2 p2 => .inr (no 4 0 (cc t1 (cc t2 .leaf)), p2))) Q := by
      have e : bnd (.inr (t1, p1)) (fun t' p' => if chAt t L p' = 62 then (if 8 ≤ o then .inl p' else bnd (pz (chAt t L) N 3 (o + 1) (p' + 1)) (fun t2 p2 => .inr (no 4 0 (cc t' (cc t2 .leaf)), p2))) else .inr (t', p')) = if 8 ≤ o then .inl p1 else bnd (pz (chAt t L) N 3 (o + 1) (p1 + 1)) (fun t2 p2 => .inr (no 4 0 (cc t1 (cc t2 .leaf)), p2)) := if_pos hz
      rw [e] at k2; exact k2
    refine bX6_formula_27 (R := fun r h2 => (o < 8 ∧ r = some (vI 1) ∧ uI (uI h' 41 3 (nI (o + 1))) 41 4 (nI (p1 + 1)) = h2) ∨ (8 ≤ o ∧ r = some (vI 0) ∧ h' = h2)) l'.1 (by omega) (c_openSign l'.1 ho s1.2.1 s1.2.2 (fun z => Or.inl ⟨z, rfl, rfl⟩) (fun z => Or.inr ⟨z, rfl, rfl⟩)) ?_
    rintro r h2 (⟨ho8, rfl, rfl⟩ | ⟨ho8, rfl, rfl⟩)
    · rw [if_neg (by omega)] at k3
      have f0 : ∀ w, fp w h' (uI (uI h' 41 3 (nI (o + 1))) 41 4 (nI (p1 + 1))) := fun w => fp_41.tr fp_41
      refine bX6_formula_31 (fun _ => ?_) (fun hc => absurd (by decide +kernel) hc)
      refine bX6_formula_36 (R := pRes L _ u1 (o + 1) (p1 + 1) (pz (chAt t L) N 3 (o + 1) (p1 + 1))) l'.1 (by omega) (B _ _ _ _ _ _ _ _ _ _ (by omega) (x'.fp (f0 u1)) s1.up (by omega) (by omega) (by omega) (by omega) pRes_ok) ?_
      rintro r h2 (⟨q, eq2, rfl, g, e4, hq⟩ | ⟨t2, p2, u2, b2, eq2, rfl, g, s2, n2, e82, hc2⟩)
      · have g2 : fp 0 h' (uI h2 41 3 (hI h2 41 3 - 1)) := ((f0 0).tr g).tr fp_41
        have zz := k3.1 q (by rw [eq2]; rfl)
        have e4' : hI (uI h2 41 3 (hI h2 41 3 - 1)) 41 4 = nI q := by rw [hI_uIk _ _ _ (by decide)]; exact e4
        refine bX6_formula_40 (R := fun r h3 => ∃ B, r = some (vR B) ∧ fp 0 (uI h2 41 3 (hI h2 41 3 - 1)) h3 ∧ hI h3 41 4 = nI q) (by rw [((f0 0).tr g).k]; exact l'.1) (by omega) (c_holdingW (by omega) (l'.fp g2) (show b1 < 62 by omega) (fun B h3 a1 a2 => ⟨B, rfl, a1, by rw [a2, e4']⟩)) ?_
        rintro r h3 ⟨B, rfl, a1, a2⟩
        refine bX6_formula_58 (R := fun r h4 => r = some (vR none) ∧ h3 = h4) (by rw [(g2.tr a1).k]; exact l'.1) (by omega) (c_joined0 ⟨rfl, rfl⟩) ?_
        rintro r h4 ⟨rfl, rfl⟩
        exact bX6_formula_62 (zz _ (f.z.tr (g2.tr a1)) a2 hq)
      · have g1 := (f0 u1).tr g
        have nb2 := nd_b n2
        have hp2 := pz_p1 x.cok eq2
        have sd := s2.dn
        have g2 : fp u1 h' (uI h2 41 3 (nI o)) := g1.tr fp_41
        have n1' : nd (uI h2 41 3 (nI o)) t1 u u1 b1 := (rp_ag t1).1 _ _ _ n1 ⟨fun i i1 i2 j _ => (fp_nd g2 (by omega) j).1, fun i i1 i2 j _ _ _ => (fp_nd g2 (by omega) j).2⟩
        have e81' : hR (uI h2 41 3 (nI o)) (nA b1) 8 = none := by rw [(fp_nd g2 (by omega) 8).2]; exact e81
        have n2' : nd (uI h2 41 3 (nI o)) t2 u1 u2 b2 := nd_41 n2
        have e82' : hR (uI h2 41 3 (nI o)) (nA b2) 8 = none := e82
        generalize uI h2 41 3 (nI o) = g at *
        have l2 := l'.fp g2
        have hu2 : u2 < 62 := by omega
        refine bX6_formula_40 (R := fun r h3 => r = some (vR (some (nA u2))) ∧ hldE g u2 (nI 4) b1 = h3) (by rw [g1.k]; exact l'.1) (by omega) (by rw [sd.1]; exact c_holdE (by omega) l2 hu2 sd.2.1 (by omega) ⟨rfl, rfl⟩) ?_
        rintro r h3 ⟨rfl, rfl⟩
        have f3 : fp u g (hldE g u2 (nI 4) b1) := fp_hldE (by omega) (by omega) hu2
        have l3 := l2.fp f3
        have q := hR_hldEu g (nI 4) (show b1 ≠ u2 by omega)
        have q1 : nd (hldE g u2 (nI 4) b1) t1 u u1 b1 := (rp_ag t1).1 _ _ _ n1' ⟨fun i i1 i2 j _ => by rw [hI_hldE, if_neg (fun w => by have := nA_inj w.1; omega), if_neg (fun w => nA41 i w.1)], fun i i1 i2 j j1 j2 j3 => hR_hldEn g _ (by omega) (by omega)⟩
        have q2 : nd (hldE g u2 (nI 4) b1) t2 u1 u2 b2 := (rp_ag t2).1 _ _ _ n2' ⟨fun i i1 i2 j _ => by rw [hI_hldE, if_neg (fun w => by have := nA_inj w.1; omega), if_neg (fun w => nA41 i w.1)], fun i i1 i2 j j1 j2 j3 => hR_hldEn g _ (by omega) (by omega)⟩
        have q3 : cd (hldE g u2 (nI 4) b1) (cc t1 .leaf) u u1 u2 none (hR (hldE g u2 (nI 4) b1) (nA u2) 6) (hR (hldE g u2 (nI 4) b1) (nA u2) 7) := cd_i.mpr ⟨b1, u, u1, q.1, Nat.le_refl _, Nat.le_refl _, Or.inr (by omega), q1, q.2.2.2, cd_l.mpr ⟨by rw [hR_hldEn g _ (by omega) (by omega)]; exact e81', q.2.1⟩⟩
        have q8 : hR (hldE g u2 (nI 4) b1) (nA b2) 8 = none := by rw [hR_hldEn g _ (by omega) (by omega)]; exact e82'
        refine bX6_formula_58 (R := fun r h4 => r = some (vR (some (nA u2))) ∧ fp u (hldE g u2 (nI 4) b1) h4 ∧ hI h4 = hI (hldE g u2 (nI 4) b1) ∧ cd h4 (cc t1 (cc t2 .leaf)) u u2 u2 none (hR h4 (nA u2) 6) (hR h4 (nA u2) 7) ∧ hR h4 (nA u2) 8 = none) l3.1 (by omega) (c_joined (c := cc t1 .leaf) (lo0 := u) (lo := u) (hi := u1) (by omega) l3 hu2 q3 q2 (Nat.le_refl _) (by omega) (Or.inr (Nat.le_refl _)) q8 (Nat.le_refl _) (by omega) (fun h4 a1 a2 a3 a4 => ⟨rfl, a1, a2, a3, by rw [a4]; exact q.2.2.1⟩)) ?_
        rintro r h4 ⟨rfl, a1, a2, a3, a4⟩
        have eI : ∀ r j, hI h4 r j = hI (hldE g u2 (nI 4) b1) r j := fun r j => by rw [a2]
        refine bX6_formula_62 (k3.2 (no 4 0 (cc t1 (cc t2 .leaf))) p2 (by rw [eq2]; rfl) h4 (u2 + 1) u2 (f.tr ((g2.mono (by omega)).tr (f3.tr a1))) ?_ ?_ ?_ (nd_i.mpr ⟨by omega, by omega, by omega, ⟨?_, fun z => absurd z (by decide), fun z => absurd z (by decide)⟩, cd_w (by omega) _ _ _ (Nat.le_refl _) _ _ _ a3⟩) a4 (by omega))
        · rw [eI, hI_hldE, if_neg (fun w => nA41 _ w.1.symm), if_pos ⟨rfl, rfl⟩]
        · rw [eI, hI_hldE, if_neg (fun w => nA41 _ w.1.symm), if_neg (by omega)]; exact sd.2.2.1
        · rw [eI, hI_hldE, if_neg (fun w => nA41 _ w.1.symm), if_neg (by omega)]; exact sd.2.2.2
        · rw [eI, hI_hldE, if_pos ⟨rfl, rfl⟩]
    · rw [if_pos ho8] at k3
      exact bX6_formula_31 (fun hc => absurd rfl hc) (fun _ => bX6_formula_34 (k3.1 p1 rfl h' f.z s1.2.2 hp1.2))
