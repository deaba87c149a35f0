/-! ===== the reference's reader: a unit without signs is read ===== -/
theorem or2_s (a : Option (Nat × Nat)) : or2 a a = a := by cases a <;> rfl
section
variable {d cx n p K dp : Nat} {h : vH} {e : Bool} {W : wT} {t : Nat → Nat} {L : Nat} {u : Option Nat} {F : List fR} {A : List aT} {Q : vQ}
/-- what a variable's reading comes to -/
def rV (b : Bool) (h : vH) (e : Bool) (t : Nat → Nat) (L p K : Nat) (u : Option Nat) (dp : Nat) (F : List fR) (A : List aT) : vQ := fun r h' =>
  (isv (chAt t L p) = true ∧ r = some (vI (nI (chAt t L p - 120))) ∧ fa h h' ∧ mpc h' e (p + 1) K (vu b u dp F (lk1 (chAt t L p - 120) p K)).1 (vu b u dp F (lk1 (chAt t L p - 120) p K)).2.1 (vu b u dp F (lk1 (chAt t L p - 120) p K)).2.2 A) ∨ (¬ isv (chAt t L p) = true ∧ r = some (vI (-7)) ∧ h = h')
theorem m_var {b : Bool} (hd : 2 ≤ d) (x : mE h e W t L) (y : mpc h e p K u dp F A) (hF : F.length ≤ 10) (hp : p ≤ L) : vm_C mX11_variable d cx n [vR (some 366), vI (bN b)] h (rV b h e t L p K u dp F A) :=
  m_variable hd x y hF hp (fun hv h' f q => Or.inl ⟨hv, rfl, f, q⟩) (fun hv => Or.inr ⟨hv, rfl, rfl⟩)
theorem nx_or : ∀ K, K < 8 → ∀ v, v < 3 → nI K ||| ((1 : Int32) <<< (nI v &&& (31 : Int32))) = nI (K ||| 2 ^ v) := by decide +kernel
theorem m7n : (-7 : Int32) < 0 := by decide +kernel
theorem m_readsUnit (hd : 4 ≤ d) (x : mE h e W t L) (y : mpc h e p K u dp F A) (hF : F.length ≤ 10) (hp : p ≤ L) (hK : K < 8) (k0 : ∀ q, sz (chAt t L) p = .inl q → ∀ h', fa h h' → hI h' 366 12 = nI q → Q (some (vI 0)) h')
    (k1 : ∀ t1 p', sz (chAt t L) p = .inr (t1, p') → ∀ h', fa h h' → mpc h' e p' ((kb t1).1 K) (udf u dp F ((un t1).1 K)).1 (udf u dp F ((un t1).1 K)).2.1 (udf u dp F ((un t1).1 K)).2.2 (A ++ (ac W.1 (ta2 W) t1).1) → Q (some (vI 1)) h') : vm_C mX11_readsUnit d cx n [vR (some 366)] h Q := by
  have hM := x.1
  have hL := x.2.2.2.1.1
  have hcok : cOk (chAt t L) L := fun i hi => by unfold chAt; rw [if_neg (by omega)]
  have hl : A.length ≤ 40 := by have := y.2.2.2.2.2.2.2.2.1; omega
  have hl2 := y.2.2.2.2.2.2.2.2.1
  have fst : ∀ (g : vH) (q : Nat), fa g (uI g 366 12 (nI q)) := fun g q => fa_uI (Or.inr ⟨by decide, by decide⟩)
  have c0 := x.c127 p
  refine bX11_readsUnit_0 (R := fun r h' => r = some (vI (nx (chAt t L) p)) ∧ h = h') hM.1 (by omega) (m_next x y.2.1 (by omega) ⟨rfl, rfl⟩) ?_
  rintro r h' ⟨rfl, rfl⟩
  unfold sz at k0 k1
  -- E
  refine bX11_readsUnit_4 (fun hz => ?_) (fun hz => ?_)
  rotate_left
  · have hz := (nx_v c0 (s := 69) (by decide)).mp (Classical.byContradiction hz)
    have pL := hcok.lt (p := p) (by omega)
    rw [if_pos hz] at k0 k1
    unfold sz1 at k0 k1
    have y1 := y.at (p' := p + 1) (by omega)
    have x1 := x.fa (fst h (p + 1))
    refine bX11_readsUnit_11 (R := rV false (uI h 366 12 (nI (p + 1))) e t L (p + 1) K u dp F A) hM.1 (by omega) (by rw [y.2.1, nI_1]; exact m_var (b := false) (by omega) x1 y1 hF (by omega)) ?_
    rintro r h' (⟨hv, rfl, f, q⟩ | ⟨hv, rfl, rfl⟩)
    · rw [if_pos hv] at k1
      have iv := isv_iff.mp hv
      have x2 := x1.fa f
      have hv3 : chAt t L (p + 1) - 120 < 3 := by omega
      generalize ev : chAt t L (p + 1) - 120 = v at *
      have q : mpc h' e (p + 1 + 1) K u dp F A := q
      refine bX11_readsUnit_26 x2.1.1 (fun _ => bX11_readsUnit_40 ?_) (fun hq => absurd (nI_pos' (n := v) (by omega)) hq)
      have f3 : fm (fun r j => r = 366 ∧ j = 13) h' (uI h' 366 13 (nI (K ||| 2 ^ v))) := fm_uI _ _ _ _
      have y3 : mpc (uI h' 366 13 (nI (K ||| 2 ^ v))) e (p + 1 + 1) (K ||| 2 ^ v) u dp F A := q.mv f3 (fun r j z => Or.inl ⟨z.1, Or.inr z.2⟩) (by rw [hI_uIk _ _ _ (by decide)]; exact q.2.1) (hI_uIs _ _ _ _) (Nat.le_refl _)
      refine bX11_readsUnit_43 (R := fun r h2 => r = none ∧ uI (uI (uI h' 366 13 (nI (K ||| 2 ^ v))) 370 A.length (nI v)) 366 7 (nI (A.length + 1)) = h2) x2.1.1 x2.1.1 (by omega) (by
        rw [q.2.2.1, nx_or K hK v hv3]
        exact m_pushes (x2.1.fm f3) y3.1 (by omega) ⟨rfl, rfl⟩) ?_
      rintro r h2 ⟨rfl, rfl⟩
      refine bX11_readsUnit_52 (fun hq => absurd hq (nI_pos (by omega))) (fun _ => bX11_readsUnit_56 (bX11_readsUnit_61 rfl ?_))
      have f4 : fm (fun r j => r = 366 ∧ j = 7 ∨ r = 370) (uI h' 366 13 (nI (K ||| 2 ^ v))) (uI (uI (uI h' 366 13 (nI (K ||| 2 ^ v))) 370 A.length (nI v)) 366 7 (nI (A.length + 1))) := ((fm_uI _ 370 _ _).mono (fun r j z => Or.inr z.1)).tr ((fm_uI _ 366 7 _).mono (fun r j z => Or.inl z))
      have g370 : ∀ j, hI (uI (uI (uI h' 366 13 (nI (K ||| 2 ^ v))) 370 A.length (nI v)) 366 7 (nI (A.length + 1))) 370 j = if j = A.length then nI v else hI (uI h' 366 13 (nI (K ||| 2 ^ v))) 370 j := fun j => by
        rw [hI_uIn _ _ _ (by decide), hI_uI]
        by_cases hj : j = A.length
        · rw [if_pos ⟨rfl, hj⟩, if_pos hj]
        · rw [if_neg (fun z => hj z.2), if_neg hj]
      obtain ⟨z1, z2, z3, z4, z5, z6, z7, z8, z9, z10, z11, z12⟩ := y3
      refine k1 _ (p + 1 + 1) rfl _ (((fst h (p + 1)).tr f).tr ((f3.mono (fun r j z => ?_)).tr (f4.mono (fun r j z => ?_)))) ?_
      · unfold pA; omega
      · unfold pA; omega
      · rw [show (un (lf 6 0 (p + 1) (p + 1) v v)).1 K = none from rfl, udf_n]
        have ek : (kb (lf 6 0 (p + 1) (p + 1) v v)).1 K = K ||| 2 ^ v := rfl
        have ea : (ac W.1 (ta2 W) (lf 6 0 (p + 1) (p + 1) v v)).1 = [.inl v] := rfl
        rw [ek, ea]
        refine ⟨?_, ?_, ?_, ?_, ?_, ?_, ?_, ?_, ?_, z10.app (voks.one hv3), z11, z12⟩
        · rw [hI_uIs, List.length_append]; rfl
        · rw [f4.2 366 12 (by omega)]; exact z2
        · rw [f4.2 366 13 (by omega)]; exact z3
        · rw [f4.2 366 14 (by omega)]; exact z4
        · rw [f4.2 366 15 (by omega)]; exact z5
        · rw [f4.2 366 16 (by omega)]; exact z6
        · exact fxs_eq (fun r j h1 h2 h3 => f4.2 r j (by omega)) (fun _ j _ => f4.2 382 j (by omega)) z7
        · refine axs_add (axs_eq (fun k hk => ?_) (fun _ j _ => f4.2 371 j (by omega)) z8) ⟨?_, fun _ X eX => by cases eX⟩
          · rw [g370, if_neg (by omega)]
          · rw [g370, if_pos rfl]; rfl
        · rw [List.length_append]; show 2 * (A.length + 1) ≤ p + 1 + 1; omega
    · rw [if_neg hv] at k0
      refine bX11_readsUnit_26 x1.1.1 (fun hq => absurd hq (by decide +kernel)) (fun _ => bX11_readsUnit_36 ?_)
      have f3 : fm (fun r j => r = 366 ∧ j = 13) (uI h 366 12 (nI (p + 1))) (uI (uI h 366 12 (nI (p + 1))) 366 13 (hI (uI h 366 12 (nI (p + 1))) 366 13 ||| 0)) := fm_uI _ _ _ _
      refine bX11_readsUnit_43 (R := fun r h2 => r = none ∧ uI (uI (uI (uI h 366 12 (nI (p + 1))) 366 13 (hI (uI h 366 12 (nI (p + 1))) 366 13 ||| 0)) 370 A.length (-7)) 366 7 (nI (A.length + 1)) = h2) x1.1.1 x1.1.1 (by omega) (m_pushes (x1.1.fm f3) (by rw [hI_uIk _ _ _ (by decide)]; exact y1.1) (by omega) ⟨rfl, rfl⟩) ?_
      rintro r h2 ⟨rfl, rfl⟩
      refine bX11_readsUnit_52 (fun _ => bX11_readsUnit_60 (bX11_readsUnit_61 rfl ?_)) (fun hq => absurd m7n hq)
      refine k0 (p + 1) rfl _ ((((fst h (p + 1)).tr (f3.mono (fun r j z => ?_))).tr (fa_uR (by decide) (by decide) (by decide))).tr (fa_uI (Or.inl rfl))) ?_
      · unfold pA; omega
      · rw [hI_uIk _ _ _ (by decide), hI_uIn _ _ _ (by decide), hI_uIk _ _ _ (by decide), hI_uIs]
  have n69 : ¬ chAt t L p = 69 := fun z => hz ((nx_v c0 (s := 69) (by decide)).mpr z)
  rw [if_neg n69] at k0 k1
  -- a test with one variable, or two
  have inA : inr (nx (chAt t L) p) 112 116 ↔ 112 ≤ chAt t L p ∧ chAt t L p ≤ 116 := by
    constructor
    · rintro ⟨i, h1, h2, ei⟩
      have := (nx_r _ c0 (i - 112) (by omega)).1.mp (by rw [show 112 + (i - 112) = i by omega]; exact ei)
      omega
    · rintro ⟨h1, h2⟩
      exact ⟨chAt t L p, h1, h2, by have := (nx_r _ c0 (chAt t L p - 112) (by omega)).1.mpr (by omega); rw [show 112 + (chAt t L p - 112) = chAt t L p by omega] at this; exact this⟩
  refine bX11_readsUnit_62 (R := rB h (inr (nx (chAt t L) p) 112 116) (¬ inr (nx (chAt t L) p) 112 116)) (by omega) (m_in (a := 112) (b := 116) (by decide) (by decide)) ?_
  rintro r h' ⟨rfl, ⟨hi, rfl⟩ | ⟨hi, rfl⟩⟩
  · rw [inA] at hi
    have pL := hcok.lt (p := p) (by omega)
    have enx : nx (chAt t L) p = nI (chAt t L p) := by unfold nx; rw [if_neg (by omega)]
    have y1 := y.at (p' := p + 1) (by omega)
    have x1 := x.fa (fst h (p + 1))
    refine bX11_readsUnit_70 (fun hq => absurd hq (by decide +kernel)) (fun _ => ?_)
    refine bX11_readsUnit_73 (R := rV true (uI h 366 12 (nI (p + 1))) e t L (p + 1) K u dp F A) hM.1 (by omega) (by rw [y.2.1, nI_1]; exact m_var (b := true) (by omega) x1 y1 hF (by omega)) ?_
    rw [enx]
    by_cases h115 : chAt t L p < 115
    · rw [if_pos (by omega)] at k0 k1
      unfold sz1 at k0 k1
      rintro r h' (⟨hv, rfl, f, q⟩ | ⟨hv, rfl, rfl⟩)
      · rw [if_pos hv] at k1
        have iv := isv_iff.mp hv
        have x2 := x1.fa f
        have hv3 : chAt t L (p + 1) - 120 < 3 := by omega
        have q : mpc h' e (p + 1 + 1) K (udf u dp F (lk1 (chAt t L (p + 1) - 120) (p + 1) K)).1 (udf u dp F (lk1 (chAt t L (p + 1) - 120) (p + 1) K)).2.1 (udf u dp F (lk1 (chAt t L (p + 1) - 120) (p + 1) K)).2.2 A := q
        refine bX11_readsUnit_88 (fun _ => bX11_readsUnit_102 ?_) (fun hq => absurd (nI_lt h115 (by decide)) hq)
        refine bX11_readsUnit_111 (R := fun r h2 => r = some (vI 1) ∧ Q (some (vI 1)) h2) x2.1.1 (by omega) (m_tests (kd := 7) (nm := chAt t L p - 112) (by omega) x2 q hl (Or.inl ⟨by omega, rfl, by omega⟩) hv3 hv3 (by omega) (fun h2 f2 q2 => ⟨rfl, ?_⟩)) ?_
        · refine k1 _ (p + 1 + 1) rfl h2 (((fst h (p + 1)).tr f).tr f2) ?_
          have eu : (un (lf 7 (chAt t L p - 112) (p + 1) (p + 1) (chAt t L (p + 1) - 120) (chAt t L (p + 1) - 120))).1 K = lk1 (chAt t L (p + 1) - 120) (p + 1) K := or2_s _
          rw [eu]; exact q2
        · rintro r h2 ⟨rfl, q2⟩
          exact bX11_readsUnit_114 rfl q2
      · rw [if_neg hv] at k0
        refine bX11_readsUnit_88 (fun _ => bX11_readsUnit_102 ?_) (fun hq => absurd (nI_lt h115 (by decide)) hq)
        refine bX11_readsUnit_111 (R := fun r h2 => r = some (vI 0) ∧ uI h 366 12 (nI (p + 1)) = h2) hM.1 (by omega) (m_tests0 (Or.inl m7n) ⟨rfl, rfl⟩) ?_
        rintro r h2 ⟨rfl, rfl⟩
        exact bX11_readsUnit_114 rfl (k0 (p + 1) rfl _ (fst h (p + 1)) (hI_uIs _ _ _ _))
    · rw [if_neg (by omega), if_pos (by omega)] at k0 k1
      unfold sz2 at k0 k1
      rintro r h' (⟨hv, rfl, f, q⟩ | ⟨hv, rfl, rfl⟩)
      · rw [if_pos hv] at k0 k1
        have iv := isv_iff.mp hv
        have x2 := x1.fa f
        have hv3 : chAt t L (p + 1) - 120 < 3 := by omega
        have q : mpc h' e (p + 1 + 1) K (udf u dp F (lk1 (chAt t L (p + 1) - 120) (p + 1) K)).1 (udf u dp F (lk1 (chAt t L (p + 1) - 120) (p + 1) K)).2.1 (udf u dp F (lk1 (chAt t L (p + 1) - 120) (p + 1) K)).2.2 A := q
        have pL2 := isv_lt hcok hv
        refine bX11_readsUnit_88 (fun hq => absurd hq (nI_nlt (a := chAt t L p) (b := 115) (by omega) (by omega))) (fun _ => bX11_readsUnit_98 (fun _ => ?_) (fun hq => absurd (nI_pos' (n := chAt t L (p + 1) - 120) (by omega)) hq))
        refine bX11_readsUnit_106 (R := rV true h' e t L (p + 1 + 1) K _ _ _ A) x2.1.1 (by omega) (m_var (b := true) (by omega) x2 q (by rw [udf_len]; exact hF) (by omega)) ?_
        rintro r h2 (⟨hw, rfl, f2, q2⟩ | ⟨hw, rfl, rfl⟩)
        · rw [if_pos hw] at k1
          have iw := isv_iff.mp hw
          have x3 := x2.fa f2
          have hw3 : chAt t L (p + 1 + 1) - 120 < 3 := by omega
          have q2 : mpc h2 e (p + 1 + 1 + 1) K (udf (udf u dp F (lk1 (chAt t L (p + 1) - 120) (p + 1) K)).1 (udf u dp F (lk1 (chAt t L (p + 1) - 120) (p + 1) K)).2.1 (udf u dp F (lk1 (chAt t L (p + 1) - 120) (p + 1) K)).2.2 (lk1 (chAt t L (p + 1 + 1) - 120) (p + 1 + 1) K)).1 (udf (udf u dp F (lk1 (chAt t L (p + 1) - 120) (p + 1) K)).1 (udf u dp F (lk1 (chAt t L (p + 1) - 120) (p + 1) K)).2.1 (udf u dp F (lk1 (chAt t L (p + 1) - 120) (p + 1) K)).2.2 (lk1 (chAt t L (p + 1 + 1) - 120) (p + 1 + 1) K)).2.1 (udf (udf u dp F (lk1 (chAt t L (p + 1) - 120) (p + 1) K)).1 (udf u dp F (lk1 (chAt t L (p + 1) - 120) (p + 1) K)).2.1 (udf u dp F (lk1 (chAt t L (p + 1) - 120) (p + 1) K)).2.2 (lk1 (chAt t L (p + 1 + 1) - 120) (p + 1 + 1) K)).2.2 A := q2
          rw [udf_or] at q2
          refine bX11_readsUnit_111 (R := fun r h3 => r = some (vI 1) ∧ Q (some (vI 1)) h3) x3.1.1 (by omega) (m_tests (kd := 8) (nm := chAt t L p - 115) (by omega) x3 q2 hl (Or.inr (Or.inl ⟨by omega, rfl, by omega⟩)) hv3 hw3 (by omega) (fun h3 f3 q3 => ⟨rfl, ?_⟩)) ?_
          · exact k1 _ (p + 1 + 2) rfl h3 ((((fst h (p + 1)).tr f).tr f2).tr f3) q3
          · rintro r h3 ⟨rfl, q3⟩
            exact bX11_readsUnit_114 rfl q3
        · rw [if_neg hw] at k0
          refine bX11_readsUnit_111 (R := fun r h3 => r = some (vI 0) ∧ h' = h3) x2.1.1 (by omega) (m_tests0 (Or.inr m7n) ⟨rfl, rfl⟩) ?_
          rintro r h3 ⟨rfl, rfl⟩
          exact bX11_readsUnit_114 rfl (k0 (p + 1 + 1) rfl _ ((fst h (p + 1)).tr f) q.2.1)
      · rw [if_neg hv] at k0
        refine bX11_readsUnit_88 (fun hq => absurd hq (nI_nlt (a := chAt t L p) (b := 115) (by omega) (by omega))) (fun _ => bX11_readsUnit_98 (fun hq => absurd hq (by decide +kernel)) (fun _ => bX11_readsUnit_102 ?_))
        refine bX11_readsUnit_111 (R := fun r h2 => r = some (vI 0) ∧ uI h 366 12 (nI (p + 1)) = h2) hM.1 (by omega) (m_tests0 (Or.inl m7n) ⟨rfl, rfl⟩) ?_
        rintro r h2 ⟨rfl, rfl⟩
        exact bX11_readsUnit_114 rfl (k0 (p + 1) rfl _ (fst h (p + 1)) (hI_uIs _ _ _ _))
  rw [inA] at hi
  rw [if_neg (by omega), if_neg (by omega)] at k0 k1
  refine bX11_readsUnit_70 (fun _ => ?_) (fun hq => absurd rfl hq)
  -- a number
  refine bX11_readsUnit_115 (fun hz => ?_) (fun hz => ?_)
  rotate_left
  · have hz := (nx_v c0 (s := 35) (by decide)).mp (Classical.byContradiction hz)
    have pL := hcok.lt (p := p) (by omega)
    rw [if_pos hz] at k0 k1
    have y1 := y.at (p' := p + 1) (by omega)
    have x1 := x.fa (fst h (p + 1))
    have c1 := x.c127 (p + 1)
    refine bX11_readsUnit_121 (R := fun r h' => r = some (vI (nx (chAt t L) (p + 1))) ∧ uI h 366 12 (nI (p + 1)) = h') hM.1 (by omega) (by rw [y.2.1, nI_1]; exact m_next x1 y1.2.1 (by omega) ⟨rfl, rfl⟩) ?_
    rintro r h' ⟨rfl, rfl⟩
    have inB : inr (nx (chAt t L) (p + 1)) 49 51 ↔ 49 ≤ chAt t L (p + 1) ∧ chAt t L (p + 1) ≤ 51 := by
      constructor
      · rintro ⟨i, h1, h2, ei⟩
        have := ((nx_r _ c1 (i - 49) (by omega)).2 (by omega)).mp (by rw [show 49 + (i - 49) = i by omega]; exact ei)
        omega
      · rintro ⟨h1, h2⟩
        exact ⟨chAt t L (p + 1), h1, h2, by have := ((nx_r _ c1 (chAt t L (p + 1) - 49) (by omega)).2 (by omega)).mpr (by omega); rw [show 49 + (chAt t L (p + 1) - 49) = chAt t L (p + 1) by omega] at this; exact this⟩
    refine bX11_readsUnit_135 (R := rB (uI h 366 12 (nI (p + 1))) (inr (nx (chAt t L) (p + 1)) 49 51) (¬ inr (nx (chAt t L) (p + 1)) 49 51)) rfl (by omega) (m_in (a := 49) (b := 51) (by decide) (by decide)) ?_
    rintro r h' ⟨rfl, ⟨hj, rfl⟩ | ⟨hj, rfl⟩⟩
    · rw [inB] at hj
      rw [if_pos hj] at k0 k1
      unfold sz1 at k0 k1
      have pL2 := hcok.lt (p := p + 1) (by omega)
      have enx : nx (chAt t L) (p + 1) = nI (chAt t L (p + 1)) := by unfold nx; rw [if_neg (by omega)]
      have y2 := y1.at (p' := p + 1 + 1) (by omega)
      have x2 := x1.fa (fst _ (p + 1 + 1))
      refine bX11_readsUnit_144 (fun _ => ?_) (fun hq => absurd (by decide +kernel) hq)
      refine bX11_readsUnit_149 (R := rV true (uI (uI h 366 12 (nI (p + 1))) 366 12 (nI (p + 1 + 1))) e t L (p + 1 + 1) K u dp F A) hM.1 (by omega) (by rw [hI_uIs, nI_1]; exact m_var (b := true) (by omega) x2 y2 hF (by omega)) ?_
      rw [enx]
      rintro r h' (⟨hv, rfl, f, q⟩ | ⟨hv, rfl, rfl⟩)
      · rw [if_pos hv] at k1
        have iv := isv_iff.mp hv
        have x3 := x2.fa f
        have hv3 : chAt t L (p + 1 + 1) - 120 < 3 := by omega
        have q : mpc h' e (p + 1 + 1 + 1) K (udf u dp F (lk1 (chAt t L (p + 1 + 1) - 120) (p + 1 + 1) K)).1 (udf u dp F (lk1 (chAt t L (p + 1 + 1) - 120) (p + 1 + 1) K)).2.1 (udf u dp F (lk1 (chAt t L (p + 1 + 1) - 120) (p + 1 + 1) K)).2.2 A := q
        refine bX11_readsUnit_164 (R := fun r h2 => r = some (vI 1) ∧ Q (some (vI 1)) h2) x3.1.1 (by omega) (m_tests (kd := 11) (nm := chAt t L (p + 1) - 48) (by omega) x3 q hl (Or.inr (Or.inr (Or.inr (Or.inr ⟨by omega, rfl, by omega, by omega⟩)))) hv3 hv3 (by omega) (fun h2 f2 q2 => ⟨rfl, ?_⟩)) ?_
        · refine k1 _ (p + 2 + 1) rfl h2 ((((fst h (p + 1)).tr (fst _ (p + 1 + 1))).tr f).tr f2) ?_
          have eu : (un (lf 11 (chAt t L (p + 1) - 48) (p + 2) (p + 2) (chAt t L (p + 2) - 120) (chAt t L (p + 2) - 120))).1 K = lk1 (chAt t L (p + 2) - 120) (p + 2) K := or2_s _
          rw [eu]; exact q2
        · rintro r h2 ⟨rfl, q2⟩
          exact bX11_readsUnit_172 rfl q2
      · rw [if_neg hv] at k0
        refine bX11_readsUnit_164 (R := fun r h2 => r = some (vI 0) ∧ uI (uI h 366 12 (nI (p + 1))) 366 12 (nI (p + 1 + 1)) = h2) hM.1 (by omega) (m_tests0 (Or.inl m7n) ⟨rfl, rfl⟩) ?_
        rintro r h2 ⟨rfl, rfl⟩
        exact bX11_readsUnit_172 rfl (k0 (p + 2) rfl _ ((fst h (p + 1)).tr (fst _ (p + 1 + 1))) (hI_uIs _ _ _ _))
    · rw [inB] at hj
      rw [if_neg hj] at k0
      exact bX11_readsUnit_144 (fun hq => absurd rfl hq) (fun _ => bX11_readsUnit_147 (k0 (p + 1) rfl _ (fst h (p + 1)) (hI_uIs _ _ _ _)))
  have n35 : ¬ chAt t L p = 35 := fun z => hz ((nx_v c0 (s := 35) (by decide)).mpr z)
  rw [if_neg n35] at k0 k1
  unfold szc at k0 k1
  -- a comparison
  refine bX11_readsUnit_173 (R := rV true h e t L p K u dp F A) hM.1 (by omega) (m_var (b := true) (by omega) x y hF hp) ?_
  rintro r h' (⟨hv, rfl, f, q⟩ | ⟨hv, rfl, rfl⟩)
  · rw [if_pos hv] at k0 k1
    have iv := isv_iff.mp hv
    have pL := isv_lt hcok hv
    have x1 := x.fa f
    have hv3 : chAt t L p - 120 < 3 := by omega
    have q : mpc h' e (p + 1) K (udf u dp F (lk1 (chAt t L p - 120) p K)).1 (udf u dp F (lk1 (chAt t L p - 120) p K)).2.1 (udf u dp F (lk1 (chAt t L p - 120) p K)).2.2 A := q
    have c1 := x.c127 (p + 1)
    refine bX11_readsUnit_178 (R := fun r h2 => r = some (vI (nx (chAt t L) (p + 1))) ∧ h' = h2) x1.1.1 (by omega) (m_next x1 q.2.1 (by omega) ⟨rfl, rfl⟩) ?_
    rintro r h2 ⟨rfl, rfl⟩
    have go : ∀ kd, (chAt t L (p + 1) = 61 ∧ kd = 9 ∨ chAt t L (p + 1) = 60 ∧ kd = 10) → vm_E mX11_readsUnit d cx n 202 [some (vR (some 366)), some (vI (nx (chAt t L) p)), some (vI (nI (chAt t L p - 120))), some (vI (nx (chAt t L) (p + 1)))] [] h' Q := by
      intro kd hkd
      have h61 : chAt t L (p + 1) = 61 ∨ chAt t L (p + 1) = 60 := by omega
      have ekd : (if chAt t L (p + 1) = 61 then 9 else 10) = kd := by
        rcases hkd with ⟨a, b⟩ | ⟨a, b⟩
        · rw [if_pos a, b]
        · rw [if_neg (by omega), b]
      rw [if_pos h61, ekd] at k1
      rw [if_pos h61] at k0
      have pL2 := hcok.lt (p := p + 1) (by omega)
      have enx : nx (chAt t L) (p + 1) = nI (chAt t L (p + 1)) := by unfold nx; rw [if_neg (by omega)]
      have y2 := q.at (p' := p + 1 + 1) (by omega)
      have x2 := x1.fa (fst h' (p + 1 + 1))
      refine bX11_readsUnit_202 (R := rV true (uI h' 366 12 (nI (p + 1 + 1))) e t L (p + 1 + 1) K _ _ _ A) x1.1.1 (by omega) (by rw [q.2.1, nI_1]; exact m_var (b := true) (by omega) x2 y2 (by rw [udf_len]; exact hF) (by omega)) ?_
      rw [enx]
      rintro r h2 (⟨hw, rfl, f2, q2⟩ | ⟨hw, rfl, rfl⟩)
      · rw [if_pos hw] at k1
        have iw := isv_iff.mp hw
        have x3 := x2.fa f2
        have hw3 : chAt t L (p + 1 + 1) - 120 < 3 := by omega
        have q2 : mpc h2 e (p + 1 + 1 + 1) K (udf (udf u dp F (lk1 (chAt t L p - 120) p K)).1 (udf u dp F (lk1 (chAt t L p - 120) p K)).2.1 (udf u dp F (lk1 (chAt t L p - 120) p K)).2.2 (lk1 (chAt t L (p + 1 + 1) - 120) (p + 1 + 1) K)).1 (udf (udf u dp F (lk1 (chAt t L p - 120) p K)).1 (udf u dp F (lk1 (chAt t L p - 120) p K)).2.1 (udf u dp F (lk1 (chAt t L p - 120) p K)).2.2 (lk1 (chAt t L (p + 1 + 1) - 120) (p + 1 + 1) K)).2.1 (udf (udf u dp F (lk1 (chAt t L p - 120) p K)).1 (udf u dp F (lk1 (chAt t L p - 120) p K)).2.1 (udf u dp F (lk1 (chAt t L p - 120) p K)).2.2 (lk1 (chAt t L (p + 1 + 1) - 120) (p + 1 + 1) K)).2.2 A := q2
        rw [udf_or] at q2
        refine bX11_readsUnit_220 (R := fun r h3 => r = some (vI 1) ∧ Q (some (vI 1)) h3) x3.1.1 (by omega) (m_tests (kd := kd) (nm := 0) (by omega) x3 q2 hl (by unfold chk; omega) hv3 hw3 (by omega) (fun h3 f3 q3 => ⟨rfl, ?_⟩)) ?_
        · refine k1 _ (p + 3) rfl h3 (((f.tr (fst h' (p + 1 + 1))).tr f2).tr f3) ?_
          rcases hkd with ⟨_, rfl⟩ | ⟨_, rfl⟩
          · exact q3
          · exact q3
        · rintro r h3 ⟨rfl, q3⟩
          exact bX11_readsUnit_223 rfl q3
      · rw [if_neg hw] at k0
        refine bX11_readsUnit_220 (R := fun r h3 => r = some (vI 0) ∧ uI h' 366 12 (nI (p + 1 + 1)) = h3) x1.1.1 (by omega) (m_tests0 (Or.inr m7n) ⟨rfl, rfl⟩) ?_
        rintro r h3 ⟨rfl, rfl⟩
        exact bX11_readsUnit_223 rfl (k0 (p + 2) rfl _ (f.tr (fst h' (p + 1 + 1))) (hI_uIs _ _ _ _))
    refine bX11_readsUnit_183 (fun hq => absurd hq (nI_pos (by omega))) (fun _ => bX11_readsUnit_188 (fun hq => go 9 (Or.inl ⟨(nx_v c1 (s := 61) (by decide)).mp hq, rfl⟩)) (fun hq1 => bX11_readsUnit_194 (fun hq => go 10 (Or.inr ⟨(nx_v c1 (s := 60) (by decide)).mp hq, rfl⟩)) (fun hq2 => bX11_readsUnit_200 ?_)))
    have hno : ¬ (chAt t L (p + 1) = 61 ∨ chAt t L (p + 1) = 60) := by
      rintro (z | z)
      · exact hq1 ((nx_v c1 (s := 61) (by decide)).mpr z)
      · exact hq2 ((nx_v c1 (s := 60) (by decide)).mpr z)
    rw [if_neg hno] at k0
    exact k0 (p + 1) rfl h' f q.2.1
  · rw [if_neg hv] at k0
    refine bX11_readsUnit_178 (R := fun r h2 => r = some (vI (nx (chAt t L) p)) ∧ h = h2) hM.1 (by omega) (m_next x y.2.1 (by omega) ⟨rfl, rfl⟩) ?_
    rintro r h2 ⟨rfl, rfl⟩
    exact bX11_readsUnit_183 (fun _ => bX11_readsUnit_200 (k0 p rfl h fa.rf y.2.1)) (fun hq => absurd m7n hq)
end
