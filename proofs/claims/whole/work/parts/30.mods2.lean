/-! ===== the reference's simple methods, continued ===== -/
def mF (h h' : vH) : Prop := fr (fun r => 366 ≤ r) h h'
theorem m_setIndividuals {d c n : Nat} {h : vH} {S : Nat → Int32} {H : List (Nat → Int32)} {t : Nat → Nat} {L : Nat} {Q : vQ} {x : Int32} (hd : 1 ≤ d) (hR0 : mR h S H t L) (k : ∀ h', mF h h' → mR h' (f_setIndividuals x S H).2.1 (f_setIndividuals x S H).2.2 t L → Q (some (vI (f_setIndividuals x S H).1)) h') : vm_C mX11_setIndividuals d c n [vR (some 366), vI x] h Q := by
  obtain ⟨hM, hs, hh, ht⟩ := hR0
  refine bX11_setIndividuals_0 (R := rB h (inr x 1 3) (¬ inr x 1 3)) hd (m_in (a := 1) (b := 3) (by decide) (by decide)) ?_
  rintro r h' ⟨rfl, ⟨hz, rfl⟩ | ⟨hz, rfl⟩⟩
  · have yes : f_setIndividuals x S H = (S 0, setN S x, push5 H S) := by exact cif_t hz
    rw [yes] at k
    refine bX11_setIndividuals_6 (fun _ => ?_) (fun hc => absurd (by decide +kernel) hc)
    refine bX11_setIndividuals_11 (R := fun r h' => r = none ∧ fm (fun r j => r = 366 ∧ j = 2 ∨ r = 368) h h' ∧ mh h' (push5 H S)) hM.1 hd (m_acts hM hs hh (fun h' f q => ⟨rfl, f, q⟩)) ?_
    rintro r h' ⟨rfl, f, q⟩
    have hM' := hM.fm f
    have hs' : mS h' S := hs.fm f (fun r j z => by omega)
    have ht' : mtx h' t L := ht.fm f (fun r j z => by omega)
    refine bX11_setIndividuals_15 (b2 := 367) (n_b2 := 25) (b3 := 367) (n_b3 := 25) hM'.1 hM'.s.1 hM'.s.2 (vp_in_nI (n := 0) (by decide) (by decide)) hM'.s.1 hM'.s.2 (vp_in_nI (n := 0) (by decide) (by decide)) ?_
    rw [show Int32.toNatClampNeg 0 = 0 from rfl, hs' 0 (by decide)]
    have f2 : ∀ i, fm (fun r j => r = 367) h' (qI (uI h' 367 0 x) 367 1 i (fun _ => 0)) := fun i => ((fm_uI h' 367 0 x).mono (fun r j z => z.1)).tr ((fm_qI _ 367 1 i _).mono (fun r j z => z.1))
    have hs2 : mS (qI (uI h' 367 0 x) 367 1 5 (fun _ => 0)) (fun j => if j = 0 then x else if j < 6 then 0 else S j) := by
      intro i hi
      rw [hI_qI, hI_uI, hs' i hi]
      by_cases h0 : i = 0
      · subst h0; rfl
      · show _ = if i = 0 then x else if i < 6 then 0 else S i
        rw [if_neg h0, if_neg (show ¬ (367 = 367 ∧ i = 0) from fun z => h0 z.2)]
        by_cases h6 : i < 6
        · rw [if_pos ⟨rfl, by omega, by omega⟩, if_pos h6]
        · rw [if_neg (by omega), if_neg h6]
    have g0 := vl_down 5 (fun i => vm_E mX11_setIndividuals d c n 31 [some (vR (some 366)), some (vI x), some (vI (S 0)), some (vI (nI (1 + i)))] [] (qI (uI h' 367 0 x) 367 1 i (fun _ => 0)) Q) (bX11_setIndividuals_31 (fun _ => ?_) (fun hn => absurd (by decide +kernel) hn)) (fun i hi ih => by
      rw [← qI_s] at ih
      refine bX11_setIndividuals_31 (fun hc => absurd hc (nI_ge (a := 1 + i) (b := 6) (by omega) (by decide))) (fun _ => ?_)
      have hM2 := hM'.fm (f2 i)
      refine bX11_setIndividuals_37 (b2 := 367) (n_b2 := 25) hM2.1 hM2.s.1 hM2.s.2 (vp_in_nI (by omega) (by decide)) ?_
      rw [cs (show 1 + i < _ by omega), nI_1]
      exact ih)
    · rw [qI_0] at g0; exact g0
    · have hM2 := hM'.fm (f2 5)
      refine bX11_setIndividuals_50 (R := fun r h2 => r = none ∧ fstM (qI (uI h' 367 0 x) 367 1 5 (fun _ => 0)) = h2) hM2.1 hd (m_first hM2 ⟨rfl, rfl⟩) ?_
      rintro r h2 ⟨rfl, rfl⟩
      have f3 := (f2 5).tr (fm_first _)
      refine bX11_setIndividuals_54 (k _ ((f.fr (B := fun r => 366 ≤ r) (fun r j z => by omega)).tr (f3.fr (B := fun r => 366 ≤ r) (fun r j z => by omega)) |>.mono (fun r z => by omega)) ⟨hM'.fm f3, mS_first hs2, q.fm f3 (fun r j z => by omega), ht'.fm f3 (fun r j z => by omega)⟩)
  · have no : f_setIndividuals x S H = (-1, S, H) := by exact cif_f hz
    rw [no] at k
    exact bX11_setIndividuals_6 (fun hc => absurd rfl hc) (fun _ => bX11_setIndividuals_9 (k h fr.rf ⟨hM, hs, hh, ht⟩))
theorem m_one {h : vH} {S : Nat → Int32} {H : List (Nat → Int32)} {t : Nat → Nat} {L : Nat} {i : Nat} {y : Int32} (hM : LM h) (hs : mS h S) (hh : mh h H) (ht : mtx h t L) : mR (uI h 367 i y) (putV S i y) H t L := by
  have f := fm_uI h 367 i y
  refine ⟨hM.fm f, fun j hj => ?_, hh.fm f (fun r j z => by omega), ht.fm f (fun r j z => by omega)⟩
  rw [hI_uI, hs j hj]
  unfold putV
  by_cases hji : j = i
  · rw [if_pos ⟨rfl, hji⟩, if_pos hji]
  · rw [if_neg (fun z => hji z.2), if_neg hji]
theorem mF_one {h h' : vH} {i : Nat} {y : Int32} (f : fm (fun r j => r = 366 ∧ j = 2 ∨ r = 368) h h') : mF h (uI h' 367 i y) :=
  ((f.fr (B := fun r => 366 ≤ r) (fun r j z => by omega)).tr ((fm_uI h' 367 i y).fr (B := fun r => 366 ≤ r) (fun r j z => by omega))).mono (fun r z => by omega)
theorem m_setPredicate {d c n : Nat} {h : vH} {S : Nat → Int32} {H : List (Nat → Int32)} {t : Nat → Nat} {L : Nat} {Q : vQ} {x y : Int32} (hd : 1 ≤ d) (hR0 : mR h S H t L) (hS : Sok S) (k : ∀ h', mF h h' → mR h' (f_setPredicate x y S H).2.1 (f_setPredicate x y S H).2.2 t L → Q (some (vI (f_setPredicate x y S H).1)) h') : vm_C mX11_setPredicate d c n [vR (some 366), vI x, vI y] h Q := by
  have e0 := hR0.n hS
  have hn := hS.n
  have hp : 1 ≤ 2 ^ nS S ∧ 2 ^ nS S ≤ 8 := (by decide : ∀ m, m < 4 → 1 ≤ 2 ^ m ∧ 2 ^ m ≤ 8) _ (by omega)
  have no : ¬ (ix x 3 ∧ ix y (2 ^ nS S)) → Q (some (vI (-1))) h := fun hno => by
    have t1 := k h fr.rf
    unfold f_setPredicate at t1
    rw [cif_f hno] at t1
    exact t1 hR0
  obtain ⟨hM, hs, hh, ht⟩ := hR0
  refine bX11_setPredicate_0 (R := rB h (ix x 3) (¬ ix x 3)) hd (m_ix (N := 3) (by decide) (by decide)) ?_
  rintro r h' ⟨rfl, ⟨hz, rfl⟩ | ⟨hz, rfl⟩⟩
  · refine bX11_setPredicate_6 (fun hc => absurd hc (by decide +kernel)) (fun _ => ?_)
    refine bX11_setPredicate_9 (R := fun r h' => r = some (vI (nI (2 ^ nS S - 1))) ∧ h = h') hM.1 hd (m_full hM (by omega) e0 ⟨rfl, rfl⟩) ?_
    rintro r h' ⟨rfl, rfl⟩
    refine bX11_setPredicate_15 (R := rB h (ix y (2 ^ nS S)) (¬ ix y (2 ^ nS S))) hd (m_ix (by omega) (by omega)) ?_
    rintro r h' ⟨rfl, ⟨hy, rfl⟩ | ⟨hy, rfl⟩⟩
    · have yes : f_setPredicate x y S H = (S (1 + x.toNatClampNeg), putV S (1 + x.toNatClampNeg) y, push5 H S) := by unfold f_setPredicate; rw [cif_t ⟨hz, hy⟩]
      rw [yes] at k
      obtain ⟨i, hi, rfl⟩ := hz
      rw [cs (show i < _ by omega)] at k
      refine bX11_setPredicate_18 (fun _ => ?_) (fun hc => absurd (by decide +kernel) hc)
      refine bX11_setPredicate_23 (R := fun r h' => r = none ∧ fm (fun r j => r = 366 ∧ j = 2 ∨ r = 368) h h' ∧ mh h' (push5 H S)) hM.1 hd (m_acts hM hs hh (fun h' f q => ⟨rfl, f, q⟩)) ?_
      rintro r h' ⟨rfl, f, q⟩
      have hM' := hM.fm f
      have hs' : mS h' S := hs.fm f (fun r j z => by omega)
      have ht' : mtx h' t L := ht.fm f (fun r j z => by omega)
      have e1 : 1 + nI i = nI (1 + i) := by rw [show (1 : Int32) = nI 1 from rfl, nI_add]
      refine bX11_setPredicate_27 (b2 := 367) (n_b2 := 25) (b3 := 367) (n_b3 := 25) hM'.1 hM'.s.1 hM'.s.2 (by rw [e1]; exact vp_in_nI (by omega) (by decide)) hM'.s.1 hM'.s.2 (by rw [e1]; exact vp_in_nI (by omega) (by decide)) ?_
      rw [e1, cs (show 1 + i < _ by omega), hs' _ (by omega)]
      exact k _ (mF_one f) (m_one hM' hs' q ht')
    · exact bX11_setPredicate_18 (fun hc => absurd rfl hc) (fun _ => bX11_setPredicate_21 (no (fun z => hy z.2)))
  · exact bX11_setPredicate_6 (fun _ => bX11_setPredicate_21 (no (fun z => hz z.1))) (fun hc => absurd rfl hc)
theorem prV_m {S : Nat → Int32} (hS : Sok S) {i p q s : Nat} (hi : i < 2) (hp : p < 3) (hq : q < 3) (hs : s < 2) : ((S (4 + i)) &&& (((1 : Int32) <<< (nI (3 * p + q) &&& (31 : Int32))) ^^^ (-1))) ||| (nI s <<< (nI (3 * p + q) &&& (31 : Int32))) = nI (mkN (fun j => if j = 3 * p + q then decide (nI s = 1) else bI (S (4 + i)) j) 9) := by
  have hn : 3 * p + q < 32 := by omega
  have hd : decide (nI s = 1) = decide (s = 1) := by
    have : s = 0 ∨ s = 1 := by omega
    rcases this with rfl | rfl <;> decide
  rw [hd]
  have hb1 : ∀ j, j < 32 → bI ((1 : Int32) <<< (nI (3 * p + q) &&& (31 : Int32))) j = decide (j = 3 * p + q) := by
    intro j hj
    rw [bI_shl hn _ hj]
    by_cases hle : 3 * p + q ≤ j
    · rw [decide_eq_true hle, Bool.true_and, bI_1 _ (by omega)]
      congr 1; exact propext ⟨fun z => by omega, fun z => by omega⟩
    · rw [decide_eq_false hle, Bool.false_and, decide_eq_false (by omega)]
  have hbs : ∀ j, j < 32 → bI (nI s <<< (nI (3 * p + q) &&& (31 : Int32))) j = (decide (j = 3 * p + q) && decide (s = 1)) := by
    intro j hj
    have : s = 0 ∨ s = 1 := by omega
    rw [bI_shl hn _ hj]
    by_cases hle : 3 * p + q ≤ j
    · rw [decide_eq_true hle, Bool.true_and]
      rcases this with rfl | rfl
      · rw [show nI 0 = 0 from rfl, bI_0]; simp
      · rw [show nI 1 = 1 from rfl, bI_1 _ (by omega), decide_eq_true (show (1 : Nat) = 1 from rfl), Bool.and_true]
        congr 1; exact propext ⟨fun z => by omega, fun z => by omega⟩
    · rw [decide_eq_false hle, Bool.false_and, decide_eq_false (show ¬ j = 3 * p + q by omega), Bool.false_and]
  have hx : ∀ j, j < 32 → bI (((S (4 + i)) &&& (((1 : Int32) <<< (nI (3 * p + q) &&& (31 : Int32))) ^^^ (-1))) ||| (nI s <<< (nI (3 * p + q) &&& (31 : Int32)))) j = if j = 3 * p + q then decide (s = 1) else bI (S (4 + i)) j := by
    intro j hj
    rw [bI_or, bI_and, bI_xor, bI_m1 hj, hb1 j hj, hbs j hj]
    by_cases hjk : j = 3 * p + q
    · rw [if_pos hjk, decide_eq_true hjk]; simp
    · rw [if_neg hjk, decide_eq_false hjk]; simp
  exact prV_r hS hi hp hq hx
theorem m_setPair {d c n : Nat} {h : vH} {S : Nat → Int32} {H : List (Nat → Int32)} {t : Nat → Nat} {L : Nat} {Q : vQ} {x a b z : Int32} (hd : 1 ≤ d) (hR0 : mR h S H t L) (hS : Sok S) (k : ∀ h', mF h h' → mR h' (f_setPair x a b z S H).2.1 (f_setPair x a b z S H).2.2 t L → Q (some (vI (f_setPair x a b z S H).1)) h') : vm_C mX11_setPair d c n [vR (some 366), vI x, vI a, vI b, vI z] h Q := by
  have e0 := hR0.n hS
  have hn := hS.n
  have em : nI (nS S) - 1 = nI (nS S - 1) := by
    rw [show nS S = (nS S - 1) + 1 by omega, nI_pred]; rfl
  have no : ¬ (ix x 2 ∧ ix a (nS S) ∧ ix b (nS S) ∧ ix z 2) → Q (some (vI (-1))) h := fun hno => by
    have t1 := k h fr.rf
    unfold f_setPair at t1
    rw [cif_f hno] at t1
    exact t1 hR0
  obtain ⟨hM, hs, hh, ht⟩ := hR0
  refine bX11_setPair_0 (R := rB h (ix x 2) (¬ ix x 2)) hd (m_ix (N := 2) (by decide) (by decide)) ?_
  rintro r h' ⟨rfl, ⟨hx, rfl⟩ | ⟨hx, rfl⟩⟩
  · refine bX11_setPair_6 (fun hc => absurd hc (by decide +kernel)) (fun _ => ?_)
    refine bX11_setPair_9 (b2 := 367) (n_b2 := 25) (R := rB h (ix a (nS S)) (¬ ix a (nS S))) hM.1 hM.s.1 hM.s.2 (vp_in_nI (n := 0) (by decide) (by decide)) hd (by
      rw [show Int32.toNatClampNeg 0 = 0 from rfl, e0, em]; exact m_ix (by omega) (by omega)) ?_
    rintro r h' ⟨rfl, ⟨ha, rfl⟩ | ⟨ha, rfl⟩⟩
    · refine bX11_setPair_22 (fun hc => absurd hc (by decide +kernel)) (fun _ => ?_)
      refine bX11_setPair_25 (b2 := 367) (n_b2 := 25) (R := rB h (ix b (nS S)) (¬ ix b (nS S))) hM.1 hM.s.1 hM.s.2 (vp_in_nI (n := 0) (by decide) (by decide)) hd (by
        rw [show Int32.toNatClampNeg 0 = 0 from rfl, e0, em]; exact m_ix (by omega) (by omega)) ?_
      rintro r h' ⟨rfl, ⟨hb, rfl⟩ | ⟨hb, rfl⟩⟩
      · refine bX11_setPair_38 (fun hc => absurd hc (by decide +kernel)) (fun _ => ?_)
        refine bX11_setPair_41 (R := rB h (ix z 2) (¬ ix z 2)) hd (m_ix (N := 2) (by decide) (by decide)) ?_
        rintro r h' ⟨rfl, ⟨hz, rfl⟩ | ⟨hz, rfl⟩⟩
        · refine bX11_setPair_48 (fun _ => ?_) (fun hc => absurd (by decide +kernel) hc)
          have yes : f_setPair x a b z S H = ((if bI (S (4 + x.toNatClampNeg)) (3 * a.toNatClampNeg + b.toNatClampNeg) then 1 else 0), prV S x a b z, push5 H S) := by unfold f_setPair; rw [cif_t ⟨hx, ha, hb, hz⟩]
          rw [yes] at k
          unfold prV at k
          obtain ⟨i, hi, rfl⟩ := hx
          obtain ⟨p, hp, rfl⟩ := ha
          obtain ⟨q, hq, rfl⟩ := hb
          obtain ⟨s, hs2, rfl⟩ := hz
          rw [cs (show i < _ by omega), cs (show p < _ by omega), cs (show q < _ by omega), ← prV_m hS hi (by omega) (by omega) hs2] at k
          refine bX11_setPair_53 (R := fun r h' => r = none ∧ fm (fun r j => r = 366 ∧ j = 2 ∨ r = 368) h h' ∧ mh h' (push5 H S)) hM.1 hd (m_acts hM hs hh (fun h' f q => ⟨rfl, f, q⟩)) ?_
          rintro r h' ⟨rfl, f, w⟩
          have hM' := hM.fm f
          have hs' : mS h' S := hs.fm f (fun r j z => by omega)
          have ht' : mtx h' t L := ht.fm f (fun r j z => by omega)
          have e1 : 4 + nI i = nI (4 + i) := by rw [show (4 : Int32) = nI 4 from rfl, nI_add]
          have e2 : 3 * nI p + nI q = nI (3 * p + q) := by rw [li_3, mulI, nI_add]
          have hv : vp_in (4 + nI i) 25 := by rw [e1]; exact vp_in_nI (by omega) (by decide)
          refine bX11_setPair_57 (b2 := 367) (n_b2 := 25) (b3 := 367) (b4 := 367) (n_b4 := 25) (n_b3 := 25) hM'.1 hM'.s.1 hM'.s.2 hv hM'.s.1 hM'.s.1 hM'.s.2 hv hM'.s.2 hv ?_
          rw [e1, cs (show 4 + i < _ by omega), hs' _ (by omega), e2]
          have ew : ((S (4 + i) >>> (nI (3 * p + q) &&& 31)) &&& 1) = if bI (S (4 + i)) (3 * p + q) then 1 else 0 := by
            cases eb : bI (S (4 + i)) (3 * p + q)
            · exact (bI_st (by omega) _).mpr eb
            · exact (bI_st1 (by omega) _).mpr eb
          rw [ew]
          exact k _ (mF_one f) (m_one hM' hs' w ht')
        · exact bX11_setPair_48 (fun hc => absurd rfl hc) (fun _ => bX11_setPair_51 (no (fun w => hz w.2.2.2)))
      · exact bX11_setPair_38 (fun _ => bX11_setPair_51 (no (fun w => hb w.2.2.1))) (fun hc => absurd rfl hc)
    · exact bX11_setPair_22 (fun _ => bX11_setPair_51 (no (fun w => ha w.2.1))) (fun hc => absurd rfl hc)
  · exact bX11_setPair_6 (fun _ => bX11_setPair_51 (no (fun w => hx w.1))) (fun hc => absurd rfl hc)
theorem m_individuals {d c n : Nat} {h : vH} {S : Nat → Int32} {H : List (Nat → Int32)} {t : Nat → Nat} {L : Nat} {Q : vQ} (hR0 : mR h S H t L) (k : Q (some (vI (S 0))) h) : vm_C mX11_individuals d c n [vR (some 366)] h Q := by
  obtain ⟨hM, hs, hh, ht⟩ := hR0
  refine bX11_individuals_0 (b2 := 367) (n_b2 := 25) hM.1 hM.s.1 hM.s.2 (vp_in_nI (n := 0) (by decide) (by decide)) ?_
  rw [show Int32.toNatClampNeg 0 = 0 from rfl, hs 0 (by decide)]; exact k
theorem m_known {d c n : Nat} {h : vH} {S : Nat → Int32} {H : List (Nat → Int32)} {t : Nat → Nat} {L : Nat} {Q : vQ} (hR0 : mR h S H t L) (k : Q (some (vI (S 7))) h) : vm_C mX11_known d c n [vR (some 366)] h Q := by
  obtain ⟨hM, hs, hh, ht⟩ := hR0
  refine bX11_known_0 (b2 := 367) (n_b2 := 25) hM.1 hM.s.1 hM.s.2 (vp_in_nI (n := 7) (by decide) (by decide)) ?_
  rw [show Int32.toNatClampNeg 7 = 7 from rfl, hs 7 (by decide)]; exact k
theorem m_predicate {d c n : Nat} {h : vH} {S : Nat → Int32} {H : List (Nat → Int32)} {t : Nat → Nat} {L : Nat} {Q : vQ} {x : Int32} (hd : 1 ≤ d) (hR0 : mR h S H t L) (k : Q (some (vI (f_predicate x S))) h) : vm_C mX11_predicate d c n [vR (some 366), vI x] h Q := by
  obtain ⟨hM, hs, hh, ht⟩ := hR0
  refine bX11_predicate_0 (R := rB h (ix x 3) (¬ ix x 3)) hd (m_ix (N := 3) (by decide) (by decide)) ?_
  unfold f_predicate at k
  rintro r h' ⟨rfl, ⟨hz, rfl⟩ | ⟨hz, rfl⟩⟩
  · rw [cif_t hz] at k
    obtain ⟨i, hi, rfl⟩ := hz
    rw [cs (show i < _ by omega)] at k
    have e1 : 1 + nI i = nI (1 + i) := by rw [show (1 : Int32) = nI 1 from rfl, nI_add]
    refine bX11_predicate_6 (fun hc => absurd hc (by decide +kernel)) (fun _ => bX11_predicate_9 (b2 := 367) (n_b2 := 25) hM.1 hM.s.1 hM.s.2 (by rw [e1]; exact vp_in_nI (by omega) (by decide)) (bX11_predicate_21 ?_))
    rw [e1, cs (show 1 + i < _ by omega), hs _ (by omega)]; exact k
  · rw [cif_f hz] at k
    exact bX11_predicate_6 (fun _ => bX11_predicate_20 (bX11_predicate_21 k)) (fun hc => absurd rfl hc)
theorem m_relationHolds {d c n : Nat} {h : vH} {S : Nat → Int32} {H : List (Nat → Int32)} {t : Nat → Nat} {L : Nat} {Q : vQ} {x a b : Int32} (hd : 2 ≤ d) (hR0 : mR h S H t L) (hS : Sok S) (k : Q (some (vI (f_relationHolds x a b S))) h) : vm_C mX11_relationHolds d c n [vR (some 366), vI x, vI a, vI b] h Q := by
  have e0 := hR0.n hS
  have hn := hS.n
  have hp : 2 ^ nS S ≤ 8 := (by decide : ∀ m, m < 4 → 2 ^ m ≤ 8) _ (by omega)
  have no : ¬ (ix x 2 ∧ ob a (nS S) ∧ ob b (nS S)) → Q (some (vI (-1))) h := fun hno => by
    unfold f_relationHolds at k; rw [cif_f hno] at k; exact k
  obtain ⟨hM, hs, hh, ht⟩ := hR0
  refine bX11_relationHolds_0 (R := rB h (ix x 2) (¬ ix x 2)) (by omega) (m_ix (N := 2) (by decide) (by decide)) ?_
  rintro r h' ⟨rfl, ⟨hx, rfl⟩ | ⟨hx, rfl⟩⟩
  · refine bX11_relationHolds_6 (fun hc => absurd hc (by decide +kernel)) (fun _ => bX11_relationHolds_9 hM.1 (by omega) (m_isObject (by omega) hM (by omega) e0) ?_)
    rintro r h' ⟨rfl, ⟨ha, rfl⟩ | ⟨ha, rfl⟩⟩
    · refine bX11_relationHolds_14 (fun hc => absurd hc (by decide +kernel)) (fun _ => bX11_relationHolds_17 hM.1 (by omega) (m_isObject (by omega) hM (by omega) e0) ?_)
      rintro r h' ⟨rfl, ⟨hb, rfl⟩ | ⟨hb, rfl⟩⟩
      · unfold f_relationHolds at k
        rw [cif_t ⟨hx, ha, hb⟩] at k
        obtain ⟨i, hi, rfl⟩ := hx
        obtain ⟨p, hp1, hp2, rfl⟩ := ha
        obtain ⟨q, hq1, hq2, rfl⟩ := hb
        obtain ⟨r, hr, hr2⟩ := hS.2.2.1 i hi
        rw [cs (show i < _ by omega), cs (show p < _ by omega), cs (show q < _ by omega), hr, cs (show r < _ by omega)] at k
        refine bX11_relationHolds_22 (fun _ => ?_) (fun hc => absurd (by decide +kernel) hc)
        refine bX11_relationHolds_27 (R := fun r' h' => r' = some (vI (if relN r p q then 1 else 0)) ∧ h = h') hM.1 (by omega) (m_holds hM hi (by rw [hs _ (by omega), hr]) (by omega) (by omega) ⟨rfl, rfl⟩) ?_
        rintro r' h' ⟨rfl, rfl⟩
        cases e : relN r p q
        · rw [e] at k
          exact bX11_relationHolds_34 (fun _ => bX11_relationHolds_41 (bX11_relationHolds_42 k)) (fun hc => absurd rfl hc)
        · rw [e] at k
          exact bX11_relationHolds_34 (fun hc => absurd hc (by decide +kernel)) (fun _ => bX11_relationHolds_37 (bX11_relationHolds_42 k))
      · exact bX11_relationHolds_22 (fun hc => absurd rfl hc) (fun _ => bX11_relationHolds_25 (no (fun z => hb z.2.2)))
    · exact bX11_relationHolds_14 (fun _ => bX11_relationHolds_25 (no (fun z => ha z.2.1))) (fun hc => absurd rfl hc)
  · exact bX11_relationHolds_6 (fun _ => bX11_relationHolds_25 (no (fun z => hx z.1))) (fun hc => absurd rfl hc)
