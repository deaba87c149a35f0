/-! ===== the constructors: history, parser ===== -/
section
variable {d c n a : Nat} {h : vH} {Q : vQ}
theorem k_X3 (hd : 1 ≤ d) (k : Q none h) : vm_C mX3_init d c n [vR (some a)] h Q := bX3_init_0 hd (bX3_init_4 k)
theorem k_X4 (hd : 1 ≤ d) {r1 : Option Nat} (g : (hK h)[a]? = some (4, 0)) (k : Q none (uR h a 0 r1)) : vm_C mX4_init d c n [vR (some a), vR r1] h Q := bX4_init_0 hd (bX4_init_4 g k)
theorem k_X2 (hd : 4 ≤ d) (g : (hK h)[7]? = some (2, 0)) (eN : (hK h).length = 8) (hc : 31 ≤ c) (hn : 115 ≤ n) (k : ∀ h', gr 7 h h' → (hK h').length = 39 → isH h' → hI h' 7 = hI h 7 → Q none h') : vm_C mX2_init d c n [vR (some 7)] h Q := by
  obtain ⟨z1, z2, -, -⟩ := uN_new h (24, 5) eN
  have F1 : gr 7 h (uN h (24, 5)) := gr_uN 7 h (24, 5)
  have r1 := (gr_uN 8 h (24, 5)).row g (by decide)
  have g1 := F1.k g
  refine bX2_init_0 (by omega) (bX2_init_4 (by omega) (by omega) ?_)
  rw [eN]
  refine bX2_init_9 g1 ?_
  have loop := vl_down 5 (fun i => ∀ (u : vH) (c' n' : Nat), 6 * (5 - i) ≤ c' → 22 * (5 - i) ≤ n' → gr 7 h u → (hK u).length = 9 + 6 * i → hI u 7 = hI h 7 → (hK u)[7]? = some (2, 0) → hR u 7 0 = some 8 → (hK u)[8]? = some (24, 5) → (∀ q, q < i → hR u 8 q = some (9 + 6 * q) ∧ isSt u (9 + 6 * q)) → vm_E mX2_init d c' n' 14 [some (vR (some 7)), some (vI (nI i))] [] u Q)
    (fun u c' n' _ _ F l e7 g7 e70 g8 q => bX2_init_14 (fun _ => bX2_init_38 (k u F l ⟨g7, e70, g8, q⟩ e7)) (fun hz => absurd (by decide +kernel) hz))
    (fun i hi ih u c' n' hc' hn' F l e7 g7 e70 g8 q => by
      refine bX2_init_14 (fun hz => absurd hz (nI_ge (a := i) (b := 5) hi (by decide))) (fun _ => bX2_init_19 g7 (by omega) (by omega) ?_)
      obtain ⟨z1, z2, -, -⟩ := uN_new u (7, 0) l
      rw [l, e70]
      have f1 := gr_uN (9 + 6 * i) u (7, 0)
      have F1 := F.tr f1 (Or.inr (by omega))
      have a7 := f1.row g7 (by omega)
      have a8 := f1.row g8 (by omega)
      have g71 := f1.k g7
      have g81 := f1.k g8
      have q1 : ∀ p, p < i → hR (uN u (7, 0)) 8 p = some (9 + 6 * p) ∧ isSt (uN u (7, 0)) (9 + 6 * p) := fun p hp => ⟨by rw [a8.2.2]; exact (q p hp).1, (q p hp).2.g f1 (by omega)⟩
      have e71 : hI (uN u (7, 0)) 7 = hI h 7 := a7.1.trans e7
      have e701 : hR (uN u (7, 0)) 7 0 = some 8 := by rw [a7.2.2]; exact e70
      generalize uN u (7, 0) = u1 at z1 z2 F1 g71 g81 q1 e71 e701 ⊢
      refine bX2_init_27 (c1 := 5) (n1 := 17) (R := fun r h' => r = none ∧ gr (9 + 6 * i) u1 h' ∧ (hK h').length = 9 + 6 * i + 6 ∧ isSt h' (9 + 6 * i)) (by omega) (by omega) (by omega) (k_X7 (by omega) z2 z1 (by omega) (by omega) (fun h' f l s _ _ _ _ _ _ => ⟨rfl, f, l, s⟩)) ?_
      rintro r u2 ⟨rfl, f2, l2, s2⟩
      have F2 := F1.tr f2 (Or.inr (by omega))
      have b7 := f2.row g71 (by omega)
      have b8 := f2.row g81 (by omega)
      refine bX2_init_31 (Or.inl ⟨rfl, rfl⟩) (f2.k g81) (vp_in_nI hi (by decide)) s2.1 ?_
      rw [cs (by omega), nI_1]
      have f3 := gr_uR u2 8 i (some (9 + 6 * i))
      refine ih _ _ _ (by omega) (by omega) (F2.tr f3 (Or.inr (by omega))) ?_ ?_ (f2.k g71) ?_ (f2.k g81) (fun p hp => ?_)
      · show (hK u2).length = _
        omega
      · show hI u2 7 = _
        rw [b7.1]; exact e71
      · rw [((f3.row (f2.k g71) (by decide)).2.2), b7.2.2]; exact e701
      · by_cases hpi : p = i
        · rw [hpi]; exact ⟨hR_uRs _ _ _ _, s2.g f3 (by omega)⟩
        · exact ⟨by rw [hR_uRk _ _ _ hpi, b8.2.2]; exact (q1 p (by omega)).1, ((q1 p (by omega)).2.g f2 (by omega)).g f3 (by omega)⟩)
  have f2 := gr_uR (uN h (24, 5)) 7 0 (some 8)
  exact loop _ _ _ (by omega) (by omega) (F1.tr f2 (Or.inl rfl)) z1 r1.1 g1 (hR_uRs _ _ _ _) z2 (fun q hq => absurd hq (Nat.not_lt_zero q))
theorem k_X6 (hd : 3 ≤ d) (g : (hK h)[41]? = some (6, 0)) (eN : (hK h).length = 42) (hc : 311 ≤ c) (hn : 1922 ≤ n) (k : ∀ h', gr 41 h h' → (hK h').length = 353 → LPx h' → Q none h') : vm_C mX6_init d c n [vR (some 41), vR (some 39)] h Q := by
  obtain ⟨z1, z2, -, -⟩ := uN_new h (25, 62) eN
  have F1 : gr 41 h (uN h (25, 62)) := gr_uN 41 h (25, 62)
  have g1 := F1.k g
  refine bX6_init_0 (by omega) (bX6_init_4 (by omega) (by omega) ?_)
  rw [eN]
  refine bX6_init_10 g1 g1 ?_
  have loop := vl_down 62 (fun i => ∀ (u : vH) (c' n' : Nat), 5 * (62 - i) ≤ c' → 30 * (62 - i) ≤ n' → gr 41 h u → (hK u).length = 43 + 5 * i → (hK u)[41]? = some (6, 0) → hR u 41 0 = some 39 → hR u 41 1 = some 42 → (hK u)[42]? = some (25, 62) → (∀ q, q < i → hR u 42 q = some (43 + 5 * q) ∧ isN u q) → vm_E mX6_init d c' n' 20 [some (vR (some 41)), some (vR (some 39)), some (vI (nI i))] [] u Q)
    (fun u c' n' _ _ F l g7 e0 e70 g8 q => bX6_init_20 (fun _ => bX6_init_45 (k u F l ⟨g7, e0, e70, g8, q⟩)) (fun hz => absurd (by decide +kernel) hz))
    (fun i hi ih u c' n' hc' hn' F l g7 e0 e70 g8 q => by
      refine bX6_init_20 (fun hz => absurd hz (nI_ge (a := i) (b := 62) hi (by decide))) (fun _ => bX6_init_26 g7 (by omega) (by omega) ?_)
      obtain ⟨z1, z2, -, -⟩ := uN_new u (5, 0) l
      rw [l, e70]
      have f1 := gr_uN (43 + 5 * i) u (5, 0)
      have F1 := F.tr f1 (Or.inr (by omega))
      have a7 := f1.row g7 (by omega)
      have a8 := f1.row g8 (by omega)
      have g71 := f1.k g7
      have g81 := f1.k g8
      have q1 : ∀ p, p < i → hR (uN u (5, 0)) 42 p = some (43 + 5 * p) ∧ isN (uN u (5, 0)) p := fun p hp => ⟨by rw [a8.2.2]; exact (q p hp).1, (q p hp).2.g f1 (by omega)⟩
      have e01 : hR (uN u (5, 0)) 41 0 = some 39 := by rw [a7.2.2]; exact e0
      have e701 : hR (uN u (5, 0)) 41 1 = some 42 := by rw [a7.2.2]; exact e70
      generalize uN u (5, 0) = u1 at z1 z2 F1 g71 g81 q1 e01 e701 ⊢
      refine bX6_init_34 (c1 := 4) (n1 := 18) (R := fun r h' => r = none ∧ gr (43 + 5 * i) u1 h' ∧ (hK h').length = 43 + 5 * i + 5 ∧ isN h' i) (by omega) (by omega) (by omega) (k_X5 (by omega) z2 z1 (by omega) (by omega) (fun h' f l w1 w2 w3 w4 w5 => ⟨rfl, f, l, w1, w2, w3, w4, w5⟩)) ?_
      rintro r u2 ⟨rfl, f2, l2, s2⟩
      have F2 := F1.tr f2 (Or.inr (by omega))
      have b7 := f2.row g71 (by omega)
      have b8 := f2.row g81 (by omega)
      refine bX6_init_38 (Or.inr ⟨rfl, rfl⟩) (f2.k g81) (vp_in_nI hi (by decide)) s2.1 ?_
      rw [cs (by omega), nI_1]
      have f3 := gr_uR u2 42 i (some (43 + 5 * i))
      have b73 := f3.row (f2.k g71) (by decide)
      refine ih _ _ _ (by omega) (by omega) (F2.tr f3 (Or.inr (by omega))) ?_ (f2.k g71) ?_ ?_ (f2.k g81) (fun p hp => ?_)
      · show (hK u2).length = _
        omega
      · rw [b73.2.2, b7.2.2]; exact e01
      · rw [b73.2.2, b7.2.2]; exact e701
      · by_cases hpi : p = i
        · rw [hpi]; exact ⟨hR_uRs _ _ _ _, s2.g f3 (by omega)⟩
        · exact ⟨by rw [hR_uRk _ _ _ hpi, b8.2.2]; exact (q1 p (by omega)).1, ((q1 p (by omega)).2.g f2 (by omega)).g f3 (by omega)⟩)
  have f2 := gr_uR (uN h (25, 62)) 41 1 (some 42)
  have f3 := gr_uR (uR (uN h (25, 62)) 41 1 (some 42)) 41 0 (some 39)
  exact loop _ _ _ (by omega) (by omega) ((F1.tr f2 (Or.inl rfl)).tr f3 (Or.inl rfl)) z1 g1 (hR_uRs _ _ _ _) (by rw [hR_uRk _ _ _ (by decide)]; exact hR_uRs _ _ _ _) z2 (fun q hq => absurd hq (Nat.not_lt_zero q))
end
