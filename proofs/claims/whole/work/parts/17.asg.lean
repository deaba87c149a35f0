/-! ===== sets of assignments: the contracts of Assignments ===== -/
theorem n8 {i : Nat} (h : i < 8) : ¬ (8 : Int32) ≤ nI i := nI_ge h (by decide)
theorem n8' : (8 : Int32) ≤ nI 8 := by decide +kernel
theorem v8 {i : Nat} (h : i < 8) : vp_in (nI i) 8 := vp_in_nI h (by decide)
theorem c8 {i : Nat} (h : i < 8) : (nI i).toNatClampNeg = i := nI_clamp (by omega)
theorem c_unite {d c n : Nat} {h : vH} {Q : vQ} {a w b v : Nat} (ha : isA h a w) (hb : isA h b v) (k : Q none (uS h w (fun k => (sA h w k || sA h v k)))) : vm_C mX1_unite d c n [vR (some a), vR (some b)] h Q := by
  obtain ⟨h1, h2, h3⟩ := ha
  obtain ⟨i1, i2, i3⟩ := hb
  have key : vm_E mX1_unite d c n 2 [some (vR (some a)), some (vR (some b)), some (vI (nI 0))] [] (pL h w 0 (fun j => hL h w j ||| hL h v j)) Q :=
    vl_down 8 (fun i => vm_E mX1_unite d c n 2 [some (vR (some a)), some (vR (some b)), some (vI (nI i))] [] (pL h w i (fun j => hL h w j ||| hL h v j)) Q) (bX1_unite_2 (fun _ => bX1_unite_29 (by rw [uS_of (S := fun k => (sA h w k || sA h v k)) (fun j hj b hb => by unfold sA; rw [show (64 * j + b) / 64 = j by omega, show (64 * j + b) % 64 = b by omega]; exact bL_or _ _ _)]; exact k)) (fun hn => absurd n8' hn)) (fun i hi ih => by
      refine bX1_unite_2 (fun hc => absurd hc (n8 hi)) (fun _ => ?_)
      refine bX1_unite_8 (b3 := w) (b4 := v) (n_b3 := 8) (n_b4 := 8) h1 h2 h3 (v8 hi) i1 i2 i3 (v8 hi) ?_
      rw [nI_1, c8 hi, hL_pLge _ _ _ _ v (Nat.le_refl i)]
      rw [hL_pLge _ _ _ _ w (Nat.le_refl i)]
      rw [pL_s h w i (fun j => hL h w j ||| hL h v j)]
      exact ih)
  rw [pL_0] at key
  exact bX1_unite_0 key
theorem c_keep {d c n : Nat} {h : vH} {Q : vQ} {a w b v : Nat} (ha : isA h a w) (hb : isA h b v) (k : Q none (uS h w (fun k => (sA h w k && sA h v k)))) : vm_C mX1_keep d c n [vR (some a), vR (some b)] h Q := by
  obtain ⟨h1, h2, h3⟩ := ha
  obtain ⟨i1, i2, i3⟩ := hb
  have key : vm_E mX1_keep d c n 2 [some (vR (some a)), some (vR (some b)), some (vI (nI 0))] [] (pL h w 0 (fun j => hL h w j &&& hL h v j)) Q :=
    vl_down 8 (fun i => vm_E mX1_keep d c n 2 [some (vR (some a)), some (vR (some b)), some (vI (nI i))] [] (pL h w i (fun j => hL h w j &&& hL h v j)) Q) (bX1_keep_2 (fun _ => bX1_keep_29 (by rw [uS_of (S := fun k => (sA h w k && sA h v k)) (fun j hj b hb => by unfold sA; rw [show (64 * j + b) / 64 = j by omega, show (64 * j + b) % 64 = b by omega]; exact bL_and _ _ _)]; exact k)) (fun hn => absurd n8' hn)) (fun i hi ih => by
      refine bX1_keep_2 (fun hc => absurd hc (n8 hi)) (fun _ => ?_)
      refine bX1_keep_8 (b3 := w) (b4 := v) (n_b3 := 8) (n_b4 := 8) h1 h2 h3 (v8 hi) i1 i2 i3 (v8 hi) ?_
      rw [nI_1, c8 hi, hL_pLge _ _ _ _ v (Nat.le_refl i)]
      rw [hL_pLge _ _ _ _ w (Nat.le_refl i)]
      rw [pL_s h w i (fun j => hL h w j &&& hL h v j)]
      exact ih)
  rw [pL_0] at key
  exact bX1_keep_0 key
theorem c_remove {d c n : Nat} {h : vH} {Q : vQ} {a w b v : Nat} (ha : isA h a w) (hb : isA h b v) (k : Q none (uS h w (fun k => (sA h w k && !sA h v k)))) : vm_C mX1_remove d c n [vR (some a), vR (some b)] h Q := by
  obtain ⟨h1, h2, h3⟩ := ha
  obtain ⟨i1, i2, i3⟩ := hb
  have key : vm_E mX1_remove d c n 2 [some (vR (some a)), some (vR (some b)), some (vI (nI 0))] [] (pL h w 0 (fun j => hL h w j &&& (hL h v j ^^^ (-1)))) Q :=
    vl_down 8 (fun i => vm_E mX1_remove d c n 2 [some (vR (some a)), some (vR (some b)), some (vI (nI i))] [] (pL h w i (fun j => hL h w j &&& (hL h v j ^^^ (-1)))) Q) (bX1_remove_2 (fun _ => bX1_remove_33 (by rw [uS_of (S := fun k => (sA h w k && !sA h v k)) (fun j hj b hb => by unfold sA; rw [show (64 * j + b) / 64 = j by omega, show (64 * j + b) % 64 = b by omega]; rw [bL_and, bL_not _ hb])]; exact k)) (fun hn => absurd n8' hn)) (fun i hi ih => by
      refine bX1_remove_2 (fun hc => absurd hc (n8 hi)) (fun _ => ?_)
      refine bX1_remove_8 (b3 := w) (b4 := v) (n_b3 := 8) (n_b4 := 8) h1 h2 h3 (v8 hi) i1 i2 i3 (v8 hi) ?_
      rw [nI_1, c8 hi, hL_pLge _ _ _ _ v (Nat.le_refl i)]
      rw [hL_pLge _ _ _ _ w (Nat.le_refl i)]
      rw [pL_s h w i (fun j => hL h w j &&& (hL h v j ^^^ (-1)))]
      exact ih)
  rw [pL_0] at key
  exact bX1_remove_0 key
theorem c_copyFrom {d c n : Nat} {h : vH} {Q : vQ} {a w b v : Nat} (ha : isA h a w) (hb : isA h b v) (k : Q none (uS h w (fun k => (sA h v k)))) : vm_C mX1_copyFrom d c n [vR (some a), vR (some b)] h Q := by
  obtain ⟨h1, h2, h3⟩ := ha
  obtain ⟨i1, i2, i3⟩ := hb
  have key : vm_E mX1_copyFrom d c n 2 [some (vR (some a)), some (vR (some b)), some (vI (nI 0))] [] (pL h w 0 (fun j => hL h v j)) Q :=
    vl_down 8 (fun i => vm_E mX1_copyFrom d c n 2 [some (vR (some a)), some (vR (some b)), some (vI (nI i))] [] (pL h w i (fun j => hL h v j)) Q) (bX1_copyFrom_2 (fun _ => bX1_copyFrom_26 (by rw [uS_of (S := fun k => (sA h v k)) (fun j hj b hb => by unfold sA; rw [show (64 * j + b) / 64 = j by omega, show (64 * j + b) % 64 = b by omega])]; exact k)) (fun hn => absurd n8' hn)) (fun i hi ih => by
      refine bX1_copyFrom_2 (fun hc => absurd hc (n8 hi)) (fun _ => ?_)
      refine bX1_copyFrom_8 (b3 := w) (b4 := v) (n_b3 := 8) (n_b4 := 8) h1 h2 i1 i2 i3 (v8 hi) h3 (v8 hi) ?_
      rw [nI_1, c8 hi, hL_pLge _ _ _ _ v (Nat.le_refl i)]
      skip
      rw [pL_s h w i (fun j => hL h v j)]
      exact ih)
  rw [pL_0] at key
  exact bX1_copyFrom_0 key
theorem c_complement {d c n : Nat} {h : vH} {Q : vQ} {a w : Nat} (ha : isA h a w) (k : Q none (uS h w (fun k => !sA h w k))) : vm_C mX1_complement d c n [vR (some a)] h Q := by
  obtain ⟨h1, h2, h3⟩ := ha
  have key : vm_E mX1_complement d c n 2 [some (vR (some a)), some (vI (nI 0))] [] (pL h w 0 (fun j => hL h w j ^^^ (-1))) Q :=
    vl_down 8 (fun i => vm_E mX1_complement d c n 2 [some (vR (some a)), some (vI (nI i))] [] (pL h w i (fun j => hL h w j ^^^ (-1))) Q) (bX1_complement_2 (fun _ => bX1_complement_30 (by rw [uS_of (S := fun k => !sA h w k) (fun j hj b hb => by unfold sA; rw [show (64 * j + b) / 64 = j by omega, show (64 * j + b) % 64 = b by omega]; exact bL_not _ hb)]; exact k)) (fun hn => absurd n8' hn)) (fun i hi ih => by
      refine bX1_complement_2 (fun hc => absurd hc (n8 hi)) (fun _ => ?_)
      refine bX1_complement_8 (b2 := w) (b3 := w) (n_b2 := 8) (n_b3 := 8) h1 h2 h2 h3 (v8 hi) h3 (v8 hi) ?_
      rw [nI_1, c8 hi, hL_pLge _ _ _ _ w (Nat.le_refl i), pL_s h w i (fun j => hL h w j ^^^ (-1))]
      exact ih)
  rw [pL_0] at key
  exact bX1_complement_0 key
theorem c_fill {d c n : Nat} {h : vH} {Q : vQ} {a w : Nat} {x : Int64} (ha : isA h a w) (k : Q none (pL h w 8 (fun _ => x))) : vm_C mX1_fill d c n [vR (some a), vJ x] h Q := by
  obtain ⟨h1, h2, h3⟩ := ha
  have key : vm_E mX1_fill d c n 2 [some (vR (some a)), some (vJ x), none, some (vI (nI 0))] [] (pL h w 0 (fun _ => x)) Q :=
    vl_down 8 (fun i => vm_E mX1_fill d c n 2 [some (vR (some a)), some (vJ x), none, some (vI (nI i))] [] (pL h w i (fun _ => x)) Q) (bX1_fill_2 (fun _ => bX1_fill_21 k) (fun hn => absurd n8' hn)) (fun i hi ih => by
      refine bX1_fill_2 (fun hc => absurd hc (n8 hi)) (fun _ => ?_)
      refine bX1_fill_8 (b2 := w) (n_b2 := 8) h1 h2 h3 (v8 hi) ?_
      rw [nI_1, c8 hi, pL_s h w i (fun _ => x)]
      exact ih)
  rw [pL_0] at key
  exact bX1_fill_0 key
theorem c_fill0 {d c n : Nat} {h : vH} {Q : vQ} {a w : Nat} (ha : isA h a w) (k : Q none (uS h w (fun _ => false))) : vm_C mX1_fill d c n [vR (some a), vJ 0] h Q :=
  c_fill ha (by rw [uS_of (S := fun _ => false) (fun j hj b hb => bL_0 b)]; exact k)
theorem c_fill1 {d c n : Nat} {h : vH} {Q : vQ} {a w : Nat} (ha : isA h a w) (k : Q none (uS h w (fun _ => true))) : vm_C mX1_fill d c n [vR (some a), vJ (-1)] h Q :=
  c_fill ha (by rw [uS_of (S := fun _ => true) (fun j hj b hb => bL_m1 hb)]; exact k)
theorem bL_1 : ∀ i, i < 64 → bL 1 i = decide (i = 0) := by decide +kernel
theorem c_makeFirst {d c n : Nat} {h : vH} {Q : vQ} {a w : Nat} (hd : 1 ≤ d) (ha : isA h a w) (k : Q none (uS h w (fun k => decide (k = 0)))) : vm_C mX1_makeFirst d c n [vR (some a)] h Q := by
  refine bX1_makeFirst_0 ha.1 hd (R := fun r h1 => r = none ∧ h1 = pL h w 8 (fun _ => 0)) (c_fill ha ⟨rfl, rfl⟩) ?_
  rintro r h1 ⟨rfl, rfl⟩
  refine bX1_makeFirst_5 (b2 := w) (n_b2 := 8) ha.1 ha.2.1 ha.2.2 (v8 (i := 0) (by decide)) ?_
  have e : uL (pL h w 8 (fun _ => 0)) w (Int32.toNatClampNeg 0) 1 = uS h w (fun k => decide (k = 0)) := by
    rw [← uS_of (X := fun j => if j = 0 then 1 else 0) (S := fun k => decide (k = 0)) (fun j hj b hb => by
      by_cases h0 : j = 0
      · subst h0; rw [if_pos rfl, bL_1 b hb]; simp
      · rw [if_neg h0, bL_0]; have : ¬ 64 * j + b = 0 := by omega
        exact (decide_eq_false this).symm)]
    rw [uL_s]; unfold pL; rw [sL_sL, hL_sLs]; congr 1; funext j
    show (if j = 0 then (1 : Int64) else _) = _
    by_cases h0 : j = 0
    · subst h0; simp
    · simp [h0]
  rw [e]; exact k
theorem lg_eq0 (x : Int64) : lg_cmp x 0 = 0 ↔ x = 0 := lg_cmp_eq x 0
theorem c_isWithin {d c n : Nat} {h : vH} {Q : vQ} {a w b v : Nat} (ha : isA h a w) (hb : isA h b v) (k1 : (∀ k, k < 512 → sA h w k = true → sA h v k = true) → Q (some (vI 1)) h) (k0 : ¬ (∀ k, k < 512 → sA h w k = true → sA h v k = true) → Q (some (vI 0)) h) : vm_C mX1_isWithin d c n [vR (some a), vR (some b)] h Q := by
  obtain ⟨h1, h2, h3⟩ := ha
  obtain ⟨i1, i2, i3⟩ := hb
  have key : (∀ k, k < 64 * 0 → sA h w k = true → sA h v k = true) → vm_E mX1_isWithin d c n 2 [some (vR (some a)), some (vR (some b)), some (vI (nI 0))] [] h Q :=
    vl_down 8 (fun i => (∀ k, k < 64 * i → sA h w k = true → sA h v k = true) → vm_E mX1_isWithin d c n 2 [some (vR (some a)), some (vR (some b)), some (vI (nI i))] [] h Q) (fun hall => bX1_isWithin_2 (fun _ => bX1_isWithin_38 (k1 hall)) (fun hn => absurd n8' hn)) (fun i hi ih hall => by
      refine bX1_isWithin_2 (fun hc => absurd hc (n8 hi)) (fun _ => ?_)
      have hw : ∀ b, b < 64 → bL (hL h w i &&& (hL h v i ^^^ (-1))) b = (sA h w (64 * i + b) && !sA h v (64 * i + b)) := fun b hb => by
        unfold sA; rw [show (64 * i + b) / 64 = i by omega, show (64 * i + b) % 64 = b by omega, bL_and, bL_not _ hb]
      refine bX1_isWithin_8 (b3 := w) (b4 := v) (n_b3 := 8) (n_b4 := 8) h1 h2 h3 (v8 hi) i1 i2 i3 (v8 hi) (fun hz => ?_) (fun hz => ?_)
      · refine bX1_isWithin_32 ?_
        rw [nI_1]
        rw [c8 hi, lg_eq0] at hz
        refine ih (fun k hk hs => ?_)
        by_cases hk2 : k < 64 * i
        · exact hall k hk2 hs
        · have h5 := hw (k - 64 * i) (by omega)
          rw [hz, bL_0, show 64 * i + (k - 64 * i) = k by omega, hs] at h5
          simpa using h5.symm
      · refine bX1_isWithin_30 (k0 (fun hc => hz ?_))
        rw [c8 hi, lg_eq0]
        refine bL_ext fun b hb => ?_
        rw [hw b hb, bL_0]
        cases h6 : sA h w (64 * i + b)
        · rfl
        · rw [hc _ (by omega) h6]; rfl)
  exact bX1_isWithin_0 (key (fun k hk => by omega))
