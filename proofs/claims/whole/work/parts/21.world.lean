/-! ===== vary's shell; worlds, states ===== -/
theorem c_vary {d c n : Nat} {h : vH} {Q : vQ} {a w v f t : Nat} (hd : 1 ≤ d) (ha : isA h a w) (hv : v < 3) (k : Q none (uS h w (vary (sA h w) v f t))) : vm_C mX1_vary d c n [vR (some a), vI (nI v), vI (nI f), vI (nI t)] h Q := by
  obtain ⟨h1, h2, h3⟩ := id ha
  have main : ∀ (v : Nat) (u : Int64), v < 2 → (∀ b, b < 64 → bL u b = decide (ofv b v = 0)) → Q none (uS h w (vary (sA h w) v f t)) → vm_E mX1_vary d c n 42 [some (vR (some a)), some (vI (nI v)), some (vI (nI f)), some (vI (nI t)), some (vI (nI (8 ^ v))), some (vJ u), none, some (vI (nI 0))] [] h Q := by
    intro v u hv2 hu k
    have key : vm_E mX1_vary d c n 42 [some (vR (some a)), some (vI (nI v)), some (vI (nI f)), some (vI (nI t)), some (vI (nI (8 ^ v))), some (vJ u), none, some (vI (nI 0))] [] (pL h w 0 (fun j => mkL (fun b => vary (sA h w) v f t (64 * j + b)))) Q :=
      vl_down 8 (fun i => vm_E mX1_vary d c n 42 [some (vR (some a)), some (vI (nI v)), some (vI (nI f)), some (vI (nI t)), some (vI (nI (8 ^ v))), some (vJ u), none, some (vI (nI i))] [] (pL h w i (fun j => mkL (fun b => vary (sA h w) v f t (64 * j + b)))) Q) (bX1_vary_42 (fun _ => bX1_vary_78 k) (fun hn => absurd n8' hn)) (fun i hi ih => by
        refine bX1_vary_42 (fun hc => absurd hc (n8 hi)) (fun _ => ?_)
        refine bX1_vary_49 (b3 := w) (n_b3 := 8) (R := fun r h' => ∃ y, (∀ b, b < 64 → bL y b = (t.testBit (ofv b v) && ox (fun o => f.testBit o && bL (hL h w i) (stv b v o)) 8)) ∧ r = some (vJ y) ∧ pL h w i (fun j => mkL (fun b => vary (sA h w) v f t (64 * j + b))) = h') h1 h2 h3 (v8 hi) hd (by
          rw [c8 hi, hL_pLge _ _ _ _ w (Nat.le_refl i)]
          exact c_varied hv2 hu (fun y hy => ⟨y, hy, rfl, rfl⟩)) ?_
        rintro r h' ⟨y, hy, rfl, rfl⟩
        rw [show hR (pL h w i (fun j => mkL (fun b => vary (sA h w) v f t (64 * j + b)))) a 0 = some w from h2]
        refine bX1_vary_71 (n_sa2 := 8) h3 (v8 hi) ?_
        have e : y = mkL (fun b => vary (sA h w) v f t (64 * i + b)) := bL_ext fun b hb => by
          rw [hy b hb, mkL_bit _ hb]
          unfold vary
          rw [(setw hv2 hb hi 0 (by decide)).1]
          congr 1
          refine ox_ext fun o ho => ?_
          obtain ⟨-, e2, e3⟩ := setw hv2 hb hi o ho
          rw [e2]; unfold sA
          rw [show (64 * i + stv b v o) / 64 = i by omega, show (64 * i + stv b v o) % 64 = stv b v o by omega]
        rw [nI_1, c8 hi, e, pL_s h w i (fun j => mkL (fun b => vary (sA h w) v f t (64 * j + b)))]
        exact ih)
    rw [pL_0] at key
    exact key
  have hv3 : v = 0 ∨ v = 1 ∨ v = 2 := by omega
  rcases hv3 with rfl | rfl | rfl
  · refine bX1_vary_0 (fun _ => bX1_vary_12 (fun hc => absurd rfl hc) (fun _ => bX1_vary_16 (bX1_vary_22 (fun hc => absurd rfl hc) (fun _ => bX1_vary_28 (bX1_vary_37 (main 0 _ (by decide) (fun b hb => ?_) k)))))) (fun hc => absurd (by decide +kernel) hc)
    rw [(low_b b hb).1]; unfold ofv; simp
  · refine bX1_vary_0 (fun _ => bX1_vary_12 (fun _ => bX1_vary_20 (bX1_vary_22 (fun _ => bX1_vary_34 (bX1_vary_37 (main 1 _ (by decide) (fun b hb => ?_) k))) (fun hc => absurd (by decide +kernel) hc))) (fun hc => absurd (by decide +kernel) hc)) (fun hc => absurd (by decide +kernel) hc)
    rw [(low_b b hb).2]; unfold ofv; simp; omega
  · refine bX1_vary_0 (fun hc => absurd rfl hc) (fun _ => bX1_vary_5 (R := fun r h' => r = none ∧ uS h w (vary (sA h w) 2 f t) = h') h1 hd (c_varyWords ha ⟨rfl, rfl⟩) ?_)
    rintro r h' ⟨rfl, rfl⟩
    exact bX1_vary_11 k
/-- the heap with other ints and longs -/
def hJ (h : vH) (I : Nat → Nat → Int32) (L : Nat → Nat → Int64) : vH := (I, L, h.2.2)
theorem hJ_id (h : vH) : hJ h (hI h) (hL h) = h := rfl
def isW (h : vH) (a : Nat) : Prop := (hK h)[a]? = some (9, 0) ∧ (hK h)[a + 1]? = some (20, 3) ∧ (hK h)[a + 2]? = some (20, 2) ∧ hR h a 1 = some (a + 1) ∧ hR h a 2 = some (a + 2)
theorem n3 {i : Nat} (h : i < 3) : ¬ (3 : Int32) ≤ nI i := nI_ge h (by decide)
theorem n3' : (3 : Int32) ≤ nI 3 := by decide +kernel
theorem n2 {i : Nat} (h : i < 2) : ¬ (2 : Int32) ≤ nI i := nI_ge h (by decide)
theorem n2' : (2 : Int32) ≤ nI 2 := by decide +kernel
theorem v3 {i : Nat} (h : i < 3) : vp_in (nI i) 3 := vp_in_nI h (by decide)
theorem v2 {i : Nat} (h : i < 2) : vp_in (nI i) 2 := vp_in_nI h (by decide)
theorem cs {i : Nat} (h : i < 2147483648) : (nI i).toNatClampNeg = i := nI_clamp h
theorem hI_uIn (h : vH) {a b : Nat} (k : Nat) (v : Int32) (hb : b ≠ a) : hI (uI h a k v) b = hI h b := by funext j; rw [hI_uI, if_neg (fun z => hb z.1)]
theorem hI_uIs (h : vH) (a k : Nat) (v : Int32) : hI (uI h a k v) a k = v := by rw [hI_uI, if_pos ⟨rfl, rfl⟩]
theorem hI_uIk (h : vH) (a : Nat) {k j : Nat} (v : Int32) (hj : j ≠ k) : hI (uI h a k v) a j = hI h a j := by rw [hI_uI, if_neg (fun z => hj z.2)]
theorem c_World_begin {d c n : Nat} {h : vH} {Q : vQ} {a : Nat} {x : Int32} (ha : isW h a) (k : Q none (pI (pI (uI h a 0 x) (a + 1) 3 (fun _ => 0)) (a + 2) 2 (fun _ => 0))) : vm_C mX9_begin d c n [vR (some a), vI x] h Q := by
  obtain ⟨h1, h2, h3, h4, h5⟩ := ha
  refine bX9_begin_0 h1 ?_
  have one : vm_E mX9_begin d c n 7 [some (vR (some a)), some (vI x), some (vI (nI 0))] [] (pI (uI h a 0 x) (a + 1) 0 (fun _ => 0)) Q :=
    vl_down 3 (fun i => vm_E mX9_begin d c n 7 [some (vR (some a)), some (vI x), some (vI (nI i))] [] (pI (uI h a 0 x) (a + 1) i (fun _ => 0)) Q) (by
      refine bX9_begin_7 (fun _ => bX9_begin_25 ?_) (fun hn => absurd n3' hn)
      have two : vm_E mX9_begin d c n 27 [some (vR (some a)), some (vI x), some (vI (nI 0))] [] (pI (pI (uI h a 0 x) (a + 1) 3 (fun _ => 0)) (a + 2) 0 (fun _ => 0)) Q :=
        vl_down 2 (fun i => vm_E mX9_begin d c n 27 [some (vR (some a)), some (vI x), some (vI (nI i))] [] (pI (pI (uI h a 0 x) (a + 1) 3 (fun _ => 0)) (a + 2) i (fun _ => 0)) Q) (bX9_begin_27 (fun _ => bX9_begin_45 k) (fun hn => absurd n2' hn)) (fun i hi ih => by
          refine bX9_begin_27 (fun hc => absurd hc (n2 hi)) (fun _ => bX9_begin_32 (b2 := a + 2) (n_b2 := 2) h1 h5 h3 (v2 hi) ?_)
          rw [nI_1, cs (by omega), pI_s _ (a + 2) i (fun _ => 0)]
          exact ih)
      rw [pI_0 _ (a + 2)] at two
      exact two) (fun i hi ih => by
      refine bX9_begin_7 (fun hc => absurd hc (n3 hi)) (fun _ => bX9_begin_12 (b2 := a + 1) (n_b2 := 3) h1 h4 h2 (v3 hi) ?_)
      rw [nI_1, cs (by omega), pI_s _ (a + 1) i (fun _ => 0)]
      exact ih)
  rw [pI_0] at one
  exact one
theorem c_World_copyFrom {d c n : Nat} {h : vH} {Q : vQ} {a b : Nat} (ha : isW h a) (hb : isW h b) (hn : a + 2 < b ∨ b + 2 < a) (k : Q none (pI (pI (uI h a 0 (hI h b 0)) (a + 1) 3 (hI h (b + 1))) (a + 2) 2 (hI h (b + 2)))) : vm_C mX9_copyFrom d c n [vR (some a), vR (some b)] h Q := by
  obtain ⟨h1, h2, h3, h4, h5⟩ := ha
  obtain ⟨i1, i2, i3, i4, i5⟩ := hb
  refine bX9_copyFrom_0 i1 h1 ?_
  have one : vm_E mX9_copyFrom d c n 10 [some (vR (some a)), some (vR (some b)), some (vI (nI 0))] [] (pI (uI h a 0 (hI h b 0)) (a + 1) 0 (hI h (b + 1))) Q :=
    vl_down 3 (fun i => vm_E mX9_copyFrom d c n 10 [some (vR (some a)), some (vR (some b)), some (vI (nI i))] [] (pI (uI h a 0 (hI h b 0)) (a + 1) i (hI h (b + 1))) Q) (by
      refine bX9_copyFrom_10 (fun _ => bX9_copyFrom_33 ?_) (fun hn => absurd n3' hn)
      have two : vm_E mX9_copyFrom d c n 35 [some (vR (some a)), some (vR (some b)), some (vI (nI 0))] [] (pI (pI (uI h a 0 (hI h b 0)) (a + 1) 3 (hI h (b + 1))) (a + 2) 0 (hI h (b + 2))) Q :=
        vl_down 2 (fun i => vm_E mX9_copyFrom d c n 35 [some (vR (some a)), some (vR (some b)), some (vI (nI i))] [] (pI (pI (uI h a 0 (hI h b 0)) (a + 1) 3 (hI h (b + 1))) (a + 2) i (hI h (b + 2))) Q) (bX9_copyFrom_35 (fun _ => bX9_copyFrom_58 k) (fun hn => absurd n2' hn)) (fun i hi ih => by
          refine bX9_copyFrom_35 (fun hc => absurd hc (n2 hi)) (fun _ => bX9_copyFrom_40 (b3 := a + 2) (b4 := b + 2) (n_b3 := 2) (n_b4 := 2) h1 h5 i1 i5 i3 (v2 hi) h3 (v2 hi) ?_)
          rw [nI_1, cs (by omega), hI_pIn _ i _ (by omega : b + 2 ≠ a + 2), hI_pIn _ 3 _ (by omega : b + 2 ≠ a + 1), hI_uIn _ _ _ (by omega : b + 2 ≠ a), pI_s _ (a + 2) i (hI h (b + 2))]
          exact ih)
      rw [pI_0 _ (a + 2)] at two
      exact two) (fun i hi ih => by
      refine bX9_copyFrom_10 (fun hc => absurd hc (n3 hi)) (fun _ => bX9_copyFrom_15 (b3 := a + 1) (b4 := b + 1) (n_b3 := 3) (n_b4 := 3) h1 h4 i1 i4 i2 (v3 hi) h2 (v3 hi) ?_)
      rw [nI_1, cs (by omega), hI_pIn _ i _ (by omega : b + 1 ≠ a + 1), hI_uIn _ _ _ (by omega : b + 1 ≠ a), pI_s _ (a + 1) i (hI h (b + 1))]
      exact ih)
  rw [pI_0] at one
  exact one
/-! flags -/
theorem c_isPredicate {d c n : Nat} {h : vH} {Q : vQ} {x : Int32} (k1 : ∀ i, i < 3 → x = nI i → Q (some (vI 1)) h) (k0 : (x < 0 ∨ nI 3 ≤ x) → Q (some (vI 0)) h) : vm_C mX10_isPredicate d c n [vI x] h Q := by
  refine bX10_isPredicate_0 (fun hc => bX10_isPredicate_13 (bX10_isPredicate_14 rfl (k0 (Or.inl hc)))) (fun h0 => bX10_isPredicate_4 (fun hc => bX10_isPredicate_13 (bX10_isPredicate_14 rfl (k0 (Or.inr hc)))) (fun h3 => bX10_isPredicate_9 (bX10_isPredicate_14 rfl ?_)))
  rcases pk_ix x (n := 3) (by decide) with hh | hh | ⟨j, hj, e⟩
  · exact absurd hh h0
  · exact absurd hh h3
  · exact k1 j hj e
theorem c_isRelation {d c n : Nat} {h : vH} {Q : vQ} {x : Int32} (k1 : ∀ i, i < 2 → x = nI i → Q (some (vI 1)) h) (k0 : (x < 0 ∨ nI 2 ≤ x) → Q (some (vI 0)) h) : vm_C mX10_isRelation d c n [vI x] h Q := by
  refine bX10_isRelation_0 (fun hc => bX10_isRelation_13 (bX10_isRelation_14 rfl (k0 (Or.inl hc)))) (fun h0 => bX10_isRelation_4 (fun hc => bX10_isRelation_13 (bX10_isRelation_14 rfl (k0 (Or.inr hc)))) (fun h3 => bX10_isRelation_9 (bX10_isRelation_14 rfl ?_)))
  rcases pk_ix x (n := 2) (by decide) with hh | hh | ⟨j, hj, e⟩
  · exact absurd hh h0
  · exact absurd hh h3
  · exact k1 j hj e
theorem nI_inj {a b : Nat} (ha : a < 2147483648) (hb : b < 2147483648) (e : nI a = nI b) : a = b := (nI_eq ha hb).mp e
theorem nI_out {i N : Nat} (hi : i < N) (hN : N < 2147483648) : ¬ (nI i < 0 ∨ nI N ≤ nI i) := by
  rintro (h | h)
  · exact nI_pos (by omega) h
  · exact nI_ge hi hN h
theorem c_setOf {d c n : Nat} {h : vH} {Q : vQ} {a i : Nat} (hd : 1 ≤ d) (ha : isW h a) (hi : i < 3) (k : Q (some (vI (hI h (a + 1) i))) h) : vm_C mX9_setOf d c n [vR (some a), vI (nI i)] h Q := by
  refine bX9_setOf_0 (R := fun r h' => r = some (vI 1) ∧ h = h') hd (c_isPredicate (fun _ _ _ => ⟨rfl, rfl⟩) (fun hz => absurd hz (nI_out hi (by decide)))) ?_
  rintro r h' ⟨rfl, rfl⟩
  refine bX9_setOf_4 (fun hc => absurd hc (by decide +kernel)) (fun _ => bX9_setOf_7 (b2 := a + 1) (n_b2 := 3) ha.1 ha.2.2.2.1 ha.2.1 (v3 hi) (bX9_setOf_17 ?_))
  rw [cs (by omega)]; exact k
theorem c_giveSet {d c n : Nat} {h : vH} {Q : vQ} {a i : Nat} {x : Int32} (hd : 1 ≤ d) (ha : isW h a) (hi : i < 3) (k : Q none (uI h (a + 1) i x)) : vm_C mX9_giveSet d c n [vR (some a), vI (nI i), vI x] h Q := by
  refine bX9_giveSet_0 (R := fun r h' => r = some (vI 1) ∧ h = h') hd (c_isPredicate (fun _ _ _ => ⟨rfl, rfl⟩) (fun hz => absurd hz (nI_out hi (by decide)))) ?_
  rintro r h' ⟨rfl, rfl⟩
  refine bX9_giveSet_4 (fun hc => absurd hc (by decide +kernel)) (fun _ => bX9_giveSet_7 (b2 := a + 1) (n_b2 := 3) ha.1 ha.2.2.2.1 ha.2.1 (v3 hi) (bX9_giveSet_14 ?_))
  rw [cs (by omega)]; exact k
theorem everyN : ∀ m, m < 4 → ((1 : Int32) <<< (nI m &&& (31 : Int32))) - 1 = nI (2 ^ m - 1) := by decide +kernel
theorem c_everybody {d c n : Nat} {h : vH} {Q : vQ} {a m : Nat} (ha : isW h a) (hm : m < 4) (e : hI h a 0 = nI m) (k : Q (some (vI (nI (2 ^ m - 1)))) h) : vm_C mX9_everybody d c n [vR (some a)] h Q := by
  refine bX9_everybody_0 ha.1 ?_
  rw [e, everyN m hm]; exact k
