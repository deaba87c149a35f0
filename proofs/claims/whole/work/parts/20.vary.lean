/-! ===== vary ===== -/
theorem setw {v j b : Nat} (hv : v < 2) (hb : b < 64) (hj : j < 8) (o : Nat) (ho : o < 8) : ofv (64 * j + b) v = ofv b v ∧ stv (64 * j + b) v o = 64 * j + stv b v o ∧ stv b v o < 64 := by
  have hv2 : v = 0 ∨ v = 1 := by omega
  rcases hv2 with rfl | rfl <;> (unfold stv ofv; simp; omega)
theorem ofv_st : ∀ v, v < 3 → ∀ k, k < 512 → ∀ o, o < 8 → stv k v o < 512 ∧ ofv (stv k v o) v = o := by
  intro v hv k hk o ho
  have hv3 : v = 0 ∨ v = 1 ∨ v = 2 := by omega
  rcases hv3 with rfl | rfl | rfl <;> (unfold stv ofv; simp; omega)
theorem ofv_so {v u k o : Nat} (hv : v < 3) (hu : u < 3) (hn : u ≠ v) (hk : k < 512) (ho : o < 8) : ofv (stv k v o) u = ofv k u := by
  have hv3 : v = 0 ∨ v = 1 ∨ v = 2 := by omega
  have hu3 : u = 0 ∨ u = 1 ∨ u = 2 := by omega
  rcases hv3 with rfl | rfl | rfl <;> rcases hu3 with rfl | rfl | rfl <;> first | exact absurd rfl hn | (unfold stv ofv; simp; omega)
theorem stv_st {v k o p : Nat} (hv : v < 3) (hk : k < 512) (ho : o < 8) (hp : p < 8) : stv (stv k v o) v p = stv k v p := by
  have hv3 : v = 0 ∨ v = 1 ∨ v = 2 := by omega
  rcases hv3 with rfl | rfl | rfl <;> (unfold stv ofv; simp; omega)
theorem stv_id {v k : Nat} (hv : v < 3) (hk : k < 512) : stv k v (ofv k v) = k := by
  have hv3 : v = 0 ∨ v = 1 ∨ v = 2 := by omega
  rcases hv3 with rfl | rfl | rfl <;> (unfold stv ofv; simp; omega)
/-- the set with the objects of a variable varied: from those in f to those in t -/
def vary (S : Nat → Bool) (v f t : Nat) : Nat → Bool := fun k => t.testBit (ofv k v) && ox (fun o => f.testBit o && S (stv k v o)) 8
theorem bI_sm {m i : Nat} (hi : i < 8) : bI (nI m) i = m.testBit i := by rw [bI_nI, decide_eq_true (show i < 32 by omega), Bool.true_and]
theorem ut8 {m i : Nat} (hi : i < 8) : (UInt32.toInt32 (Int32.toUInt32 (nI m) >>> (Int32.toUInt32 (nI i) &&& Int32.toUInt32 31)) &&& 1) = 0 ↔ m.testBit i = false := by
  rw [bI_ut (by omega), bI_sm hi]
theorem c_varyWords {d c n : Nat} {h : vH} {Q : vQ} {a w f t : Nat} (ha : isA h a w) (k : Q none (uS h w (vary (sA h w) 2 f t))) : vm_C mX1_varyWords d c n [vR (some a), vI (nI f), vI (nI t)] h Q := by
  obtain ⟨h1, h2, h3⟩ := ha
  have first : ∀ y : Int64, (∀ b, b < 64 → bL y b = ox (fun o => f.testBit o && bL (hL h w o) b) 0) → vm_E mX1_varyWords d c n 5 [some (vR (some a)), some (vI (nI f)), some (vI (nI t)), some (vJ y), none, some (vI (nI 0))] [] h Q :=
    vl_down 8 (fun i => ∀ y : Int64, (∀ b, b < 64 → bL y b = ox (fun o => f.testBit o && bL (hL h w o) b) i) → vm_E mX1_varyWords d c n 5 [some (vR (some a)), some (vI (nI f)), some (vI (nI t)), some (vJ y), none, some (vI (nI i))] [] h Q) (fun y hy => by
      refine bX1_varyWords_5 (fun _ => bX1_varyWords_41 ?_) (fun hn => absurd n8' hn)
      have second : vm_E mX1_varyWords d c n 44 [some (vR (some a)), some (vI (nI f)), some (vI (nI t)), some (vJ y), none, some (vI (nI 0))] [] (pL h w 0 (fun j => if t.testBit j then y else 0)) Q :=
        vl_down 8 (fun i => vm_E mX1_varyWords d c n 44 [some (vR (some a)), some (vI (nI f)), some (vI (nI t)), some (vJ y), none, some (vI (nI i))] [] (pL h w i (fun j => if t.testBit j then y else 0)) Q) (bX1_varyWords_44 (fun _ => bX1_varyWords_78 (by
          rw [uS_of (S := vary (sA h w) 2 f t) (fun j hj b hb => by
            have e1 : ofv (64 * j + b) 2 = j := by unfold ofv; omega
            unfold vary
            rw [e1]
            have e2 : ox (fun o => f.testBit o && sA h w (stv (64 * j + b) 2 o)) 8 = bL y b := by
              rw [hy b hb]
              refine ox_ext fun o ho => ?_
              have e3 : stv (64 * j + b) 2 o = 64 * o + b := by unfold stv; rw [e1]; omega
              rw [e3]; unfold sA; rw [show (64 * o + b) / 64 = o by omega, show (64 * o + b) % 64 = b by omega]
            rw [e2]
            cases t.testBit j
            · rw [if_neg (by decide), bL_0]; rfl
            · rw [if_pos rfl, Bool.true_and])]
          exact k)) (fun hn => absurd n8' hn)) (fun i hi ih => by
          refine bX1_varyWords_44 (fun hc => absurd hc (n8 hi)) (fun _ => ?_)
          have fin : ∀ y' : Int64, y' = (if t.testBit i then y else 0) → vm_E mX1_varyWords d c n 71 [some (vR (some a)), some (vI (nI f)), some (vI (nI t)), some (vJ y), none, some (vI (nI i))] [vJ y', vI (nI i), vR (some w)] (pL h w i (fun j => if t.testBit j then y else 0)) Q := fun y' hy' => by
            refine bX1_varyWords_71 (n_sa2 := 8) h3 (v8 hi) ?_
            subst hy'
            rw [nI_1, c8 hi, pL_s h w i (fun j => if t.testBit j then y else 0)]
            exact ih
          refine bX1_varyWords_51 h1 (fun hc => ?_) (fun hc => ?_)
          · rw [show hR (pL h w i (fun j => if t.testBit j then y else 0)) a 0 = some w from h2]
            exact bX1_varyWords_70 (fin 0 (by rw [(ut8 hi).mp hc, if_neg (by decide)]))
          · rw [show hR (pL h w i (fun j => if t.testBit j then y else 0)) a 0 = some w from h2]
            refine bX1_varyWords_66 (fin y ?_)
            cases hb : t.testBit i
            · exact absurd ((ut8 hi).mpr hb) hc
            · rw [if_pos rfl])
      rw [pL_0] at second
      exact second) (fun i hi ih y hy => by
      refine bX1_varyWords_5 (fun hc => absurd hc (n8 hi)) (fun _ => ?_)
      have fin : ∀ y' : Int64, y' = (if f.testBit i then hL h w i else 0) → vm_E mX1_varyWords d c n 33 [some (vR (some a)), some (vI (nI f)), some (vI (nI t)), some (vJ y), none, some (vI (nI i))] [vJ y', vJ y] h Q := fun y' hy' => by
        refine bX1_varyWords_33 ?_
        rw [nI_1]
        refine ih _ (fun b hb => ?_)
        show _ = (ox (fun o => f.testBit o && bL (hL h w o) b) i || (f.testBit i && bL (hL h w i) b))
        rw [bL_or, hy b hb, hy']
        cases f.testBit i
        · rw [if_neg (by decide), bL_0]; rfl
        · rw [if_pos rfl, Bool.true_and]
      refine bX1_varyWords_12 (fun hc => ?_) (fun hc => ?_)
      · exact bX1_varyWords_32 (fin 0 (by rw [(ut8 hi).mp hc, if_neg (by decide)]))
      · refine bX1_varyWords_22 (b2 := w) (n_b2 := 8) h1 h2 h3 (v8 hi) ?_
        rw [c8 hi]
        refine fin _ ?_
        cases hb : f.testBit i
        · exact absurd ((ut8 hi).mpr hb) hc
        · rw [if_pos rfl])
  exact bX1_varyWords_0 (first 0 (fun b _ => bL_0 b))
theorem bL_ushr {x : Int64} (s : UInt64) {k : Nat} (hs : s.toNat % 64 = k) (i : Nat) : bL (UInt64.toInt64 (Int64.toUInt64 x >>> s)) i = bL x (k + i) := by
  rw [← tL_bit, ← tL_bit, tL_ush x s hs, Nat.testBit_div_two_pow, Nat.add_comm]
theorem sl64 : ∀ n, n < 64 → ((Int32.toInt64 (nI n) &&& 63).toBitVec.smod 64).toNat = n := by decide +kernel
theorem su64 : ∀ n, n < 64 → (Int64.toUInt64 (Int32.toInt64 (nI n)) &&& Int64.toUInt64 63).toNat % 64 = n := by decide +kernel
theorem bL_shl {n : Nat} (hn : n < 64) (x : Int64) {i : Nat} (hi : i < 64) : bL (x <<< (Int32.toInt64 (nI n) &&& 63)) i = (decide (n ≤ i) && bL x (i - n)) := by
  unfold bL
  rw [Int64.toBitVec_shiftLeft]
  show (x.toBitVec <<< ((Int32.toInt64 (nI n) &&& 63).toBitVec.smod 64).toNat).getLsbD i = _
  rw [sl64 n hn, BitVec.getLsbD_shiftLeft]
  rcases Nat.lt_or_ge i n with h | h
  · simp [h, Nat.not_le.mpr h]
  · simp [hi, h, Nat.not_lt.mpr h]
theorem low_b : ∀ b, b < 64 → bL 72340172838076673 b = decide (b % 8 = 0) ∧ bL 255 b = decide (b < 8) := by decide +kernel
theorem mul8 (a b : Nat) : nI a * nI b = nI (a * b) := pk_mul a b
theorem c_varied {d c n : Nat} {h : vH} {Q : vQ} {v f t : Nat} {x u : Int64} (hv : v < 2) (hu : ∀ b, b < 64 → bL u b = decide (ofv b v = 0)) (k : ∀ y, (∀ b, b < 64 → bL y b = (t.testBit (ofv b v) && ox (fun o => f.testBit o && bL x (stv b v o)) 8)) → Q (some (vJ y)) h) : vm_C mX1_varied d c n [vJ x, vI (nI (8 ^ v)), vJ u, vI (nI f), vI (nI t)] h Q := by
  have hp : ∀ i, i < 8 → i * 8 ^ v < 64 := fun i hi => by
    have hv2 : v = 0 ∨ v = 1 := by omega
    rcases hv2 with rfl | rfl <;> simp <;> omega
  have first : ∀ y : Int64, (∀ b, b < 64 → bL y b = ox (fun o => f.testBit o && (bL x (o * 8 ^ v + b) && bL u b)) 0) → vm_E mX1_varied d c n 6 [some (vJ x), none, some (vI (nI (8 ^ v))), some (vJ u), none, some (vI (nI f)), some (vI (nI t)), some (vJ y), none, some (vI (nI 0)), none, none] [] h Q :=
    vl_down 8 (fun i => ∀ y : Int64, (∀ b, b < 64 → bL y b = ox (fun o => f.testBit o && (bL x (o * 8 ^ v + b) && bL u b)) i) → vm_E mX1_varied d c n 6 [some (vJ x), none, some (vI (nI (8 ^ v))), some (vJ u), none, some (vI (nI f)), some (vI (nI t)), some (vJ y), none, some (vI (nI i)), none, none] [] h Q) (fun y hy => by
      refine bX1_varied_6 (fun _ => bX1_varied_46 ?_) (fun hn => absurd n8' hn)
      have second : ∀ z : Int64, (∀ b, b < 64 → bL z b = ox (fun o => t.testBit o && (decide (o * 8 ^ v ≤ b) && bL y (b - o * 8 ^ v))) 0) → vm_E mX1_varied d c n 52 [some (vJ x), none, some (vI (nI (8 ^ v))), some (vJ u), none, some (vI (nI f)), some (vI (nI t)), some (vJ y), none, some (vJ z), none, some (vI (nI 0))] [] h Q :=
        vl_down 8 (fun i => ∀ z : Int64, (∀ b, b < 64 → bL z b = ox (fun o => t.testBit o && (decide (o * 8 ^ v ≤ b) && bL y (b - o * 8 ^ v))) i) → vm_E mX1_varied d c n 52 [some (vJ x), none, some (vI (nI (8 ^ v))), some (vJ u), none, some (vI (nI f)), some (vI (nI t)), some (vJ y), none, some (vJ z), none, some (vI (nI i))] [] h Q) (fun z hz => by
          refine bX1_varied_52 (fun _ => bX1_varied_91 (k z fun b hb => ?_)) (fun hn => absurd n8' hn)
          rw [hz b hb]
          have ho := ofv_lt b v
          have hkey : ∀ o, o < 8 → o * 8 ^ v ≤ b → (ofv (b - o * 8 ^ v) v = 0 ↔ o = ofv b v) := fun o ho hle => by
            have hv2 : v = 0 ∨ v = 1 := by omega
            rcases hv2 with rfl | rfl <;> (unfold ofv at *; simp at *; omega)
          have hsub : ofv b v * 8 ^ v ≤ b := by
            have hv2 : v = 0 ∨ v = 1 := by omega
            rcases hv2 with rfl | rfl <;> (unfold ofv at *; simp at *; omega)
          rw [Bool.eq_iff_iff, ox_t, Bool.and_eq_true]
          constructor
          · rintro ⟨o, ho8, hoo⟩
            simp only [Bool.and_eq_true, decide_eq_true_eq] at hoo
            obtain ⟨h1, h2, h3⟩ := hoo
            rw [hy _ (by omega), ox_t] at h3
            obtain ⟨o', ho', h4⟩ := h3
            simp only [Bool.and_eq_true] at h4
            obtain ⟨h5, h6, h7⟩ := h4
            rw [hu _ (by omega), decide_eq_true_eq] at h7
            have he := (hkey o ho8 h2).mp h7
            subst he
            refine ⟨h1, ox_t.mpr ⟨o', ho', ?_⟩⟩
            rw [Bool.and_eq_true]
            refine ⟨h5, ?_⟩
            rw [show stv b v o' = o' * 8 ^ v + (b - ofv b v * 8 ^ v) by unfold stv; omega]
            exact h6
          · rintro ⟨h1, h2⟩
            refine ⟨ofv b v, ho, ?_⟩
            simp only [Bool.and_eq_true, decide_eq_true_eq]
            refine ⟨h1, hsub, ?_⟩
            rw [hy _ (by omega), ox_t]
            obtain ⟨o', ho', h3⟩ := ox_t.mp h2
            rw [Bool.and_eq_true] at h3
            refine ⟨o', ho', ?_⟩
            simp only [Bool.and_eq_true]
            refine ⟨h3.1, ?_, ?_⟩
            · rw [show o' * 8 ^ v + (b - ofv b v * 8 ^ v) = stv b v o' by unfold stv; omega]
              exact h3.2
            · rw [hu _ (by omega), decide_eq_true_eq]
              exact (hkey _ ho hsub).mpr rfl) (fun i hi ih z hz => by
          refine bX1_varied_52 (fun hc => absurd hc (n8 hi)) (fun _ => ?_)
          have fin : ∀ z' : Int64, (∀ b, b < 64 → bL z' b = (t.testBit i && (decide (i * 8 ^ v ≤ b) && bL y (b - i * 8 ^ v)))) → vm_E mX1_varied d c n 82 [some (vJ x), none, some (vI (nI (8 ^ v))), some (vJ u), none, some (vI (nI f)), some (vI (nI t)), some (vJ y), none, some (vJ z), none, some (vI (nI i))] [vJ z', vJ z] h Q := fun z' hz' => by
            refine bX1_varied_82 ?_
            rw [nI_1]
            refine ih _ (fun b hb => ?_)
            show _ = (ox (fun o => t.testBit o && (decide (o * 8 ^ v ≤ b) && bL y (b - o * 8 ^ v))) i || (t.testBit i && (decide (i * 8 ^ v ≤ b) && bL y (b - i * 8 ^ v))))
            rw [bL_or, hz b hb, hz' b hb]
          refine bX1_varied_59 (fun hc => ?_) (fun hc => ?_)
          · exact bX1_varied_81 (fin 0 (fun b _ => by rw [(ut8 hi).mp hc, bL_0]; rfl))
          · refine bX1_varied_71 (fin _ (fun b hb => ?_))
            have hb2 : t.testBit i = true := by
              cases hb2 : t.testBit i
              · exact absurd ((ut8 hi).mpr hb2) hc
              · rfl
            rw [hb2, Bool.true_and, mul8, bL_shl (hp i hi) y hb])
      exact second 0 (fun b _ => bL_0 b)) (fun i hi ih y hy => by
      refine bX1_varied_6 (fun hc => absurd hc (n8 hi)) (fun _ => ?_)
      have fin : ∀ z : Int64, (∀ b, b < 64 → bL z b = (f.testBit i && (bL x (i * 8 ^ v + b) && bL u b))) → vm_E mX1_varied d c n 37 [some (vJ x), none, some (vI (nI (8 ^ v))), some (vJ u), none, some (vI (nI f)), some (vI (nI t)), some (vJ y), none, some (vI (nI i)), none, none] [vJ z, vJ y] h Q := fun z hz => by
        refine bX1_varied_37 ?_
        rw [nI_1]
        refine ih _ (fun b hb => ?_)
        show _ = (ox (fun o => f.testBit o && (bL x (o * 8 ^ v + b) && bL u b)) i || (f.testBit i && (bL x (i * 8 ^ v + b) && bL u b)))
        rw [bL_or, hy b hb, hz b hb]
      refine bX1_varied_13 (fun hc => ?_) (fun hc => ?_)
      · exact bX1_varied_36 (fin 0 (fun b _ => by rw [(ut8 hi).mp hc, bL_0]; rfl))
      · refine bX1_varied_25 (fin _ (fun b hb => ?_))
        have hb2 : f.testBit i = true := by
          cases hb2 : f.testBit i
          · exact absurd ((ut8 hi).mpr hb2) hc
          · rfl
        rw [hb2, Bool.true_and, bL_and, mul8, bL_ushr _ (su64 _ (hp i hi))])
  exact bX1_varied_0 (first 0 (fun b _ => bL_0 b))
