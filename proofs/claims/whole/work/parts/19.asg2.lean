/-! ===== bits of ints; size, masks, counts, values, vary ===== -/
theorem sl32 : ∀ n, n < 32 → ((nI n &&& 31).toBitVec.smod 32).toNat = n := by decide +kernel
theorem su32 : ∀ n, n < 32 → ((Int32.toUInt32 (nI n) &&& Int32.toUInt32 31).toBitVec % 32).toNat = n := by decide +kernel
theorem bI_and (x y : Int32) (i : Nat) : bI (x &&& y) i = (bI x i && bI y i) := by unfold bI; rw [Int32.toBitVec_and, BitVec.getLsbD_and]
theorem bI_or (x y : Int32) (i : Nat) : bI (x ||| y) i = (bI x i || bI y i) := by unfold bI; rw [Int32.toBitVec_or, BitVec.getLsbD_or]
theorem bI_xor (x y : Int32) (i : Nat) : bI (x ^^^ y) i = (bI x i ^^ bI y i) := by unfold bI; rw [Int32.toBitVec_xor, BitVec.getLsbD_xor]
theorem bI_nI (n i : Nat) : bI (nI n) i = (decide (i < 32) && n.testBit i) := by
  show (BitVec.ofNat 32 n).getLsbD i = _
  rw [BitVec.getLsbD_ofNat]
theorem bI_m1 {i : Nat} (h : i < 32) : bI (-1) i = true := by
  have : ∀ i : Fin 32, bI (-1) i.val = true := by decide +kernel
  exact this ⟨i, h⟩
theorem bI_1 : ∀ i, i < 32 → bI 1 i = decide (i = 0) := by decide +kernel
theorem bI_0 (i : Nat) : bI 0 i = false := by unfold bI; simp
theorem bI_shl {n : Nat} (hn : n < 32) (x : Int32) {i : Nat} (hi : i < 32) : bI (x <<< (nI n &&& 31)) i = (decide (n ≤ i) && bI x (i - n)) := by
  unfold bI
  rw [Int32.toBitVec_shiftLeft]
  show (x.toBitVec <<< ((nI n &&& 31).toBitVec.smod 32).toNat).getLsbD i = _
  rw [sl32 n hn, BitVec.getLsbD_shiftLeft]
  rcases Nat.lt_or_ge i n with h | h
  · simp [h, Nat.not_le.mpr h]
  · simp [hi, h, Nat.not_lt.mpr h]
theorem bI_ush {n : Nat} (hn : n < 32) (x : Int32) (i : Nat) : bI (UInt32.toInt32 (Int32.toUInt32 x >>> (Int32.toUInt32 (nI n) &&& Int32.toUInt32 31))) i = bI x (n + i) := by
  show (Int32.toUInt32 x >>> (Int32.toUInt32 (nI n) &&& Int32.toUInt32 31)).toBitVec.getLsbD i = (Int32.toUInt32 x).toBitVec.getLsbD (n + i)
  rw [UInt32.toBitVec_shiftRight]
  show ((Int32.toUInt32 x).toBitVec >>> ((Int32.toUInt32 (nI n) &&& Int32.toUInt32 31).toBitVec % 32).toNat).getLsbD i = _
  rw [su32 n hn, BitVec.getLsbD_ushiftRight]
theorem bI_sshr {n : Nat} (hn : n < 32) (x : Int32) {i : Nat} (hi : n + i < 32) : bI (x >>> (nI n &&& 31)) i = bI x (n + i) := by
  unfold bI
  rw [Int32.toBitVec_shiftRight]
  show (x.toBitVec.sshiftRight ((nI n &&& 31).toBitVec.smod 32).toNat).getLsbD i = _
  rw [sl32 n hn, BitVec.getLsbD_sshiftRight]
  simp [hi]; omega
theorem bI_and1 (x : Int32) : (x &&& 1) = 0 ↔ bI x 0 = false := by
  constructor
  · intro h
    have h1 := bI_and x 1 0
    rw [h, bI_0, bI_1 0 (by decide)] at h1
    simpa using h1.symm
  · intro h
    refine bI_ext fun i hi => ?_
    rw [bI_and, bI_0, bI_1 i hi]
    by_cases h0 : i = 0
    · subst h0; rw [h]; rfl
    · simp [h0]
theorem bI_ut {n : Nat} (hn : n < 32) (x : Int32) : (UInt32.toInt32 (Int32.toUInt32 x >>> (Int32.toUInt32 (nI n) &&& Int32.toUInt32 31)) &&& 1) = 0 ↔ bI x n = false := by
  rw [bI_and1, bI_ush hn]; rfl
theorem bI_st {n : Nat} (hn : n < 32) (x : Int32) : ((x >>> (nI n &&& 31)) &&& 1) = 0 ↔ bI x n = false := by
  rw [bI_and1, bI_sshr hn x hn]; rfl
theorem and1_or (x : Int32) : (x &&& 1) = 0 ∨ (x &&& 1) = 1 := by
  cases h : bI x 0
  · exact Or.inl ((bI_and1 x).mpr h)
  · refine Or.inr (bI_ext fun i hi => ?_)
    rw [bI_and, bI_1 i hi]
    by_cases h0 : i = 0
    · subst h0; rw [h]; rfl
    · simp [h0]
theorem bI_st1 {n : Nat} (hn : n < 32) (x : Int32) : ((x >>> (nI n &&& 31)) &&& 1) = 1 ↔ bI x n = true := by
  have h := bI_st hn x
  rcases and1_or (x >>> (nI n &&& 31)) with h1 | h1
  · rw [h1]; rw [h1] at h
    have : bI x n = false := h.mp rfl
    rw [this]; exact ⟨fun z => absurd z (by decide), fun z => by cases z⟩
  · rw [h1]; rw [h1] at h
    cases hb : bI x n
    · exact absurd (h.mpr hb) (by decide)
    · exact ⟨fun _ => rfl, fun _ => rfl⟩
/-- what an assignment gives a variable; another given instead -/
def ofv (k v : Nat) : Nat := k / 8 ^ v % 8
def stv (k v o : Nat) : Nat := k - ofv k v * 8 ^ v + o * 8 ^ v
def ox (p : Nat → Bool) : Nat → Bool
  | 0 => false
  | n + 1 => ox p n || p n
theorem ox_t {p : Nat → Bool} : ∀ {n : Nat}, ox p n = true ↔ ∃ i, i < n ∧ p i = true
  | 0 => ⟨(fun h => by cases h), (fun ⟨i, h, _⟩ => absurd h (Nat.not_lt_zero i))⟩
  | n + 1 => by
    show (ox p n || p n) = true ↔ _
    rw [Bool.or_eq_true, ox_t]
    constructor
    · rintro (⟨i, h1, h2⟩ | h)
      · exact ⟨i, by omega, h2⟩
      · exact ⟨n, by omega, h⟩
    · rintro ⟨i, h1, h2⟩
      by_cases h : i = n
      · subst h; exact Or.inr h2
      · exact Or.inl ⟨i, by omega, h2⟩
theorem ox_ext {p q : Nat → Bool} : ∀ {n : Nat}, (∀ i, i < n → p i = q i) → ox p n = ox q n
  | 0, _ => rfl
  | n + 1, h => by show (ox p n || p n) = (ox q n || q n); rw [ox_ext (fun i hi => h i (by omega)), h n (by omega)]
theorem c_size {d c n : Nat} {h : vH} {Q : vQ} {a w : Nat} (hd : 1 ≤ d) (ha : isA h a w) (k : Q (some (vI (nI (cn (sA h w) 512)))) h) : vm_C mX1_size d c n [vR (some a)] h Q := by
  obtain ⟨h1, h2, h3⟩ := ha
  have key : vm_E mX1_size d c n 4 [some (vR (some a)), some (vI (nI (cn (sA h w) (64 * 0)))), some (vI (nI 0))] [] h Q :=
    vl_down 8 (fun i => vm_E mX1_size d c n 4 [some (vR (some a)), some (vI (nI (cn (sA h w) (64 * i)))), some (vI (nI i))] [] h Q) (bX1_size_4 (fun _ => bX1_size_28 k) (fun hn => absurd n8' hn)) (fun i hi ih => by
      refine bX1_size_4 (fun hc => absurd hc (n8 hi)) (fun _ => ?_)
      refine bX1_size_10 (b2 := w) (n_b2 := 8) (R := fun r h' => r = some (vI (nI (cn (bL (hL h w i)) 64))) ∧ h = h') h1 h2 h3 (v8 hi) hd (by rw [c8 hi]; exact cL_bitCount ⟨rfl, rfl⟩) ?_
      rintro r h' ⟨rfl, rfl⟩
      refine bX1_size_20 ?_
      rw [nI_1, nI_add]
      have e : cn (sA h w) (64 * i) + cn (bL (hL h w i)) 64 = cn (sA h w) (64 * (i + 1)) := by
        rw [show 64 * (i + 1) = 64 * i + 64 by omega, cn_add]
        congr 1
        exact cn_ext fun b hb => by unfold sA; rw [show (64 * i + b) / 64 = i by omega, show (64 * i + b) % 64 = b by omega]
      rw [e]; exact ih)
  exact bX1_size_0 key
theorem c_isEmpty {d c n : Nat} {h : vH} {Q : vQ} {a w : Nat} (hd : 2 ≤ d) (ha : isA h a w) (k1 : (∀ k, k < 512 → sA h w k = false) → Q (some (vI 1)) h) (k0 : ¬ (∀ k, k < 512 → sA h w k = false) → Q (some (vI 0)) h) : vm_C mX1_isEmpty d c n [vR (some a)] h Q := by
  refine bX1_isEmpty_0 (R := fun r h' => r = some (vI (nI (cn (sA h w) 512))) ∧ h = h') ha.1 (by omega) (c_size (by omega) ha ⟨rfl, rfl⟩) ?_
  rintro r h' ⟨rfl, rfl⟩
  have hle := cn_le (sA h w) 512
  refine bX1_isEmpty_4 (fun hz => ?_) (fun hz => ?_)
  · refine bX1_isEmpty_11 (bX1_isEmpty_12 rfl (k0 fun hc => hz ?_))
    rw [cn_0.mpr hc]; rfl
  · refine bX1_isEmpty_7 (bX1_isEmpty_12 rfl (k1 (cn_0.mp ?_)))
    by_cases h0 : cn (sA h w) 512 = 0
    · exact h0
    · exact absurd (nI_ne0 (by omega) (by omega)) hz
theorem msk0 : ∀ m, m < 256 → ∀ b, b < 64 → bL (Int32.toInt64 (nI m) * 72340172838076673) b = m.testBit (b % 8) := by decide +kernel
theorem msk1 : ∀ m, m < 128 → ∀ b, b < 64 → bL (((Int32.toInt64 (nI (2 * m)) * 567382630219905) &&& 72340172838076673) * 255) b = (2 * m).testBit (b / 8 % 8) := by decide +kernel
theorem c_mask {d c n : Nat} {h : vH} {Q : vQ} {v m j : Nat} (hv : v < 3) (hm : m < 256) (he : v = 1 → m % 2 = 0) (hj : j < 8) (k : ∀ x, (∀ b, b < 64 → bL x b = m.testBit (ofv (64 * j + b) v)) → Q (some (vJ x)) h) : vm_C mX1_mask d c n [vI (nI v), vI (nI m), vI (nI j)] h Q := by
  have hv3 : v = 0 ∨ v = 1 ∨ v = 2 := by omega
  rcases hv3 with rfl | rfl | rfl
  · refine bX1_mask_0 (fun hc => absurd rfl hc) (fun _ => bX1_mask_4 (k _ fun b hb => ?_))
    rw [msk0 m hm b hb]; congr 1; unfold ofv; simp; omega
  · refine bX1_mask_0 (fun _ => bX1_mask_11 (fun _ => bX1_mask_32 (k _ fun b hb => ?_)) (fun hc => absurd (by decide +kernel) hc)) (fun hc => absurd (by decide +kernel) hc)
    have h1 := msk1 (m / 2) (by omega) b hb
    rw [show 2 * (m / 2) = m by have := he rfl; omega] at h1
    rw [h1]; congr 1; unfold ofv; simp; omega
  · refine bX1_mask_0 (fun _ => bX1_mask_11 (fun hc => absurd rfl hc) (fun _ => ?_)) (fun hc => absurd (by decide +kernel) hc)
    have hz : ∀ b, b < 64 → ofv (64 * j + b) 2 = j := fun b hb => by unfold ofv; omega
    have ht := bI_ut (n := j) (by omega) (nI m)
    rw [bI_nI, show decide (j < 32) = true from decide_eq_true (by omega), Bool.true_and] at ht
    refine bX1_mask_16 (fun hc => bX1_mask_30 (bX1_mask_31 (k _ fun b hb => ?_))) (fun hc => bX1_mask_24 (bX1_mask_31 (k _ fun b hb => ?_)))
    · rw [hz b hb, ht.mp hc, bL_0]
    · rw [hz b hb, bL_m1 hb]
      cases hb2 : m.testBit j
      · exact absurd (ht.mpr hb2) hc
      · rfl
def wvo (v a k : Nat) (w : Nat) : Bool := decide (ofv k v = a)
theorem tb_pow (a x : Nat) : (2 ^ a).testBit x = decide (x = a) := by rw [Nat.testBit_two_pow]; simp [eq_comm]
theorem shl1 : ∀ a, a < 8 → (1 : Int32) <<< (nI a &&& (31 : Int32)) = nI (2 ^ a) := by decide +kernel
theorem ofv_lt (k v : Nat) : ofv k v < 8 := Nat.mod_lt _ (by decide)
/-- how many assignments of the set give a to v and e to u -/
def cnt2 (S : Nat → Bool) (v a u e : Nat) : Nat := cn (fun k => S k && (decide (ofv k v = a) && decide (ofv k u = e))) 512
theorem c_countOf {d c n : Nat} {h : vH} {Q : vQ} {a w v p u q : Nat} (hd : 1 ≤ d) (ha : isA h a w) (hv : v < 3) (hu : u < 3) (hp : 0 < p ∧ p < 8) (hq : 0 < q ∧ q < 8) (k : Q (some (vI (nI (cnt2 (sA h w) v p u q)))) h) : vm_C mX1_countOf d c n [vR (some a), vI (nI v), vI (nI p), vI (nI u), vI (nI q)] h Q := by
  obtain ⟨h1, h2, h3⟩ := ha
  have hp2 : 2 ^ p < 256 ∧ 2 ^ p % 2 = 0 := (by decide : ∀ p, p < 8 → 0 < p → 2 ^ p < 256 ∧ 2 ^ p % 2 = 0) p hp.2 hp.1
  have hq2 : 2 ^ q < 256 ∧ 2 ^ q % 2 = 0 := (by decide : ∀ p, p < 8 → 0 < p → 2 ^ p < 256 ∧ 2 ^ p % 2 = 0) q hq.2 hq.1
  have key : vm_E mX1_countOf d c n 6 [some (vR (some a)), some (vI (nI v)), some (vI (nI p)), some (vI (nI u)), some (vI (nI q)), some (vI (nI (cn (fun k => sA h w k && (decide (ofv k v = p) && decide (ofv k u = q))) (64 * 0)))), some (vI (nI 0))] [] h Q :=
    vl_down 8 (fun i => vm_E mX1_countOf d c n 6 [some (vR (some a)), some (vI (nI v)), some (vI (nI p)), some (vI (nI u)), some (vI (nI q)), some (vI (nI (cn (fun k => sA h w k && (decide (ofv k v = p) && decide (ofv k u = q))) (64 * i)))), some (vI (nI i))] [] h Q) (bX1_countOf_6 (fun _ => bX1_countOf_55 k) (fun hn => absurd n8' hn)) (fun i hi ih => by
      refine bX1_countOf_6 (fun hc => absurd hc (n8 hi)) (fun _ => ?_)
      refine bX1_countOf_13 (b2 := w) (n_b2 := 8) (R := fun r h' => ∃ x, (∀ b, b < 64 → bL x b = (2 ^ p).testBit (ofv (64 * i + b) v)) ∧ r = some (vJ x) ∧ h = h') h1 h2 h3 (v8 hi) hd (by rw [shl1 p hp.2]; exact c_mask hv hp2.1 (fun _ => hp2.2) hi (fun x hx => ⟨x, hx, rfl, rfl⟩)) ?_
      rintro r h' ⟨x, hx, rfl, rfl⟩
      refine bX1_countOf_31 (R := fun r h' => ∃ y, (∀ b, b < 64 → bL y b = (2 ^ q).testBit (ofv (64 * i + b) u)) ∧ r = some (vJ y) ∧ h = h') hd (by rw [shl1 q hq.2]; exact c_mask hu hq2.1 (fun _ => hq2.2) hi (fun x hx => ⟨x, hx, rfl, rfl⟩)) ?_
      rintro r h' ⟨y, hy, rfl, rfl⟩
      refine bX1_countOf_42 (R := fun r h' => r = some (vI (nI (cn (bL ((hL h w i &&& x) &&& y)) 64))) ∧ h = h') hd (by rw [c8 hi]; exact cL_bitCount ⟨rfl, rfl⟩) ?_
      rintro r h' ⟨rfl, rfl⟩
      refine bX1_countOf_46 ?_
      rw [nI_1, nI_add]
      have e : cn (fun k => sA h w k && (decide (ofv k v = p) && decide (ofv k u = q))) (64 * i) + cn (bL ((hL h w i &&& x) &&& y)) 64 = cn (fun k => sA h w k && (decide (ofv k v = p) && decide (ofv k u = q))) (64 * (i + 1)) := by
        rw [show 64 * (i + 1) = 64 * i + 64 by omega, cn_add]
        congr 1
        refine cn_ext fun b hb => ?_
        rw [bL_and, bL_and, hx b hb, hy b hb, tb_pow, tb_pow]
        show _ = (sA h w (64 * i + b) && _)
        unfold sA; rw [show (64 * i + b) / 64 = i by omega, show (64 * i + b) % 64 = b by omega, Bool.and_assoc]
      rw [e]; exact ih)
  exact bX1_countOf_0 key
/-- the objects that a variable has in a set of assignments, as a number -/
def vals (S : Nat → Bool) (v : Nat) : Nat → Nat
  | 0 => 0
  | i + 1 => vals S v i + (if cnt2 S v (i + 1) v (i + 1) = 0 then 0 else 2 ^ (i + 1))
theorem or_pow : ∀ i, i < 7 → ∀ m, m < 2 ^ (i + 1) → nI m ||| nI (2 ^ (i + 1)) = nI (m + 2 ^ (i + 1)) := by decide +kernel
theorem vals_lt (S : Nat → Bool) (v : Nat) : ∀ i, vals S v i < 2 ^ (i + 1)
  | 0 => (by decide : 0 < 2 ^ 1)
  | i + 1 => by
    have h := vals_lt S v i
    have h2 : 2 ^ (i + 2) = 2 ^ (i + 1) + 2 ^ (i + 1) := by rw [Nat.pow_succ]; omega
    show vals S v i + (if cnt2 S v (i + 1) v (i + 1) = 0 then 0 else 2 ^ (i + 1)) < _
    split <;> omega
theorem c_valuesOf {d c n : Nat} {h : vH} {Q : vQ} {a w v : Nat} (hd : 2 ≤ d) (ha : isA h a w) (hv : v < 3) (k : Q (some (vI (nI (vals (sA h w) v 7)))) h) : vm_C mX1_valuesOf d c n [vR (some a), vI (nI v)] h Q := by
  have key : vm_E mX1_valuesOf d c n 4 [some (vR (some a)), some (vI (nI v)), some (vI (nI (vals (sA h w) v 0))), some (vI (nI (0 + 1)))] [] h Q :=
    vl_down 7 (fun i => vm_E mX1_valuesOf d c n 4 [some (vR (some a)), some (vI (nI v)), some (vI (nI (vals (sA h w) v i))), some (vI (nI (i + 1)))] [] h Q) (bX1_valuesOf_4 (fun _ => bX1_valuesOf_33 k) (fun hn => absurd (by decide +kernel) hn)) (fun i hi ih => by
      refine bX1_valuesOf_4 (fun hc => absurd hc (nI_nlt (a := 7) (b := i + 1) (by omega) (by decide))) (fun _ => ?_)
      refine bX1_valuesOf_10 (R := fun r h' => r = some (vI (nI (cnt2 (sA h w) v (i + 1) v (i + 1)))) ∧ h = h') ha.1 (by omega) (c_countOf (by omega) ha hv hv ⟨by omega, by omega⟩ ⟨by omega, by omega⟩ ⟨rfl, rfl⟩) ?_
      rintro r h' ⟨rfl, rfl⟩
      have hle : cnt2 (sA h w) v (i + 1) v (i + 1) ≤ 512 := cn_le _ 512
      have es : vals (sA h w) v (i + 1) = vals (sA h w) v i + (if cnt2 (sA h w) v (i + 1) v (i + 1) = 0 then 0 else 2 ^ (i + 1)) := rfl
      refine bX1_valuesOf_18 (fun hc => bX1_valuesOf_27 ?_) (fun hc => bX1_valuesOf_21 (bX1_valuesOf_27 ?_))
      · have h0 : cnt2 (sA h w) v (i + 1) v (i + 1) = 0 := by
          by_cases h0 : cnt2 (sA h w) v (i + 1) v (i + 1) = 0
          · exact h0
          · exact absurd hc (nI_nle (by omega) (by omega))
        rw [nI_1, ← (show vals (sA h w) v (i + 1) = vals (sA h w) v i by rw [es, if_pos h0]; omega)]
        exact ih
      · have h0 : ¬ cnt2 (sA h w) v (i + 1) v (i + 1) = 0 := fun z => hc (by rw [z]; decide +kernel)
        rw [nI_1, shl1 (i + 1) (by omega), or_pow i hi _ (vals_lt _ _ i), ← (show vals (sA h w) v (i + 1) = vals (sA h w) v i + 2 ^ (i + 1) by rw [es, if_neg h0])]
        exact ih)
  exact bX1_valuesOf_0 key
theorem c_keepValues {d c n : Nat} {h : vH} {Q : vQ} {a w v m : Nat} (hd : 1 ≤ d) (ha : isA h a w) (hv : v < 3) (hm : m < 256) (he : v = 1 → m % 2 = 0) (k : Q none (uS h w (fun k => sA h w k && m.testBit (ofv k v)))) : vm_C mX1_keepValues d c n [vR (some a), vI (nI v), vI (nI m)] h Q := by
  obtain ⟨h1, h2, h3⟩ := ha
  have key : vm_E mX1_keepValues d c n 2 [some (vR (some a)), some (vI (nI v)), some (vI (nI m)), some (vI (nI 0))] [] (pL h w 0 (fun j => mkL (fun b => sA h w (64 * j + b) && m.testBit (ofv (64 * j + b) v)))) Q :=
    vl_down 8 (fun i => vm_E mX1_keepValues d c n 2 [some (vR (some a)), some (vI (nI v)), some (vI (nI m)), some (vI (nI i))] [] (pL h w i (fun j => mkL (fun b => sA h w (64 * j + b) && m.testBit (ofv (64 * j + b) v)))) Q) (bX1_keepValues_2 (fun _ => bX1_keepValues_29 k) (fun hn => absurd n8' hn)) (fun i hi ih => by
      refine bX1_keepValues_2 (fun hc => absurd hc (n8 hi)) (fun _ => ?_)
      refine bX1_keepValues_8 (b2 := w) (n_b2 := 8) (R := fun r h' => ∃ x, (∀ b, b < 64 → bL x b = m.testBit (ofv (64 * i + b) v)) ∧ r = some (vJ x) ∧ pL h w i (fun j => mkL (fun b => sA h w (64 * j + b) && m.testBit (ofv (64 * j + b) v))) = h') h1 h2 h3 (v8 hi) hd (c_mask hv hm he hi (fun x hx => ⟨x, hx, rfl, rfl⟩)) ?_
      rintro r h' ⟨x, hx, rfl, rfl⟩
      refine bX1_keepValues_21 (n_sa3 := 8) h3 (v8 hi) ?_
      rw [nI_1, c8 hi, hL_pLge _ _ _ _ w (Nat.le_refl i)]
      have e : hL h w i &&& x = mkL (fun b => sA h w (64 * i + b) && m.testBit (ofv (64 * i + b) v)) := bL_ext fun b hb => by
        rw [bL_and, mkL_bit _ hb, hx b hb]
        unfold sA; rw [show (64 * i + b) / 64 = i by omega, show (64 * i + b) % 64 = b by omega]
      rw [e, pL_s h w i (fun j => mkL (fun b => sA h w (64 * j + b) && m.testBit (ofv (64 * j + b) v)))]
      exact ih)
  rw [pL_0] at key
  exact bX1_keepValues_0 key
theorem c_keepPartners {d c n : Nat} {h : vH} {Q : vQ} {a w v p u m : Nat} (hd : 1 ≤ d) (ha : isA h a w) (hv : v < 3) (hu : u < 3) (hp : 0 < p ∧ p < 8) (hm : m < 256) (he : m % 2 = 0) (k : Q none (uS h w (fun k => sA h w k && (!decide (ofv k v = p) || m.testBit (ofv k u))))) : vm_C mX1_keepPartners d c n [vR (some a), vI (nI v), vI (nI p), vI (nI u), vI (nI m)] h Q := by
  obtain ⟨h1, h2, h3⟩ := ha
  have hp2 : 2 ^ p < 256 ∧ 2 ^ p % 2 = 0 := (by decide : ∀ p, p < 8 → 0 < p → 2 ^ p < 256 ∧ 2 ^ p % 2 = 0) p hp.2 hp.1
  have key : vm_E mX1_keepPartners d c n 3 [some (vR (some a)), some (vI (nI v)), some (vI (nI p)), some (vI (nI u)), some (vI (nI m)), some (vI (nI 0))] [] (pL h w 0 (fun j => mkL (fun b => sA h w (64 * j + b) && (!decide (ofv (64 * j + b) v = p) || m.testBit (ofv (64 * j + b) u))))) Q :=
    vl_down 8 (fun i => vm_E mX1_keepPartners d c n 3 [some (vR (some a)), some (vI (nI v)), some (vI (nI p)), some (vI (nI u)), some (vI (nI m)), some (vI (nI i))] [] (pL h w i (fun j => mkL (fun b => sA h w (64 * j + b) && (!decide (ofv (64 * j + b) v = p) || m.testBit (ofv (64 * j + b) u))))) Q) (bX1_keepPartners_3 (fun _ => bX1_keepPartners_48 k) (fun hn => absurd n8' hn)) (fun i hi ih => by
      refine bX1_keepPartners_3 (fun hc => absurd hc (n8 hi)) (fun _ => ?_)
      refine bX1_keepPartners_10 (b2 := w) (n_b2 := 8) (R := fun r h' => ∃ x, (∀ b, b < 64 → bL x b = (2 ^ p).testBit (ofv (64 * i + b) v)) ∧ r = some (vJ x) ∧ pL h w i (fun j => mkL (fun b => sA h w (64 * j + b) && (!decide (ofv (64 * j + b) v = p) || m.testBit (ofv (64 * j + b) u)))) = h') h1 h2 h3 (v8 hi) hd (by rw [shl1 p hp.2]; exact c_mask hv hp2.1 (fun _ => hp2.2) hi (fun x hx => ⟨x, hx, rfl, rfl⟩)) ?_
      rintro r h' ⟨x, hx, rfl, rfl⟩
      refine bX1_keepPartners_27 (R := fun r h' => ∃ y, (∀ b, b < 64 → bL y b = m.testBit (ofv (64 * i + b) u)) ∧ r = some (vJ y) ∧ pL h w i (fun j => mkL (fun b => sA h w (64 * j + b) && (!decide (ofv (64 * j + b) v = p) || m.testBit (ofv (64 * j + b) u)))) = h') hd (c_mask hu hm (fun _ => he) hi (fun x hx => ⟨x, hx, rfl, rfl⟩)) ?_
      rintro r h' ⟨y, hy, rfl, rfl⟩
      refine bX1_keepPartners_39 (n_sa4 := 8) h3 (v8 hi) ?_
      rw [nI_1, c8 hi, hL_pLge _ _ _ _ w (Nat.le_refl i)]
      have e : hL h w i &&& ((x ^^^ (-1)) ||| y) = mkL (fun b => sA h w (64 * i + b) && (!decide (ofv (64 * i + b) v = p) || m.testBit (ofv (64 * i + b) u))) := bL_ext fun b hb => by
        rw [bL_and, bL_or, bL_not _ hb, mkL_bit _ hb, hx b hb, hy b hb, tb_pow]
        unfold sA; rw [show (64 * i + b) / 64 = i by omega, show (64 * i + b) % 64 = b by omega]
      rw [e, pL_s h w i (fun j => mkL (fun b => sA h w (64 * j + b) && (!decide (ofv (64 * j + b) v = p) || m.testBit (ofv (64 * j + b) u))))]
      exact ih)
  rw [pL_0] at key
  exact bX1_keepPartners_0 key
