/-! ===== counting bits ===== -/
def cn (p : Nat → Bool) : Nat → Nat
  | 0 => 0
  | n + 1 => cn p n + (if p n then 1 else 0)
theorem cn_s (p : Nat → Bool) (n : Nat) : cn p (n + 1) = cn p n + (if p n then 1 else 0) := rfl
theorem cn_le (p : Nat → Bool) : ∀ n, cn p n ≤ n
  | 0 => Nat.le_refl 0
  | n + 1 => by have := cn_le p n; rw [cn_s]; split <;> omega
theorem cn_ext {p q : Nat → Bool} : ∀ {n : Nat}, (∀ k, k < n → p k = q k) → cn p n = cn q n
  | 0, _ => rfl
  | n + 1, h => by rw [cn_s, cn_s, cn_ext (fun k hk => h k (Nat.lt_succ_of_lt hk)), h n (Nat.lt_succ_self n)]
theorem cn_add (p : Nat → Bool) (m : Nat) : ∀ n, cn p (m + n) = cn p m + cn (fun k => p (m + k)) n
  | 0 => rfl
  | n + 1 => by rw [← Nat.add_assoc, cn_s, cn_s, cn_add p m n, Nat.add_assoc]
theorem cn_0 {p : Nat → Bool} : ∀ {n : Nat}, cn p n = 0 ↔ ∀ k, k < n → p k = false
  | 0 => ⟨fun _ k hk => absurd hk (Nat.not_lt_zero k), fun _ => rfl⟩
  | n + 1 => by
    rw [cn_s]
    constructor
    · intro h k hk
      have h1 : cn p n = 0 := by omega
      by_cases he : k = n
      · subst he
        cases hp : p k
        · rfl
        · rw [hp, if_pos rfl] at h; omega
      · exact cn_0.mp h1 k (by omega)
    · intro h
      rw [cn_0.mpr (fun k hk => h k (by omega)), h n (Nat.lt_succ_self n)]; rfl
def p8 (z : Nat) : Nat := cn (fun i => z.testBit i) 8
def dv : List Nat → Nat
  | [] => 0
  | z :: r => z + 256 * dv r
def f1 (z : Nat) : Nat := z - (z / 2 &&& 0x55)
def f2 (z : Nat) : Nat := (z &&& 0x33) + (z / 4 &&& 0x33)
def f3 (z : Nat) : Nat := (z + z / 16) &&& 0x0f
theorem and256 {a b c d : Nat} (hb : b < 256) (hd : d < 256) : (256 * a + b) &&& (256 * c + d) = 256 * (a &&& c) + (b &&& d) := by
  have hbd : b &&& d < 256 := Nat.and_lt_two_pow b (show d < 2 ^ 8 from hd)
  apply Nat.eq_of_testBit_eq
  intro i
  rw [Nat.testBit_and, show (256 : Nat) = 2 ^ 8 from rfl, Nat.testBit_two_pow_mul_add _ (show b < 2 ^ 8 from hb), Nat.testBit_two_pow_mul_add _ (show d < 2 ^ 8 from hd), Nat.testBit_two_pow_mul_add _ (show b &&& d < 2 ^ 8 from hbd)]
  split <;> rw [Nat.testBit_and]
theorem f1_t : ∀ k, k < 2 → ∀ z, z < 256 → (128 * k + z / 2) &&& 0x55 = (z / 2 &&& 0x55) ∧ (z / 2 &&& 0x55) ≤ z := by decide +kernel
theorem f2_t : ∀ k, k < 4 → ∀ z, z < 256 → (64 * k + z / 4) &&& 0x33 = (z / 4 &&& 0x33) := by decide +kernel
theorem f2_l : ∀ z, z < 256 → f1 z < 256 ∧ f2 (f1 z) < 256 ∧ f2 (f1 z) % 16 ≤ 4 ∧ f2 (f1 z) / 16 ≤ 4 ∧ f3 (f2 (f1 z)) = p8 z ∧ p8 z ≤ 8 := by decide +kernel
theorem f3_t : ∀ k, k < 5 → ∀ a, a < 5 → ∀ b, b < 5 → (16 * a + b + (16 * a + b) / 16 + 16 * k) &&& 0x0f = (16 * a + b + (16 * a + b) / 16) &&& 0x0f ∧ 16 * a + b + (16 * a + b) / 16 + 16 * k < 256 := by decide +kernel
def all256 : List Nat → Prop
  | [] => True
  | z :: r => z < 256 ∧ all256 r
theorem s1 : ∀ (ds : List Nat), all256 ds → (dv ds / 2 &&& dv (ds.map fun _ => 0x55)) = dv (ds.map fun z => z / 2 &&& 0x55)
  | [], _ => rfl
  | z :: r, h => by
    have ih := s1 r h.2
    have t := (f1_t (dv r % 2) (by omega) z h.1).1
    show ((z + 256 * dv r) / 2 &&& (0x55 + 256 * dv (r.map fun _ => 0x55))) = (z / 2 &&& 0x55) + 256 * dv (r.map fun z => z / 2 &&& 0x55)
    rw [show (z + 256 * dv r) / 2 = 256 * (dv r / 2) + (128 * (dv r % 2) + z / 2) by have := h.1; omega, Nat.add_comm 0x55, and256 (by have := h.1; omega) (by decide), t, ih, Nat.add_comm]
theorem s1le : ∀ (ds : List Nat), all256 ds → dv (ds.map fun z => z / 2 &&& 0x55) ≤ dv ds ∧ dv ds - dv (ds.map fun z => z / 2 &&& 0x55) = dv (ds.map f1)
  | [], _ => ⟨Nat.le_refl _, rfl⟩
  | z :: r, h => by
    have ih := s1le r h.2
    have t := (f1_t 0 (by decide) z h.1).2
    show (z / 2 &&& 0x55) + 256 * dv (r.map fun z => z / 2 &&& 0x55) ≤ z + 256 * dv r ∧ z + 256 * dv r - ((z / 2 &&& 0x55) + 256 * dv (r.map fun z => z / 2 &&& 0x55)) = (z - (z / 2 &&& 0x55)) + 256 * dv (r.map f1)
    omega
theorem s2a : ∀ (ds : List Nat), all256 ds → (dv ds &&& dv (ds.map fun _ => 0x33)) = dv (ds.map fun z => z &&& 0x33)
  | [], _ => rfl
  | z :: r, h => by
    have ih := s2a r h.2
    show ((z + 256 * dv r) &&& (0x33 + 256 * dv (r.map fun _ => 0x33))) = (z &&& 0x33) + 256 * dv (r.map fun z => z &&& 0x33)
    rw [Nat.add_comm z, Nat.add_comm 0x33, and256 h.1 (by decide), ih, Nat.add_comm]
theorem s2b : ∀ (ds : List Nat), all256 ds → (dv ds / 4 &&& dv (ds.map fun _ => 0x33)) = dv (ds.map fun z => z / 4 &&& 0x33)
  | [], _ => rfl
  | z :: r, h => by
    have ih := s2b r h.2
    have t := f2_t (dv r % 4) (by omega) z h.1
    show ((z + 256 * dv r) / 4 &&& (0x33 + 256 * dv (r.map fun _ => 0x33))) = (z / 4 &&& 0x33) + 256 * dv (r.map fun z => z / 4 &&& 0x33)
    rw [show (z + 256 * dv r) / 4 = 256 * (dv r / 4) + (64 * (dv r % 4) + z / 4) by have := h.1; omega, Nat.add_comm 0x33, and256 (by have := h.1; omega) (by decide), t, ih, Nat.add_comm]
theorem s2c : ∀ (ds : List Nat), dv (ds.map fun z => z &&& 0x33) + dv (ds.map fun z => z / 4 &&& 0x33) = dv (ds.map f2)
  | [] => rfl
  | z :: r => by
    have ih := s2c r
    show (z &&& 0x33) + 256 * dv (r.map fun z => z &&& 0x33) + ((z / 4 &&& 0x33) + 256 * dv (r.map fun z => z / 4 &&& 0x33)) = ((z &&& 0x33) + (z / 4 &&& 0x33)) + 256 * dv (r.map f2)
    omega
def nib : List Nat → Prop
  | [] => True
  | z :: r => z % 16 ≤ 4 ∧ z / 16 ≤ 4 ∧ nib r
theorem nib16 : ∀ (ds : List Nat), nib ds → dv ds % 16 ≤ 4
  | [], _ => by decide
  | z :: r, h => by
    show (z + 256 * dv r) % 16 ≤ 4
    have := h.1; omega
theorem s3 : ∀ (ds : List Nat), nib ds → ((dv ds + dv ds / 16) &&& dv (ds.map fun _ => 0x0f)) = dv (ds.map f3)
  | [], _ => rfl
  | z :: r, h => by
    have ih := s3 r h.2.2
    have hn := nib16 r h.2.2
    have t := f3_t (dv r % 16) (by omega) (z / 16) (by have := h.2.1; omega) (z % 16) (by have := h.1; omega)
    rw [show 16 * (z / 16) + z % 16 = z by omega] at t
    show ((z + 256 * dv r + (z + 256 * dv r) / 16) &&& (0x0f + 256 * dv (r.map fun _ => 0x0f))) = ((z + z / 16) &&& 0x0f) + 256 * dv (r.map f3)
    rw [show z + 256 * dv r + (z + 256 * dv r) / 16 = 256 * (dv r + dv r / 16) + (z + z / 16 + 16 * (dv r % 16)) by have := h.2.1; omega, Nat.add_comm 0x0f, and256 t.2 (by decide), t.1, ih, Nat.add_comm]
def digs : Nat → Nat → List Nat
  | 0, _ => []
  | k + 1, n => n % 256 :: digs k (n / 256)
theorem digs_v : ∀ k n, n < 256 ^ k → dv (digs k n) = n
  | 0, n, h => by rw [Nat.pow_zero] at h; show 0 = n; omega
  | k + 1, n, h => by
    show n % 256 + 256 * dv (digs k (n / 256)) = n
    rw [digs_v k (n / 256) (by rw [Nat.pow_succ] at h; omega)]; omega
theorem digs_a : ∀ k n, all256 (digs k n)
  | 0, _ => trivial
  | k + 1, n => ⟨Nat.mod_lt _ (by decide), digs_a k _⟩
theorem digs_l : ∀ k n, (digs k n).length = k
  | 0, _ => rfl
  | k + 1, n => by show (digs k (n / 256)).length + 1 = k + 1; rw [digs_l k]
theorem digs_c : ∀ k n (c : Nat), (digs k n).map (fun _ => c) = List.replicate k c
  | 0, _, _ => rfl
  | k + 1, n, c => by show c :: (digs k (n / 256)).map (fun _ => c) = c :: List.replicate k c; rw [digs_c k]
theorem map_c (f : Nat → Nat) (c : Nat) : ∀ ds : List Nat, (ds.map f).map (fun _ => c) = ds.map (fun _ => c)
  | [] => rfl
  | _ :: r => by show c :: _ = c :: _; rw [map_c f c r]
theorem all_f1 : ∀ ds : List Nat, all256 ds → all256 (ds.map f1) ∧ nib ((ds.map f1).map f2) ∧ ((ds.map f1).map f2).map f3 = ds.map p8
  | [], _ => ⟨trivial, trivial, rfl⟩
  | z :: r, h => by
    have ih := all_f1 r h.2
    have t := f2_l z h.1
    refine ⟨⟨t.1, ih.1⟩, ⟨t.2.2.1, t.2.2.2.1, ih.2.1⟩, ?_⟩
    show f3 (f2 (f1 z)) :: _ = p8 z :: _
    rw [t.2.2.2.2.1, ih.2.2]
theorem cn_digs : ∀ k n, cn (fun i => n.testBit i) (8 * k) = (((digs k n).map p8).foldr (· + ·) 0)
  | 0, _ => rfl
  | k + 1, n => by
    show _ = p8 (n % 256) + ((digs k (n / 256)).map p8).foldr (· + ·) 0
    rw [← cn_digs k (n / 256), show 8 * (k + 1) = 8 + 8 * k by omega, cn_add]
    congr 1
    · exact cn_ext fun i hi => by
        rw [show (256 : Nat) = 2 ^ 8 from rfl, Nat.testBit_mod_two_pow]; simp [hi]
    · exact cn_ext fun i _ => by
        rw [show (256 : Nat) = 2 ^ 8 from rfl, Nat.testBit_div_two_pow, Nat.add_comm]
def tL (x : Int64) : Nat := x.toBitVec.toNat
theorem tL_lt (x : Int64) : tL x < 2 ^ 64 := x.toBitVec.isLt
theorem tL_bit (x : Int64) (i : Nat) : (tL x).testBit i = bL x i := rfl
theorem tL_and (x y : Int64) : tL (x &&& y) = tL x &&& tL y := by unfold tL; rw [Int64.toBitVec_and, BitVec.toNat_and]
theorem tL_add {x y : Int64} (h : tL x + tL y < 2 ^ 64) : tL (x + y) = tL x + tL y := by
  unfold tL at h ⊢; rw [Int64.toBitVec_add, BitVec.toNat_add, Nat.mod_eq_of_lt h]
theorem tL_sub {x y : Int64} (h : tL y ≤ tL x) : tL (x - y) = tL x - tL y := by
  unfold tL at h ⊢; rw [Int64.toBitVec_sub, BitVec.toNat_sub]; have := x.toBitVec.isLt; have := y.toBitVec.isLt; omega
theorem tL_ush (x : Int64) (s : UInt64) {k : Nat} (hs : s.toNat % 64 = k) : tL (UInt64.toInt64 (Int64.toUInt64 x >>> s)) = tL x / 2 ^ k := by
  show (Int64.toUInt64 x >>> s).toBitVec.toNat = x.toBitVec.toNat / 2 ^ k
  rw [UInt64.toBitVec_shiftRight, BitVec.ushiftRight_eq', BitVec.toNat_ushiftRight, Nat.shiftRight_eq_div_pow]
  have : (s.toBitVec % 64#64).toNat = k := by rw [BitVec.toNat_umod]; exact hs
  rw [show (s.toBitVec % 64).toNat = k from this]; rfl
theorem dv8 (d0 d1 d2 d3 d4 d5 d6 d7 : Nat) : dv [d0, d1, d2, d3, d4, d5, d6, d7] = d0 + 256 * (d1 + 256 * (d2 + 256 * (d3 + 256 * (d4 + 256 * (d5 + 256 * (d6 + 256 * d7)))))) := rfl
theorem toI_nat (y : Int64) : (Int64.toInt32 y).toBitVec.toNat = tL y % 2 ^ 32 := by
  rw [Int64.toBitVec_toInt32, BitVec.signExtend_eq_setWidth_of_le _ (by decide), BitVec.toNat_setWidth]; rfl
theorem pop_1 {y d A : Nat} (h : y = d + 256 * A) (hd : d ≤ 8) : y / 256 = A := by omega
theorem pop_2 {y z a b c A B : Nat} (hy : y = a + 256 * (b + 256 * A)) (hz : z = b + 256 * (c + 256 * B)) (ha : a ≤ 8) (hb : b ≤ 8) (hc : c ≤ 8) : (y + z) / 65536 = A + B := by omega
theorem pop_3 {a b c e A B C E : Nat} (ha : a ≤ 134744072) (hb : b ≤ 134744072) (hc : c ≤ 134744072) (he : e ≤ 134744072) : (a + 4294967296 * A + (b + 4294967296 * B) + (c + 4294967296 * C + (e + 4294967296 * E))) / 4294967296 = A + B + (C + E) := by omega
theorem pop_4 {y a b c e A : Nat} (h : y = a + 256 * (b + 256 * (c + 256 * (e + 256 * A)))) (ha : a ≤ 8) (hb : b ≤ 8) (hc : c ≤ 8) (he : e ≤ 8) : ∃ l, l ≤ 134744072 ∧ y = l + 4294967296 * A := ⟨a + 256 * b + 65536 * c + 16777216 * e, by omega, by omega⟩
theorem pop_5 {y D T : Nat} (h : y = D + 256 * T) (hD : D ≤ 64) : y % 2 ^ 32 % 2 ^ 7 = D := by
  have h1 : y % 2 ^ 32 % 2 ^ 7 = y % 2 ^ 7 := Nat.mod_mod_of_dvd y (by decide)
  rw [h1]; omega
theorem pop_6 {A0 A1 A2 A3 A4 A5 A6 d0 d1 d2 d3 d4 d5 d6 d7 : Nat} (h0 : A0 = d0 + 256 * A1) (h1 : A1 = d1 + 256 * A2) (h2 : A2 = d2 + 256 * A3) (h3 : A3 = d3 + 256 * A4) (h4 : A4 = d4 + 256 * A5) (h5 : A5 = d5 + 256 * A6) (h6 : A6 = d6 + 256 * d7) : A0 + A1 + (A2 + A3) + (A4 + A5 + (A6 + d7)) = (d0 + (d1 + (d2 + (d3 + (d4 + (d5 + (d6 + (d7 + 0)))))))) + 256 * (A1 + A2 + A3 + A4 + A5 + A6 + d7) := by omega
theorem pop_7 {d0 d1 d2 d3 d4 d5 d6 d7 : Nat} (q0 : d0 ≤ 8) (q1 : d1 ≤ 8) (q2 : d2 ≤ 8) (q3 : d3 ≤ 8) (q4 : d4 ≤ 8) (q5 : d5 ≤ 8) (q6 : d6 ≤ 8) (q7 : d7 ≤ 8) : d0 + (d1 + (d2 + (d3 + (d4 + (d5 + (d6 + (d7 + 0))))))) ≤ 64 := by omega
theorem pop_end (y3 y4 y5 y6 d0 d1 d2 d3 d4 d5 d6 d7 : Nat) (q0 : d0 ≤ 8) (q1 : d1 ≤ 8) (q2 : d2 ≤ 8) (q3 : d3 ≤ 8) (q4 : d4 ≤ 8) (q5 : d5 ≤ 8) (q6 : d6 ≤ 8) (q7 : d7 ≤ 8) (h3 : y3 = d0 + 256 * (d1 + 256 * (d2 + 256 * (d3 + 256 * (d4 + 256 * (d5 + 256 * (d6 + 256 * d7))))))) (h4 : y4 = y3 + y3 / 256) (h5 : y5 = y4 + y4 / 65536) (h6 : y6 = y5 + y5 / 4294967296) : y6 % 2 ^ 32 % 2 ^ 7 = d0 + (d1 + (d2 + (d3 + (d4 + (d5 + (d6 + (d7 + 0))))))) := by
  obtain ⟨A6, a6⟩ : ∃ A, A = d6 + 256 * d7 := ⟨_, rfl⟩
  rw [← a6] at h3
  obtain ⟨A5, a5⟩ : ∃ A, A = d5 + 256 * A6 := ⟨_, rfl⟩
  rw [← a5] at h3
  obtain ⟨A4, a4⟩ : ∃ A, A = d4 + 256 * A5 := ⟨_, rfl⟩
  rw [← a4] at h3
  obtain ⟨A3, a3⟩ : ∃ A, A = d3 + 256 * A4 := ⟨_, rfl⟩
  rw [← a3] at h3
  obtain ⟨A2, a2⟩ : ∃ A, A = d2 + 256 * A3 := ⟨_, rfl⟩
  rw [← a2] at h3
  obtain ⟨A1, a1⟩ : ∃ A, A = d1 + 256 * A2 := ⟨_, rfl⟩
  rw [← a1] at h3
  rw [pop_1 h3 q0] at h4
  have e4 : y4 / 65536 = A2 + A3 := by
    rw [h4]; exact pop_2 (by rw [h3, a1]) (by rw [a1, a2]) q0 q1 q2
  rw [e4, h4] at h5
  obtain ⟨l0, b0, c0⟩ := pop_4 (y := y3) (A := A4) (by rw [h3, a1, a2, a3]) q0 q1 q2 q3
  obtain ⟨l1, b1, c1⟩ := pop_4 (y := A1) (A := A5) (by rw [a1, a2, a3, a4]) q1 q2 q3 q4
  obtain ⟨l2, b2, c2⟩ := pop_4 (y := A2) (A := A6) (by rw [a2, a3, a4, a5]) q2 q3 q4 q5
  obtain ⟨l3, b3, c3⟩ := pop_4 (y := A3) (A := d7) (by rw [a3, a4, a5, a6]) q3 q4 q5 q6
  have e5 : y5 / 4294967296 = A4 + A5 + (A6 + d7) := by
    rw [h5, c0, c1, c2, c3]; exact pop_3 b0 b1 b2 b3
  rw [e5, h5] at h6
  refine pop_5 (T := A1 + A2 + A3 + A4 + A5 + A6 + d7) ?_ (pop_7 q0 q1 q2 q3 q4 q5 q6 q7)
  rw [h6]; exact pop_6 h3 a1 a2 a3 a4 a5 a6
theorem cL_bitCount {d c n : Nat} {h : vH} {Q : vQ} {x : Int64} (k : Q (some (vI (nI (cn (bL x) 64)))) h) : vm_C mJ13_bitCount_95d88 d c n [vJ x] h Q := by
  have e0 : tL x = dv (digs 8 (tL x)) := (digs_v 8 (tL x) (by have := tL_lt x; omega)).symm
  have hal := digs_a 8 (tL x)
  have hf := all_f1 _ hal
  have hm1 : tL (6148914691236517205 : Int64) = dv ((digs 8 (tL x)).map fun _ => 0x55) := by rw [digs_c]; decide +kernel
  have hm2 : tL (3689348814741910323 : Int64) = dv (((digs 8 (tL x)).map f1).map fun _ => 0x33) := by rw [map_c, digs_c]; decide +kernel
  have hm3 : tL (1085102592571150095 : Int64) = dv ((((digs 8 (tL x)).map f1).map f2).map fun _ => 0x0f) := by rw [map_c, map_c, digs_c]; decide +kernel
  have hcn : cn (bL x) 64 = ((digs 8 (tL x)).map p8).foldr (· + ·) 0 := by
    rw [← cn_digs 8 (tL x)]; rfl
  refine bJ13_bitCount_95d88_0 ?_
  generalize hy1 : x - ((UInt64.toInt64 (Int64.toUInt64 (x) >>> (Int64.toUInt64 (Int32.toInt64 (1)) &&& Int64.toUInt64 63))) &&& (6148914691236517205)) = y1
  have h1 : tL y1 = dv ((digs 8 (tL x)).map f1) := by
    have t := s1le _ hal
    have ea : tL ((UInt64.toInt64 (Int64.toUInt64 (x) >>> (Int64.toUInt64 (Int32.toInt64 (1)) &&& Int64.toUInt64 63))) &&& (6148914691236517205)) = dv ((digs 8 (tL x)).map fun z => z / 2 &&& 0x55) := by
      rw [tL_and, tL_ush x _ (k := 1) (by decide +kernel), hm1, ← s1 _ hal, Nat.pow_one, ← e0]
    rw [← hy1, tL_sub (by rw [ea]; rw [← e0] at t; exact t.1), ea]
    rw [← e0] at t; exact t.2
  refine bJ13_bitCount_95d88_10 ?_
  generalize hy2 : (y1 &&& (3689348814741910323)) + ((UInt64.toInt64 (Int64.toUInt64 (y1) >>> (Int64.toUInt64 (Int32.toInt64 (2)) &&& Int64.toUInt64 63))) &&& (3689348814741910323)) = y2
  have h2 : tL y2 = dv (((digs 8 (tL x)).map f1).map f2) := by
    have ea : tL (y1 &&& (3689348814741910323)) = dv (((digs 8 (tL x)).map f1).map fun z => z &&& 0x33) := by rw [tL_and, hm2, h1, s2a _ hf.1]
    have eb : tL ((UInt64.toInt64 (Int64.toUInt64 (y1) >>> (Int64.toUInt64 (Int32.toInt64 (2)) &&& Int64.toUInt64 63))) &&& (3689348814741910323)) = dv (((digs 8 (tL x)).map f1).map fun z => z / 4 &&& 0x33) := by
      rw [tL_and, tL_ush y1 _ (k := 2) (by decide +kernel), hm2, h1, show (2 : Nat) ^ 2 = 4 from rfl, s2b _ hf.1]
    have b1 : tL (y1 &&& (3689348814741910323)) ≤ 3689348814741910323 := by rw [tL_and]; exact Nat.le_trans Nat.and_le_right (by decide +kernel)
    have b2 : tL ((UInt64.toInt64 (Int64.toUInt64 (y1) >>> (Int64.toUInt64 (Int32.toInt64 (2)) &&& Int64.toUInt64 63))) &&& (3689348814741910323)) ≤ 3689348814741910323 := by rw [tL_and]; exact Nat.le_trans Nat.and_le_right (by decide +kernel)
    rw [← hy2, tL_add (by omega), ea, eb, s2c]
  refine bJ13_bitCount_95d88_24 ?_
  generalize hy3 : (y2 + (UInt64.toInt64 (Int64.toUInt64 (y2) >>> (Int64.toUInt64 (Int32.toInt64 (4)) &&& Int64.toUInt64 63)))) &&& (1085102592571150095) = y3
  have hlt2 : tL y2 < 2 ^ 63 := by
    rw [← hy2]
    have b1 : tL (y1 &&& (3689348814741910323)) ≤ 3689348814741910323 := by rw [tL_and]; exact Nat.le_trans Nat.and_le_right (by decide +kernel)
    have b2 : tL ((UInt64.toInt64 (Int64.toUInt64 (y1) >>> (Int64.toUInt64 (Int32.toInt64 (2)) &&& Int64.toUInt64 63))) &&& (3689348814741910323)) ≤ 3689348814741910323 := by rw [tL_and]; exact Nat.le_trans Nat.and_le_right (by decide +kernel)
    rw [tL_add (by omega)]; omega
  have h3 : tL y3 = dv ((digs 8 (tL x)).map p8) := by
    have ea : tL (UInt64.toInt64 (Int64.toUInt64 (y2) >>> (Int64.toUInt64 (Int32.toInt64 (4)) &&& Int64.toUInt64 63))) = tL y2 / 16 := tL_ush y2 _ (k := 4) (by decide +kernel)
    rw [← hy3, tL_and, tL_add (by rw [ea]; omega), ea, hm3, h2, s3 _ hf.2.1, hf.2.2]
  have hlen := digs_l 8 (tL x)
  have hp8 : ∀ z ∈ (digs 8 (tL x)).map p8, z ≤ 8 := fun z hz => by
    obtain ⟨y, -, rfl⟩ := List.mem_map.mp hz; exact cn_le _ 8
  rw [hcn] at k
  generalize hD : (digs 8 (tL x)).map p8 = D at h3 hp8 k
  have hDl : D.length = 8 := by rw [← hD, List.length_map, hlen]
  match D, hDl, h3, hp8, k with
  | [d0, d1, d2, d3, d4, d5, d6, d7], _, h3, hp8, k =>
    have q0 := hp8 d0 (by simp)
    have q1 := hp8 d1 (by simp)
    have q2 := hp8 d2 (by simp)
    have q3 := hp8 d3 (by simp)
    have q4 := hp8 d4 (by simp)
    have q5 := hp8 d5 (by simp)
    have q6 := hp8 d6 (by simp)
    have q7 := hp8 d7 (by simp)
    rw [dv8] at h3
    refine bJ13_bitCount_95d88_34 ?_
    generalize hy4 : y3 + (UInt64.toInt64 (Int64.toUInt64 (y3) >>> (Int64.toUInt64 (Int32.toInt64 (8)) &&& Int64.toUInt64 63))) = y4
    have h4 : tL y4 = tL y3 + tL y3 / 256 := by
      have ea : tL (UInt64.toInt64 (Int64.toUInt64 (y3) >>> (Int64.toUInt64 (Int32.toInt64 (8)) &&& Int64.toUInt64 63))) = tL y3 / 256 := tL_ush y3 _ (k := 8) (by decide +kernel)
      rw [← hy4, tL_add (by rw [ea]; omega), ea]
    refine bJ13_bitCount_95d88_41 ?_
    generalize hy5 : y4 + (UInt64.toInt64 (Int64.toUInt64 (y4) >>> (Int64.toUInt64 (Int32.toInt64 (16)) &&& Int64.toUInt64 63))) = y5
    have h5 : tL y5 = tL y4 + tL y4 / 65536 := by
      have ea : tL (UInt64.toInt64 (Int64.toUInt64 (y4) >>> (Int64.toUInt64 (Int32.toInt64 (16)) &&& Int64.toUInt64 63))) = tL y4 / 65536 := tL_ush y4 _ (k := 16) (by decide +kernel)
      rw [← hy5, tL_add (by rw [ea]; omega), ea]
    refine bJ13_bitCount_95d88_48 ?_
    generalize hy6 : y5 + (UInt64.toInt64 (Int64.toUInt64 (y5) >>> (Int64.toUInt64 (Int32.toInt64 (32)) &&& Int64.toUInt64 63))) = y6
    have h6 : tL y6 = tL y5 + tL y5 / 4294967296 := by
      have ea : tL (UInt64.toInt64 (Int64.toUInt64 (y5) >>> (Int64.toUInt64 (Int32.toInt64 (32)) &&& Int64.toUInt64 63))) = tL y5 / 4294967296 := tL_ush y5 _ (k := 32) (by decide +kernel)
      rw [← hy6, tL_add (by rw [ea]; omega), ea]
    refine bJ13_bitCount_95d88_55 ?_
    rw [pk_and (Int64.toInt32 y6) 7 (by decide +kernel), toI_nat]
    have e := pop_end (tL y3) (tL y4) (tL y5) (tL y6) d0 d1 d2 d3 d4 d5 d6 d7 q0 q1 q2 q3 q4 q5 q6 q7 h3 h4 h5 h6
    rw [e]
    exact k
