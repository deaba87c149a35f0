/-! ===== pairs, relations; states ===== -/
theorem nI_and (a b : Nat) : nI a &&& nI b = nI (a &&& b) := bI_ext fun i hi => by
  rw [bI_and, bI_nI, bI_nI, bI_nI, Nat.testBit_and]; simp [hi]
theorem nI_or (a b : Nat) : nI a ||| nI b = nI (a ||| b) := bI_ext fun i hi => by
  rw [bI_or, bI_nI, bI_nI, bI_nI, Nat.testBit_or]; simp [hi]
theorem ushN {m i : Nat} (hm : m < 4294967296) (hi : i < 32) : UInt32.toInt32 (Int32.toUInt32 (nI m) >>> (Int32.toUInt32 (nI i) &&& Int32.toUInt32 31)) = nI (m / 2 ^ i) := pk_ushrN hm _ i (su32 i hi)
theorem mulI (a b : Nat) : nI a * nI b = nI (a * b) := pk_mul a b
theorem li_3 : (3 : Int32) = nI 3 := rfl
/-- a relation of objects, by the number of its pairs -/
def rcN (r one o : Nat) : Nat → Nat
  | 0 => 0
  | i + 1 => rcN r one o i ||| (if one.testBit i then (r / 2 ^ (3 * i)) &&& o else 0)
def okN (r one o : Nat) : Nat → Bool
  | 0 => true
  | i + 1 => okN r one o i && (!one.testBit i || decide (¬ (r / 2 ^ (3 * i)) &&& o = 0))
def relN (r one o : Nat) : Bool := okN r one o 3 && decide (rcN r one o 3 = o)
theorem rcN_le (r one o : Nat) (ho : o < 8) : ∀ i, rcN r one o i < 8
  | 0 => by show 0 < 8; decide
  | i + 1 => by
    show (rcN r one o i ||| (if one.testBit i then (r / 2 ^ (3 * i)) &&& o else 0)) < 2 ^ 3
    refine Nat.or_lt_two_pow (rcN_le r one o ho i) ?_
    split
    · exact Nat.and_lt_two_pow _ ho
    · decide
theorem c_relates {d c n : Nat} {h : vH} {Q : vQ} {a i r one o : Nat} (hd : 1 ≤ d) (ha : isW h a) (hi : i < 2) (hr : hI h (a + 2) i = nI r) (hr2 : r < 512) (h1 : one < 8) (h2 : o < 8) (k : Q (some (vI (if relN r one o then 1 else 0))) h) : vm_C mX9_relates d c n [vR (some a), vI (nI i), vI (nI one), vI (nI o)] h Q := by
  refine bX9_relates_0 (R := fun r h' => r = some (vI 1) ∧ h = h') hd (c_isRelation (fun _ _ _ => ⟨rfl, rfl⟩) (fun hz => absurd hz (nI_out hi (by decide)))) ?_
  rintro r' h' ⟨rfl, rfl⟩
  refine bX9_relates_4 (fun _ => bX9_relates_9 ?_) (fun hc => absurd (by decide +kernel) hc)
  have key : okN r one o 0 = true → vm_E mX9_relates d c n 15 [some (vR (some a)), some (vI (nI i)), some (vI (nI one)), some (vI (nI o)), some (vI (nI (rcN r one o 0))), some (vI (nI 0)), none] [] h Q := by
    have gen : ∀ ov : Option vV, okN r one o 0 = true → vm_E mX9_relates d c n 15 [some (vR (some a)), some (vI (nI i)), some (vI (nI one)), some (vI (nI o)), some (vI (nI (rcN r one o 0))), some (vI (nI 0)), ov] [] h Q :=
      vl_down 3 (fun j => ∀ ov : Option vV, okN r one o j = true → vm_E mX9_relates d c n 15 [some (vR (some a)), some (vI (nI i)), some (vI (nI one)), some (vI (nI o)), some (vI (nI (rcN r one o j))), some (vI (nI j)), ov] [] h Q) (fun ov hok => by
        have hl := rcN_le r one o h2 3
        refine bX9_relates_15 (fun _ => bX9_relates_65 (fun hc => ?_) (fun hc => ?_)) (fun hn => absurd n3' hn)
        · have hne : ¬ rcN r one o 3 = o := fun z => hc (by rw [z])
          have e : relN r one o = false := by unfold relN; rw [hok, decide_eq_false hne]; rfl
          rw [e] at k
          exact bX9_relates_75 (bX9_relates_76 rfl k)
        · have he : rcN r one o 3 = o := by
            by_cases he : rcN r one o 3 = o
            · exact he
            · exact absurd (fun z => he (nI_inj (by omega) (by omega) z)) hc
          have e : relN r one o = true := by unfold relN; rw [hok, decide_eq_true he]; rfl
          rw [e] at k
          exact bX9_relates_71 (bX9_relates_76 rfl k)) (fun j hj ih ov hok => by
        refine bX9_relates_15 (fun hc => absurd hc (n3 hj)) (fun _ => bX9_relates_21 (fun hc => ?_) (fun hc => ?_))
        · have hb := (ut8 (by omega)).mp hc
          refine bX9_relates_59 ?_
          rw [nI_1]
          have e1 : rcN r one o (j + 1) = rcN r one o j := by
            show (rcN r one o j ||| (if one.testBit j then (r / 2 ^ (3 * j)) &&& o else 0)) = _
            rw [hb, if_neg (by decide), Nat.or_zero]
          have e2 : okN r one o (j + 1) = true := by
            show (okN r one o j && (!one.testBit j || decide (¬ (r / 2 ^ (3 * j)) &&& o = 0))) = true
            rw [hok, hb]; rfl
          have t := ih ov e2
          rw [e1] at t; exact t
        · have hb : one.testBit j = true := by
            cases hb : one.testBit j
            · exact absurd ((ut8 (by omega)).mpr hb) hc
            · rfl
          have e : UInt32.toInt32 (Int32.toUInt32 (hI h (a + 2) (Int32.toNatClampNeg (nI i))) >>> (Int32.toUInt32 (3 * nI j) &&& Int32.toUInt32 31)) &&& nI o = nI ((r / 2 ^ (3 * j)) &&& o) := by
            rw [cs (by omega), hr, li_3, mulI, ushN (by omega) (by omega), nI_and]
          have hlt : (r / 2 ^ (3 * j)) &&& o < 8 := Nat.and_lt_two_pow _ (show o < 2 ^ 3 from h2)
          refine bX9_relates_30 (b2 := a + 2) (n_b2 := 2) ha.1 ha.2.2.2.2 ha.2.2.1 (v2 hi) (fun hz => ?_) (fun hz => ?_)
          · rw [e] at hz ⊢
            have hne : ¬ (r / 2 ^ (3 * j)) &&& o = 0 := fun z => hz (by rw [z]; rfl)
            refine bX9_relates_52 (bX9_relates_59 ?_)
            rw [nI_1, nI_or]
            have e1 : rcN r one o (j + 1) = (rcN r one o j ||| (r / 2 ^ (3 * j)) &&& o) := by
              show (rcN r one o j ||| (if one.testBit j then (r / 2 ^ (3 * j)) &&& o else 0)) = _
              rw [hb, if_pos rfl]
            have e2 : okN r one o (j + 1) = true := by
              show (okN r one o j && (!one.testBit j || decide (¬ (r / 2 ^ (3 * j)) &&& o = 0))) = true
              rw [hok, hb, decide_eq_true hne]; rfl
            have t := ih (some (vI (nI ((r / 2 ^ (3 * j)) &&& o)))) e2
            rw [e1] at t; exact t
          · rw [e] at hz
            have h0 : (r / 2 ^ (3 * j)) &&& o = 0 := by
              by_cases h0 : (r / 2 ^ (3 * j)) &&& o = 0
              · exact h0
              · exact absurd (nI_ne0 (by omega) (by omega)) hz
            have ef : relN r one o = false := by
              have e2 : okN r one o (j + 1) = false := by
                show (okN r one o j && (!one.testBit j || decide (¬ (r / 2 ^ (3 * j)) &&& o = 0))) = false
                rw [hb, decide_eq_false (fun z => z h0)]; simp
              have mono : ∀ q, okN r one o (j + 1 + q) = false := by
                intro q
                induction q with
                | zero => exact e2
                | succ q ihq =>
                  show (okN r one o (j + 1 + q) && _) = false
                  rw [ihq]; rfl
              have e3 := mono (2 - j)
              rw [show j + 1 + (2 - j) = 3 by omega] at e3
              unfold relN; rw [e3]; rfl
            rw [ef] at k
            exact bX9_relates_50 k)
    exact gen none
  exact key rfl
theorem c_hasPair {d c n : Nat} {h : vH} {Q : vQ} {a i p q : Nat} (hd : 1 ≤ d) (ha : isW h a) (hi : i < 2) (hp : p < 3) (hq : q < 3) (k : Q (some (vI (if bI (hI h (a + 2) i) (3 * p + q) then 1 else 0))) h) : vm_C mX9_hasPair d c n [vR (some a), vI (nI i), vI (nI p), vI (nI q)] h Q := by
  refine bX9_hasPair_0 (R := fun r h' => r = some (vI 1) ∧ h = h') hd (c_isRelation (fun _ _ _ => ⟨rfl, rfl⟩) (fun hz => absurd hz (nI_out hi (by decide)))) ?_
  rintro r' h' ⟨rfl, rfl⟩
  have e : (3 : Int32) * nI p + nI q = nI (3 * p + q) := by rw [li_3, mulI, nI_add]
  refine bX9_hasPair_4 (fun hc => absurd hc (by decide +kernel)) (fun _ => bX9_hasPair_7 (b2 := a + 2) (n_b2 := 2) ha.1 ha.2.2.2.2 ha.2.2.1 (v2 hi) (fun hc => ?_) (fun hc => ?_))
  · rw [e, cs (by omega), bI_ut (by omega)] at hc
    rw [hc] at k
    exact bX9_hasPair_28 (bX9_hasPair_29 rfl k)
  · rw [e, cs (by omega), bI_ut (by omega)] at hc
    rw [Bool.not_eq_false] at hc
    rw [hc] at k
    exact bX9_hasPair_24 (bX9_hasPair_29 rfl k)
theorem c_putPair {d c n : Nat} {h : vH} {Q : vQ} {a i p q : Nat} {b : Bool} (hd : 1 ≤ d) (ha : isW h a) (hi : i < 2) (hp : p < 3) (hq : q < 3) (k : ∀ x : Int32, (∀ j, j < 32 → bI x j = if j = 3 * p + q then b else bI (hI h (a + 2) i) j) → Q none (uI h (a + 2) i x)) : vm_C mX9_putPair d c n [vR (some a), vI (nI i), vI (nI p), vI (nI q), vI (if b then 1 else 0)] h Q := by
  refine bX9_putPair_0 (R := fun r h' => r = some (vI 1) ∧ h = h') hd (c_isRelation (fun _ _ _ => ⟨rfl, rfl⟩) (fun hz => absurd hz (nI_out hi (by decide)))) ?_
  rintro r' h' ⟨rfl, rfl⟩
  have e : (3 : Int32) * nI p + nI q = nI (3 * p + q) := by rw [li_3, mulI, nI_add]
  have hbit : ∀ j, j < 32 → bI ((1 : Int32) <<< (((3 : Int32) * nI p + nI q) &&& (31 : Int32))) j = decide (j = 3 * p + q) := fun j hj => by
    rw [e, bI_shl (by omega) 1 hj]
    by_cases hle : 3 * p + q ≤ j
    · rw [decide_eq_true hle, Bool.true_and, bI_1 _ (by omega)]; congr 1; apply propext; omega
    · rw [decide_eq_false hle, decide_eq_false (by omega)]; rfl
  have fin : ∀ x : Int32, (∀ j, j < 32 → bI x j = if j = 3 * p + q then b else bI (hI h (a + 2) i) j) → vm_E mX9_putPair d c n 49 [some (vR (some a)), some (vI (nI i)), some (vI (nI p)), some (vI (nI q)), some (vI (if b then 1 else 0)), some (vI ((1 : Int32) <<< (((3 : Int32) * nI p + nI q) &&& (31 : Int32))))] [vI x, vI (nI i), vR (some (a + 2))] h Q := fun x hx => by
    refine bX9_putPair_49 (n_sa2 := 2) ha.2.2.1 (v2 hi) (bX9_putPair_50 ?_)
    rw [cs (by omega)]
    exact k x hx
  refine bX9_putPair_4 (fun hc => absurd hc (by decide +kernel)) (fun _ => bX9_putPair_7 ha.1 (fun hc => ?_) (fun hc => ?_))
  · have hb : b = false := by cases b; rfl; exact absurd hc (by decide +kernel)
    rw [ha.2.2.2.2]
    refine bX9_putPair_38 (b3 := a + 2) (n_b3 := 2) ha.1 ha.2.2.2.2 ha.2.2.1 (v2 hi) (fin _ (fun j hj => ?_))
    rw [bI_and, bI_xor, bI_m1 hj, hbit j hj, hb, cs (by omega)]
    by_cases hj2 : j = 3 * p + q
    · rw [if_pos hj2, decide_eq_true hj2]; simp
    · rw [if_neg hj2, decide_eq_false hj2]; simp
  · have hb : b = true := by cases b; exact absurd rfl hc; rfl
    rw [ha.2.2.2.2]
    refine bX9_putPair_26 (b3 := a + 2) (n_b3 := 2) ha.1 ha.2.2.2.2 ha.2.2.1 (v2 hi) (fin _ (fun j hj => ?_))
    rw [bI_or, hbit j hj, hb, cs (by omega)]
    by_cases hj2 : j = 3 * p + q
    · rw [if_pos hj2, decide_eq_true hj2]; simp
    · rw [if_neg hj2, decide_eq_false hj2]; simp
/-! states: world at a+1 (its rows a+2, a+3), context at a+4 (its words a+5) -/
def isSt (h : vH) (a : Nat) : Prop := (hK h)[a]? = some (7, 0) ∧ isW h (a + 1) ∧ isA h (a + 4) (a + 5) ∧ hR h a 0 = some (a + 1) ∧ hR h a 1 = some (a + 4)
def fgS (h : vH) (a : Nat) : vH := uI (uS h (a + 5) (fun k => decide (k = 0))) a 2 0
theorem c_forget {d c n : Nat} {h : vH} {Q : vQ} {a : Nat} (hd : 2 ≤ d) (ha : isSt h a) (k : Q none (fgS h a)) : vm_C mX7_forgetContext d c n [vR (some a)] h Q := by
  obtain ⟨h1, h2, h3, h4, h5⟩ := ha
  refine bX7_forgetContext_0 (b2 := a + 4) (R := fun r h' => r = none ∧ uS h (a + 5) (fun k => decide (k = 0)) = h') h1 h5 h3.1 (by omega) (c_makeFirst (by omega) h3 ⟨rfl, rfl⟩) ?_
  rintro r h' ⟨rfl, rfl⟩
  exact bX7_forgetContext_7 h1 k
theorem c_knows {d c n : Nat} {h : vH} {Q : vQ} {a i : Nat} (ha : isSt h a) (hi : i < 32) (k : Q (some (vI (if bI (hI h a 2) i then 1 else 0))) h) : vm_C mX7_knows d c n [vR (some a), vI (nI i)] h Q := by
  refine bX7_knows_0 ha.1 (fun hc => ?_) (fun hc => ?_)
  · rw [bI_ut hi] at hc; rw [hc] at k; exact bX7_knows_15 (bX7_knows_16 rfl k)
  · rw [bI_ut hi, Bool.not_eq_false] at hc; rw [hc] at k; exact bX7_knows_11 (bX7_knows_16 rfl k)
def cpW (h : vH) (a b : Nat) : vH := pI (pI (uI h a 0 (hI h b 0)) (a + 1) 3 (hI h (b + 1))) (a + 2) 2 (hI h (b + 2))
def cpS (h : vH) (a b : Nat) : vH := uL (uI (uI (uS (cpW h (a + 1) (b + 1)) (a + 5) (sA h (b + 5))) a 2 (hI h b 2)) a 3 (hI h b 3)) a 4 (hL h b 4)
theorem c_State_copyFrom {d c n : Nat} {h : vH} {Q : vQ} {a b : Nat} (hd : 1 ≤ d) (ha : isSt h a) (hb : isSt h b) (hn : a + 5 < b ∨ b + 5 < a) (h01 : hI h b 3 = 0 ∨ hI h b 3 = 1) (k : Q none (cpS h a b)) : vm_C mX7_copyFrom d c n [vR (some a), vR (some b)] h Q := by
  obtain ⟨h1, h2, h3, h4, h5⟩ := ha
  obtain ⟨i1, i2, i3, i4, i5⟩ := hb
  refine bX7_copyFrom_0 (b3 := a + 1) (R := fun r h' => r = none ∧ cpW h (a + 1) (b + 1) = h') h1 h4 i1 h2.1 hd (by rw [i4]; exact c_World_copyFrom h2 i2 (by omega) ⟨rfl, rfl⟩) ?_
  rintro r h' ⟨rfl, rfl⟩
  have eb : ∀ x, x = b ∨ x = b + 5 → hI (cpW h (a + 1) (b + 1)) x = hI h x := fun x hx => by
    unfold cpW; rw [hI_pIn _ _ _ (by omega), hI_pIn _ _ _ (by omega), hI_uIn _ _ _ (by omega)]
  refine bX7_copyFrom_11 (b3 := a + 4) (R := fun r h' => r = none ∧ uS (cpW h (a + 1) (b + 1)) (a + 5) (sA h (b + 5)) = h') h1 h5 i1 h3.1 hd (by
    rw [show hR (cpW h (a + 1) (b + 1)) b 1 = some (b + 4) from i5]
    exact c_copyFrom (h := cpW h (a + 1) (b + 1)) (w := a + 5) (v := b + 5) h3 i3 ⟨rfl, rfl⟩) ?_
  rintro r h' ⟨rfl, rfl⟩
  have f2 : hI (uS (cpW h (a + 1) (b + 1)) (a + 5) (sA h (b + 5))) b 2 = hI h b 2 := congrFun (eb b (Or.inl rfl)) 2
  have f3 : hI (uI (uS (cpW h (a + 1) (b + 1)) (a + 5) (sA h (b + 5))) a 2 (hI h b 2)) b 3 = hI h b 3 := by
    rw [hI_uIn _ _ _ (by omega)]; exact congrFun (eb b (Or.inl rfl)) 3
  have f4 : hL (uI (uI (uS (cpW h (a + 1) (b + 1)) (a + 5) (sA h (b + 5))) a 2 (hI h b 2)) a 3 (hI h b 3)) b 4 = hL h b 4 := by
    show hL (uS (cpW h (a + 1) (b + 1)) (a + 5) (sA h (b + 5))) b 4 = _
    unfold uS; rw [hL_pLn _ _ _ (by omega)]; rfl
  refine bX7_copyFrom_22 i1 h1 ?_ ?_
  · rw [f2, f3]; exact h01
  · rw [f2, f3, f4]; exact bX7_copyFrom_46 k
