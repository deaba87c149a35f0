/-! ===== loops, rows of the heap, sets of assignments ===== -/
theorem vl_down (N : Nat) (G : Nat → Prop) (hN : G N) (hs : ∀ i, i < N → G (i + 1) → G i) : G 0 := by
  have key : ∀ k i, i + k = N → G i := by
    intro k
    induction k with
    | zero => intro i hi; rw [Nat.add_zero] at hi; rw [hi]; exact hN
    | succ k ih => intro i hi; exact hs i (by omega) (ih (i + 1) (by omega))
  exact key N 0 (Nat.zero_add N)
theorem vl_from (N j : Nat) (hj : j ≤ N) (G : Nat → Prop) (hN : G N) (hs : ∀ i, j ≤ i → i < N → G (i + 1) → G i) : G j := by
  have key : ∀ k i, j ≤ i → i + k = N → G i := by
    intro k
    induction k with
    | zero => intro i _ hi; rw [Nat.add_zero] at hi; rw [hi]; exact hN
    | succ k ih => intro i h0 hi; exact hs i h0 (by omega) (ih (i + 1) (by omega) (by omega))
  exact key (N - j) j (Nat.le_refl _) (by omega)
/-- a row of longs, of ints -/
def sL (h : vH) (w : Nat) (f : Nat → Int64) : vH := (h.1, (fun b j => if b = w then f j else hL h b j), h.2.2)
def sI (h : vH) (w : Nat) (f : Nat → Int32) : vH := ((fun b j => if b = w then f j else hI h b j), h.2)
theorem hI_sL (h : vH) (w : Nat) (f : Nat → Int64) : hI (sL h w f) = hI h := rfl
theorem hR_sL (h : vH) (w : Nat) (f : Nat → Int64) : hR (sL h w f) = hR h := rfl
theorem hK_sL (h : vH) (w : Nat) (f : Nat → Int64) : hK (sL h w f) = hK h := rfl
theorem hX_sL (h : vH) (w : Nat) (f : Nat → Int64) : hX (sL h w f) = hX h := rfl
theorem hL_sI (h : vH) (w : Nat) (f : Nat → Int32) : hL (sI h w f) = hL h := rfl
theorem hR_sI (h : vH) (w : Nat) (f : Nat → Int32) : hR (sI h w f) = hR h := rfl
theorem hK_sI (h : vH) (w : Nat) (f : Nat → Int32) : hK (sI h w f) = hK h := rfl
theorem hX_sI (h : vH) (w : Nat) (f : Nat → Int32) : hX (sI h w f) = hX h := rfl
theorem hL_sL (h : vH) (w : Nat) (f : Nat → Int64) (b : Nat) : hL (sL h w f) b = if b = w then f else hL h b := by
  funext j; show (if b = w then f j else hL h b j) = _; split <;> rfl
theorem hI_sI (h : vH) (w : Nat) (f : Nat → Int32) (b : Nat) : hI (sI h w f) b = if b = w then f else hI h b := by
  funext j; show (if b = w then f j else hI h b j) = _; split <;> rfl
theorem hL_sLs (h : vH) (w : Nat) (f : Nat → Int64) : hL (sL h w f) w = f := by rw [hL_sL, if_pos rfl]
theorem hI_sIs (h : vH) (w : Nat) (f : Nat → Int32) : hI (sI h w f) w = f := by rw [hI_sI, if_pos rfl]
theorem hL_sLn (h : vH) {w b : Nat} (f : Nat → Int64) (hb : b ≠ w) : hL (sL h w f) b = hL h b := by rw [hL_sL, if_neg hb]
theorem hI_sIn (h : vH) {w b : Nat} (f : Nat → Int32) (hb : b ≠ w) : hI (sI h w f) b = hI h b := by rw [hI_sI, if_neg hb]
theorem sL_sL (h : vH) (w : Nat) (f g : Nat → Int64) : sL (sL h w f) w g = sL h w g := by
  refine Prod.ext rfl (Prod.ext ?_ rfl)
  funext b j
  show (if b = w then g j else hL (sL h w f) b j) = (if b = w then g j else hL h b j)
  split
  · rfl
  · rw [hL_sLn h f (by assumption)]
theorem sI_sI (h : vH) (w : Nat) (f g : Nat → Int32) : sI (sI h w f) w g = sI h w g := by
  refine Prod.ext ?_ rfl
  funext b j
  show (if b = w then g j else hI (sI h w f) b j) = (if b = w then g j else hI h b j)
  split
  · rfl
  · rw [hI_sIn h f (by assumption)]
theorem sL_id (h : vH) (w : Nat) : sL h w (hL h w) = h := by
  refine Prod.ext rfl (Prod.ext ?_ rfl)
  funext b j
  show (if b = w then hL h w j else hL h b j) = hL h b j
  split
  · rename_i e; rw [e]
  · rfl
theorem sI_id (h : vH) (w : Nat) : sI h w (hI h w) = h := by
  refine Prod.ext ?_ rfl
  funext b j
  show (if b = w then hI h w j else hI h b j) = hI h b j
  split
  · rename_i e; rw [e]
  · rfl
theorem sL_com (h : vH) {w v : Nat} (f g : Nat → Int64) (hn : w ≠ v) : sL (sL h w f) v g = sL (sL h v g) w f := by
  refine Prod.ext rfl (Prod.ext ?_ rfl)
  funext b j
  show (if b = v then g j else hL (sL h w f) b j) = (if b = w then f j else hL (sL h v g) b j)
  by_cases h1 : b = v
  · subst h1; rw [if_pos rfl, if_neg (Ne.symm hn), hL_sLs]
  · rw [if_neg h1]
    by_cases h2 : b = w
    · subst h2; rw [if_pos rfl, hL_sLs]
    · rw [if_neg h2, hL_sLn h f h2, hL_sLn h g h1]
theorem uL_s (h : vH) (w i : Nat) (v : Int64) : uL h w i v = sL h w (fun j => if j = i then v else hL h w j) := by
  refine Prod.ext rfl (Prod.ext ?_ rfl)
  funext b j
  show (if b = w ∧ j = i then v else hL h b j) = (if b = w then (if j = i then v else hL h w j) else hL h b j)
  by_cases hb : b = w
  · subst hb; by_cases hj : j = i <;> simp [hj]
  · simp [hb]
theorem uI_s (h : vH) (w i : Nat) (v : Int32) : uI h w i v = sI h w (fun j => if j = i then v else hI h w j) := by
  refine Prod.ext ?_ rfl
  funext b j
  show (if b = w ∧ j = i then v else hI h b j) = (if b = w then (if j = i then v else hI h w j) else hI h b j)
  by_cases hb : b = w
  · subst hb; by_cases hj : j = i <;> simp [hj]
  · simp [hb]
/-- the first i places of a row of longs are X -/
def pL (h : vH) (w i : Nat) (X : Nat → Int64) : vH := sL h w (fun j => if j < i then X j else hL h w j)
def pI (h : vH) (w i : Nat) (X : Nat → Int32) : vH := sI h w (fun j => if j < i then X j else hI h w j)
theorem pL_0 (h : vH) (w : Nat) (X : Nat → Int64) : pL h w 0 X = h := by
  unfold pL
  rw [show (fun j => if j < 0 then X j else hL h w j) = hL h w from funext fun j => if_neg (Nat.not_lt_zero j), sL_id]
theorem pI_0 (h : vH) (w : Nat) (X : Nat → Int32) : pI h w 0 X = h := by
  unfold pI
  rw [show (fun j => if j < 0 then X j else hI h w j) = hI h w from funext fun j => if_neg (Nat.not_lt_zero j), sI_id]
theorem pL_s (h : vH) (w i : Nat) (X : Nat → Int64) : uL (pL h w i X) w i (X i) = pL h w (i + 1) X := by
  rw [uL_s]; unfold pL; rw [sL_sL, hL_sLs]
  congr 1
  funext j
  by_cases h1 : j = i
  · subst h1; simp
  · by_cases h2 : j < i
    · rw [if_neg h1, if_pos h2, if_pos (by omega)]
    · rw [if_neg h1, if_neg h2, if_neg (by omega)]
theorem pI_s (h : vH) (w i : Nat) (X : Nat → Int32) : uI (pI h w i X) w i (X i) = pI h w (i + 1) X := by
  rw [uI_s]; unfold pI; rw [sI_sI, hI_sIs]
  congr 1
  funext j
  by_cases h1 : j = i
  · subst h1; simp
  · by_cases h2 : j < i
    · rw [if_neg h1, if_pos h2, if_pos (by omega)]
    · rw [if_neg h1, if_neg h2, if_neg (by omega)]
theorem hL_pLn (h : vH) {w b : Nat} (i : Nat) (X : Nat → Int64) (hb : b ≠ w) : hL (pL h w i X) b = hL h b := hL_sLn h _ hb
theorem hI_pIn (h : vH) {w b : Nat} (i : Nat) (X : Nat → Int32) (hb : b ≠ w) : hI (pI h w i X) b = hI h b := hI_sIn h _ hb
theorem hL_pLge (h : vH) (w i : Nat) (X : Nat → Int64) {j : Nat} (b : Nat) (hj : i ≤ j) : hL (pL h w i X) b j = hL h b j := by
  unfold pL; rw [hL_sL]; split
  · rename_i e; dsimp only; rw [if_neg (by omega), e]
  · rfl
theorem hI_pIge (h : vH) (w i : Nat) (X : Nat → Int32) {j : Nat} (b : Nat) (hj : i ≤ j) : hI (pI h w i X) b j = hI h b j := by
  unfold pI; rw [hI_sI]; split
  · rename_i e; dsimp only; rw [if_neg (by omega), e]
  · rfl
theorem hL_pLlt (h : vH) (w i : Nat) (X : Nat → Int64) {j : Nat} (hj : j < i) : hL (pL h w i X) w j = X j := by
  unfold pL; rw [hL_sLs, if_pos hj]
theorem hI_pIlt (h : vH) (w i : Nat) (X : Nat → Int32) {j : Nat} (hj : j < i) : hI (pI h w i X) w j = X j := by
  unfold pI; rw [hI_sIs, if_pos hj]
theorem pL_ext {h : vH} {w i : Nat} {X Y : Nat → Int64} (e : ∀ j, j < i → X j = Y j) : pL h w i X = pL h w i Y := by
  unfold pL; congr 1; funext j; split
  · exact e j (by assumption)
  · rfl
theorem pL_pL (h : vH) (w i : Nat) (X Y : Nat → Int64) : pL (pL h w i X) w i Y = pL h w i Y := by
  unfold pL; rw [sL_sL, hL_sLs]; congr 1; funext j; split <;> rfl
theorem pL_com (h : vH) {w v : Nat} (i k : Nat) (X Y : Nat → Int64) (hn : w ≠ v) : pL (pL h w i X) v k Y = pL (pL h v k Y) w i X := by
  unfold pL; rw [sL_com _ _ _ hn, hL_sLn _ _ (Ne.symm hn), hL_sLn _ _ hn]
/-- a number, a word of bits -/
def mkN (g : Nat → Bool) : Nat → Nat
  | 0 => 0
  | n + 1 => mkN g n + (if g n then 2 ^ n else 0)
theorem mkN_lt (g : Nat → Bool) : ∀ n, mkN g n < 2 ^ n
  | 0 => Nat.zero_lt_one
  | n + 1 => by
    have h := mkN_lt g n
    have h2 : 2 ^ (n + 1) = 2 ^ n + 2 ^ n := by rw [Nat.pow_succ]; omega
    show mkN g n + (if g n then 2 ^ n else 0) < 2 ^ (n + 1)
    split <;> omega
theorem mkN_bit (g : Nat → Bool) : ∀ n i, (mkN g n).testBit i = (decide (i < n) && g i)
  | 0, i => by simp [mkN]
  | n + 1, i => by
    have h := mkN_lt g n
    have e : mkN g (n + 1) = 2 ^ n * (if g n then 1 else 0) + mkN g n := by
      show mkN g n + (if g n then 2 ^ n else 0) = _
      split <;> omega
    rw [e, Nat.testBit_two_pow_mul_add _ h]
    by_cases h1 : i < n
    · rw [if_pos h1, mkN_bit g n i]; simp [h1, Nat.lt_succ_of_lt h1]
    · rw [if_neg h1]
      by_cases h2 : i = n
      · subst h2; cases g i <;> simp
      · have h3 : ¬ i < n + 1 := by omega
        have h4 : i - n ≠ 0 := by omega
        cases hg : g n
        · simp [h3]
        · have : (1 : Nat).testBit (i - n) = false := by
            obtain ⟨m, hm⟩ : ∃ m, i - n = m + 1 := ⟨i - n - 1, by omega⟩
            rw [hm, Nat.testBit_succ]; exact Nat.zero_testBit m
          simp [h3, this]
def bL (x : Int64) (i : Nat) : Bool := x.toBitVec.getLsbD i
def bI (x : Int32) (i : Nat) : Bool := x.toBitVec.getLsbD i
theorem bL_ge {x : Int64} {i : Nat} (h : 64 ≤ i) : bL x i = false := BitVec.getLsbD_of_ge _ _ h
theorem bI_ge {x : Int32} {i : Nat} (h : 32 ≤ i) : bI x i = false := BitVec.getLsbD_of_ge _ _ h
theorem bL_ext {x y : Int64} (h : ∀ i, i < 64 → bL x i = bL y i) : x = y := Int64.toBitVec_inj.mp (BitVec.eq_of_getLsbD_eq h)
theorem bI_ext {x y : Int32} (h : ∀ i, i < 32 → bI x i = bI y i) : x = y := Int32.toBitVec_inj.mp (BitVec.eq_of_getLsbD_eq h)
def mkL (g : Nat → Bool) : Int64 := Int64.ofBitVec (BitVec.ofNat 64 (mkN g 64))
theorem mkL_bit (g : Nat → Bool) {i : Nat} (hi : i < 64) : bL (mkL g) i = g i := by
  unfold bL mkL
  rw [Int64.toBitVec_ofBitVec, BitVec.getLsbD_ofNat, mkN_bit]
  simp [hi]
theorem bL_or (x y : Int64) (i : Nat) : bL (x ||| y) i = (bL x i || bL y i) := by unfold bL; rw [Int64.toBitVec_or, BitVec.getLsbD_or]
theorem bL_and (x y : Int64) (i : Nat) : bL (x &&& y) i = (bL x i && bL y i) := by unfold bL; rw [Int64.toBitVec_and, BitVec.getLsbD_and]
theorem bL_xor (x y : Int64) (i : Nat) : bL (x ^^^ y) i = (bL x i ^^ bL y i) := by unfold bL; rw [Int64.toBitVec_xor, BitVec.getLsbD_xor]
theorem bL_m1 {i : Nat} (h : i < 64) : bL (-1) i = true := by
  have : ∀ i : Fin 64, bL (-1) i.val = true := by decide +kernel
  exact this ⟨i, h⟩
theorem bL_0 (i : Nat) : bL 0 i = false := by
  unfold bL; simp
theorem bL_not (x : Int64) {i : Nat} (h : i < 64) : bL (x ^^^ (-1)) i = !bL x i := by rw [bL_xor, bL_m1 h]; simp
/-- the set of assignments that a row of eight longs holds -/
def sA (h : vH) (w k : Nat) : Bool := bL (hL h w (k / 64)) (k % 64)
def uS (h : vH) (w : Nat) (S : Nat → Bool) : vH := pL h w 8 (fun j => mkL (fun b => S (64 * j + b)))
theorem uS_of {h : vH} {w : Nat} {X : Nat → Int64} {S : Nat → Bool} (e : ∀ j, j < 8 → ∀ b, b < 64 → bL (X j) b = S (64 * j + b)) : pL h w 8 X = uS h w S :=
  pL_ext fun j hj => bL_ext fun i hi => by rw [mkL_bit _ hi]; exact e j hj i hi
theorem sA_uS (h : vH) (w : Nat) (S : Nat → Bool) {k : Nat} (hk : k < 512) : sA (uS h w S) w k = S k := by
  unfold sA uS
  rw [hL_pLlt _ _ _ _ (by omega), mkL_bit _ (by omega)]
  congr 1; omega
theorem sA_uSn (h : vH) {w v : Nat} (S : Nat → Bool) (hn : v ≠ w) : sA (uS h w S) v = sA h v := by
  funext k; unfold sA uS; rw [hL_pLn _ _ _ hn]
theorem sA_uSg (h : vH) (w v : Nat) (S : Nat → Bool) {k : Nat} (hk : k < 512) : sA (uS h w S) v k = if v = w then S k else sA h v k := by
  split
  · rename_i e; rw [e]; exact sA_uS h w S hk
  · rw [sA_uSn h S (by assumption)]
theorem uS_ext {h : vH} {w : Nat} {S S' : Nat → Bool} (e : ∀ k, k < 512 → S k = S' k) : uS h w S = uS h w S' :=
  pL_ext fun j hj => bL_ext fun i hi => by rw [mkL_bit _ hi, mkL_bit _ hi]; exact e _ (by omega)
theorem uS_uS (h : vH) (w : Nat) (S S' : Nat → Bool) : uS (uS h w S) w S' = uS h w S' := pL_pL h w 8 _ _
theorem uS_com (h : vH) {w v : Nat} (S S' : Nat → Bool) (hn : w ≠ v) : uS (uS h w S) v S' = uS (uS h v S') w S := pL_com h 8 8 _ _ hn
theorem uS_id (h : vH) (w : Nat) : uS h w (sA h w) = h := by
  have e : pL h w 8 (hL h w) = h := by
    unfold pL
    rw [show (fun j => if j < 8 then hL h w j else hL h w j) = hL h w from funext fun j => by split <;> rfl, sL_id]
  rw [← uS_of (X := hL h w) (S := sA h w) (fun j hj b hb => by unfold sA; rw [show (64 * j + b) / 64 = j by omega, show (64 * j + b) % 64 = b by omega]), e]
/-- an Assignments object at a, its words at w -/
def isA (h : vH) (a w : Nat) : Prop := (hK h)[a]? = some (1, 0) ∧ hR h a 0 = some w ∧ (hK h)[w]? = some (23, 8)
