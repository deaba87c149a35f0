/-! ===== the class's accept and what follows it ===== -/
def mkI (g : Nat → Bool) : Int32 := Int32.ofBitVec (BitVec.ofNat 32 (mkN g 32))
theorem mkI_bit (g : Nat → Bool) {i : Nat} (hi : i < 32) : bI (mkI g) i = g i := by
  unfold bI mkI
  rw [Int32.toBitVec_ofBitVec, BitVec.getLsbD_ofNat, mkN_bit]
  simp [hi]
def accV (S : Nat → Int32) (C : Nat → Bool) (m K : Nat) : Nat → Int32 := fun j => if j = 7 then nI K else if j = 8 then nI m else if 9 ≤ j then mkI (fun b => decide (32 * (j - 9) + b < 512) && C (32 * (j - 9) + b)) else S j
theorem accV_ext {S : Nat → Int32} {C C2 : Nat → Bool} {m K : Nat} (e : eS C C2) : accV S C m K = accV S C2 m K := by
  funext j
  unfold accV
  have : (fun b => decide (32 * (j - 9) + b < 512) && C (32 * (j - 9) + b)) = (fun b => decide (32 * (j - 9) + b < 512) && C2 (32 * (j - 9) + b)) := by
    funext b
    by_cases h : 32 * (j - 9) + b < 512
    · rw [e _ h]
    · rw [decide_eq_false h]; rfl
  rw [this]
theorem ctx_acc {S : Nat → Int32} {C : Nat → Bool} {m K k : Nat} (hk : k < 512) : ctx (accV S C m K) k = C k := by
  unfold ctx accV
  rw [if_neg (by omega), if_neg (by omega), if_pos (by omega), mkI_bit _ (by omega), show 32 * (9 + k / 32 - 9) + k % 32 = k by omega, decide_eq_true hk, Bool.true_and]
def f_accept (x : tR) (S : Nat → Int32) (H : List (Nat → Int32)) : aR := match x with
  | .inr (.inr q) => (ansT x, accV S q.1 q.2.1 q.2.2, push5 H S)
  | _ => (ansT x, S, H)
def f_failingAt (x : tR) : Int32 := match x with
  | .inr (.inl p) => nI p
  | .inr (.inr _) => -7
  | .inl _ => ansT x
theorem ansT_e (e : Nat) : ansT (.inl e) = -2 ∨ ansT (.inl e) = -3 := by
  show (if e = 2 then (-2 : Int32) else -3) = -2 ∨ (if e = 2 then (-2 : Int32) else -3) = -3
  split
  · exact Or.inl rfl
  · exact Or.inr rfl
theorem cn512 (C : Nat → Bool) : cn C 512 ≤ 512 := cn_le C 512
section
variable {d cx n : Nat} {h : vH} {S : Nat → Int32} {H : List (Nat → Int32)} {t : Nat → Nat} {L : Nat} {Q : vQ}
theorem c_acceptable (hd : 310 ≤ d) (x : cR h S H t L) (hS : Sok S) (hT : Tok t L) (k : ∀ h', cF h h' → cR h' S H t L → Q (some (vI (ansT (fT (ta1 (wS S)) S (chAt t L) L)))) h') : vm_C mX10_acceptable d cx n [vR (some 0)] h Q := by
  have h0 := x.1.1
  refine bX10_acceptable_0 (b2 := 41) (R := rD h S H t L) h0.1 h0.2.2.2.2.1 x.1.2.2.2.2.1.1 (by omega) (c_disc (by omega) x hT) ?_
  rintro r h' ⟨f, c, hr⟩
  have go : ∀ rr, r = some (vR rr) → ((∃ q, dsc (chAt t L) L = .inl q ∧ rr = none) ∨ ∃ y b, dsc (chAt t L) L = .inr y ∧ rr = some (nA b) ∧ nd h' (no 2 0 y) 0 62 b) → vm_E mX10_acceptable d cx n 8 [some (vR (some 0))] (vm_end r ++ [vR (some 0)]) h' Q := by
    rintro rr rfl hrr
    refine bX10_acceptable_8 (R := rT h' S H t L) c.1.1.1 (by omega) (c_try (by omega) c hS hT hrr) ?_
    rintro r2 h2 ⟨f2, c2, _, rfl⟩
    exact bX10_acceptable_11 (k h2 (f.tr f2) c2)
  rcases hr with ⟨q, e, er, _⟩ | ⟨y, b, e, er, y2⟩
  · exact go _ er (Or.inl ⟨q, e, rfl⟩)
  · exact go _ er (Or.inr ⟨y, b, e, rfl, y2⟩)
theorem c_failingAt (hd : 310 ≤ d) (x : cR h S H t L) (hS : Sok S) (hT : Tok t L) (k : ∀ h', cF h h' → cR h' S H t L → Q (some (vI (f_failingAt (fT (ta1 (wS S)) S (chAt t L) L)))) h') : vm_C mX10_failingAt d cx n [vR (some 0)] h Q := by
  have h0 := x.1.1
  refine bX10_failingAt_0 (b2 := 41) (R := rD h S H t L) h0.1 h0.2.2.2.2.1 x.1.2.2.2.2.1.1 (by omega) (c_disc (by omega) x hT) ?_
  rintro r h' ⟨f, c, hr⟩
  have go : ∀ rr, r = some (vR rr) → ((∃ q, dsc (chAt t L) L = .inl q ∧ rr = none) ∨ ∃ y b, dsc (chAt t L) L = .inr y ∧ rr = some (nA b) ∧ nd h' (no 2 0 y) 0 62 b) → vm_E mX10_failingAt d cx n 8 [some (vR (some 0)), none] (vm_end r ++ [vR (some 0)]) h' Q := by
    rintro rr rfl hrr
    refine bX10_failingAt_8 (R := rT h' S H t L) c.1.1.1 (by omega) (c_try (by omega) c hS hT hrr) ?_
    rintro r2 h2 ⟨f2, c2, tk, rfl⟩
    have k2 := k h2 (f.tr f2) c2
    generalize fT (ta1 (wS S)) S (chAt t L) L = X at tk k2 ⊢
    match X, tk, k2 with
    | .inl e, tk, k2 =>
      have he := ansT_e e
      refine bX10_failingAt_11 (fun _ => bX10_failingAt_26 (fun hz => absurd hz ?_) (fun _ => bX10_failingAt_30 (bX10_failingAt_36 k2))) (fun hz => absurd (Classical.byContradiction hz) ?_)
      · rcases he with he | he <;> rw [he] <;> decide +kernel
      · rcases he with he | he <;> rw [he] <;> decide +kernel
    | .inr (.inl p), tk, k2 =>
      refine bX10_failingAt_11 (fun hz => absurd rfl hz) (fun _ => bX10_failingAt_18 (b2 := 355) c2.1.1.1 c2.1.1.2.2.2.2.2.2.2.1 c2.ac.1 ?_)
      rw [tk.1 p rfl]; exact k2
    | .inr (.inr q), tk, k2 =>
      have hq := cn512 q.1
      refine bX10_failingAt_11 (fun _ => bX10_failingAt_26 (fun _ => bX10_failingAt_34 (bX10_failingAt_36 k2)) (fun hz => absurd (nI_pos' (n := cn q.1 512) (by omega)) hz)) (fun hz => ?_)
      have := Classical.byContradiction hz
      have h2 := nI_pos' (n := cn q.1 512) (by omega)
      rw [show nI (cn q.1 512) = -4 from this] at h2
      exact absurd h2 (by decide +kernel)
  rcases hr with ⟨q, e, er, _⟩ | ⟨y, b, e, er, y2⟩
  · exact go _ er (Or.inl ⟨q, e, rfl⟩)
  · exact go _ er (Or.inr ⟨y, b, e, rfl, y2⟩)
theorem sv_acc {g : vH} {C : Nat → Bool} {m K : Nat} (x : sv g 1 S) (e1 : eS (sA g 357) C) (e2 : hL g 355 3 = lN m) (e3 : m < 2 ^ 30) (e4 : hI g 353 0 = nI K) : sv (uL (uI (uS g 6 (sA g 357)) 1 2 (hI g 353 0)) 1 4 (hL g 355 3)) 1 (accV S C m K) := by
  obtain ⟨h1, h2, h3, h4, h5, h6, h7⟩ := x
  have ea : ∀ j, j < 7 → accV S C m K j = S j := fun j hj => by unfold accV; rw [if_neg (by omega), if_neg (by omega), if_neg (by omega)]
  refine ⟨?_, fun i hi => ?_, fun i hi => ?_, ?_, ?_, ?_, fun k hk => ?_⟩
  · rw [hI_uL, hI_uIn _ _ _ (by decide), ea 0 (by omega)]; exact h1
  · rw [hI_uL, hI_uIn _ _ _ (by decide), ea _ (by omega)]; exact h2 i hi
  · rw [hI_uL, hI_uIn _ _ _ (by decide), ea _ (by omega)]; exact h3 i hi
  · rw [hI_uL, hI_uIk _ _ _ (by decide), ea 6 (by omega)]; exact h4
  · rw [hI_uL, hI_uIs, e4]; rfl
  · rw [hL_uL, if_pos ⟨rfl, rfl⟩, e2]
    show lN m = Int32.toInt64 (nI m)
    rw [nI_l (by omega)]
  · have : sA (uL (uI (uS g 6 (sA g 357)) 1 2 (hI g 353 0)) 1 4 (hL g 355 3)) (1 + 5) k = sA (uS g 6 (sA g 357)) 6 k := by
      unfold sA; rw [hL_uL, if_neg (by omega)]; rfl
    rw [this, sA_uS _ _ _ hk, e1 k hk]
    exact (ctx_acc hk).symm
theorem c_accept (hd : 310 ≤ d) (x : cR h S H t L) (hS : Sok S) (hT : Tok t L) (k : ∀ h', cF h h' → cR h' (f_accept (fT (ta1 (wS S)) S (chAt t L) L) S H).2.1 (f_accept (fT (ta1 (wS S)) S (chAt t L) L) S H).2.2 t L → Q (some (vI (f_accept (fT (ta1 (wS S)) S (chAt t L) L) S H).1)) h') : vm_C mX10_accept d cx n [vR (some 0)] h Q := by
  have h0 := x.1.1
  refine bX10_accept_0 (b2 := 41) (R := rD h S H t L) h0.1 h0.2.2.2.2.1 x.1.2.2.2.2.1.1 (by omega) (c_disc (by omega) x hT) ?_
  rintro r h' ⟨f, c, hr⟩
  have go : ∀ rr, r = some (vR rr) → ((∃ q, dsc (chAt t L) L = .inl q ∧ rr = none) ∨ ∃ y b, dsc (chAt t L) L = .inr y ∧ rr = some (nA b) ∧ nd h' (no 2 0 y) 0 62 b) → vm_E mX10_accept d cx n 8 [some (vR (some 0)), none] (vm_end r ++ [vR (some 0)]) h' Q := by
    rintro rr rfl hrr
    refine bX10_accept_8 (R := rT h' S H t L) c.1.1.1 (by omega) (c_try (by omega) c hS hT hrr) ?_
    rintro r2 h2 ⟨f2, c2, tk, rfl⟩
    generalize fT (ta1 (wS S)) S (chAt t L) L = X at tk k ⊢
    match X, tk, k with
    | .inl e, tk, k =>
      have he := ansT_e e
      refine bX10_accept_11 (fun hz => absurd hz ?_) (fun _ => bX10_accept_16 (k h2 (f.tr f2) c2))
      rcases he with he | he <;> rw [he] <;> decide +kernel
    | .inr (.inl p), tk, k => exact bX10_accept_11 (fun hz => absurd hz (show ¬ (0 : Int32) ≤ -4 by decide +kernel)) (fun _ => bX10_accept_16 (k h2 (f.tr f2) c2))
    | .inr (.inr (C, m, K)), tk, k =>
      have hq := cn512 C
      obtain ⟨t1, t2, t3, t4⟩ := tk.2 C m K rfl
      refine bX10_accept_11 (fun _ => ?_) (fun hz => absurd (nI_pos' (n := cn C 512) (by omega)) hz)
      refine bX10_accept_18 (b2 := 7) (R := fun r h3 => r = none ∧ fr (fun r => r ≤ 38) h2 h3 ∧ cR h3 S (push5 H S) t L) c2.1.1.1 c2.1.1.2.2.1 c2.1.2.2.1.1 (by omega) (by
        rw [c2.1.1.2.1]
        exact c_rec (by omega) c2 hS (fun h3 f3 c3 => ⟨rfl, f3, c3⟩)) ?_
      rintro r3 h3 ⟨rfl, f3, c3⟩
      have a3 := c3.ac
      have h03 := c3.1.1
      have st := c3.1.2.1
      have q1 : eS (sA h3 357) C := by
        have : sA h3 357 = sA h2 357 := by funext k; unfold sA; rw [(f3.2 357 (by decide)).2]
        rw [this]; exact t1
      have q2 : hL h3 355 3 = lN m := by rw [(f3.2 355 (by decide)).2]; exact t2
      have q4 : hI h3 353 0 = nI K := by rw [(f3.2 353 (by decide)).1]; exact t4
      refine bX10_accept_29 (b2 := 1) (b3 := 4 + 1) (b4 := 355) (R := fun r h4 => r = none ∧ uS h3 6 (sA h3 357) = h4) h03.1 h03.2.1 st.1 st.2.2.2.2 h03.2.2.2.2.2.2.2.1 a3.1 st.2.2.1.1 (by omega) (by
        rw [a3.2.2.1]
        exact c_copyFrom st.2.2.1 a3.2.2.2.2.1 ⟨rfl, rfl⟩) ?_
      rintro r4 h4 ⟨rfl, rfl⟩
      have f4 : fr (fun r => r = 6) h3 (uS h3 6 (sA h3 357)) := fr_uS h3 6 _
      have f5 : fr (fun r => r = 6 ∨ r = 1) h3 (uL (uI (uS h3 6 (sA h3 357)) 1 2 (hI h3 353 0)) 1 4 (hL h3 355 3)) := ((f4.tr (fr_uI _ 1 2 _)).tr (fr_uL _ 1 4 _)).mono (fun r z => by omega)
      have fin := k (uL (uI (uS h3 6 (sA h3 357)) 1 2 (hI h3 353 0)) 1 4 (hL h3 355 3)) ((f.tr f2).tr ((f3.c (fun r hr => by omega)).tr (f5.c (fun r hr => by omega)))) ⟨c3.1.fr f5, sv_acc c3.2.1 q1 q2 t3 q4, c3.2.2.1.fr f5 (fun r hr => by omega), c3.2.2.2.fr f5 (fun r hr => by omega)⟩
      exact bX10_accept_46 (b2 := 1) (b3 := 353) (b4 := 1) (b5 := 355) h03.1 h03.2.1 h03.2.2.2.2.2.1 c3.ke.1 st.1 h03.2.1 h03.2.2.2.2.2.2.2.1 a3.1 st.1 fin
  rcases hr with ⟨q, e, er, _⟩ | ⟨y, b, e, er, y2⟩
  · exact go _ er (Or.inl ⟨q, e, rfl⟩)
  · exact go _ er (Or.inr ⟨y, b, e, rfl, y2⟩)
end
/-! parts of a text, one behind the other -/
def tkF (n : Nat) (τ : Nat → Nat → Nat → Nat → Nat → Bool) : T → Nat → (Nat → Bool) → Nat → Bool
  | .leaf, _, C => C
  | .inner .., 0, C => C
  | .inner _ _ _ a r, m + 1, C => tkF n τ r m (fw n (ac n τ a).1 C)
noncomputable def f_sizeBehind (τ : Nat → Nat → Nat → Nat → Nat → Bool) (x : Int32) (S : Nat → Int32) (c : Nat → Nat) (L : Nat) : Int32 := cif (x < 0) (-1) (match dsc c L with
  | .inl _ => -2
  | .inr r => if (un r).2.1 (kS S) = none then (if x.toNatClampNeg ≤ ln r then nI (cn (tkF (nS S) τ r x.toNatClampNeg (ctx S)) 512) else -7) else -3)
def f_supports (τ : Nat → Nat → Nat → Nat → Nat → Bool) (S : Nat → Int32) (c : Nat → Nat) (L : Nat) : Int32 := match dsc c L with
  | .inl _ => -2
  | .inr r => if (un r).2.1 (kS S) = none then (if al (ctx S) (hasR (nS S) (ac (nS S) τ r).2.1) = true then 1 else 0) else -3
def wP (S : Nat → Int32) (p q : Nat) : wT := (nS S, fun i => if i = 0 then p else if i = 1 then q else (wS S).2.1 i, (wS S).2.2)
def sm (f : Nat → Nat) : Nat → Nat
  | 0 => 0
  | n + 1 => sm f n + f n
/-- the worlds in which a text is true, as the class sees it: by its results for the first context -/
def f_worldsTrue (S : Nat → Int32) (c : Nat → Nat) (L : Nat) : Int32 := match dsc c L with
  | .inl _ => -2
  | .inr r => if (un r).2.1 0 = none then nI (sm (fun p => cn (fun q => !emp (fw (nS S) (ac (nS S) (ta1 (wP S p q)) r).2.1 (fun k => decide (k = 0)))) (2 ^ nS S)) (2 ^ nS S)) else -3
theorem fz.c {h h' : vH} {lo hi w : Nat} (x : fz (mset lo hi w) h h') (h62 : hi ≤ 62) (h1 : 40 < w) (h2 : w < 366) : cF h h' ∧ ∀ (S : Nat → Int32) (H : List (Nat → Int32)) (t : Nat → Nat) (L : Nat), cR h S H t L → cR h' S H t L := by
  have key : ∀ r, mset lo hi w r → 40 < r ∧ r < 366 := by
    rintro r (z | ⟨i, i1, i2, z⟩)
    · omega
    · unfold nA at z; omega
  exact ⟨x.f.c (fun r hr => (key r hr).2), fun S H t L c => c.fr x.f (fun r hr => (key r hr).1)⟩
theorem nA364 {i w : Nat} (hw : w = 365) (hi : i < 62) : ¬ (w = nA i + 2 ∨ w = nA i + 4) := by unfold nA; omega
theorem cR.res {h : vH} {S : Nat → Int32} {H : List (Nat → Int32)} {t : Nat → Nat} {L : Nat} (x : cR h S H t L) : isA h 364 365 := x.1.2.2.2.2.2.2.2.2.2.2.2.2.2.2.2.2.2
