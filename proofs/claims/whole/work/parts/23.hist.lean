/-! ===== a state as a vector of 25 ints (as the reference keeps it); the history ===== -/
/-- same kinds, references, script; rows of ints and longs the same but at A -/
def fr (A : Nat → Prop) (h h' : vH) : Prop := h'.2.2 = h.2.2 ∧ ∀ r, ¬ A r → hI h' r = hI h r ∧ hL h' r = hL h r
theorem fr.rf {A : Nat → Prop} {h : vH} : fr A h h := ⟨rfl, fun _ _ => ⟨rfl, rfl⟩⟩
theorem fr.tr {A B : Nat → Prop} {h h' h2 : vH} (x : fr A h h') (y : fr B h' h2) : fr (fun r => A r ∨ B r) h h2 :=
  ⟨y.1.trans x.1, fun r hr => ⟨(y.2 r (fun z => hr (Or.inr z))).1.trans (x.2 r (fun z => hr (Or.inl z))).1, (y.2 r (fun z => hr (Or.inr z))).2.trans (x.2 r (fun z => hr (Or.inl z))).2⟩⟩
theorem fr.mono {A B : Nat → Prop} {h h' : vH} (x : fr A h h') (m : ∀ r, A r → B r) : fr B h h' := ⟨x.1, fun r hr => x.2 r (fun z => hr (m r z))⟩
theorem fr.k {A : Nat → Prop} {h h' : vH} (x : fr A h h') : hK h' = hK h := congrArg (fun q => q.2.1) x.1
theorem fr.r {A : Nat → Prop} {h h' : vH} (x : fr A h h') : hR h' = hR h := congrArg (fun q => q.1) x.1
theorem fr.x {A : Nat → Prop} {h h' : vH} (x : fr A h h') : hX h' = hX h := congrArg (fun q => q.2.2) x.1
theorem fr_uI (h : vH) (a k : Nat) (v : Int32) : fr (fun r => r = a) h (uI h a k v) := ⟨rfl, fun r hr => ⟨hI_uIn h k v hr, rfl⟩⟩
theorem fr_uL (h : vH) (a k : Nat) (v : Int64) : fr (fun r => r = a) h (uL h a k v) := ⟨rfl, fun r hr => ⟨rfl, by funext j; rw [hL_uL, if_neg (fun z => hr z.1)]⟩⟩
theorem fr_pI (h : vH) (w i : Nat) (X : Nat → Int32) : fr (fun r => r = w) h (pI h w i X) := ⟨rfl, fun r hr => ⟨hI_pIn h i X hr, rfl⟩⟩
theorem fr_uS (h : vH) (w : Nat) (S : Nat → Bool) : fr (fun r => r = w) h (uS h w S) := ⟨rfl, fun r hr => ⟨rfl, hL_pLn h 8 _ hr⟩⟩
theorem isW.fr {A : Nat → Prop} {h h' : vH} {a : Nat} (x : isW h a) (f : fr A h h') : isW h' a := by
  obtain ⟨h1, h2, h3, h4, h5⟩ := x
  exact ⟨by rw [f.k]; exact h1, by rw [f.k]; exact h2, by rw [f.k]; exact h3, by rw [f.r]; exact h4, by rw [f.r]; exact h5⟩
theorem isA.fr {A : Nat → Prop} {h h' : vH} {a w : Nat} (x : isA h a w) (f : fr A h h') : isA h' a w := by
  obtain ⟨h1, h2, h3⟩ := x
  exact ⟨by rw [f.k]; exact h1, by rw [f.r]; exact h2, by rw [f.k]; exact h3⟩
theorem isSt.fr {A : Nat → Prop} {h h' : vH} {a : Nat} (x : isSt h a) (f : fr A h h') : isSt h' a := by
  obtain ⟨h1, h2, h3, h4, h5⟩ := x
  exact ⟨by rw [f.k]; exact h1, h2.fr f, h3.fr f, by rw [f.r]; exact h4, by rw [f.r]; exact h5⟩
def sv (h : vH) (a : Nat) (S : Nat → Int32) : Prop :=
  hI h (a + 1) 0 = S 0 ∧ (∀ i, i < 3 → hI h (a + 2) i = S (1 + i)) ∧ (∀ i, i < 2 → hI h (a + 3) i = S (4 + i)) ∧ hI h a 3 = S 6 ∧ hI h a 2 = S 7 ∧ hL h a 4 = Int32.toInt64 (S 8) ∧ ∀ k, k < 512 → sA h (a + 5) k = bI (S (9 + k / 32)) (k % 32)
theorem sv.fr {A : Nat → Prop} {h h' : vH} {a : Nat} {S : Nat → Int32} (x : sv h a S) (f : fr A h h') (hA : ∀ r, A r → r < a ∨ a + 5 < r) : sv h' a S := by
  have e : ∀ r, a ≤ r → r ≤ a + 5 → hI h' r = hI h r ∧ hL h' r = hL h r := fun r h1 h2 => f.2 r (fun z => by have := hA r z; omega)
  obtain ⟨h1, h2, h3, h4, h5, h6, h7⟩ := x
  refine ⟨by rw [(e (a + 1) (by omega) (by omega)).1]; exact h1, fun i hi => by rw [(e (a + 2) (by omega) (by omega)).1]; exact h2 i hi, fun i hi => by rw [(e (a + 3) (by omega) (by omega)).1]; exact h3 i hi, by rw [(e a (by omega) (by omega)).1]; exact h4, by rw [(e a (by omega) (by omega)).1]; exact h5, by rw [(e a (by omega) (by omega)).2]; exact h6, fun k hk => ?_⟩
  unfold sA; rw [(e (a + 5) (by omega) (by omega)).2]; exact h7 k hk
theorem sv.ext {h : vH} {a : Nat} {S T : Nat → Int32} (x : sv h a S) (e : ∀ i, i < 25 → S i = T i) : sv h a T := by
  obtain ⟨h1, h2, h3, h4, h5, h6, h7⟩ := x
  exact ⟨by rw [h1, e 0 (by omega)], fun i hi => by rw [h2 i hi, e _ (by omega)], fun i hi => by rw [h3 i hi, e _ (by omega)], by rw [h4, e 6 (by omega)], by rw [h5, e 7 (by omega)], by rw [h6, e 8 (by omega)], fun k hk => by rw [h7 k hk, e _ (by omega)]⟩
theorem fr_cpW (h : vH) (a b : Nat) : fr (fun r => a ≤ r ∧ r ≤ a + 2) h (cpW h a b) := by
  unfold cpW
  exact (((fr_uI h a 0 _).tr (fr_pI _ (a + 1) 3 _)).tr (fr_pI _ (a + 2) 2 _)).mono (fun r hr => by omega)
theorem fr_cpS (h : vH) (a b : Nat) : fr (fun r => a ≤ r ∧ r ≤ a + 5) h (cpS h a b) := by
  unfold cpS
  exact (((((fr_cpW h (a + 1) (b + 1)).tr (fr_uS _ (a + 5) _)).tr (fr_uI _ a 2 _)).tr (fr_uI _ a 3 _)).tr (fr_uL _ a 4 _)).mono (fun r hr => by omega)
theorem sv_cp {h : vH} {a b : Nat} {S : Nat → Int32} (x : sv h b S) : sv (cpS h a b) a S := by
  obtain ⟨h1, h2, h3, h4, h5, h6, h7⟩ := x
  have ew : ∀ r, r ≠ a → hI (cpS h a b) r = hI (cpW h (a + 1) (b + 1)) r := fun r hr => by
    unfold cpS
    show hI (uI (uI (uS (cpW h (a + 1) (b + 1)) (a + 5) (sA h (b + 5))) a 2 (hI h b 2)) a 3 (hI h b 3)) r = _
    rw [hI_uIn _ _ _ hr, hI_uIn _ _ _ hr]; rfl
  refine ⟨?_, fun i hi => ?_, fun i hi => ?_, ?_, ?_, ?_, fun k hk => ?_⟩
  · rw [ew _ (by omega)]; unfold cpW
    rw [hI_pIn _ _ _ (by omega), hI_pIn _ _ _ (by omega), hI_uIs]; exact h1
  · rw [ew _ (by omega)]; unfold cpW
    rw [hI_pIn _ _ _ (by omega), hI_pIlt _ _ _ _ hi]; exact h2 i hi
  · rw [ew _ (by omega)]; unfold cpW
    rw [hI_pIlt _ _ _ _ hi]; exact h3 i hi
  · unfold cpS
    show hI (uI _ a 3 (hI h b 3)) a 3 = _
    rw [hI_uIs]; exact h4
  · unfold cpS
    show hI (uI (uI _ a 2 (hI h b 2)) a 3 (hI h b 3)) a 2 = _
    rw [hI_uIk _ _ _ (by decide), hI_uIs]; exact h5
  · unfold cpS
    rw [hL_uL, if_pos ⟨rfl, rfl⟩]; exact h6
  · have e : sA (cpS h a b) (a + 5) k = sA (uS (cpW h (a + 1) (b + 1)) (a + 5) (sA h (b + 5))) (a + 5) k := by
      unfold sA cpS
      rw [hL_uL, if_neg (by omega)]; rfl
    rw [e, sA_uS _ _ _ hk]; exact h7 k hk
/-- the first context in a vector -/
def fstV (S : Nat → Int32) : Nat → Int32 := fun j => if j = 7 then 0 else if 9 ≤ j then (if j = 9 then 1 else 0) else S j
theorem fr_fgS (h : vH) (a : Nat) : fr (fun r => r = a ∨ r = a + 5) h (fgS h a) := by
  unfold fgS
  exact ((fr_uS h (a + 5) _).tr (fr_uI _ a 2 _)).mono (fun r hr => by omega)
theorem sv_fg {h : vH} {a : Nat} {S : Nat → Int32} (x : sv h a S) : sv (fgS h a) a (fstV S) := by
  obtain ⟨h1, h2, h3, h4, h5, h6, h7⟩ := x
  have f := fr_fgS h a
  refine ⟨by rw [(f.2 (a + 1) (by omega)).1]; exact h1, fun i hi => by rw [(f.2 (a + 2) (by omega)).1, h2 i hi]; unfold fstV; rw [if_neg (by omega), if_neg (by omega)], fun i hi => by rw [(f.2 (a + 3) (by omega)).1, h3 i hi]; unfold fstV; rw [if_neg (by omega), if_neg (by omega)], ?_, ?_, ?_, fun k hk => ?_⟩
  · unfold fgS; rw [hI_uIk _ _ _ (by decide)]; exact h4
  · unfold fgS; rw [hI_uIs]; rfl
  · have e4 : hL (fgS h a) a 4 = hL h a 4 := by
      unfold fgS; rw [hL_uI]; unfold uS; rw [hL_pLn _ _ _ (by omega)]
    rw [e4]; exact h6
  · have e : sA (fgS h a) (a + 5) k = decide (k = 0) := by
      unfold fgS sA; rw [hL_uI]; exact sA_uS h (a + 5) (fun k => decide (k = 0)) hk
    rw [e]
    unfold fstV
    rw [if_neg (by omega), if_pos (by omega)]
    by_cases hk2 : k / 32 = 0
    · rw [if_pos (by omega), bI_1 _ (by omega)]; congr 1; apply propext; omega
    · rw [if_neg (by omega), bI_0, decide_eq_false (by omega)]
/-- the history -/
def isH (h : vH) : Prop := (hK h)[7]? = some (2, 0) ∧ hR h 7 0 = some 8 ∧ (hK h)[8]? = some (24, 5) ∧ ∀ i, i < 5 → hR h 8 i = some (9 + 6 * i) ∧ isSt h (9 + 6 * i)
def ok6 (S : Nat → Int32) : Prop := S 6 = 0 ∨ S 6 = 1
def hv (h : vH) (H : List (Nat → Int32)) : Prop := ∃ p, hI h 7 1 = nI p ∧ p < 5 ∧ hI h 7 2 = nI H.length ∧ H.length ≤ 5 ∧ ∀ (i : Nat) (S : Nat → Int32), H[i]? = some S → sv h (9 + 6 * ((p + 5 - H.length + i) % 5)) S ∧ ok6 S
def push5 (H : List (Nat → Int32)) (S : Nat → Int32) : List (Nat → Int32) := (if H.length = 5 then H.drop 1 else H) ++ [S]
theorem hv.fr {A : Nat → Prop} {h h' : vH} {H : List (Nat → Int32)} (x : hv h H) (f : fr A h h') (hA : ∀ r, A r → r < 7 ∨ 38 < r) : hv h' H := by
  obtain ⟨p, h1, h2, h3, h4, h5⟩ := x
  have e7 : hI h' 7 = hI h 7 := (f.2 7 (fun z => by have := hA _ z; omega)).1
  exact ⟨p, by rw [e7]; exact h1, h2, by rw [e7]; exact h3, h4, fun i S hS => ⟨(h5 i S hS).1.fr f (fun r hr => by have := hA r hr; omega), (h5 i S hS).2⟩⟩
theorem c_record {d c n : Nat} {h : vH} {Q : vQ} {b : Nat} {S : Nat → Int32} {H : List (Nat → Int32)} (hd : 2 ≤ d) (hh : isH h) (hb : isSt h b) (hbn : b + 5 < 7 ∨ 38 < b) (hs : sv h b S) (h6 : ok6 S) (hH : hv h H) (k : ∀ h', fr (fun r => 7 ≤ r ∧ r ≤ 38) h h' → hv h' (push5 H S) → Q none h') : vm_C mX2_record d c n [vR (some 7), vR (some b)] h Q := by
  obtain ⟨i1, i2, i3, i4⟩ := hh
  obtain ⟨p, p1, p2, p3, p4, p5⟩ := hH
  obtain ⟨q1, q2⟩ := i4 p p2
  have hp31 : p < 2147483648 := by omega
  refine bX2_record_0 i1 (fun hc => absurd hc (by rw [p1]; exact nI_pos (by omega))) (fun _ => bX2_record_7 i1 (fun hc => absurd hc (by rw [p1]; exact nI_ge p2 (by decide))) (fun _ => ?_))
  refine bX2_record_15 (b3 := 8) (n_b3 := 5) (t_b3 := 24) i1 i2 (Or.inl rfl) i3 (by rw [p1]; exact vp_in_nI p2 (by decide)) (fun _ => ?_) (fun hc => ?_)
  · refine bX2_record_28 (b3 := 8) (n_b3 := 5) (t_b3 := 24) (b4 := 9 + 6 * p) (R := fun r h' => r = none ∧ cpS h (9 + 6 * p) b = h') i1 i2 (Or.inl rfl) i3 (by rw [p1]; exact vp_in_nI p2 (by decide)) (by rw [p1, cs hp31]; exact q1) q2.1 (by omega) (c_State_copyFrom (by omega) q2 hb (by omega) (by obtain ⟨-, -, -, e, -⟩ := hs; rw [e]; exact h6) ⟨rfl, rfl⟩) ?_
    rintro r h' ⟨rfl, rfl⟩
    have f1 := fr_cpS h (9 + 6 * p) b
    have g1 : hI (cpS h (9 + 6 * p) b) 7 = hI h 7 := (f1.2 7 (by omega)).1
    have k1 : (hK (cpS h (9 + 6 * p) b))[7]? = some (2, 0) := by rw [f1.k]; exact i1
    have fin : ∀ p', p' = (p + 1) % 5 → vm_E mX2_record d c n 62 [some (vR (some 7)), some (vR (some b))] [vI (nI p'), vR (some 7)] (cpS h (9 + 6 * p) b) Q := by
      intro p' hp'
      refine bX2_record_62 k1 k1 (by omega) ?_
      have e2 : hI (uI (cpS h (9 + 6 * p) b) 7 1 (nI p')) 7 2 = nI H.length := by rw [hI_uIk _ _ _ (by decide), g1]; exact p3
      rw [e2, nI_1]
      have e5 : (if (5 : Int32) < nI (H.length + 1) then (5 : Int32) else nI (H.length + 1)) = nI (push5 H S).length := by
        unfold push5
        by_cases h5 : H.length = 5
        · rw [h5, if_pos (by decide +kernel), if_pos rfl]; simp [h5]; rfl
        · rw [if_neg (show ¬ (5 : Int32) < nI (H.length + 1) from nI_nlt (a := 5) (b := H.length + 1) (by omega) (by decide)), if_neg h5]; simp
      rw [e5]
      refine bX2_record_76 k1 (k _ ((((f1.tr (fr_uI _ 7 1 (nI p'))).tr (fr_uI _ 7 2 (nI (push5 H S).length)))).mono (fun r hr => by omega)) ?_)
      refine ⟨p', by rw [hI_uIk _ _ _ (by decide), hI_uIs], by omega, by rw [hI_uIs], ?_, ?_⟩
      · unfold push5; split <;> simp <;> omega
      · intro i T hT
        have f2 : fr (fun r => r = 7) (cpS h (9 + 6 * p) b) (uI (uI (cpS h (9 + 6 * p) b) 7 1 (nI p')) 7 2 (nI (push5 H S).length)) := ((fr_uI _ 7 1 (nI p')).tr (fr_uI _ 7 2 (nI (push5 H S).length))).mono (fun r hr => by omega)
        have hcase : (H.length = 5 ∧ (push5 H S).length = 5 ∧ push5 H S = H.drop 1 ++ [S]) ∨ (¬ H.length = 5 ∧ (push5 H S).length = H.length + 1 ∧ push5 H S = H ++ [S]) := by
          by_cases h5 : H.length = 5
          · exact Or.inl ⟨h5, by unfold push5; rw [if_pos h5]; simp [h5], by unfold push5; rw [if_pos h5]⟩
          · exact Or.inr ⟨h5, by unfold push5; rw [if_neg h5]; simp, by unfold push5; rw [if_neg h5]⟩
        rcases hcase with ⟨h5, hl, el⟩ | ⟨h5, hl, el⟩
        · rw [el] at hT
          by_cases hi : i < 4
          · rw [List.getElem?_append_left (by simp [h5]; exact hi), List.getElem?_drop] at hT
            obtain ⟨t1, t2⟩ := p5 (1 + i) T hT
            rw [h5] at t1
            refine ⟨?_, t2⟩
            have e : (p' + 5 - (push5 H S).length + i) % 5 = (p + 5 - 5 + (1 + i)) % 5 := by omega
            rw [e]
            exact ((t1.fr f1 (fun r hr => by omega)).fr f2 (fun r hr => by omega))
          · rw [List.getElem?_append_right (by simp [h5]; omega)] at hT
            have hi4 : i = 4 := by
              have := (List.getElem?_eq_some_iff.mp hT).1
              simp [h5] at this; omega
            subst hi4
            simp [h5] at hT
            subst hT
            refine ⟨?_, h6⟩
            have e : (p' + 5 - (push5 H S).length + 4) % 5 = p := by omega
            rw [e]
            exact (sv_cp hs).fr f2 (fun r hr => by omega)
        · rw [el] at hT
          by_cases hi : i < H.length
          · rw [List.getElem?_append_left hi] at hT
            obtain ⟨t1, t2⟩ := p5 i T hT
            refine ⟨?_, t2⟩
            have e : (p' + 5 - (push5 H S).length + i) % 5 = (p + 5 - H.length + i) % 5 := by omega
            rw [e]
            exact ((t1.fr f1 (fun r hr => by omega)).fr f2 (fun r hr => by omega))
          · rw [List.getElem?_append_right (by omega)] at hT
            have hi4 : i = H.length := by
              have := (List.getElem?_eq_some_iff.mp hT).1
              simp at this; omega
            subst hi4
            simp at hT
            subst hT
            refine ⟨?_, h6⟩
            have e : (p' + 5 - (push5 H S).length + H.length) % 5 = p := by omega
            rw [e]
            exact (sv_cp hs).fr f2 (fun r hr => by omega)
    refine bX2_record_41 k1 (fun hc => ?_) (fun hc => ?_)
    · rw [g1, p1, nI_1] at hc
      have : p = 4 := by
        by_cases hp4 : p = 4
        · exact hp4
        · exact absurd hc (nI_ge (a := p + 1) (b := 5) (by omega) (by decide))
      exact bX2_record_61 (fin 0 (by omega))
    · rw [g1, p1, nI_1] at hc
      have : p ≠ 4 := fun z => hc (by rw [z]; decide +kernel)
      refine bX2_record_52 k1 ?_
      rw [g1, p1, nI_1]
      exact fin (p + 1) (by omega)
  · rw [p1, cs hp31, q1] at hc
    exact absurd (fun z => by cases z) hc
