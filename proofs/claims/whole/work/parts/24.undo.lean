/-! ===== undo's restore; the text; the class's whole picture ===== -/
theorem c_restore0 {d c n : Nat} {h : vH} {Q : vQ} {b : Nat} (hh : isH h) (hH : hv h []) (k : Q (some (vI 0)) h) : vm_C mX2_restore d c n [vR (some 7), vR (some b)] h Q := by
  obtain ⟨i1, i2, i3, i4⟩ := hh
  obtain ⟨p, p1, p2, p3, p4, p5⟩ := hH
  have fin : ∀ x : Int32, vm_E mX2_restore d c n 17 [some (vR (some 7)), some (vR (some b)), none] [vI x] h Q := fun x =>
    bX2_restore_17 i1 (fun _ => bX2_restore_39 k) (fun hc => absurd (by rw [p3]; rfl) hc)
  exact bX2_restore_0 i1 (fun _ => bX2_restore_16 (fin 4)) (fun _ => bX2_restore_7 i1 (fin _))
theorem c_restore1 {d c n : Nat} {h : vH} {Q : vQ} {b : Nat} {S : Nat → Int32} {H : List (Nat → Int32)} (hd : 2 ≤ d) (hh : isH h) (hb : isSt h b) (hbn : b + 5 < 7 ∨ 38 < b) (hH : hv h (H ++ [S])) (k : ∀ h', fr (fun r => r = 7 ∨ (b ≤ r ∧ r ≤ b + 5)) h h' → sv h' b S → hv h' H → Q (some (vI 1)) h') : vm_C mX2_restore d c n [vR (some 7), vR (some b)] h Q := by
  obtain ⟨i1, i2, i3, i4⟩ := hh
  obtain ⟨p, p1, p2, p3, p4, p5⟩ := hH
  have hlen : (H ++ [S]).length = H.length + 1 := by simp
  rw [hlen] at p3 p4 p5
  obtain ⟨q, hq⟩ : ∃ q, q = (p + 4) % 5 := ⟨_, rfl⟩
  have hq5 : q < 5 := by omega
  obtain ⟨q1, q2⟩ := i4 q hq5
  obtain ⟨s1, s6⟩ := p5 H.length S (by simp)
  have eq1 : (p + 5 - (H.length + 1) + H.length) % 5 = q := by omega
  rw [eq1] at s1
  have fin : vm_E mX2_restore d c n 17 [some (vR (some 7)), some (vR (some b)), none] [vI (nI q)] h Q := by
    refine bX2_restore_17 i1 (fun hc => absurd hc (by rw [p3]; exact nI_ne0 (by omega) (by omega))) (fun _ => bX2_restore_25 (fun hc => absurd hc (nI_ge hq5 (by decide))) (fun _ => ?_))
    refine bX2_restore_30 (b3 := 8) (n_b3 := 5) (t_b3 := 24) i1 i2 (Or.inl rfl) i3 (vp_in_nI hq5 (by decide)) (fun _ => ?_) (fun hc => ?_)
    · refine bX2_restore_41 (b3 := 8) (n_b3 := 5) (t_b3 := 24) (R := fun r h' => r = none ∧ cpS h b (9 + 6 * q) = h') i1 i2 (Or.inl rfl) i3 (vp_in_nI hq5 (by decide)) hb.1 (by omega) (by
        rw [cs (by omega), q1]
        exact c_State_copyFrom (by omega) hb q2 (by omega) (by obtain ⟨-, -, -, e, -⟩ := s1; rw [e]; exact s6) ⟨rfl, rfl⟩) ?_
      rintro r h' ⟨rfl, rfl⟩
      have f1 := fr_cpS h b (9 + 6 * q)
      have k1 : (hK (cpS h b (9 + 6 * q)))[7]? = some (2, 0) := by rw [f1.k]; exact i1
      have g7 : hI (cpS h b (9 + 6 * q)) 7 = hI h 7 := (f1.2 7 (by omega)).1
      refine bX2_restore_51 k1 ?_
      have e2 : hI (uI (cpS h b (9 + 6 * q)) 7 1 (nI q)) 7 2 - 1 = nI H.length := by rw [hI_uIk _ _ _ (by decide), g7, p3, nI_pred]
      rw [e2]
      have f2 : fr (fun r => r = 7) (cpS h b (9 + 6 * q)) (uI (uI (cpS h b (9 + 6 * q)) 7 1 (nI q)) 7 2 (nI H.length)) := ((fr_uI _ 7 1 (nI q)).tr (fr_uI _ 7 2 (nI H.length))).mono (fun r hr => by omega)
      refine k _ ((f1.tr f2).mono (fun r hr => by omega)) ((sv_cp s1).fr f2 (fun r hr => by omega)) ⟨q, by rw [hI_uIk _ _ _ (by decide), hI_uIs], hq5, by rw [hI_uIs], by omega, fun i T hT => ?_⟩
      have hi := (List.getElem?_eq_some_iff.mp hT).1
      obtain ⟨t1, t6⟩ := p5 i T (by rw [List.getElem?_append_left hi]; exact hT)
      have e : (q + 5 - H.length + i) % 5 = (p + 5 - (H.length + 1) + i) % 5 := by omega
      refine ⟨?_, t6⟩
      rw [e]
      exact (t1.fr f1 (fun r hr => by omega)).fr f2 (fun r hr => by omega)
    · rw [cs (by omega), q1] at hc
      exact absurd (fun z => by cases z) hc
  refine bX2_restore_0 i1 (fun hc => ?_) (fun hc => ?_)
  · have hp0 : p = 0 := by
      by_cases hp0 : p = 0
      · exact hp0
      · rw [p1] at hc; exact absurd hc (nI_nle (by omega) (by omega))
    have : q = 4 := by omega
    rw [this] at fin
    exact bX2_restore_16 fin
  · have hp0 : p ≠ 0 := fun z => hc (by rw [p1, z]; decide +kernel)
    refine bX2_restore_7 i1 ?_
    rw [p1, show p = (p - 1) + 1 by omega, nI_pred, show p - 1 = q by omega]
    exact fin
/-! text -/
def isT (h : vH) : Prop := (hK h)[39]? = some (8, 0) ∧ hR h 39 0 = some 40 ∧ (hK h)[40]? = some (22, 60)
def tv (h : vH) (t : Nat → Nat) (L : Nat) : Prop := hI h 39 1 = nI L ∧ ∀ i, i < L → hI h 40 i = nI (t i)
theorem tv.fr {A : Nat → Prop} {h h' : vH} {t : Nat → Nat} {L : Nat} (x : tv h t L) (f : fr A h h') (hA : ∀ r, A r → ¬ (r = 39 ∨ r = 40)) : tv h' t L := by
  have e9 := (f.2 39 (fun z => hA _ z (Or.inl rfl))).1
  have e0 := (f.2 40 (fun z => hA _ z (Or.inr rfl))).1
  exact ⟨by rw [e9]; exact x.1, fun i hi => by rw [e0]; exact x.2 i hi⟩
theorem chN : ∀ x, x < 127 → vp_nar .char (nI x) = nI x ∧ UInt32.toInt32 (Int32.toUInt32 (nI x) % 65536) = nI x ∧ narrow .char (Value.int (nI x)) = Value.int (nI x) := by decide +kernel
def chp (t : Nat → Nat) (L x : Nat) : Nat → Nat := fun i => if i = L then x else t i
theorem c_append {d c n : Nat} {h : vH} {Q : vQ} {t : Nat → Nat} {L x : Nat} (hh : isT h) (ht : tv h t L) (hL : L ≤ 60) (hx : x < 127) (k0 : L = 60 → Q (some (vI 0)) h) (k1 : L < 60 → ∀ h', fr (fun r => r = 39 ∨ r = 40) h h' → tv h' (chp t L x) (L + 1) → Q (some (vI 1)) h') : vm_C mX8_append d c n [vR (some 39), vI (nI x)] h Q := by
  obtain ⟨i1, i2, i3⟩ := hh
  obtain ⟨t1, t2⟩ := ht
  refine bX8_append_0 i1 (fun hc => absurd hc (by rw [t1]; exact nI_pos (by omega))) (fun _ => bX8_append_7 i1 (fun hc => ?_) (fun hc => ?_))
  · have hL6 : L < 60 := by
      by_cases hL6 : L < 60
      · exact hL6
      · rw [t1] at hc; exact absurd hc (nI_nlt (a := L) (b := 60) (by omega) (by omega))
    refine bX8_append_18 (b2 := 40) (n_b2 := 60) i1 i2 i3 (by rw [t1]; exact vp_in_nI hL6 (by decide)) ?_
    rw [t1, cs (by omega), (chN x hx).1]
    have e1 : hI (uI h 40 L (nI x)) 39 1 + 1 = nI (L + 1) := by rw [hI_uIn _ _ _ (by decide), t1, nI_1]
    rw [e1]
    refine k1 hL6 _ (((fr_uI h 40 L (nI x)).tr (fr_uI _ 39 1 (nI (L + 1)))).mono (fun r hr => by omega)) ⟨hI_uIs _ _ _ _, fun i hi => ?_⟩
    rw [hI_uIn _ _ _ (by decide)]
    unfold chp
    by_cases hiL : i = L
    · rw [if_pos hiL, hiL, hI_uIs]
    · rw [if_neg hiL, hI_uIk _ _ _ hiL]; exact t2 i (by omega)
  · refine bX8_append_16 (k0 ?_)
    by_cases hL6 : L = 60
    · exact hL6
    · exact absurd (by rw [t1]; exact nI_lt (a := L) (b := 60) (by omega) (by decide)) hc
def chAt (t : Nat → Nat) (L j : Nat) : Nat := if j < L then t j else 0
theorem c_at {d c n : Nat} {h : vH} {Q : vQ} {t : Nat → Nat} {L j : Nat} (hh : isT h) (ht : tv h t L) (hL : L ≤ 60) (hc127 : ∀ i, i < L → t i < 127) (hj : j < 1000) (k : Q (some (vI (nI (chAt t L j)))) h) : vm_C mX8_at d c n [vR (some 39), vI (nI j)] h Q := by
  obtain ⟨i1, i2, i3⟩ := hh
  obtain ⟨t1, t2⟩ := ht
  unfold chAt at k
  refine bX8_at_0 (fun hc => absurd hc (nI_pos (by omega))) (fun _ => bX8_at_4 i1 (fun hc => ?_) (fun hc => ?_))
  · have hjL : ¬ j < L := fun z => by rw [t1] at hc; exact nI_ge z (by omega) hc
    rw [if_neg hjL] at k
    exact bX8_at_27 (bX8_at_28 rfl k)
  · have hjL : j < L := by
      by_cases z : j < L
      · exact z
      · exact absurd (by rw [t1]; exact nI_le (by omega) (by omega)) hc
    rw [if_pos hjL] at k
    refine bX8_at_12 (fun hc2 => absurd hc2 (nI_ge (a := j) (b := 60) (by omega) (by decide))) (fun _ => bX8_at_18 (b2 := 40) (n_b2 := 60) i1 i2 i3 (vp_in_nI (by omega) (by decide)) ?_)
    rw [cs (by omega), t2 j hjL]
    exact bX8_at_28 (chN _ (hc127 j hjL)).2.2 k
/-! the whole class -/
def isN (h : vH) (i : Nat) : Prop := (hK h)[43 + 5 * i]? = some (5, 0) ∧ isA h (43 + 5 * i + 1) (43 + 5 * i + 2) ∧ isA h (43 + 5 * i + 3) (43 + 5 * i + 4) ∧ hR h (43 + 5 * i) 10 = some (43 + 5 * i + 1) ∧ hR h (43 + 5 * i) 11 = some (43 + 5 * i + 3)
def LPx (h : vH) : Prop := (hK h)[41]? = some (6, 0) ∧ hR h 41 0 = some 39 ∧ hR h 41 1 = some 42 ∧ (hK h)[42]? = some (25, 62) ∧ ∀ i, i < 62 → hR h 42 i = some (43 + 5 * i) ∧ isN h i
def LE (h : vH) : Prop := (hK h)[353]? = some (3, 0) ∧ (hK h)[354]? = some (4, 0) ∧ hR h 354 0 = some 2 ∧ (hK h)[355]? = some (0, 0) ∧ hR h 355 0 = some 354 ∧ hR h 355 1 = some 356 ∧ hR h 355 2 = some 358 ∧ isA h 356 357 ∧ isA h 358 359 ∧ isW h 360 ∧ (hK h)[363]? = some (4, 0) ∧ hR h 363 0 = some 360 ∧ isA h 364 365
def L0 (h : vH) : Prop := (hK h)[0]? = some (10, 0) ∧ hR h 0 0 = some 1 ∧ hR h 0 1 = some 7 ∧ hR h 0 2 = some 39 ∧ hR h 0 3 = some 41 ∧ hR h 0 4 = some 353 ∧ hR h 0 5 = some 354 ∧ hR h 0 6 = some 355 ∧ hR h 0 7 = some 360 ∧ hR h 0 8 = some 363 ∧ hR h 0 9 = some 364
def LX (h : vH) : Prop := L0 h ∧ isSt h 1 ∧ isH h ∧ isT h ∧ LPx h ∧ LE h
theorem isN.fr {A : Nat → Prop} {h h' : vH} {i : Nat} (x : isN h i) (f : fr A h h') : isN h' i := by
  obtain ⟨h1, h2, h3, h4, h5⟩ := x
  exact ⟨by rw [f.k]; exact h1, h2.fr f, h3.fr f, by rw [f.r]; exact h4, by rw [f.r]; exact h5⟩
theorem isH.fr {A : Nat → Prop} {h h' : vH} (x : isH h) (f : fr A h h') : isH h' := by
  obtain ⟨h1, h2, h3, h4⟩ := x
  exact ⟨by rw [f.k]; exact h1, by rw [f.r]; exact h2, by rw [f.k]; exact h3, fun i hi => ⟨by rw [f.r]; exact (h4 i hi).1, (h4 i hi).2.fr f⟩⟩
theorem isT.fr {A : Nat → Prop} {h h' : vH} (x : isT h) (f : fr A h h') : isT h' := by
  obtain ⟨h1, h2, h3⟩ := x
  exact ⟨by rw [f.k]; exact h1, by rw [f.r]; exact h2, by rw [f.k]; exact h3⟩
theorem LX.fr {A : Nat → Prop} {h h' : vH} (x : LX h) (f : fr A h h') : LX h' := by
  obtain ⟨x0, x1, x2, x3, x4, x5⟩ := x
  refine ⟨?_, x1.fr f, x2.fr f, x3.fr f, ?_, ?_⟩
  · unfold L0 at *; rw [f.k, f.r]; exact x0
  · obtain ⟨h1, h2, h3, h4, h5⟩ := x4
    exact ⟨by rw [f.k]; exact h1, by rw [f.r]; exact h2, by rw [f.r]; exact h3, by rw [f.k]; exact h4, fun i hi => ⟨by rw [f.r]; exact (h5 i hi).1, (h5 i hi).2.fr f⟩⟩
  · obtain ⟨h1, h2, h3, h4, h5, h6, h7, h8, h9, h10, h11, h12, h13⟩ := x5
    exact ⟨by rw [f.k]; exact h1, by rw [f.k]; exact h2, by rw [f.r]; exact h3, by rw [f.k]; exact h4, by rw [f.r]; exact h5, by rw [f.r]; exact h6, by rw [f.r]; exact h7, h8.fr f, h9.fr f, h10.fr f, by rw [f.k]; exact h11, by rw [f.r]; exact h12, h13.fr f⟩
/-- state, history and text of the class -/
def cR (h : vH) (S : Nat → Int32) (H : List (Nat → Int32)) (t : Nat → Nat) (L : Nat) : Prop := LX h ∧ sv h 1 S ∧ hv h H ∧ tv h t L
theorem cR.fr {A : Nat → Prop} {h h' : vH} {S : Nat → Int32} {H : List (Nat → Int32)} {t : Nat → Nat} {L : Nat} (x : cR h S H t L) (f : fr A h h') (hA : ∀ r, A r → 40 < r) : cR h' S H t L :=
  ⟨x.1.fr f, x.2.1.fr f (fun r hr => by have := hA r hr; omega), x.2.2.1.fr f (fun r hr => by have := hA r hr; omega), x.2.2.2.fr f (fun r hr => by have := hA r hr; omega)⟩
