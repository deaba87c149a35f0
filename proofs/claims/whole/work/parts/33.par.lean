/-! ===== the class's parser: its small methods ===== -/
/-- what parsing writes: the parser's numbers, and nodes from u on -/
def fp (u : Nat) (h h' : vH) : Prop := hL h' = hL h ∧ hK h' = hK h ∧ hX h' = hX h ∧ (∀ r j, ¬ (r = 41 ∨ ∃ i, u ≤ i ∧ i < 62 ∧ r = nA i) → hI h' r j = hI h r j) ∧ ∀ r j, ¬ (∃ i, u ≤ i ∧ i < 62 ∧ r = nA i ∧ 6 ≤ j ∧ j ≤ 9) → hR h' r j = hR h r j
theorem fp.rf {u : Nat} {h : vH} : fp u h h := ⟨rfl, rfl, rfl, fun _ _ _ => rfl, fun _ _ _ => rfl⟩
theorem fp.tr {u : Nat} {h h' h2 : vH} (x : fp u h h') (y : fp u h' h2) : fp u h h2 :=
  ⟨y.1.trans x.1, y.2.1.trans x.2.1, y.2.2.1.trans x.2.2.1, fun r j z => (y.2.2.2.1 r j z).trans (x.2.2.2.1 r j z), fun r j z => (y.2.2.2.2 r j z).trans (x.2.2.2.2 r j z)⟩
theorem fp.mono {u v : Nat} {h h' : vH} (x : fp u h h') (huv : v ≤ u) : fp v h h' :=
  ⟨x.1, x.2.1, x.2.2.1, fun r j z => x.2.2.2.1 r j (fun w => z (w.imp id fun ⟨i, a, b⟩ => ⟨i, by omega, b⟩)), fun r j z => x.2.2.2.2 r j (fun ⟨i, a, b⟩ => z ⟨i, by omega, b⟩)⟩
theorem fp.z {u : Nat} {h h' : vH} (x : fp u h h') : fp 0 h h' := x.mono (Nat.zero_le u)
theorem fp.g {u : Nat} {h h' : vH} (x : fp u h h') : fr (fun r => 41 ≤ r ∧ r < 353) h (hI h', hL h', h.2.2) :=
  ⟨rfl, fun r hr => ⟨funext fun j => x.2.2.2.1 r j (fun w => by
    rcases w with rfl | ⟨i, h1, h2, rfl⟩
    · exact hr ⟨by omega, by omega⟩
    · unfold nA at hr; exact hr ⟨by omega, by omega⟩), congrFun x.1 r⟩⟩
theorem fp.R {u : Nat} {h h' : vH} (x : fp u h h') {r j : Nat} (c : r < 43 ∨ 353 ≤ r ∨ j < 6 ∨ 9 < j) : hR h' r j = hR h r j :=
  x.2.2.2.2 r j (fun ⟨i, h1, h2, h3, h4⟩ => by unfold nA at h3; omega)
theorem fp.k {u : Nat} {h h' : vH} (x : fp u h h') : hK h' = hK h := x.2.1
theorem isA.fp {u : Nat} {h h' : vH} {a w : Nat} (x : isA h a w) (f : fp u h h') : isA h' a w := by
  unfold isA at *; rw [f.k, f.R (by omega)]; exact x
theorem isW.fp {u : Nat} {h h' : vH} {a : Nat} (x : isW h a) (f : fp u h h') : isW h' a := by
  unfold isW at *; rw [f.k, f.R (j := 1) (by omega), f.R (j := 2) (by omega)]; exact x
theorem isSt.fp {u : Nat} {h h' : vH} {a : Nat} (x : isSt h a) (f : fp u h h') : isSt h' a := by
  obtain ⟨h1, h2, h3, h4, h5⟩ := x
  exact ⟨by rw [f.k]; exact h1, h2.fp f, h3.fp f, by rw [f.R (by omega)]; exact h4, by rw [f.R (by omega)]; exact h5⟩
theorem isH.fp {u : Nat} {h h' : vH} (x : isH h) (f : fp u h h') : isH h' := by
  obtain ⟨h1, h2, h3, h4⟩ := x
  exact ⟨by rw [f.k]; exact h1, by rw [f.R (by omega)]; exact h2, by rw [f.k]; exact h3, fun i hi => ⟨by rw [f.R (by omega)]; exact (h4 i hi).1, (h4 i hi).2.fp f⟩⟩
theorem isT.fp {u : Nat} {h h' : vH} (x : isT h) (f : fp u h h') : isT h' := by
  obtain ⟨h1, h2, h3⟩ := x
  exact ⟨by rw [f.k]; exact h1, by rw [f.R (by omega)]; exact h2, by rw [f.k]; exact h3⟩
theorem isN.fp {u : Nat} {h h' : vH} {i : Nat} (x : isN h i) (f : fp u h h') : isN h' i := by
  obtain ⟨h1, h2, h3, h4, h5⟩ := x
  exact ⟨by rw [f.k]; exact h1, h2.fp f, h3.fp f, by rw [f.R (by omega)]; exact h4, by rw [f.R (by omega)]; exact h5⟩
theorem LX.fp {u : Nat} {h h' : vH} (x : LX h) (f : fp u h h') : LX h' := by
  obtain ⟨x0, x1, x2, x3, x4, x5⟩ := x
  refine ⟨?_, x1.fp f, x2.fp f, x3.fp f, ?_, ?_⟩
  · unfold L0 at *
    rw [f.k, f.R (j := 0) (by omega), f.R (j := 1) (by omega), f.R (j := 2) (by omega), f.R (j := 3) (by omega), f.R (j := 4) (by omega), f.R (j := 5) (by omega), f.R (j := 6) (by omega), f.R (j := 7) (by omega), f.R (j := 8) (by omega), f.R (j := 9) (by omega)]
    exact x0
  · obtain ⟨h1, h2, h3, h4, h5⟩ := x4
    exact ⟨by rw [f.k]; exact h1, by rw [f.R (by omega)]; exact h2, by rw [f.R (by omega)]; exact h3, by rw [f.k]; exact h4, fun i hi => ⟨by rw [f.R (by omega)]; exact (h5 i hi).1, (h5 i hi).2.fp f⟩⟩
  · obtain ⟨h1, h2, h3, h4, h5, h6, h7, h8, h9, h10, h11, h12, h13⟩ := x5
    exact ⟨by rw [f.k]; exact h1, by rw [f.k]; exact h2, by rw [f.R (by omega)]; exact h3, by rw [f.k]; exact h4, by rw [f.R (by omega)]; exact h5, by rw [f.R (by omega)]; exact h6, by rw [f.R (by omega)]; exact h7, h8.fp f, h9.fp f, h10.fp f, by rw [f.k]; exact h11, by rw [f.R (by omega)]; exact h12, h13.fp f⟩
theorem tv.fp {u : Nat} {h h' : vH} {t : Nat → Nat} {L : Nat} (x : tv h t L) (f : fp u h h') : tv h' t L := by
  have y := tv.fr (h' := ((hI h', hL h', h.2.2) : vH)) x f.g (fun r hr => by omega)
  exact y
theorem cR.fp {u : Nat} {h h' : vH} {S : Nat → Int32} {H : List (Nat → Int32)} {t : Nat → Nat} {L : Nat} (x : cR h S H t L) (f : fp u h h') : cR h' S H t L :=
  ⟨x.1.fp f, by
    have y := sv.fr (h' := ((hI h', hL h', h.2.2) : vH)) x.2.1 f.g (fun r hr => by omega)
    exact y, by
    have y := hv.fr (h' := ((hI h', hL h', h.2.2) : vH)) x.2.2.1 f.g (fun r hr => by omega)
    exact y, x.2.2.2.fp f⟩
/-- where the text's reading stands -/
def pin (h : vH) (t : Nat → Nat) (L : Nat) : Prop := LX h ∧ tv h t L ∧ Tok t L
theorem pin.fp {u : Nat} {h h' : vH} {t : Nat → Nat} {L : Nat} (x : pin h t L) (f : fp u h h') : pin h' t L := ⟨x.1.fp f, x.2.1.fp f, x.2.2⟩
theorem pin.cok {h : vH} {t : Nat → Nat} {L : Nat} (_ : pin h t L) : cOk (chAt t L) L := fun i hi => by unfold chAt; rw [if_neg (by omega)]
theorem pin.c127 {h : vH} {t : Nat → Nat} {L : Nat} (x : pin h t L) (i : Nat) : chAt t L i < 127 := by
  unfold chAt; split
  · exact (x.2.2.2 i (by assumption)).2
  · decide
theorem c_pat {d c n j : Nat} {h : vH} {t : Nat → Nat} {L : Nat} {Q : vQ} (x : pin h t L) (hj : j < 1000) (k : Q (some (vI (nI (chAt t L j)))) h) : vm_C mX8_at d c n [vR (some 39), vI (nI j)] h Q :=
  c_at x.1.2.2.2.1 x.2.1 x.2.2.1 (fun i hi => (x.2.2.2 i hi).2) hj k
theorem fp_41 {h : vH} {j u : Nat} {v : Int32} : fp u h (uI h 41 j v) := ⟨rfl, rfl, rfl, fun r j z => by rw [hI_uI, if_neg (fun w => z (Or.inl w.1))], fun r j z => rfl⟩
theorem fp_nI {h : vH} {i j u : Nat} {v : Int32} (h1 : u ≤ i) (h2 : i < 62) : fp u h (uI h (nA i) j v) := ⟨rfl, rfl, rfl, fun r j z => by rw [hI_uI, if_neg (fun w => z (Or.inr ⟨i, h1, h2, w.1⟩))], fun r j z => rfl⟩
theorem fp_nR {h : vH} {i j u : Nat} {v : Option Nat} (h1 : u ≤ i) (h2 : i < 62) (h3 : 6 ≤ j) (h4 : j ≤ 9) : fp u h (uR h (nA i) j v) := ⟨rfl, rfl, rfl, fun r j z => rfl, fun r j z => by rw [hR_uR, if_neg (fun w => z ⟨i, h1, h2, w.1, by omega, by omega⟩)]⟩
theorem c_skip {d c n s p : Nat} {h : vH} {t : Nat → Nat} {L : Nat} {Q : vQ} (hd : 1 ≤ d) (x : pin h t L) (hp : p < 1000) (hs : s < 127) (e : hI h 41 4 = nI p) (k1 : chAt t L p = s → Q (some (vI 1)) (uI h 41 4 (nI (p + 1)))) (k0 : ¬ chAt t L p = s → Q (some (vI 0)) h) : vm_C mX6_skip d c n [vR (some 41), vI (nI s)] h Q := by
  have l := x.1.2.2.2.2.1
  have hc := x.c127 p
  refine bX6_skip_0 (b2 := 39) (R := fun r h' => r = some (vI (nI (chAt t L p))) ∧ h = h') l.1 l.2.1 x.1.2.2.2.1.1 hd (by rw [e]; exact c_pat x hp ⟨rfl, rfl⟩) ?_
  rintro r h' ⟨rfl, rfl⟩
  refine bX6_skip_11 (fun hz => bX6_skip_17 l.1 ?_) (fun hz => bX6_skip_15 (k0 (fun z => hz (by rw [z]))))
  rw [e, nI_1]
  exact k1 ((nI_eq (by omega) (by omega)).mp hz)
theorem isv_iff {x : Nat} : isv x = true ↔ 120 ≤ x ∧ x ≤ 122 := by unfold isv; rw [Bool.and_eq_true, decide_eq_true_iff, decide_eq_true_iff]
theorem c_skipVariable {d c n p : Nat} {h : vH} {t : Nat → Nat} {L : Nat} {Q : vQ} (hd : 1 ≤ d) (x : pin h t L) (hp : p < 1000) (e : hI h 41 4 = nI p) (k1 : isv (chAt t L p) = true → Q (some (vI 1)) (uI h 41 4 (nI (p + 1)))) (k0 : ¬ isv (chAt t L p) = true → Q (some (vI 0)) h) : vm_C mX6_skipVariable d c n [vR (some 41)] h Q := by
  have l := x.1.2.2.2.2.1
  have hc := x.c127 p
  rw [isv_iff] at k1 k0
  refine bX6_skipVariable_0 (b2 := 39) (R := fun r h' => r = some (vI (nI (chAt t L p))) ∧ h = h') l.1 l.2.1 x.1.2.2.2.1.1 hd (by rw [e]; exact c_pat x hp ⟨rfl, rfl⟩) ?_
  rintro r h' ⟨rfl, rfl⟩
  refine bX6_skipVariable_11 (fun hz => bX6_skipVariable_24 (k0 ?_)) (fun h1 => bX6_skipVariable_18 (fun h2 => bX6_skipVariable_26 l.1 ?_) (fun hz => bX6_skipVariable_24 (k0 ?_)))
  · have := (nI_ltI (a := chAt t L p) (b := 120) (by omega) (by decide)).mp hz; omega
  · rw [e, nI_1]
    have := (nI_leI (a := chAt t L p) (b := 122) (by omega) (by decide)).mp h2
    have : ¬ chAt t L p < 120 := fun z => h1 ((nI_ltI (a := chAt t L p) (b := 120) (by omega) (by decide)).mpr z)
    exact k1 ⟨by omega, by omega⟩
  · rintro ⟨z1, z2⟩
    exact hz ((nI_leI (a := chAt t L p) (b := 122) (by omega) (by decide)).mpr z2)
theorem c_openSign {d c n o p : Nat} {h : vH} {Q : vQ} (l : (hK h)[41]? = some (6, 0)) (ho : o ≤ 8) (eo : hI h 41 3 = nI o) (e : hI h 41 4 = nI p) (k1 : o < 8 → Q (some (vI 1)) (uI (uI h 41 3 (nI (o + 1))) 41 4 (nI (p + 1)))) (k0 : 8 ≤ o → Q (some (vI 0)) h) : vm_C mX6_openSign d c n [vR (some 41)] h Q := by
  refine bX6_openSign_0 l (fun hz => bX6_openSign_11 l ?_) (fun hz => bX6_openSign_9 (k0 ?_))
  · rw [eo] at hz ⊢
    rw [hI_uIk _ _ _ (show 4 ≠ 3 by decide), e, nI_1, nI_1]
    exact k1 ((nI_ltI (a := o) (b := 8) (by omega) (by decide)).mp hz)
  · rw [eo] at hz
    exact Nat.le_of_not_lt fun z => hz ((nI_ltI (a := o) (b := 8) (by omega) (by decide)).mpr z)
def tkn (h : vH) (u : Nat) (kd : Int32) : vH := uR (uR (uR (uR (uI (uI h 41 2 (nI (u + 1))) (nA u) 0 kd) (nA u) 6 none) (nA u) 7 none) (nA u) 8 none) (nA u) 9 none
theorem nA41 (i : Nat) : nA i ≠ 41 := by unfold nA; omega
theorem hI_tkn (h : vH) (u : Nat) (kd : Int32) (r j : Nat) : hI (tkn h u kd) r j = if r = nA u ∧ j = 0 then kd else if r = 41 ∧ j = 2 then nI (u + 1) else hI h r j := rfl
theorem hR_tkn (h : vH) (u : Nat) (kd : Int32) (r j : Nat) : hR (tkn h u kd) r j = if r = nA u ∧ 6 ≤ j ∧ j ≤ 9 then none else hR h r j := by
  show (if r = nA u ∧ j = 9 then none else if r = nA u ∧ j = 8 then none else if r = nA u ∧ j = 7 then none else if r = nA u ∧ j = 6 then none else hR h r j) = _
  by_cases hr : r = nA u
  · by_cases h9 : j = 9
    · rw [if_pos ⟨hr, h9⟩, if_pos ⟨hr, by omega, by omega⟩]
    · by_cases h8 : j = 8
      · rw [if_neg (fun z => h9 z.2), if_pos ⟨hr, h8⟩, if_pos ⟨hr, by omega, by omega⟩]
      · by_cases h7 : j = 7
        · rw [if_neg (fun z => h9 z.2), if_neg (fun z => h8 z.2), if_pos ⟨hr, h7⟩, if_pos ⟨hr, by omega, by omega⟩]
        · by_cases h6 : j = 6
          · rw [if_neg (fun z => h9 z.2), if_neg (fun z => h8 z.2), if_neg (fun z => h7 z.2), if_pos ⟨hr, h6⟩, if_pos ⟨hr, by omega, by omega⟩]
          · rw [if_neg (fun z => h9 z.2), if_neg (fun z => h8 z.2), if_neg (fun z => h7 z.2), if_neg (fun z => h6 z.2), if_neg (by omega)]
  · rw [if_neg (fun z => hr z.1), if_neg (fun z => hr z.1), if_neg (fun z => hr z.1), if_neg (fun z => hr z.1), if_neg (fun z => hr z.1)]
theorem fp_tkn {h : vH} {u v : Nat} {kd : Int32} (hv : v ≤ u) (hu : u < 62) : fp v h (tkn h u kd) :=
  ⟨rfl, rfl, rfl, fun r j z => by rw [hI_tkn, if_neg (fun w => z (Or.inr ⟨u, hv, hu, w.1⟩)), if_neg (fun w => z (Or.inl w.1))], fun r j z => by rw [hR_tkn, if_neg (fun w => z ⟨u, hv, hu, w⟩)]⟩
theorem c_taken {d c n u : Nat} {h : vH} {Q : vQ} {kd : Int32} (l : LPx h) (hu : u < 62) (e : hI h 41 2 = nI u) (k : Q (some (vR (some (nA u)))) (tkn h u kd)) : vm_C mX6_taken d c n [vR (some 41), vI kd] h Q := by
  have q := l.2.2.2.2 u hu
  have hv : vp_in (hI h 41 2) 62 := by rw [e]; exact vp_in_nI hu (by decide)
  have eq : hR h 42 (Int32.toNatClampNeg (hI h 41 2)) = some (nA u) := by rw [e, cs (by omega)]; exact q.1
  refine bX6_taken_0 l.1 (fun hz => absurd hz (by rw [e]; exact nI_pos (by omega))) (fun _ => ?_)
  refine bX6_taken_7 l.1 (fun hz => absurd hz (by rw [e]; exact nI_ge (b := 62) hu (by decide))) (fun _ => ?_)
  refine bX6_taken_16 (b2 := 42) (n_b2 := 62) (t_b2 := 25) l.1 l.2.2.1 (Or.inr rfl) l.2.2.2.1 hv (fun _ => ?_) (fun hz => absurd (by rw [eq]; nofun) hz)
  refine bX6_taken_30 (b2 := 42) (n_b2 := 62) (t_b2 := 25) (b3 := nA u) l.1 l.2.2.1 (Or.inr rfl) l.2.2.2.1 hv eq q.2.1 ?_
  rw [e, nI_1]
  exact bX6_taken_60 q.2.1 (bX6_taken_75 k)
