/-! ===== the reference: a text looked at; its context ===== -/
def pB (r j : Nat) : Prop := (r = 366 ∧ (j = 7 ∨ 11 ≤ j ∧ j ≤ 16 ∨ j = 25 ∨ j = 27 ∨ j = 28)) ∨ (370 ≤ r ∧ r ≤ 382)
def fb (h h' : vH) : Prop := fm pB h h'
theorem fb.rf {h : vH} : fb h h := fm.rf
theorem fb.tr {h h' h2 : vH} (x : fb h h') (y : fb h' h2) : fb h h2 := fm.tr x y
theorem fa.b {h h' : vH} (x : fa h h') : fb h h' := fm.mono x (fun r j z => by unfold pA at z; unfold pB; omega)
theorem pN_b {h h' : vH} (x : fm pN h h') : fb h h' := fm.mono x (fun r j z => by unfold pN at z; unfold pB; omega)
/-- what is written before the first part -/
def pS (r j : Nat) : Prop := r = 366 ∧ (j = 7 ∨ 11 ≤ j ∧ j ≤ 15 ∨ j = 25 ∨ j = 27 ∨ j = 28)
theorem pS_u {h h' : vH} {j : Nat} {v : Int32} (x : fm pS h h') (hj : j = 7 ∨ 11 ≤ j ∧ j ≤ 15 ∨ j = 25 ∨ j = 27 ∨ j = 28) : fm pS h (uI h' 366 j v) := x.tr ((fm_uI h' 366 j v).mono (fun r i z => ⟨z.1, by rw [z.2]; exact hj⟩))
theorem pS_b {h h' : vH} (x : fm pS h h') : fb h h' := fm.mono x (fun r j z => by unfold pS at z; unfold pB; omega)
theorem rd_0 (h : vH) (y x2 : Int32) : fm pS h (uI (uI (uI (uI (uI (uI (uI (uI (uI h 366 11 y) 366 12 0) 366 7 0) 366 13 x2) 366 14 (-7)) 366 15 0) 366 25 0) 366 28 0) 366 27 (-7)) :=
  pS_u (pS_u (pS_u (pS_u (pS_u (pS_u (pS_u (pS_u (pS_u fm.rf (by omega)) (by omega)) (by omega)) (by omega)) (by omega)) (by omega)) (by omega)) (by omega)) (by omega)
theorem rd_1 (h : vH) (y x2 : Int32) : ∀ g, g = uI (uI (uI (uI (uI (uI (uI (uI (uI h 366 11 y) 366 12 0) 366 7 0) 366 13 x2) 366 14 (-7)) 366 15 0) 366 25 0) 366 28 0) 366 27 (-7) → hI g 366 11 = y ∧ hI g 366 12 = 0 ∧ hI g 366 7 = 0 ∧ hI g 366 13 = x2 ∧ hI g 366 14 = -7 ∧ hI g 366 15 = 0 ∧ hI g 366 25 = 0 ∧ hI g 366 28 = 0 ∧ hI g 366 27 = -7 := fun g e => by
  subst e
  exact ⟨rfl, rfl, rfl, rfl, rfl, rfl, rfl, rfl, rfl⟩
section
variable {d cx n p K dp : Nat} {h : vH} {e : Bool} {W : wT} {t : Nat → Nat} {L : Nat} {u : Option Nat} {A : List aT} {Q : vQ}
theorem rd_start {way : Int32} (ew : way = 0 ∧ e = false ∨ ¬ way = 0 ∧ e = true) (hM : LM h) (w : mV h W) (tx : mtx h t L) (hT : Tok t L)
    (k : ∀ h', fm pS h h' → mE h' e W t L → mpl h' e 0 K none 0 [] → hI h' 366 25 = nI 0 → hI h' 366 28 = nI 0 → hI h' 366 27 = -7 → vm_E mX11_reads d cx n 57 [some (vR (some 366)), some (vI way), some (vI (nI K)), some (vI 1), none, none] [] h' Q) : vm_C mX11_reads d cx n [vR (some 366), vI way, vI (nI K)] h Q := by
  have main : ∀ y : Int32, y = bN e → vm_E mX11_reads d cx n 10 [some (vR (some 366)), some (vI way), some (vI (nI K)), none, none, none] [vI y, vR (some 366)] h Q := by
    intro y ey
    have f := rd_0 h y (nI K)
    have g := rd_1 h y (nI K) _ rfl
    have b1 : ∀ q, (hK h)[366]? = some (11, 0) → (hK q) = hK h → (hK q)[366]? = some (11, 0) := fun q z e => by rw [e]; exact z
    refine bX11_reads_10 hM.1 (by rw [ey]; cases e; exact Or.inl rfl; exact Or.inr rfl) hM.1 (bX11_reads_23 hM.1 (bX11_reads_39 hM.1 (bX11_reads_55 ?_)))
    generalize uI (uI (uI (uI (uI (uI (uI (uI (uI h 366 11 y) 366 12 0) 366 7 0) 366 13 (nI K)) 366 14 (-7)) 366 15 0) 366 25 0) 366 28 0) 366 27 (-7) = h1 at f g ⊢
    obtain ⟨g11, g12, g7, g13, g14, g15, g25, g28, g27⟩ := g
    exact k h1 f ⟨hM.fm f, w.fm f (fun r j z => by unfold pS at z; omega), tx.fm f (fun r j z => by unfold pS at z; omega), hT, by rw [g11, ey]⟩ ⟨g7, g12, g13, g14, g15, fun k a ea => (by cases ea), Nat.zero_le _, voks.nil, fun q z => by cases z⟩ g25 g28 g27
  refine bX11_reads_0 (fun hz => bX11_reads_9 (main 0 ?_)) (fun hz => bX11_reads_5 (main 1 ?_))
  · rcases ew with z | z
    · rw [z.2]; rfl
    · exact absurd hz z.1
  · rcases ew with z | z
    · exact absurd z.1 hz
    · rw [z.2]; rfl
theorem un_pt {kd pl : Nat} {a r : T} (h : kd ≤ 1) (K : Nat) : (un (cc (no kd pl (cc a .leaf)) r)).2.1 K = or2 ((un a).1 K) ((un r).2.1 ((kb a).1 K)) := by
  have e1 : (un (no kd pl (cc a .leaf))).1 K = (un a).1 K := (if_pos (show kd ≤ 2 by omega)).trans (or2_n _)
  have e2 : (kb (no kd pl (cc a .leaf))).1 K = (kb a).1 K := if_pos (show kd ≤ 2 by omega)
  show or2 ((un (no kd pl (cc a .leaf))).1 K) ((un r).2.1 ((kb (no kd pl (cc a .leaf))).1 K)) = _
  rw [e1, e2]
theorem kb_pt {kd pl : Nat} {a r : T} (h : kd ≤ 1) (K : Nat) : (kb (cc (no kd pl (cc a .leaf)) r)).2 K = (kb r).2 ((kb a).1 K) := by
  have e2 : (kb (no kd pl (cc a .leaf))).1 K = (kb a).1 K := if_pos (show kd ≤ 2 by omega)
  show (kb r).2 ((kb (no kd pl (cc a .leaf))).1 K) = _
  rw [e2]
theorem ptz_w {c : Nat → Nat} {kd p p' : Nat} {a : T} (x : cOk c L) (hL : L ≤ 60) (h : ptz c p = .inr (no kd p (cc a .leaf), p')) : (wft a).1 := by
  unfold ptz at h
  obtain ⟨t2, p2, e4, e5⟩ := bnd_i h
  split at e5
  · cases e5
  · have e6 := (inr_i e5).1
    unfold no cc at e6
    injection e6 with _ _ _ e6 _
    injection e6 with _ _ _ e6 _
    rw [← e6]
    exact (pz_wf x hL 1000).2.2.2 _ _ _ _ e4
theorem lk_loop {x1 x2 : Int32} (hd : 30 ≤ d) : ∀ (m p K dp i : Nat) (u : Option Nat) (h : vH) (o4 o5 : Option vV), mE h false W t L → mpl h false p K u dp [] → hI h 366 25 = nI i → p ≤ L → L - p < m → K < 8 →
    (∀ q, dz (chAt t L) m p = .inl q → ∀ h', fb h h' → hI h' 366 12 = nI q → Q (some (vI 0)) h') →
    (∀ r p', dz (chAt t L) m p = .inr (r, p') → ∀ h', fb h h' → mpl h' false p' ((kb r).2 K) (udf u dp [] ((un r).2.1 K)).1 (udf u dp [] ((un r).2.1 K)).2.1 [] → hI h' 366 25 = nI (i + ln r) → Q (some (vI (bN (decide (p' = L))))) h') →
    vm_E mX11_reads d cx n 57 [some (vR (some 366)), some (vI x1), some (vI x2), some (vI 1), o4, o5] [] h Q := by
  intro m
  induction m with
  | zero => intro p K dp i u h o4 o5 x y e25 hp hm; omega
  | succ m ih =>
    intro p K dp i u h o4 o5 x y e25 hp hm hK kf kk
    rw [dz_s] at kf kk
    have hL : L ≤ 60 := x.2.2.2.1.1
    have hcok := x.2.2.2.1.k
    refine pt_step hd x y hp hK (fun q eq h' f e12 => kf q (by rw [eq]; rfl) h' f.b e12) (fun a p' eq h' f y' _ => ?_) (fun a p' eq h' f y' ht => by cases ht)
    have hp' := ptz_p hcok eq
    have wa := ptz_w hcok hL eq
    have x' := x.fa f
    have hkd : (if chAt t L p = 91 then 1 else 0) ≤ 1 := by split <;> omega
    generalize (if chAt t L p = 91 then 1 else 0) = kd at eq hkd
    have hK' : (kb a).1 K < 8 := (kb_lt a).1 wa K hK
    have e25' : hI h' 366 25 = nI i := by rw [f.2 366 25 (fun z => by unfold pA at z; omega)]; exact e25
    refine pt_next hd x' y' hp'.2.1 e25' (fun h59 h2 f2 y2 e2 => ?_) (fun h59 h2 f2 y2 e2 => ?_)
    · have pL := hcok.lt (p := p') (by omega)
      have er : rsd (chAt t L) m p' = dz (chAt t L) m (p' + 1) := if_pos h59
      refine ih (p' + 1) _ _ (i + 1) _ h2 _ _ (x'.fm f2 (fun r j z => by unfold pN at z; omega)) y2 e2 (by omega) (by omega) hK' (fun q eq2 h3 f3 e12 => kf q ?_ h3 (f.b.tr ((pN_b f2).tr f3)) e12) (fun r p3 eq2 h3 f3 y3 e3 => ?_)
      · rw [eq]
        show mp _ (rsd (chAt t L) m p') = _
        rw [er, eq2]; rfl
      · refine kk (cc (no kd p (cc a .leaf)) r) p3 ?_ h3 (f.b.tr ((pN_b f2).tr f3)) ?_ ?_
        · rw [eq]
          show mp _ (rsd (chAt t L) m p') = _
          rw [er, eq2]; rfl
        · rw [kb_pt hkd, un_pt hkd, ← udf_or]
          have hn : (udf u dp [] ((un a).1 K)).2.2 = [] := List.eq_nil_of_length_eq_zero (udf_len _ _ _ _)
          rw [hn]; exact y3
        · rw [e3]
          show nI (i + 1 + ln r) = nI (i + (ln r + 1))
          rw [show i + 1 + ln r = i + (ln r + 1) by omega]
    · have er : rsd (chAt t L) m p' = .inr (.leaf, p') := if_neg h59
      refine kk (cc (no kd p (cc a .leaf)) .leaf) p' ?_ h2 (f.b.tr (pN_b f2)) ?_ e2
      · rw [eq]
        show mp _ (rsd (chAt t L) m p') = _
        rw [er]; rfl
      · rw [kb_pt hkd, un_pt hkd]
        show mpl h2 false p' ((kb a).1 K) (udf u dp [] (or2 ((un a).1 K) none)).1 (udf u dp [] (or2 ((un a).1 K) none)).2.1 []
        rw [or2_n]; exact y2
/-- a text looked at: the place of its fault, or what is unknown and how many parts there are -/
theorem m_looks (hd : 31 ≤ d) (hM : LM h) (w : mV h W) (tx : mtx h t L) (hT : Tok t L) (hK : K < 8)
    (kf : ∀ q, dsc (chAt t L) L = .inl q → ∀ h', fb h h' → hI h' 366 12 = nI q → Q (some (vI 0)) h')
    (kk : ∀ r, dsc (chAt t L) L = .inr r → ∀ h', fb h h' → hI h' 366 14 = ua ((un r).2.1 K) → (¬ (un r).2.1 K = none → hI h' 366 15 = ub ((un r).2.1 K)) → hI h' 366 25 = nI (ln r) → Q (some (vI 1)) h') : vm_C mX11_reads d cx n [vR (some 366), vI 0, vI (nI K)] h Q := by
  refine rd_start (e := false) (Or.inl ⟨rfl, rfl⟩) hM w tx hT (fun h1 f1 x1 y1 e25 e28 e27 => ?_)
  have hL : L ≤ 60 := hT.1
  refine lk_loop (by omega) 61 0 K 0 0 none h1 _ _ x1 y1 e25 (Nat.zero_le _) (by omega) hK (fun q eq h2 f2 e12 => kf q ?_ h2 ((pS_b f1).tr f2) e12) (fun r p eq h2 f2 y2 e2 => ?_)
  · unfold dsc; rw [eq]; rfl
  · have ed : dsc (chAt t L) L = if p = L then .inr r else .inl p := by unfold dsc; rw [eq]; rfl
    by_cases hp : p = L
    · rw [if_pos hp] at ed
      rw [decide_eq_true hp]
      refine kk r ed h2 ((pS_b f1).tr f2) ?_ ?_ (by rw [e2, Nat.zero_add])
      · rw [y2.2.2.2.1]
        cases (un r).2.1 K <;> rfl
      · intro hn
        rw [y2.2.2.2.2.1]
        cases ex : (un r).2.1 K with
        | none => exact absurd ex hn
        | some z =>
          show nI (0 + z.2 + 0) = nI z.2
          rw [Nat.zero_add]; rfl
    · rw [if_neg hp] at ed
      rw [decide_eq_false hp]
      exact kf p ed h2 ((pS_b f1).tr f2) y2.2.1
end
