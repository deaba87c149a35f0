/-! ===== the reference's reader: pictures, acts led back ===== -/
theorem nar_b (b : Bool) : vp_nar .boolean (bN b) = bN b := by cases b <;> rfl
theorem nar_1 : vp_nar .boolean 1 = bN true := rfl
theorem nar_0 : vp_nar .boolean 0 = bN false := rfl
theorem bN_i {b : Bool} : bN b = 0 ↔ b = false := ⟨bN_0, fun z => by rw [z]; rfl⟩
theorem v512 {i : Nat} (h : i < 512) : vp_in (nI i) 512 := vp_in_nI h (by decide)
/-- a kind of frame: kind, from, known ahead, rows, row's mark, arrow's mark, has an arrow, results of rows -/
abbrev fR : Type := Nat × Nat × Nat × Nat × Bool × Bool × Bool × (Nat → Bool)
def fx (h : vH) (e : Bool) (f : fR) (k : Nat) : Prop := hI h 375 k = nI f.1 ∧ hI h 376 k = nI f.2.1 ∧ hI h 377 k = nI f.2.2.1 ∧ hI h 378 k = nI f.2.2.2.1 ∧ hI h 379 k = bN f.2.2.2.2.1 ∧ hI h 380 k = bN f.2.2.2.2.2.1 ∧ hI h 381 k = bN f.2.2.2.2.2.2.1 ∧ (e = true → 0 < f.2.2.2.1 → ∀ a, a < 512 → hI h 382 (512 * k + a) = bN (f.2.2.2.2.2.2.2 a))
def fxs (h : vH) (e : Bool) : List fR → Prop
  | [] => True
  | f :: r => fx h e f r.length ∧ fxs h e r
theorem fxs_eq {h h' : vH} {e : Bool} : ∀ {F : List fR}, (∀ r j, 375 ≤ r → r ≤ 381 → j < F.length → hI h' r j = hI h r j) → (e = true → ∀ j, j < 512 * F.length → hI h' 382 j = hI h 382 j) → fxs h e F → fxs h' e F
  | [], _, _, _ => trivial
  | f :: r, q1, q2, x => by
    have hl : (f :: r).length = r.length + 1 := rfl
    rw [hl] at q1 q2
    obtain ⟨⟨x1, x2, x3, x4, x5, x6, x7, x8⟩, x9⟩ := x
    refine ⟨⟨?_, ?_, ?_, ?_, ?_, ?_, ?_, fun he hr a ha => ?_⟩, fxs_eq (fun r' j h1 h2 h3 => q1 r' j h1 h2 (by omega)) (fun he j hj => q2 he j (by omega)) x9⟩
    · rw [q1 375 _ (by omega) (by omega) (by omega)]; exact x1
    · rw [q1 376 _ (by omega) (by omega) (by omega)]; exact x2
    · rw [q1 377 _ (by omega) (by omega) (by omega)]; exact x3
    · rw [q1 378 _ (by omega) (by omega) (by omega)]; exact x4
    · rw [q1 379 _ (by omega) (by omega) (by omega)]; exact x5
    · rw [q1 380 _ (by omega) (by omega) (by omega)]; exact x6
    · rw [q1 381 _ (by omega) (by omega) (by omega)]; exact x7
    · rw [q2 he _ (by omega)]; exact x8 he hr a ha
def aN : aT → Int32
  | .inl v => nI v
  | .inr _ => 3
/-- act a stands at k -/
def ax1 (h : vH) (e : Bool) (a : aT) (k : Nat) : Prop := hI h 370 k = aN a ∧ (e = true → ∀ X, a = .inr X → ∀ j, j < 512 → hI h 371 (512 * k + j) = bN (X j))
def axs (h : vH) (e : Bool) (A : List aT) : Prop := ∀ (k : Nat) (a : aT), A[k]? = some a → ax1 h e a k
theorem axs_eq {h h' : vH} {e : Bool} {A : List aT} (q1 : ∀ k, k < A.length → hI h' 370 k = hI h 370 k) (q2 : e = true → ∀ j, j < 512 * A.length → hI h' 371 j = hI h 371 j) (x : axs h e A) : axs h' e A := fun k a ea => by
  have hk : k < A.length := (List.getElem?_eq_some_iff.mp ea).1
  exact ⟨by rw [q1 k hk]; exact (x k a ea).1, fun he X eX j hj => by rw [q2 he _ (by omega)]; exact (x k a ea).2 he X eX j hj⟩
theorem axs.app {h : vH} {e : Bool} {A B : List aT} (x : axs h e (A ++ B)) : axs h e A := fun k a ea => x k a (by rw [List.getElem?_append_left (List.getElem?_eq_some_iff.mp ea).1]; exact ea)
theorem axs_add {h : vH} {e : Bool} {A : List aT} {a : aT} (x : axs h e A) (y : ax1 h e a A.length) : axs h e (A ++ [a]) := fun k b eb => by
  by_cases hk : k < A.length
  · rw [List.getElem?_append_left hk] at eb; exact x k b eb
  · rw [List.getElem?_append_right (by omega)] at eb
    have h0 : k - A.length = 0 := by
      by_cases h0 : k - A.length = 0
      · exact h0
      · rw [List.getElem?_eq_none (by simp; omega)] at eb; cases eb
    rw [h0] at eb
    have : a = b := by simpa using eb
    subst this
    rw [show k = A.length by omega]; exact y
def uaN : Option Nat → Int32
  | none => -7
  | some q => nI q
/-- numbers of frames that can be told apart -/
def fok (p : Nat) (F : List fR) : Prop := ∀ f, f ∈ F → f.1 ≤ 3 ∧ f.2.2.2.1 ≤ p
theorem fok.le {p p' : Nat} {F : List fR} (x : fok p F) (h : p ≤ p') : fok p' F := fun f hf => ⟨(x f hf).1, Nat.le_trans (x f hf).2 h⟩
/-- the reader's picture: place, known, unknown, depth, frames (the top first), acts -/
def mpc (h : vH) (e : Bool) (p K : Nat) (u : Option Nat) (dp : Nat) (F : List fR) (A : List aT) : Prop :=
  hI h 366 7 = nI A.length ∧ hI h 366 12 = nI p ∧ hI h 366 13 = nI K ∧ hI h 366 14 = uaN u ∧ hI h 366 15 = nI dp ∧ hI h 366 16 = nI F.length - 1 ∧ fxs h e F ∧ axs h e A ∧ 2 * A.length ≤ p ∧ voks A ∧ (∀ q, u = some q → q < 60) ∧ fok p F
/-- what reading writes -/
def pA (r j : Nat) : Prop := (r = 366 ∧ (j = 7 ∨ 12 ≤ j ∧ j ≤ 16)) ∨ (370 ≤ r ∧ r ≤ 382 ∧ r ≠ 374)
def fa (h h' : vH) : Prop := fm pA h h'
theorem fa.rf {h : vH} : fa h h := fm.rf
theorem fa.tr {h h' h2 : vH} (x : fa h h') (y : fa h' h2) : fa h h2 := fm.tr x y
theorem fa_uI {h : vH} {j : Nat} {v : Int32} (hj : j = 7 ∨ 12 ≤ j ∧ j ≤ 16) : fa h (uI h 366 j v) := (fm_uI h 366 j v).mono (fun r i z => Or.inl ⟨z.1, by rw [z.2]; exact hj⟩)
theorem fa_uR {h : vH} {r j : Nat} {v : Int32} (h1 : 370 ≤ r) (h2 : r ≤ 382) (h3 : r ≠ 374) : fa h (uI h r j v) := (fm_uI h r j v).mono (fun r' i z => Or.inr ⟨by omega, by omega, by omega⟩)
theorem fa_f {h h' : vH} {A : Nat → Nat → Prop} (x : fm A h h') (m : ∀ r j, A r j → r = 372 ∨ r = 373) : fa h h' := x.mono (fun r j z => Or.inr (by rcases m r j z with q | q <;> omega))
/-- the world as the reference holds it -/
def mV (h : vH) (W : wT) : Prop := hI h 367 0 = nI W.1 ∧ 1 ≤ W.1 ∧ W.1 < 4 ∧ (∀ i, i < 3 → hI h 367 (1 + i) = nI (W.2.1 i) ∧ W.2.1 i < 8) ∧ ∀ i, i < 2 → hI h 367 (4 + i) = nI (W.2.2 i) ∧ W.2.2 i < 512
def mE (h : vH) (e : Bool) (W : wT) (t : Nat → Nat) (L : Nat) : Prop := LM h ∧ mV h W ∧ mtx h t L ∧ Tok t L ∧ hI h 366 11 = bN e
theorem mV.fm {h h' : vH} {W : wT} {A : Nat → Nat → Prop} (x : mV h W) (f : fm A h h') (hA : ∀ r j, A r j → r ≠ 367) : mV h' W := by
  have q : ∀ j, hI h' 367 j = hI h 367 j := fun j => f.2 367 j (fun z => hA _ _ z rfl)
  obtain ⟨x1, x0, x2, x3, x4⟩ := x
  exact ⟨by rw [q]; exact x1, x0, x2, fun i hi => by rw [q]; exact x3 i hi, fun i hi => by rw [q]; exact x4 i hi⟩
theorem mE.fa {h h' : vH} {e : Bool} {W : wT} {t : Nat → Nat} {L : Nat} (x : mE h e W t L) (f : fa h h') : mE h' e W t L :=
  ⟨x.1.fm f, x.2.1.fm f (fun r j z => by unfold pA at z; omega), x.2.2.1.fm f (fun r j z => by unfold pA at z; omega), x.2.2.2.1, by rw [f.2 366 11 (fun z => by unfold pA at z; omega)]; exact x.2.2.2.2⟩
theorem mE.fm {h h' : vH} {A : Nat → Nat → Prop} {e : Bool} {W : wT} {t : Nat → Nat} {L : Nat} (x : mE h e W t L) (f : fm A h h') (hA : ∀ r j, A r j → r ≠ 367 ∧ r ≠ 369 ∧ ¬ (r = 366 ∧ (j = 4 ∨ j = 11))) : mE h' e W t L :=
  ⟨x.1.fm f, x.2.1.fm f (fun r j z => (hA r j z).1), x.2.2.1.fm f (fun r j z => by have := hA r j z; omega), x.2.2.2.1, by rw [f.2 366 11 (fun z => by have := hA _ _ z; omega)]; exact x.2.2.2.2⟩
/-- the sign at a place, as the reference sees it -/
def nx (c : Nat → Nat) (p : Nat) : Int32 := if c p = 0 then -7 else nI (c p)
theorem nx_v {c : Nat → Nat} {p s : Nat} (hc : c p < 127) (hs : 0 < s ∧ s < 127) : nx c p = nI s ↔ c p = s := by
  unfold nx
  split
  · rename_i h0
    rw [h0]
    constructor
    · intro z
      have := congrArg Int32.toInt z
      rw [nI_toInt (by omega)] at this
      have h7 : (-7 : Int32).toInt = -7 := by decide
      omega
    · intro z; omega
  · exact nI_eq (by omega) (by omega)
theorem m_next {d cx n p : Nat} {h : vH} {e : Bool} {W : wT} {t : Nat → Nat} {L : Nat} {Q : vQ} (x : mE h e W t L) (hp : hI h 366 12 = nI p) (hp2 : p < 1000) (k : Q (some (vI (nx (chAt t L) p))) h) : vm_C mX11_next d cx n [vR (some 366)] h Q := by
  obtain ⟨hM, -, ⟨q1, q2⟩, ⟨hL, hT⟩, -⟩ := x
  refine bX11_next_0 hM.1 (fun hz => bX11_next_23 (bX11_next_25 ?_)) (fun hz => ?_)
  · rw [q1, hp] at hz
    have := (nI_leI (a := L) (b := p) (by omega) (by omega)).mp hz
    have e0 : chAt t L p = 0 := by unfold chAt; rw [if_neg (by omega)]
    have e1 : nx (chAt t L) p = -7 := by unfold nx; rw [if_pos e0]
    rw [e1] at k; exact k
  · rw [q1, hp] at hz
    have hlt : p < L := Nat.lt_of_not_le fun z => hz (nI_le z (by omega))
    have e0 : chAt t L p = t p := by unfold chAt; rw [if_pos hlt]
    have e1 : nx (chAt t L) p = nI (t p) := by
      unfold nx; rw [e0, if_neg (by have := (hT p hlt).1; omega)]
    refine bX11_next_11 (b2 := 369) (n_b2 := 60) hM.1 hM.text.1 hM.text.2 (by rw [hp]; exact vp_in_nI (by omega) (by decide)) (bX11_next_25 ?_)
    rw [hp, cs (by omega), q2 p hlt]
    rw [e1] at k; exact k
theorem m_pushes {d cx n k0 : Nat} {h : vH} {x : Int32} {Q : vQ} (hM : LM h) (e : hI h 366 7 = nI k0) (hk : k0 < 62) (k : Q none (uI (uI h 370 k0 x) 366 7 (nI (k0 + 1)))) : vm_C mX11_pushes d cx n [vR (some 366), vI x] h Q := by
  refine bX11_pushes_0 (b2 := 370) (n_b2 := 62) hM.1 hM.act.1 hM.act.2 (by rw [e]; exact vp_in_nI hk (by decide)) ?_
  rw [e, cs (by omega), hI_uIn _ _ _ (by decide), e, nI_1]
  exact k
/-! the acts led back -/
theorem stvN : ∀ v, v < 3 → ∀ a, a < 512 → ∀ o, o < 8 → (nI a &&& (((7 : Int32) <<< ((3 * nI v) &&& (31 : Int32))) ^^^ (-1))) ||| (nI o <<< ((3 * nI v) &&& (31 : Int32))) = nI (stv a v o) := by decide +kernel
theorem ox_cut {p : Nat → Bool} {n m : Nat} (h : ∀ i, n ≤ i → i < n + m → p i = false) : ox p (n + m) = ox p n := by
  induction m with
  | zero => rfl
  | succ m ih =>
    show (ox p (n + m) || p (n + m)) = ox p n
    rw [ih (fun i h1 h2 => h i h1 (by omega)), h (n + m) (by omega) (by omega), Bool.or_false]
theorem m_lead1 {d cx n k0 : Nat} {h : vH} {W : wT} {a : aT} {Y : Nat → Bool} {x1 : Int32} {o3 o4 o5 : Option vV} {Q : vQ} (hd : 1 ≤ d) (hM : LM h) (w : mV h W) (hk : k0 < 62) (va : vok a) (ha : ax1 h true a k0) (hY : ∀ j, j < 512 → hI h 372 j = bN (Y j))
    (k : ∀ h' x3 o4 o5, fm (fun r _ => r = 372 ∨ r = 373) h h' → (∀ j, j < 512 → hI h' 372 j = bN (bw1 W.1 a Y j)) → vm_E mX11_leads d cx n 185 [some (vR (some 366)), some (vI x1), some (vI (nI k0)), some (vI x3), o4, o5] [] h' Q) : vm_E mX11_leads d cx n 19 [some (vR (some 366)), some (vI x1), some (vI (nI k0)), o3, o4, o5] [] h Q := by
  have hp : 1 ≤ 2 ^ W.1 ∧ 2 ^ W.1 ≤ 8 := (by decide : ∀ m, m < 4 → 1 ≤ 2 ^ m ∧ 2 ^ m ≤ 8) _ w.2.2.1
  have f1 : fm (fun r _ => r = 372 ∨ r = 373) h (qI h 373 0 512 (fun j => bN (Y j))) := (fm_qI _ _ _ _ _).mono (fun r j z => Or.inr z.1)
  have eY : ∀ j, j < 512 → hI (qI h 373 0 512 (fun j => bN (Y j))) 373 j = bN (Y j) := fun j hj => by rw [hI_qI, if_pos ⟨rfl, Nat.zero_le _, by omega⟩, Nat.sub_zero]
  refine bX11_leads_19 ?_
  have first := vl_down 512 (fun i => vm_E mX11_leads d cx n 21 [some (vR (some 366)), some (vI x1), some (vI (nI k0)), some (vI (nI i)), o4, o5] [] (qI h 373 0 i (fun j => bN (Y j))) Q) (bX11_leads_21 (fun _ => bX11_leads_46 ?_) (fun hz => absurd (by decide +kernel) hz)) (fun i hi ih => by
    rw [← qI_s, Nat.zero_add] at ih
    have hM' : LM (qI h 373 0 i (fun j => bN (Y j))) := hM.fm (fm_qI _ _ _ _ _)
    refine bX11_leads_21 (fun hz => absurd hz (nI_ge (a := i) (b := 512) hi (by decide))) (fun _ => bX11_leads_28 (b2 := 373) (b3 := 372) (n_b3 := 512) (n_b2 := 512) hM'.1 hM'.then.1 hM'.now.1 hM'.now.2 (v512 hi) hM'.then.2 (v512 hi) ?_)
    rw [cs (by omega), hI_qI, if_neg (by omega), hY i hi, nar_b, nI_1]
    exact ih)
  · rw [qI_0] at first; exact first
  · generalize qI h 373 0 512 (fun j => bN (Y j)) = g at f1 eY ⊢
    have hM1 := hM.fm f1
    have w1 := w.fm f1 (fun r j z => by omega)
    have ha1 : ax1 g true a k0 := ⟨by rw [f1.2 370 _ (by omega)]; exact ha.1, fun he X eX j hj => by rw [f1.2 371 _ (by omega)]; exact ha.2 he X eX j hj⟩
    have main : ∀ o4 o5, vm_E mX11_leads d cx n 48 [some (vR (some 366)), some (vI x1), some (vI (nI k0)), some (vI (nI 0)), o4, o5] [] (qI g 372 0 0 (fun j => bN (bw1 W.1 a Y j))) Q := by
      refine vl_down 512 (fun i => ∀ o4 o5, vm_E mX11_leads d cx n 48 [some (vR (some 366)), some (vI x1), some (vI (nI k0)), some (vI (nI i)), o4, o5] [] (qI g 372 0 i (fun j => bN (bw1 W.1 a Y j))) Q) (fun o4 o5 => ?_) (fun i hi ih o4 o5 => ?_)
      · refine bX11_leads_48 (fun _ => k _ _ o4 o5 (f1.tr ((fm_qI _ _ _ _ _).mono (fun r j z => Or.inl z.1))) (fun j hj => ?_)) (fun hz => absurd (by decide +kernel) hz)
        rw [hI_qI, if_pos ⟨rfl, Nat.zero_le _, by omega⟩, Nat.sub_zero]
      · have f2 : fm (fun r _ => r = 372) g (qI g 372 0 i (fun j => bN (bw1 W.1 a Y j))) := (fm_qI _ _ _ _ _).mono (fun r j z => z.1)
        have step : ∀ o4 o5, vm_E mX11_leads d cx n 179 [some (vR (some 366)), some (vI x1), some (vI (nI k0)), some (vI (nI i)), o4, o5] [] (uI (qI g 372 0 i (fun j => bN (bw1 W.1 a Y j))) 372 i (bN (bw1 W.1 a Y i))) Q := fun o4 o5 => by
          have z := ih o4 o5
          rw [← qI_s, Nat.zero_add] at z
          refine bX11_leads_179 ?_
          rw [nI_1]; exact z
        generalize qI g 372 0 i (fun j => bN (bw1 W.1 a Y j)) = u at f2 step ⊢
        have hM2 := hM1.fm f2
        have w2 := w1.fm f2 (fun r j z => by omega)
        have eY2 : ∀ j, j < 512 → hI u 373 j = bN (Y j) := fun j hj => by rw [f2.2 373 _ (by omega)]; exact eY j hj
        have ea : hI u 370 k0 = aN a := by rw [f2.2 370 _ (by omega)]; exact ha1.1
        refine bX11_leads_48 (fun hz => absurd hz (nI_ge (a := i) (b := 512) hi (by decide))) (fun _ => ?_)
        have ck : Int32.toNatClampNeg (nI k0) = k0 := cs (by omega)
        match a, va, ha1, ea, step with
        | .inr X, va, ha1, ea, step =>
          have eX : hI u 371 (512 * k0 + i) = bN (X i) := by rw [f2.2 371 _ (by omega)]; exact ha1.2 rfl X rfl i hi
          refine bX11_leads_55 (b2 := 370) (n_b2 := 62) hM2.1 hM2.act.1 hM2.act.2 (vp_in_nI hk (by decide)) (fun hz => absurd (by rw [ck]; exact ea) hz) (fun _ => ?_)
          have fin : ∀ x : Bool, (Y i && X i) = x → vm_E mX11_leads d cx n 99 [some (vR (some 366)), some (vI x1), some (vI (nI k0)), some (vI (nI i)), o4, o5] [vI (bN x), vI (nI i), vR (some 372)] u Q := fun x ex => by
            refine bX11_leads_99 (n_sa2 := 512) hM2.now.2 (v512 hi) ?_
            rw [cs (by omega), nar_b, ← ex]
            exact step o4 o5
          have e512 : 512 * nI k0 + nI i = nI (512 * k0 + i) := by rw [show (512 : Int32) = nI 512 from rfl, mulI, nI_add]
          refine bX11_leads_65 (b3 := 373) (n_b3 := 512) hM2.1 hM2.then.1 hM2.then.2 (v512 hi) (fun hz => ?_) (fun hz => ?_)
          · rw [hM2.now.1]
            rw [cs (by omega), eY2 i hi, bN_i] at hz
            exact bX11_leads_98 (fin false (by rw [hz]; rfl))
          · rw [hM2.now.1]
            rw [cs (by omega), eY2 i hi, bN_i, Bool.not_eq_false] at hz
            refine bX11_leads_79 (b3 := 371) (n_b3 := 31744) hM2.1 hM2.pass.1 hM2.pass.2 (by rw [e512]; exact vp_in_nI (by omega) (by decide)) (fun hy => ?_) (fun hy => ?_)
            · rw [e512, cs (by omega), eX, bN_i] at hy
              exact bX11_leads_98 (fin false (by rw [hz, hy]; rfl))
            · rw [e512, cs (by omega), eX, bN_i, Bool.not_eq_false] at hy
              exact bX11_leads_94 (fin true (by rw [hz, hy]; rfl))
        | .inl v, va, ha1, ea, step =>
          have hv : v < 3 := va
          have eav : hI u 370 k0 = nI v := ea
          refine bX11_leads_55 (b2 := 370) (n_b2 := 62) hM2.1 hM2.act.1 hM2.act.2 (vp_in_nI hk (by decide)) (fun _ => bX11_leads_103 ?_) (fun hz => absurd (Classical.byContradiction hz) (by
            rw [ck, eav]
            intro z
            have := (nI_eq (a := v) (b := 3) (by omega) (by decide)).mp z
            omega))
          let q : Nat → Bool := fun o => inO W.1 o && Y (stv i v o)
          have q1 : ox q 1 = false := rfl
          have loop : vm_E mX11_leads d cx n 109 [some (vR (some 366)), some (vI x1), some (vI (nI k0)), some (vI (nI i)), some (vI (bN (ox q 1))), some (vI (nI 1))] [] u Q := by
            refine vl_from (2 ^ W.1) 1 hp.1 (fun o => vm_E mX11_leads d cx n 109 [some (vR (some 366)), some (vI x1), some (vI (nI k0)), some (vI (nI i)), some (vI (bN (ox q o))), some (vI (nI o))] [] u Q) ?_ (fun o h1 h2 oh => ?_)
            · refine bX11_leads_109 (R := fun r h' => r = some (vI (nI (2 ^ W.1 - 1))) ∧ u = h') hM2.1 hd (m_full hM2 w2.2.2.1 w2.1 ⟨rfl, rfl⟩) ?_
              rintro r h' ⟨rfl, rfl⟩
              refine bX11_leads_115 (fun _ => bX11_leads_171 (b2 := 372) (n_b2 := 512) hM2.1 hM2.now.1 hM2.now.2 (v512 hi) ?_) (fun hz => absurd (nI_lt (by omega) (by omega)) hz)
              rw [cs (by omega), nar_b]
              have e8 : ox q (2 ^ W.1) = bw1 W.1 (.inl v) Y i := by
                show ox q (2 ^ W.1) = ox q 8
                have := ox_cut (p := q) (n := 2 ^ W.1) (m := 8 - 2 ^ W.1) (fun o o1 o2 => by
                  show (inO W.1 o && Y (stv i v o)) = false
                  have : inO W.1 o = false := by unfold inO; rw [decide_eq_false (show ¬ o < 2 ^ W.1 by omega), Bool.and_false]
                  rw [this]; rfl)
                rw [show 2 ^ W.1 + (8 - 2 ^ W.1) = 8 by omega] at this
                exact this.symm
              rw [e8]
              exact step _ _
            · refine bX11_leads_109 (R := fun r h' => r = some (vI (nI (2 ^ W.1 - 1))) ∧ u = h') hM2.1 hd (m_full hM2 w2.2.2.1 w2.1 ⟨rfl, rfl⟩) ?_
              rintro r h' ⟨rfl, rfl⟩
              have hin : inO W.1 o = true := inO_t.mpr ⟨h1, h2⟩
              have es : ox q (o + 1) = (ox q o || Y (stv i v o)) := by
                show (ox q o || (inO W.1 o && Y (stv i v o))) = _
                rw [hin, Bool.true_and]
              have st := (ofv_st v hv i hi o (by omega)).1
              have ei : (nI i &&& (((7 : Int32) <<< ((3 * (hI u 370 (Int32.toNatClampNeg (nI k0)))) &&& (31 : Int32))) ^^^ (-1))) ||| (nI o <<< ((3 * (hI u 370 (Int32.toNatClampNeg (nI k0)))) &&& (31 : Int32))) = nI (stv i v o) := by
                rw [ck, eav]; exact stvN v hv i hi o (by omega)
              have go : ∀ b : Bool, ox q (o + 1) = b → vm_E mX11_leads d cx n 163 [some (vR (some 366)), some (vI x1), some (vI (nI k0)), some (vI (nI i)), some (vI (bN (ox q o))), some (vI (nI o))] [vI (bN b)] u Q := fun b eb => by
                refine bX11_leads_163 ?_
                rw [nI_1, ← eb]; exact oh
              refine bX11_leads_115 (fun hz => absurd hz (nI_nlt (by omega) (by omega))) (fun _ => bX11_leads_118 (fun hz => bX11_leads_158 (go true ?_)) (fun hz => ?_))
              · rw [es, bN_1 hz]; rfl
              · have h0 := bN_0 (Classical.byContradiction hz)
                refine bX11_leads_123 (b2 := 373) (b3 := 370) (b4 := 370) (n_b3 := 62) (n_b4 := 62) (n_b2 := 512) hM2.1 hM2.then.1 hM2.act.1 hM2.act.2 (vp_in_nI hk (by decide)) hM2.act.1 hM2.act.2 (vp_in_nI hk (by decide)) hM2.then.2 (by rw [ei]; exact v512 st) (fun hy => bX11_leads_162 (go false ?_)) (fun hy => bX11_leads_158 (go true ?_))
                · rw [ei, cs (by omega), eY2 _ st, bN_i] at hy
                  rw [es, h0, hy]; rfl
                · rw [ei, cs (by omega), eY2 _ st, bN_i, Bool.not_eq_false] at hy
                  rw [es, hy, Bool.or_true]
          exact loop
    have := main o4 o5
    rw [qI_0] at this
    exact this
theorem m_leads {d cx n : Nat} {h : vH} {e : Bool} {W : wT} {A1 A2 : List aT} {Y : Nat → Bool} {Q : vQ} (hd : 1 ≤ d) (hM : LM h) (w : mV h W) (e11 : hI h 366 11 = bN e) (e7 : hI h 366 7 = nI (A1 ++ A2).length) (hl : (A1 ++ A2).length ≤ 62) (x : axs h e (A1 ++ A2)) (vA : voks A2) (hY : e = true → ∀ j, j < 512 → hI h 372 j = bN (Y j))
    (k : ∀ h', fm (fun r _ => r = 372 ∨ r = 373) h h' → (e = true → ∀ j, j < 512 → hI h' 372 j = bN (bw W.1 A2 Y j)) → Q none h') : vm_C mX11_leads d cx n [vR (some 366), vI (nI A1.length)] h Q := by
  have hlen : (A1 ++ A2).length = A1.length + A2.length := List.length_append
  rw [hlen] at e7 hl
  have key : ∀ j, j ≤ A2.length → ∀ (h' : vH) (o3 o4 o5 : Option vV), fm (fun r _ => r = 372 ∨ r = 373) h h' → (e = true → ∀ i, i < 512 → hI h' 372 i = bN (bw W.1 (A2.drop j) Y i)) → vm_E mX11_leads d cx n 7 [some (vR (some 366)), some (vI (nI A1.length)), some (vI (nI (A1.length + j) - 1)), o3, o4, o5] [] h' Q := by
    intro j
    induction j with
    | zero =>
      intro _ h' o3 o4 o5 f hY'
      refine bX11_leads_7 (fun _ => bX11_leads_191 (k h' f hY')) (fun hz => absurd ?_ hz)
      rw [Int32.lt_iff_toInt_lt, show (1 : Int32) = nI 1 from rfl, pk_sub_toInt (by omega) (by decide), nI_toInt (by omega)]
      omega
    | succ j ih =>
      intro hj h' o3 o4 o5 f hY'
      have hM' := hM.fm f
      have e11' : hI h' 366 11 = bN e := by rw [f.2 366 11 (by omega)]; exact e11
      rw [show A1.length + (j + 1) = (A1.length + j) + 1 by omega, nI_pred]
      refine bX11_leads_7 (fun hz => absurd hz (nI_nlt (by omega) (by omega))) (fun _ => bX11_leads_12 hM'.1 (fun hz => ?_) (fun hz => ?_))
      · rw [e11', bN_i] at hz
        exact bX11_leads_191 (k h' f (fun z => by rw [hz] at z; cases z))
      · rw [e11', bN_i, Bool.not_eq_false] at hz
        subst hz
        have hj2 : j < A2.length := by omega
        have ed : A2.drop j = A2[j] :: A2.drop (j + 1) := List.drop_eq_getElem_cons hj2
        have ea : (A1 ++ A2)[A1.length + j]? = some A2[j] := by
          rw [List.getElem?_append_right (by omega), Nat.add_sub_cancel_left]
          exact List.getElem?_eq_getElem hj2
        have hx := x _ _ ea
        refine m_lead1 hd hM' (w.fm f (fun r j z => by omega)) (by omega) (vA _ (List.getElem_mem hj2)) ⟨by rw [f.2 370 _ (by omega)]; exact hx.1, fun he X eX i hi => by rw [f.2 371 _ (by omega)]; exact hx.2 he X eX i hi⟩ (hY' rfl) (fun h2 x3 o4 o5 f2 hY2 => bX11_leads_185 ?_)
        have := ih (by omega) h2 (some (vI x3)) o4 o5 (f.tr f2) (fun _ i hi => by rw [ed]; exact hY2 i hi)
        rw [Int32.sub_eq_add_neg] at this
        exact this
  refine bX11_leads_0 hM.1 ?_
  rw [e7]
  exact key A2.length (Nat.le_refl _) h _ _ _ fm.rf (fun he i hi => by rw [List.drop_length]; exact hY he i hi)
theorem m_hasResults {d cx n : Nat} {h : vH} {e : Bool} {W : wT} {A1 A2 : List aT} {Q : vQ} (hd : 2 ≤ d) (hM : LM h) (w : mV h W) (e11 : hI h 366 11 = bN e) (e7 : hI h 366 7 = nI (A1 ++ A2).length) (hl : (A1 ++ A2).length ≤ 62) (x : axs h e (A1 ++ A2)) (vA : voks A2)
    (k : ∀ h', fm (fun r _ => r = 372 ∨ r = 373) h h' → (e = true → ∀ j, j < 512 → hI h' 372 j = bN (hasR W.1 A2 j)) → Q none h') : vm_C mX11_hasResults d cx n [vR (some 366), vI (nI A1.length)] h Q := by
  have fin : ∀ (h' : vH) (j : Int32), fm (fun r _ => r = 372) h h' → (e = true → ∀ j, j < 512 → hI h' 372 j = bN true) → vm_E mX11_hasResults d cx n 29 [some (vR (some 366)), some (vI (nI A1.length)), some (vI j)] [] h' Q := fun h' j f hY => by
    have f' : fm (fun r _ => r = 372 ∨ r = 373) h h' := f.mono (fun r j z => Or.inl z)
    have hM' := hM.fm f
    refine bX11_hasResults_29 (R := fun r h2 => r = none ∧ fm (fun r _ => r = 372 ∨ r = 373) h' h2 ∧ (e = true → ∀ j, j < 512 → hI h2 372 j = bN (hasR W.1 A2 j))) hM'.1 (by omega) (m_leads (Y := fun _ => true) (by omega) hM' (w.fm f (fun r j z => by omega)) (by rw [f.2 366 11 (by omega)]; exact e11) (by rw [f.2 366 7 (by omega)]; exact e7) hl (axs_eq (fun k _ => f.2 370 k (by omega)) (fun _ j _ => f.2 371 j (by omega)) x) vA hY (fun h2 f2 q => ⟨rfl, f2, q⟩)) ?_
    rintro r h2 ⟨rfl, f2, q⟩
    exact bX11_hasResults_34 (k h2 (f'.tr f2) q)
  refine bX11_hasResults_0 ?_
  cases e
  · refine bX11_hasResults_2 (fun hz => absurd hz (by decide +kernel)) (fun _ => bX11_hasResults_9 hM.1 (fun _ => fin h _ fm.rf (fun z => by cases z)) (fun hz => absurd e11 hz))
  · have main := vl_down 512 (fun i => vm_E mX11_hasResults d cx n 2 [some (vR (some 366)), some (vI (nI A1.length)), some (vI (nI i))] [] (qI h 372 0 i (fun _ => bN true)) Q) (bX11_hasResults_2 (fun _ => fin _ _ ((fm_qI _ _ _ _ _).mono (fun r j z => z.1)) (fun _ j hj => by rw [hI_qI, if_pos ⟨rfl, Nat.zero_le _, by omega⟩])) (fun hz => absurd (by decide +kernel) hz)) (fun i hi ih => by
      rw [← qI_s, Nat.zero_add] at ih
      have f : fm (fun r _ => r = 372) h (qI h 372 0 i (fun _ => bN true)) := (fm_qI _ _ _ _ _).mono (fun r j z => z.1)
      have hM' := hM.fm f
      refine bX11_hasResults_2 (fun hz => absurd hz (nI_ge (a := i) (b := 512) hi (by decide))) (fun _ => bX11_hasResults_9 hM'.1 (fun hz => ?_) (fun _ => bX11_hasResults_16 (b2 := 372) (n_b2 := 512) hM'.1 hM'.now.1 hM'.now.2 (v512 hi) ?_))
      · rw [f.2 366 11 (by omega), e11] at hz; exact absurd hz (by decide +kernel)
      · rw [cs (by omega), nar_1, nI_1]; exact ih)
    rw [qI_0] at main; exact main
/-- a test by the set Y in now, or by all others, is put behind the acts -/
theorem m_pushesTest {d cx n : Nat} {h : vH} {e b : Bool} {A : List aT} {Y : Nat → Bool} {Q : vQ} (hd : 1 ≤ d) (hM : LM h) (e11 : hI h 366 11 = bN e) (e7 : hI h 366 7 = nI A.length) (hl : A.length < 62) (x : axs h e A) (hY : e = true → ∀ j, j < 512 → hI h 372 j = bN (Y j))
    (k : ∀ h', fm (fun r j => r = 366 ∧ j = 7 ∨ r = 370 ∨ r = 371) h h' → hI h' 366 7 = nI (A.length + 1) → axs h' e (A ++ [.inr (fun a => Y a ^^ b)]) → Q none h') : vm_C mX11_pushesTest d cx n [vR (some 366), vI (bN b)] h Q := by
  have fin : ∀ (h' : vH) (j : Int32), fm (fun r j => r = 371 ∧ 512 * A.length ≤ j) h h' → (e = true → ∀ j, j < 512 → hI h' 371 (512 * A.length + j) = bN (Y j ^^ b)) → vm_E mX11_pushesTest d cx n 52 [some (vR (some 366)), some (vI (bN b)), some (vI j)] [] h' Q := fun h' j f q => by
    have hM' := hM.fm f
    refine bX11_pushesTest_52 (R := fun r h2 => r = none ∧ uI (uI h' 370 A.length 3) 366 7 (nI (A.length + 1)) = h2) hM'.1 hd (m_pushes hM' (by rw [f.2 366 7 (by omega)]; exact e7) hl ⟨rfl, rfl⟩) ?_
    rintro r h2 ⟨rfl, rfl⟩
    refine bX11_pushesTest_57 (k _ ((f.mono (fun r j z => by omega)).tr (((fm_uI h' 370 _ _).mono (fun r j z => by omega)).tr ((fm_uI _ 366 7 _).mono (fun r j z => by omega)))) (hI_uIs _ _ _ _) ?_)
    have e370 : ∀ j, hI (uI (uI h' 370 A.length 3) 366 7 (nI (A.length + 1))) 370 j = if j = A.length then 3 else hI h' 370 j := fun j => by
      rw [hI_uIn _ _ _ (by decide), hI_uI]
      by_cases hj : j = A.length
      · rw [if_pos ⟨rfl, hj⟩, if_pos hj]
      · rw [if_neg (fun z => hj z.2), if_neg hj]
    have e371 : ∀ j, hI (uI (uI h' 370 A.length 3) 366 7 (nI (A.length + 1))) 371 j = hI h' 371 j := fun j => by
      rw [hI_uIn _ _ _ (by decide), hI_uIn _ _ _ (by decide)]
    refine axs_add (axs_eq (fun k hk => ?_) (fun _ j hj => ?_) x) ⟨?_, fun he X eX j hj => ?_⟩
    · rw [e370, if_neg (by omega), f.2 370 _ (by omega)]
    · rw [e371, f.2 371 _ (by omega)]
    · rw [e370, if_pos rfl]; rfl
    · injection eX with eX; subst eX
      rw [e371]; exact q he j hj
  refine bX11_pushesTest_0 ?_
  cases e
  · refine bX11_pushesTest_2 (fun hz => absurd hz (by decide +kernel)) (fun _ => bX11_pushesTest_9 hM.1 (fun _ => fin h _ fm.rf (fun z => by cases z)) (fun hz => absurd e11 hz))
  · have main := vl_down 512 (fun i => vm_E mX11_pushesTest d cx n 2 [some (vR (some 366)), some (vI (bN b)), some (vI (nI i))] [] (qI h 371 (512 * A.length) i (fun j => bN (Y j ^^ b))) Q) (bX11_pushesTest_2 (fun _ => fin _ _ ((fm_qI _ _ _ _ _).mono (fun r j z => ⟨z.1, z.2.1⟩)) (fun _ j hj => by rw [hI_qI, if_pos ⟨rfl, by omega, by omega⟩, Nat.add_sub_cancel_left])) (fun hz => absurd (by decide +kernel) hz)) (fun i hi ih => by
      rw [← qI_s] at ih
      have f : fm (fun r _ => r = 371) h (qI h 371 (512 * A.length) i (fun j => bN (Y j ^^ b))) := (fm_qI _ _ _ _ _).mono (fun r j z => z.1)
      generalize qI h 371 (512 * A.length) i (fun j => bN (Y j ^^ b)) = u at f ih ⊢
      have hM' := hM.fm f
      have e512 : 512 * hI u 366 7 + nI i = nI (512 * A.length + i) := by rw [f.2 366 7 (by omega), e7, show (512 : Int32) = nI 512 from rfl, mulI, nI_add]
      have put : ∀ y : Bool, (Y i ^^ b) = y → vm_E mX11_pushesTest d cx n 45 [some (vR (some 366)), some (vI (bN b)), some (vI (nI i))] [vI (bN y), vI (512 * hI u 366 7 + nI i), vR (some 371)] u Q := fun y ey => by
        refine bX11_pushesTest_45 (n_sa2 := 31744) hM'.pass.2 (by rw [e512]; exact vp_in_nI (by omega) (by decide)) ?_
        rw [e512, cs (by omega), nar_b, nI_1, ← ey]; exact ih
      refine bX11_pushesTest_2 (fun hz => absurd hz (nI_ge (a := i) (b := 512) hi (by decide))) (fun _ => bX11_pushesTest_9 hM'.1 (fun hz => ?_) (fun _ => bX11_pushesTest_16 (b3 := 372) (n_b3 := 512) hM'.1 hM'.now.1 hM'.now.2 (v512 hi) (fun hz => ?_) (fun hz => ?_)))
      · rw [f.2 366 11 (by omega), e11] at hz; exact absurd hz (by decide +kernel)
      · rw [hM'.pass.1]
        rw [cs (by omega), f.2 372 _ (by omega), hY rfl i hi] at hz
        have : Y i = b := by
          cases hy : Y i <;> cases b <;> rw [hy] at hz <;> first | rfl | exact absurd hz (by decide +kernel)
        exact bX11_pushesTest_44 (put false (by rw [this]; simp))
      · rw [hM'.pass.1]
        rw [cs (by omega), f.2 372 _ (by omega), hY rfl i hi] at hz
        have : Y i = !b := by
          cases hy : Y i <;> cases b <;> rw [hy] at hz <;> first | rfl | exact absurd rfl hz
        exact bX11_pushesTest_40 (put true (by rw [this]; simp)))
    rw [qI_0] at main; exact main
