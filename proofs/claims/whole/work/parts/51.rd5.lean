/-! ===== the reference's reader: what ends ===== -/
section
variable {d cx n p K dp : Nat} {h : vH} {e : Bool} {W : wT} {t : Nat → Nat} {L : Nat} {u : Option Nat} {f g : fR} {F : List fR} {A A2 B2 : List aT} {Q : vQ}
theorem mpc.t1 (y : mpc h e p K u dp (f :: F) A) : hI h 366 16 = nI F.length := by
  have := y.2.2.2.2.2.1
  rw [List.length_cons, nI_pred] at this; exact this
theorem mpc.f1 (y : mpc h e p K u dp (f :: F) A) : fx h e f F.length := y.2.2.2.2.2.2.1.1
theorem voks.r (x : voks (A ++ A2)) : voks A2 := fun a ha => x a (List.mem_append_right _ ha)
theorem voks.l (x : voks (A ++ A2)) : voks A := fun a ha => x a (List.mem_append_left _ ha)
/-- acts are cut, a test is put behind them -/
theorem m_cutTest {b : Bool} {Y : Nat → Bool} (hd : 1 ≤ d) (x : mE h e W t L) (e7 : hI h 366 7 = nI A.length) (hl : A.length < 62) (ax : axs h e A) (hY : e = true → ∀ j, j < 512 → hI h 372 j = bN (Y j)) (k : ∀ h', fm (fun r j => r = 366 ∧ j = 7 ∨ r = 370 ∨ r = 371) h h' → hI h' 366 7 = nI (A.length + 1) → axs h' e (A ++ [.inr (fun a => Y a ^^ b)]) → Q none h') : vm_C mX11_pushesTest d cx n [vR (some 366), vI (bN b)] h Q :=
  m_pushesTest hd x.1 x.2.2.2.2 e7 hl ax hY k
theorem eu_stop (hM : LM h) (y : mpc h e p K u dp (f :: F) A) (hF : F.length ≤ 9) (hk : ¬ f.1 = 2) (k : Q none h) : vm_E mX11_endsUnit d cx n 0 [some (vR (some 366))] [] h Q := by
  have e16 := y.t1
  have y1 := y.f1.1
  have hk3 := (y.2.2.2.2.2.2.2.2.2.2.2 f (List.mem_cons_self ..)).1
  refine bX11_endsUnit_0 (b2 := 375) (n_b2 := 10) hM.1 hM.kind.1 hM.kind.2 (by rw [e16]; exact vp_in_nI (by omega) (by decide)) (fun _ => bX11_endsUnit_70 k) (fun hz => ?_)
  have hz := Classical.byContradiction hz
  rw [e16, cs (by omega), y1] at hz
  exact absurd ((nI_eq (a := f.1) (b := 2) (by omega) (by decide)).mp hz) hk
theorem eu_step (hd : 3 ≤ d) (x : mE h e W t L) (y : mpc h e p K u dp (f :: F) (A ++ A2)) (hF : F.length ≤ 9) (hp : p ≤ 100) (hk : f.1 = 2) (hf : f.2.1 = A.length) (pp : 2 * (A.length + 1) ≤ p) (k : ∀ h', fa h h' → mpc h' e p f.2.2.1 u dp F (A ++ [.inr (fun j => !hasR W.1 A2 j)]) → vm_E mX11_endsUnit d cx n 0 [some (vR (some 366))] [] h' Q) : vm_E mX11_endsUnit d cx n 0 [some (vR (some 366))] [] h Q := by
  have hM := x.1
  have e16 := y.t1
  obtain ⟨y1, y2, y3, -⟩ := y.f1
  have hv : vp_in (nI F.length) 10 := vp_in_nI (by omega) (by decide)
  have cm : Int32.toNatClampNeg (nI F.length) = F.length := cs (by omega)
  have hl := y.2.2.2.2.2.2.2.2.1
  rw [List.length_append] at hl
  refine bX11_endsUnit_0 (b2 := 375) (n_b2 := 10) hM.1 hM.kind.1 hM.kind.2 (by rw [e16]; exact hv) (fun hz => absurd (by rw [e16, cm, y1, hk]; rfl) hz) (fun _ => ?_)
  refine bX11_endsUnit_13 (b2 := 376) (n_b2 := 10) (R := fun r h' => r = none ∧ fm (fun r _ => r = 372 ∨ r = 373) h h' ∧ (e = true → ∀ j, j < 512 → hI h' 372 j = bN (hasR W.1 A2 j))) hM.1 hM.from.1 hM.from.2 (by rw [e16]; exact hv) (by omega) (by
    rw [e16, cm, y2, hf]
    exact m_hasResults (by omega) hM x.2.1 x.2.2.2.2 y.1 (by rw [List.length_append]; omega) y.2.2.2.2.2.2.2.1 y.2.2.2.2.2.2.2.2.2.1.r (fun h' f q => ⟨rfl, f, q⟩)) ?_
  rintro r h1 ⟨rfl, f1, q1⟩
  have x1 := x.fa (fa_f f1 (fun r j z => z))
  have a16 : hI h1 366 16 = nI F.length := by rw [f1.2 366 16 (by omega)]; exact e16
  have a376 : hI h1 376 F.length = nI A.length := by rw [f1.2 376 _ (by omega), y2, hf]
  have f2 : fm (fun r j => r = 366 ∧ j = 7) h1 (uI h1 366 7 (nI A.length)) := fm_uI _ _ _ _
  have x2 := x1.fa (fa_uI (h := h1) (j := 7) (v := nI A.length) (Or.inl rfl))
  refine bX11_endsUnit_26 (b2 := 376) (n_b2 := 10) (R := fun r h' => r = none ∧ fm (fun r j => r = 366 ∧ j = 7 ∨ r = 370 ∨ r = 371) (uI h1 366 7 (nI A.length)) h' ∧ hI h' 366 7 = nI (A.length + 1) ∧ axs h' e (A ++ [.inr (fun a => hasR W.1 A2 a ^^ true)])) x1.1.1 x1.1.from.1 x1.1.from.2 (by rw [a16]; exact hv) (by omega) (by
    rw [a16, cm, a376]
    exact m_cutTest (b := true) (by omega) x2 (hI_uIs _ _ _ _) (by omega) (axs_eq (fun k _ => by rw [f2.2 370 k (by omega), f1.2 370 k (by omega)]) (fun _ j _ => by rw [f2.2 371 j (by omega), f1.2 371 j (by omega)]) y.2.2.2.2.2.2.2.1.app) (fun he j hj => by rw [f2.2 372 j (by omega)]; exact q1 he j hj) (fun h' a1 a2 a3 => ⟨rfl, a1, a2, a3⟩)) ?_
  rintro r h3 ⟨rfl, f3, a7, ax⟩
  have x3 := x2.fa (f3.mono (fun r j z => by unfold pA; omega))
  have ee : ∀ r j, ¬ (r = 366 ∧ j = 7 ∨ r = 370 ∨ r = 371 ∨ r = 372 ∨ r = 373) → hI h3 r j = hI h r j := fun r j z => by
    rw [f3.2 r j (by omega), f2.2 r j (by omega), f1.2 r j (by omega)]
  have b16 : hI h3 366 16 = nI F.length := by rw [ee _ _ (by omega)]; exact e16
  have b377 : hI h3 377 F.length = nI f.2.2.1 := by rw [ee _ _ (by omega)]; exact y3
  have e0 : (fun a => hasR W.1 A2 a ^^ true) = (fun j => !hasR W.1 A2 j) := by funext a; simp
  rw [e0] at ax
  refine bX11_endsUnit_44 (b2 := 377) (n_b2 := 10) x3.1.1 x3.1.ahead.1 x3.1.ahead.2 (by rw [b16]; exact hv) ?_
  rw [b16, cm, b377, hI_uIk _ _ _ (by decide), b16]
  have f4 : fm (fun r j => r = 366 ∧ (j = 13 ∨ j = 16)) h3 (uI (uI h3 366 13 (nI f.2.2.1)) 366 16 (nI F.length - 1)) := ((fm_uI _ 366 13 _).mono (fun r j z => ⟨z.1, Or.inl z.2⟩)).tr ((fm_uI _ 366 16 _).mono (fun r j z => ⟨z.1, Or.inr z.2⟩))
  have g13 : hI (uI (uI h3 366 13 (nI f.2.2.1)) 366 16 (nI F.length - 1)) 366 13 = nI f.2.2.1 := by rw [hI_uIk _ _ _ (by decide), hI_uIs]
  have g16 : hI (uI (uI h3 366 13 (nI f.2.2.1)) 366 16 (nI F.length - 1)) 366 16 = nI F.length - 1 := hI_uIs _ _ _ _
  generalize uI (uI h3 366 13 (nI f.2.2.1)) 366 16 (nI F.length - 1) = h4 at f4 g13 g16 ⊢
  have e4 : ∀ r j, ¬ (r = 366 ∧ (j = 7 ∨ j = 13 ∨ j = 16) ∨ r = 370 ∨ r = 371 ∨ r = 372 ∨ r = 373) → hI h4 r j = hI h r j := fun r j z => by
    rw [f4.2 r j (by omega), ee r j (by omega)]
  obtain ⟨z1, z2, z3, z4, z5, z6, z7, z8, z9, z10, z11, z12⟩ := y
  refine k h4 ((((fa_f f1 (fun r j z => z)).tr (fa_uI (Or.inl rfl))).tr (f3.mono (fun r j z => ?_))).tr (f4.mono (fun r j z => ?_))) ⟨?_, ?_, g13, ?_, ?_, g16, ?_, ?_, ?_, z10.l.app (voks.one trivial), z11, fun b hb => z12 b (List.mem_cons_of_mem _ hb)⟩
  · unfold pA; omega
  · unfold pA; omega
  · rw [f4.2 366 7 (by omega), a7, List.length_append]; rfl
  · rw [e4 _ _ (by omega)]; exact z2
  · rw [e4 _ _ (by omega)]; exact z4
  · rw [e4 _ _ (by omega)]; exact z5
  · exact fxs_eq (fun r j h1 h2 h3 => e4 r j (by omega)) (fun _ j _ => e4 382 j (by omega)) z7.2
  · exact axs_eq (fun k _ => f4.2 370 k (by omega)) (fun _ j _ => f4.2 371 j (by omega)) ax
  · rw [List.length_append]; exact pp
def rowE (W : wT) (A2 : List aT) (f : fR) : fR := (f.1, f.2.1, f.2.2.1, f.2.2.2.1 + 1, f.2.2.2.2.1, f.2.2.2.2.2.1, f.2.2.2.2.2.2.1, fun a => hasR W.1 A2 a || (decide (0 < f.2.2.2.1) && f.2.2.2.2.2.2.2 a))
theorem m_endsRow (hd : 3 ≤ d) (x : mE h e W t L) (y : mpc h e p K u dp (f :: F) (A ++ A2)) (hF : F.length ≤ 9) (hp : p ≤ 100) (hf : f.2.1 = A.length) (hr : f.2.2.2.1 + 1 ≤ p) (k : ∀ h', fa h h' → mpc h' e p f.2.2.1 u dp (rowE W A2 f :: F) A → Q none h') : vm_C mX11_endsRow d cx n [vR (some 366)] h Q := by
  have hM := x.1
  have e16 := y.t1
  obtain ⟨y1, y2, y3, y4, y5, y6, y7, y8⟩ := y.f1
  have hv : vp_in (nI F.length) 10 := vp_in_nI (by omega) (by decide)
  have cm : Int32.toNatClampNeg (nI F.length) = F.length := cs (by omega)
  have hl := y.2.2.2.2.2.2.2.2.1
  rw [List.length_append] at hl
  refine bX11_endsRow_0 (b2 := 376) (n_b2 := 10) (R := fun r h' => r = none ∧ fm (fun r _ => r = 372 ∨ r = 373) h h' ∧ (e = true → ∀ j, j < 512 → hI h' 372 j = bN (hasR W.1 A2 j))) hM.1 hM.from.1 hM.from.2 (by rw [e16]; exact hv) (by omega) (by
    rw [e16, cm, y2, hf]
    exact m_hasResults (by omega) hM x.2.1 x.2.2.2.2 y.1 (by rw [List.length_append]; omega) y.2.2.2.2.2.2.2.1 y.2.2.2.2.2.2.2.2.2.1.r (fun h' f q => ⟨rfl, f, q⟩)) ?_
  rintro r h1 ⟨rfl, f1, q1⟩
  have x1 := x.fa (fa_f f1 (fun r j z => z))
  -- the end
  have fin : ∀ (h' : vH) (j : Int32), fm (fun r j => r = 382 ∧ 512 * F.length ≤ j) h1 h' → (e = true → ∀ a, a < 512 → hI h' 382 (512 * F.length + a) = bN (hasR W.1 A2 a || (decide (0 < f.2.2.2.1) && f.2.2.2.2.2.2.2 a))) → vm_E mX11_endsRow d cx n 94 [some (vR (some 366)), some (vI j)] [] h' Q := by
    intro h2 j f2 q2
    have ee : ∀ r j, ¬ (r = 372 ∨ r = 373 ∨ r = 382 ∧ 512 * F.length ≤ j) → hI h2 r j = hI h r j := fun r j z => by rw [f2.2 r j (by omega), f1.2 r j (by omega)]
    have x2 := x1.fa (f2.mono (fun r j z => by unfold pA; omega))
    have hM2 := x2.1
    have b16 : hI h2 366 16 = nI F.length := by rw [ee _ _ (by omega)]; exact e16
    have b376 : hI h2 376 F.length = nI A.length := by rw [ee _ _ (by omega), y2, hf]
    have b377 : hI h2 377 F.length = nI f.2.2.1 := by rw [ee _ _ (by omega)]; exact y3
    have b378 : hI h2 378 F.length = nI f.2.2.2.1 := by rw [ee _ _ (by omega)]; exact y4
    have c16 : hI (uI h2 366 7 (nI A.length)) 366 16 = nI F.length := by rw [hI_uIk _ _ _ (by decide)]; exact b16
    have c377 : hI (uI h2 366 7 (nI A.length)) 377 F.length = nI f.2.2.1 := by rw [hI_uIn _ _ _ (by decide)]; exact b377
    have d16 : hI (uI (uI h2 366 7 (nI A.length)) 366 13 (nI f.2.2.1)) 366 16 = nI F.length := by rw [hI_uIk _ _ _ (by decide)]; exact c16
    have d378 : hI (uI (uI h2 366 7 (nI A.length)) 366 13 (nI f.2.2.1)) 378 F.length = nI f.2.2.2.1 := by rw [hI_uIn _ _ _ (by decide), hI_uIn _ _ _ (by decide)]; exact b378
    refine bX11_endsRow_94 (b2 := 376) (n_b2 := 10) (b3 := 377) (n_b3 := 10) (b4 := 378) (n_b4 := 10) hM2.1 hM2.from.1 hM2.from.2 (by rw [b16]; exact hv) hM2.ahead.1 hM2.ahead.2 (by rw [b16, cm, b376, c16]; exact hv) hM2.rows.1 hM2.rows.2 (by rw [b16, cm, b376, c16, cm, c377, d16]; exact hv) ?_
    rw [b16, cm, b376, c16, cm, c377, d16, cm, d378, nI_1]
    have f3 : fm (fun r j => r = 366 ∧ (j = 7 ∨ j = 13) ∨ r = 378 ∧ j = F.length) h2 (uI (uI (uI h2 366 7 (nI A.length)) 366 13 (nI f.2.2.1)) 378 F.length (nI (f.2.2.2.1 + 1))) := (((fm_uI _ 366 7 _).mono (fun r j z => Or.inl ⟨z.1, Or.inl z.2⟩)).tr ((fm_uI _ 366 13 _).mono (fun r j z => Or.inl ⟨z.1, Or.inr z.2⟩))).tr ((fm_uI _ 378 _ _).mono (fun r j z => Or.inr z))
    have g7 : hI (uI (uI (uI h2 366 7 (nI A.length)) 366 13 (nI f.2.2.1)) 378 F.length (nI (f.2.2.2.1 + 1))) 366 7 = nI A.length := by rw [hI_uIn _ _ _ (by decide), hI_uIk _ _ _ (by decide), hI_uIs]
    have g13 : hI (uI (uI (uI h2 366 7 (nI A.length)) 366 13 (nI f.2.2.1)) 378 F.length (nI (f.2.2.2.1 + 1))) 366 13 = nI f.2.2.1 := by rw [hI_uIn _ _ _ (by decide), hI_uIs]
    have g378 : hI (uI (uI (uI h2 366 7 (nI A.length)) 366 13 (nI f.2.2.1)) 378 F.length (nI (f.2.2.2.1 + 1))) 378 F.length = nI (f.2.2.2.1 + 1) := hI_uIs _ _ _ _
    generalize uI (uI (uI h2 366 7 (nI A.length)) 366 13 (nI f.2.2.1)) 378 F.length (nI (f.2.2.2.1 + 1)) = h3 at f3 g7 g13 g378 ⊢
    have e3 : ∀ r j, ¬ (r = 366 ∧ (j = 7 ∨ j = 13) ∨ r = 378 ∧ j = F.length ∨ r = 372 ∨ r = 373 ∨ r = 382 ∧ 512 * F.length ≤ j) → hI h3 r j = hI h r j := fun r j z => by rw [f3.2 r j (by omega), ee r j (by omega)]
    obtain ⟨z1, z2, z3, z4, z5, z6, z7, z8, z9, z10, z11, z12⟩ := y
    refine bX11_endsRow_133 (k h3 (((fa_f f1 (fun r j z => z)).tr (f2.mono (fun r j z => ?_))).tr (f3.mono (fun r j z => ?_))) ⟨g7, ?_, g13, ?_, ?_, ?_, ⟨⟨?_, ?_, ?_, g378, ?_, ?_, ?_, fun he _ a ha => ?_⟩, ?_⟩, ?_, by omega, z10.l, z11, fun b hb => ?_⟩)
    · unfold pA; omega
    · unfold pA; omega
    · rw [e3 _ _ (by omega)]; exact z2
    · rw [e3 _ _ (by omega)]; exact z4
    · rw [e3 _ _ (by omega)]; exact z5
    · rw [e3 _ _ (by omega)]; exact z6
    · rw [e3 _ _ (by omega)]; exact y1
    · rw [e3 _ _ (by omega)]; exact y2
    · rw [e3 _ _ (by omega)]; exact y3
    · rw [e3 _ _ (by omega)]; exact y5
    · rw [e3 _ _ (by omega)]; exact y6
    · rw [e3 _ _ (by omega)]; exact y7
    · rw [f3.2 382 _ (by omega)]; exact q2 he a ha
    · exact fxs_eq (fun r j h1 h2 h3 => e3 r j (by omega)) (fun _ j _ => e3 382 j (by omega)) z7.2
    · exact axs_eq (fun k _ => e3 370 k (by omega)) (fun _ j _ => e3 371 j (by omega)) z8.app
    · rcases List.mem_cons.mp hb with rfl | hb
      · exact ⟨(z12 f (List.mem_cons_self ..)).1, hr⟩
      · exact z12 b (List.mem_cons_of_mem _ hb)
  refine bX11_endsRow_13 ?_
  cases e
  · exact bX11_endsRow_15 (fun hz => absurd hz (by decide +kernel)) (fun _ => bX11_endsRow_22 x1.1.1 (fun _ => fin h1 _ fm.rf (fun z => by cases z)) (fun hz => absurd x1.2.2.2.2 hz))
  · have hrp := (y.2.2.2.2.2.2.2.2.2.2.2 f (List.mem_cons_self ..)).2
    have main := vl_down 512 (fun i => vm_E mX11_endsRow d cx n 15 [some (vR (some 366)), some (vI (nI i))] [] (qI h1 382 (512 * F.length) i (fun a => bN (hasR W.1 A2 a || (decide (0 < f.2.2.2.1) && f.2.2.2.2.2.2.2 a)))) Q) (bX11_endsRow_15 (fun _ => fin _ _ ((fm_qI _ _ _ _ _).mono (fun r j z => ⟨z.1, z.2.1⟩)) (fun _ j hj => by rw [hI_qI, if_pos ⟨rfl, by omega, by omega⟩, Nat.add_sub_cancel_left])) (fun hz => absurd (by decide +kernel) hz)) (fun i hi ih => by
      rw [← qI_s] at ih
      have f2 : fm (fun r j => r = 382 ∧ j < 512 * F.length + i) h1 (qI h1 382 (512 * F.length) i (fun a => bN (hasR W.1 A2 a || (decide (0 < f.2.2.2.1) && f.2.2.2.2.2.2.2 a)))) := (fm_qI _ _ _ _ _).mono (fun r j z => ⟨z.1, z.2.2⟩)
      generalize qI h1 382 (512 * F.length) i (fun a => bN (hasR W.1 A2 a || (decide (0 < f.2.2.2.1) && f.2.2.2.2.2.2.2 a))) = w at f2 ih ⊢
      have ee : ∀ r j, ¬ (r = 372 ∨ r = 373 ∨ r = 382 ∧ j < 512 * F.length + i) → hI w r j = hI h r j := fun r j z => by rw [f2.2 r j (by omega), f1.2 r j (by omega)]
      have x2 := x1.fa (f2.mono (fun r j z => by unfold pA; omega))
      have hM2 := x2.1
      have b16 : hI w 366 16 = nI F.length := by rw [ee _ _ (by omega)]; exact e16
      have b378 : hI w 378 F.length = nI f.2.2.2.1 := by rw [ee _ _ (by omega)]; exact y4
      have e512 : 512 * hI w 366 16 + nI i = nI (512 * F.length + i) := by rw [b16, show (512 : Int32) = nI 512 from rfl, mulI, nI_add]
      have bnow : hI w 372 i = bN (hasR W.1 A2 i) := by rw [f2.2 372 _ (by omega)]; exact q1 rfl i hi
      have bany : 0 < f.2.2.2.1 → hI w 382 (512 * F.length + i) = bN (f.2.2.2.2.2.2.2 i) := fun h0 => by rw [ee _ _ (by omega)]; exact y8 rfl h0 i hi
      have put : ∀ b : Bool, (hasR W.1 A2 i || (decide (0 < f.2.2.2.1) && f.2.2.2.2.2.2.2 i)) = b → vm_E mX11_endsRow d cx n 87 [some (vR (some 366)), some (vI (nI i))] [vI (bN b), vI (512 * hI w 366 16 + nI i), vR (some 382)] w Q := fun b eb => by
        refine bX11_endsRow_87 (n_sa2 := 5120) hM2.any.2 (by rw [e512]; exact vp_in_nI (by omega) (by decide)) ?_
        rw [e512, cs (by omega), nar_b, nI_1, ← eb]; exact ih
      refine bX11_endsRow_15 (fun hz => absurd hz (nI_ge (a := i) (b := 512) hi (by decide))) (fun _ => bX11_endsRow_22 hM2.1 (fun hz => absurd hz (by rw [x2.2.2.2.2]; decide +kernel)) (fun _ => ?_))
      refine bX11_endsRow_29 (b3 := 372) (n_b3 := 512) hM2.1 hM2.now.1 hM2.now.2 (v512 hi) (fun hz => ?_) (fun hz => ?_)
      · rw [cs (by omega), bnow, bN_i, Bool.not_eq_false] at hz
        rw [hM2.any.1]
        exact bX11_endsRow_82 (put true (by rw [hz]; rfl))
      · rw [cs (by omega), bnow, bN_i, Classical.not_not] at hz
        rw [hM2.any.1]
        refine bX11_endsRow_52 (b3 := 378) (n_b3 := 10) hM2.1 hM2.rows.1 hM2.rows.2 (by rw [b16]; exact hv) (fun hy => ?_) (fun hy => ?_)
        · rw [b16, cm, b378, show (0 : Int32) = nI 0 from rfl, nI_leI (by omega) (by decide)] at hy
          exact bX11_endsRow_86 (put false (by rw [hz, decide_eq_false (by omega)]; rfl))
        · rw [b16, cm, b378, show (0 : Int32) = nI 0 from rfl, nI_leI (by omega) (by decide)] at hy
          refine bX11_endsRow_64 (b3 := 382) (n_b3 := 5120) hM2.1 hM2.any.1 hM2.any.2 (by rw [e512]; exact vp_in_nI (by omega) (by decide)) (fun hw => ?_) (fun hw => ?_)
          · rw [e512, cs (by omega), bany (by omega), bN_i] at hw
            exact bX11_endsRow_86 (put false (by rw [hz, hw]; simp))
          · rw [e512, cs (by omega), bany (by omega), bN_i, Bool.not_eq_false] at hw
            exact bX11_endsRow_82 (put true (by rw [hw, decide_eq_true (by omega)]; simp)))
    rw [qI_0] at main; exact main
/-- a choice of one row ends -/
def chE (f : fR) : fR := (f.1, f.2.1, f.2.2.1, 0, false, f.2.2.2.2.2.1, f.2.2.2.2.2.2.1, fun _ => false)
theorem ec_74 {o1 : Option vV} (x : mE h e W t L) (y : mpc h e p K u dp (f :: F) A) (hF : F.length ≤ 9) (h0 : f.2.2.2.1 = 0) (k : ∀ h', fa h h' → mpc h' e p K u dp (chE f :: F) A → Q none h') : vm_E mX11_endsChoice d cx n 74 [some (vR (some 366)), o1] [] h Q := by
  have hM := x.1
  have e16 := y.t1
  obtain ⟨y1, y2, y3, y4, y5, y6, y7, y8⟩ := y.f1
  have hv : vp_in (nI F.length) 10 := vp_in_nI (by omega) (by decide)
  have cm : Int32.toNatClampNeg (nI F.length) = F.length := cs (by omega)
  refine bX11_endsChoice_74 (b2 := 379) (n_b2 := 10) hM.1 hM.rm.1 hM.rm.2 (by rw [e16]; exact hv) ?_
  rw [e16, cm]
  have f1 : fm (fun r j => r = 379 ∧ j = F.length) h (uI h 379 F.length (vp_nar .boolean 0)) := fm_uI _ _ _ _
  have g379 : hI (uI h 379 F.length (vp_nar .boolean 0)) 379 F.length = bN false := by rw [hI_uIs]; rfl
  generalize uI h 379 F.length (vp_nar .boolean 0) = h1 at f1 g379 ⊢
  obtain ⟨z1, z2, z3, z4, z5, z6, z7, z8, z9, z10, z11, z12⟩ := y
  refine k h1 (f1.mono (fun r j z => ?_)) ⟨?_, ?_, ?_, ?_, ?_, ?_, ⟨⟨?_, ?_, ?_, ?_, g379, ?_, ?_, fun _ hc => absurd hc (Nat.lt_irrefl 0)⟩, ?_⟩, ?_, z9, z10, z11, fun b hb => ?_⟩
  · unfold pA; omega
  · rw [f1.2 _ _ (by omega)]; exact z1
  · rw [f1.2 _ _ (by omega)]; exact z2
  · rw [f1.2 _ _ (by omega)]; exact z3
  · rw [f1.2 _ _ (by omega)]; exact z4
  · rw [f1.2 _ _ (by omega)]; exact z5
  · rw [f1.2 _ _ (by omega)]; exact z6
  · rw [f1.2 _ _ (by omega)]; exact y1
  · rw [f1.2 _ _ (by omega)]; exact y2
  · rw [f1.2 _ _ (by omega)]; exact y3
  · rw [f1.2 _ _ (by omega), y4, h0]; rfl
  · rw [f1.2 _ _ (by omega)]; exact y6
  · rw [f1.2 _ _ (by omega)]; exact y7
  · exact fxs_eq (fun r j h1 h2 h3 => f1.2 r j (by omega)) (fun _ j _ => f1.2 382 j (by omega)) z7.2
  · exact axs_eq (fun k _ => f1.2 370 k (by omega)) (fun _ j _ => f1.2 371 j (by omega)) z8
  · rcases List.mem_cons.mp hb with rfl | hb
    · exact ⟨(z12 f (List.mem_cons_self ..)).1, Nat.zero_le _⟩
    · exact z12 b (List.mem_cons_of_mem _ hb)
theorem m_endsChoice0 (x : mE h e W t L) (y : mpc h e p K u dp (f :: F) A) (hF : F.length ≤ 9) (h0 : f.2.2.2.1 = 0) (k : ∀ h', fa h h' → mpc h' e p K u dp (chE f :: F) A → Q none h') : vm_C mX11_endsChoice d cx n [vR (some 366)] h Q := by
  have hM := x.1
  have e16 := y.t1
  refine bX11_endsChoice_0 (b2 := 378) (n_b2 := 10) hM.1 hM.rows.1 hM.rows.2 (by rw [e16]; exact vp_in_nI (by omega) (by decide)) (fun _ => ec_74 x y hF h0 k) (fun hz => absurd ?_ hz)
  rw [e16, cs (by omega), y.f1.2.2.2.1, h0]; decide +kernel
/-- a choice of several rows ends -/
theorem m_endsChoice1 (hd : 4 ≤ d) (x : mE h e W t L) (y : mpc h e p K u dp (f :: F) (A ++ A2)) (hF : F.length ≤ 9) (hp : p ≤ 100) (hf : f.2.1 = A.length) (h0 : 0 < f.2.2.2.1) (hr : f.2.2.2.1 + 1 ≤ p) (pp : 2 * (A.length + 1) ≤ p) (k : ∀ h', fa h h' → mpc h' e p f.2.2.1 u dp (chE f :: F) (A ++ [.inr (fun a => hasR W.1 A2 a || f.2.2.2.2.2.2.2 a)]) → Q none h') : vm_C mX11_endsChoice d cx n [vR (some 366)] h Q := by
  have hM := x.1
  have e16 := y.t1
  have hv : vp_in (nI F.length) 10 := vp_in_nI (by omega) (by decide)
  have cm : Int32.toNatClampNeg (nI F.length) = F.length := cs (by omega)
  have hrp := (y.2.2.2.2.2.2.2.2.2.2.2 f (List.mem_cons_self ..)).2
  refine bX11_endsChoice_0 (b2 := 378) (n_b2 := 10) hM.1 hM.rows.1 hM.rows.2 (by rw [e16]; exact hv) (fun hz => ?_) (fun _ => ?_)
  · rw [e16, cm, y.f1.2.2.2.1, show (0 : Int32) = nI 0 from rfl, nI_leI (by omega) (by decide)] at hz
    omega
  refine bX11_endsChoice_12 (R := fun r h' => r = none ∧ fa h h' ∧ mpc h' e p f.2.2.1 u dp (rowE W A2 f :: F) A) hM.1 (by omega) (m_endsRow (by omega) x y hF hp hf hr (fun h' f q => ⟨rfl, f, q⟩)) ?_
  rintro r h1 ⟨rfl, f1, y1⟩
  have x1 := x.fa f1
  have e0 : ∀ a, (rowE W A2 f).2.2.2.2.2.2.2 a = (hasR W.1 A2 a || f.2.2.2.2.2.2.2 a) := fun a => by
    show (hasR W.1 A2 a || (decide (0 < f.2.2.2.1) && f.2.2.2.2.2.2.2 a)) = _
    rw [decide_eq_true h0, Bool.true_and]
  have fin : ∀ (h2 : vH) (j : Int32), fm (fun r _ => r = 372) h1 h2 → (e = true → ∀ a, a < 512 → hI h2 372 a = bN (hasR W.1 A2 a || f.2.2.2.2.2.2.2 a)) → vm_E mX11_endsChoice d cx n 59 [some (vR (some 366)), some (vI j)] [] h2 Q := by
    intro h2 j f2 q2
    have x2 := x1.fa (fa_f f2 (fun r j z => Or.inl z))
    have y2 := y1.mv f2 (fun r j z => Or.inr (Or.inl z)) (by rw [f2.2 366 12 (by omega)]; exact y1.2.1) (by rw [f2.2 366 13 (by omega)]; exact y1.2.2.1) (Nat.le_refl _)
    have hl := y2.2.2.2.2.2.2.2.2.1
    refine bX11_endsChoice_59 (R := fun r h3 => r = none ∧ fm (fun r j => r = 366 ∧ j = 7 ∨ r = 370 ∨ r = 371) h2 h3 ∧ hI h3 366 7 = nI (A.length + 1) ∧ axs h3 e (A ++ [.inr (fun a => (hasR W.1 A2 a || f.2.2.2.2.2.2.2 a) ^^ false)])) x2.1.1 (by omega) (m_cutTest (b := false) (by omega) x2 y2.1 (by omega) y2.2.2.2.2.2.2.2.1 q2 (fun h3 a1 a2 a3 => ⟨rfl, a1, a2, a3⟩)) ?_
    rintro r h3 ⟨rfl, f3, a7, ax⟩
    have x3 := x2.fa (f3.mono (fun r j z => by unfold pA; omega))
    have ef : (fun a => (hasR W.1 A2 a || f.2.2.2.2.2.2.2 a) ^^ false) = (fun a => hasR W.1 A2 a || f.2.2.2.2.2.2.2 a) := by funext a; simp
    rw [ef] at ax
    have b16 : hI h3 366 16 = nI F.length := by rw [f3.2 366 16 (by omega)]; exact y2.t1
    refine bX11_endsChoice_64 (b2 := 378) (n_b2 := 10) x3.1.1 x3.1.rows.1 x3.1.rows.2 (by rw [b16]; exact hv) ?_
    rw [b16, cm]
    have f4 : fm (fun r j => r = 378 ∧ j = F.length) h3 (uI h3 378 F.length 0) := fm_uI _ _ _ _
    have g378 : hI (uI h3 378 F.length 0) 378 F.length = nI 0 := by rw [hI_uIs]; rfl
    generalize uI h3 378 F.length 0 = h4 at f4 g378 ⊢
    have x4 := x3.fa (f4.mono (fun r j z => by unfold pA; omega))
    obtain ⟨z1, z2, z3, z4, z5, z6, ⟨⟨u1, u2, u3, u4, u5, u6, u7, u8⟩, z7⟩, z8, z9, z10, z11, z12⟩ := y2
    have e4 : ∀ r j, ¬ (r = 378 ∧ j = F.length ∨ r = 366 ∧ j = 7 ∨ r = 370 ∨ r = 371) → hI h4 r j = hI h2 r j := fun r j z => by rw [f4.2 r j (by omega), f3.2 r j (by omega)]
    have y4 : mpc h4 e p f.2.2.1 u dp ((f.1, f.2.1, f.2.2.1, 0, f.2.2.2.2.1, f.2.2.2.2.2.1, f.2.2.2.2.2.2.1, fun _ => false) :: F) (A ++ [.inr (fun a => hasR W.1 A2 a || f.2.2.2.2.2.2.2 a)]) := by
      refine ⟨?_, ?_, ?_, ?_, ?_, ?_, ⟨⟨?_, ?_, ?_, g378, ?_, ?_, ?_, fun _ hc => absurd hc (Nat.lt_irrefl 0)⟩, ?_⟩, ?_, ?_, z10.app (voks.one trivial), z11, fun b hb => ?_⟩
      · rw [f4.2 366 7 (by omega), a7, List.length_append]; rfl
      · rw [e4 _ _ (by omega)]; exact z2
      · rw [e4 _ _ (by omega)]; exact z3
      · rw [e4 _ _ (by omega)]; exact z4
      · rw [e4 _ _ (by omega)]; exact z5
      · rw [e4 _ _ (by omega)]; exact z6
      · rw [e4 _ _ (by omega)]; exact u1
      · rw [e4 _ _ (by omega)]; exact u2
      · rw [e4 _ _ (by omega)]; exact u3
      · rw [e4 _ _ (by omega)]; exact u5
      · rw [e4 _ _ (by omega)]; exact u6
      · rw [e4 _ _ (by omega)]; exact u7
      · exact fxs_eq (fun r j h1 h2 h3 => e4 r j (by omega)) (fun _ j _ => e4 382 j (by omega)) z7
      · exact axs_eq (fun k _ => f4.2 370 k (by omega)) (fun _ j _ => f4.2 371 j (by omega)) ax
      · rw [List.length_append]; exact pp
      · rcases List.mem_cons.mp hb with rfl | hb
        · exact ⟨(z12 _ (List.mem_cons_self ..)).1, Nat.zero_le _⟩
        · exact z12 b (List.mem_cons_of_mem _ hb)
    refine ec_74 x4 y4 hF rfl (fun h5 f5 y5 => k h5 (((((f1.tr (fa_f f2 (fun r j z => Or.inl z))).tr (f3.mono (fun r j z => ?_))).tr (f4.mono (fun r j z => ?_))).tr f5)) y5)
    · unfold pA; omega
    · unfold pA; omega
  refine bX11_endsChoice_16 ?_
  cases e
  · exact bX11_endsChoice_18 (fun hz => absurd hz (by decide +kernel)) (fun _ => bX11_endsChoice_25 x1.1.1 (fun _ => fin h1 _ fm.rf (fun z => by cases z)) (fun hz => absurd x1.2.2.2.2 hz))
  · have main := vl_down 512 (fun i => vm_E mX11_endsChoice d cx n 18 [some (vR (some 366)), some (vI (nI i))] [] (qI h1 372 0 i (fun a => bN (hasR W.1 A2 a || f.2.2.2.2.2.2.2 a))) Q) (bX11_endsChoice_18 (fun _ => fin _ _ ((fm_qI _ _ _ _ _).mono (fun r j z => z.1)) (fun _ j hj => by rw [hI_qI, if_pos ⟨rfl, Nat.zero_le _, by omega⟩, Nat.sub_zero])) (fun hz => absurd (by decide +kernel) hz)) (fun i hi ih => by
      rw [← qI_s, Nat.zero_add] at ih
      have f2 : fm (fun r _ => r = 372) h1 (qI h1 372 0 i (fun a => bN (hasR W.1 A2 a || f.2.2.2.2.2.2.2 a))) := (fm_qI _ _ _ _ _).mono (fun r j z => z.1)
      generalize qI h1 372 0 i (fun a => bN (hasR W.1 A2 a || f.2.2.2.2.2.2.2 a)) = w at f2 ih ⊢
      have x2 := x1.fa (fa_f f2 (fun r j z => Or.inl z))
      have hM2 := x2.1
      have b16 : hI w 366 16 = nI F.length := by rw [f2.2 366 16 (by omega)]; exact y1.t1
      have e512 : 512 * hI w 366 16 + nI i = nI (512 * F.length + i) := by rw [b16, show (512 : Int32) = nI 512 from rfl, mulI, nI_add]
      have bany : hI w 382 (512 * F.length + i) = bN (hasR W.1 A2 i || f.2.2.2.2.2.2.2 i) := by
        rw [f2.2 382 _ (by omega), ← e0]
        exact y1.f1.2.2.2.2.2.2.2 rfl (Nat.succ_pos _) i hi
      refine bX11_endsChoice_18 (fun hz => absurd hz (nI_ge (a := i) (b := 512) hi (by decide))) (fun _ => bX11_endsChoice_25 hM2.1 (fun hz => absurd hz (by rw [x2.2.2.2.2]; decide +kernel)) (fun _ => ?_))
      refine bX11_endsChoice_32 (b2 := 372) (n_b2 := 512) (b3 := 382) (n_b3 := 5120) hM2.1 hM2.now.1 hM2.any.1 hM2.any.2 (by rw [e512]; exact vp_in_nI (by omega) (by decide)) hM2.now.2 (v512 hi) ?_
      rw [cs (show i < _ by omega), e512, cs (show 512 * F.length + i < _ by omega), bany, nar_b, nI_1]; exact ih)
    rw [qI_0] at main; exact main
end
