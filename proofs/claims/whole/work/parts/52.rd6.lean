/-! ===== the reference's reader: formulas end; what lies under ===== -/
section
variable {d cx n p K dp : Nat} {h : vH} {e : Bool} {W : wT} {t : Nat → Nat} {L : Nat} {u : Option Nat} {f g : fR} {F : List fR} {A A2 B2 : List aT} {Q : vQ}
theorem ef_stop {o1 : Option vV} (hM : LM h) (y : mpc h e p K u dp (f :: F) A) (hF : F.length ≤ 9) (hk : ¬ f.1 = 3) (k : Q none h) : vm_E mX11_endsFormula d cx n 4 [some (vR (some 366)), o1] [] h Q := by
  have e16 := y.t1
  have y1 := y.f1.1
  have hk3 := (y.2.2.2.2.2.2.2.2.2.2.2 f (List.mem_cons_self ..)).1
  refine bX11_endsFormula_4 (b2 := 375) (n_b2 := 10) hM.1 hM.kind.1 hM.kind.2 (by rw [e16]; exact vp_in_nI (by omega) (by decide)) (fun _ => bX11_endsFormula_142 k) (fun hz => ?_)
  have hz := Classical.byContradiction hz
  rw [e16, cs (by omega), y1] at hz
  exact absurd ((nI_eq (a := f.1) (b := 3) (by omega) (by decide)).mp hz) hk
theorem ef_step {o1 : Option vV} (hd : 3 ≤ d) (x : mE h e W t L) (y : mpc h e p K u dp (g :: f :: F) (A ++ (A2 ++ B2))) (hF : F.length ≤ 8) (hp : p ≤ 100) (hk : g.1 = 3) (hg : g.2.1 = (A ++ A2).length) (hf : f.2.1 = A.length) (pp : 2 * (A.length + 1) ≤ p)
    (k : ∀ h' j, fa h h' → mpc h' e p f.2.2.1 u dp (f :: F) (A ++ [.inr (fun j => !bw W.1 A2 (fun i => !hasR W.1 B2 i) j)]) → vm_E mX11_endsFormula d cx n 4 [some (vR (some 366)), some (vI j)] [] h' Q) : vm_E mX11_endsFormula d cx n 4 [some (vR (some 366)), o1] [] h Q := by
  have hM := x.1
  have e16 : hI h 366 16 = nI (F.length + 1) := y.t1
  obtain ⟨y1, y2, -⟩ := y.f1
  obtain ⟨w1, w2, w3, -⟩ := y.2.2.2.2.2.2.1.2.1
  have y1 : hI h 375 (F.length + 1) = nI g.1 := y1
  have y2 : hI h 376 (F.length + 1) = nI g.2.1 := y2
  have hv : vp_in (nI (F.length + 1)) 10 := vp_in_nI (by omega) (by decide)
  have hv0 : vp_in (nI F.length) 10 := vp_in_nI (by omega) (by decide)
  have cm : Int32.toNatClampNeg (nI (F.length + 1)) = F.length + 1 := cs (by omega)
  have cm0 : Int32.toNatClampNeg (nI F.length) = F.length := cs (by omega)
  have hl := y.2.2.2.2.2.2.2.2.1
  have hla : (A ++ A2).length = A.length + A2.length := List.length_append
  have hlb : (A2 ++ B2).length = A2.length + B2.length := List.length_append
  rw [List.length_append, hlb] at hl
  have ax0 := y.2.2.2.2.2.2.2.1
  have vk0 := y.2.2.2.2.2.2.2.2.2.1
  have l0 := y.1
  rw [← List.append_assoc] at ax0 l0
  refine bX11_endsFormula_4 (b2 := 375) (n_b2 := 10) hM.1 hM.kind.1 hM.kind.2 (by rw [e16]; exact hv) (fun hz => absurd (by rw [e16, cm, y1, hk]; rfl) hz) (fun _ => ?_)
  refine bX11_endsFormula_17 (b2 := 376) (n_b2 := 10) (R := fun r h' => r = none ∧ fm (fun r _ => r = 372 ∨ r = 373) h h' ∧ (e = true → ∀ j, j < 512 → hI h' 372 j = bN (hasR W.1 B2 j))) hM.1 hM.from.1 hM.from.2 (by rw [e16]; exact hv) (by omega) (by
    rw [e16, cm, y2, hg]
    exact m_hasResults (by omega) hM x.2.1 x.2.2.2.2 l0 (by rw [List.length_append, hla]; omega) ax0 vk0.r.r (fun h' f q => ⟨rfl, f, q⟩)) ?_
  rintro r h1 ⟨rfl, f1, q1⟩
  have x1 := x.fa (fa_f f1 (fun r j z => z))
  -- from 72 on: the others stand in now
  have fin : ∀ (h2 : vH) (j : Int32), fm (fun r _ => r = 372) h1 h2 → (e = true → ∀ a, a < 512 → hI h2 372 a = bN (!hasR W.1 B2 a)) → vm_E mX11_endsFormula d cx n 72 [some (vR (some 366)), some (vI j)] [] h2 Q := by
    intro h2 j f2 q2
    have x2 := x1.fa (fa_f f2 (fun r j z => Or.inl z))
    have hM2 := x2.1
    have ee : ∀ r j, ¬ (r = 372 ∨ r = 373) → hI h2 r j = hI h r j := fun r j z => by rw [f2.2 r j (by omega), f1.2 r j (by omega)]
    have b16 : hI h2 366 16 = nI (F.length + 1) := by rw [ee _ _ (by omega)]; exact e16
    have b376 : hI h2 376 (F.length + 1) = nI (A ++ A2).length := by rw [ee _ _ (by omega), y2, hg]
    have c16 : hI (uI h2 366 7 (nI (A ++ A2).length)) 366 16 = nI (F.length + 1) := by rw [hI_uIk _ _ _ (by decide)]; exact b16
    have f3 : fm (fun r j => r = 366 ∧ (j = 7 ∨ j = 16)) h2 (uI (uI h2 366 7 (nI (A ++ A2).length)) 366 16 (nI F.length)) := ((fm_uI _ 366 7 _).mono (fun r j z => ⟨z.1, Or.inl z.2⟩)).tr ((fm_uI _ 366 16 _).mono (fun r j z => ⟨z.1, Or.inr z.2⟩))
    have d16 : hI (uI (uI h2 366 7 (nI (A ++ A2).length)) 366 16 (nI F.length)) 366 16 = nI F.length := hI_uIs _ _ _ _
    have d7 : hI (uI (uI h2 366 7 (nI (A ++ A2).length)) 366 16 (nI F.length)) 366 7 = nI (A ++ A2).length := by rw [hI_uIk _ _ _ (by decide), hI_uIs]
    have d376 : hI (uI (uI h2 366 7 (nI (A ++ A2).length)) 366 16 (nI F.length)) 376 F.length = nI A.length := by rw [f3.2 376 _ (by omega), ee _ _ (by omega), w2, hf]
    have x3 := x2.fa (f3.mono (fun r j z => by unfold pA; omega))
    refine bX11_endsFormula_72 (b2 := 376) (n_b2 := 10) (b3 := 376) (n_b3 := 10) (R := fun r h' => r = none ∧ fm (fun r _ => r = 372 ∨ r = 373) (uI (uI h2 366 7 (nI (A ++ A2).length)) 366 16 (nI F.length)) h' ∧ (e = true → ∀ j, j < 512 → hI h' 372 j = bN (bw W.1 A2 (fun i => !hasR W.1 B2 i) j))) hM2.1 hM2.from.1 hM2.from.2 (by rw [b16]; exact hv) hM2.from.1 hM2.from.2 (by rw [b16, cm, b376, c16, nI_pred, d16]; exact hv0) (by omega) (by
      rw [b16, cm, b376, c16, nI_pred, d16, cm0, d376]
      exact m_leads (Y := fun i => !hasR W.1 B2 i) (by omega) x3.1 x3.2.1 x3.2.2.2.2 d7 (by omega) (axs_eq (fun k _ => by rw [f3.2 370 k (by omega), ee 370 k (by omega)]) (fun _ j _ => by rw [f3.2 371 j (by omega), ee 371 j (by omega)]) ax0.app) vk0.r.l (fun he a ha => by rw [f3.2 372 a (by omega)]; exact q2 he a ha) (fun h' f q => ⟨rfl, f, q⟩)) ?_
    rintro r h4 ⟨rfl, f4, q4⟩
    have x4 := x3.fa (fa_f f4 (fun r j z => z))
    have e4 : ∀ r j, ¬ (r = 372 ∨ r = 373 ∨ r = 366 ∧ (j = 7 ∨ j = 16)) → hI h4 r j = hI h r j := fun r j z => by rw [f4.2 r j (by omega), f3.2 r j (by omega), ee r j (by omega)]
    have k16 : hI h4 366 16 = nI F.length := by rw [f4.2 366 16 (by omega)]; exact d16
    have k376 : hI h4 376 F.length = nI A.length := by rw [f4.2 376 _ (by omega)]; exact d376
    have f5 : fm (fun r j => r = 366 ∧ j = 7) h4 (uI h4 366 7 (nI A.length)) := fm_uI _ _ _ _
    have x5 := x4.fa (fa_uI (h := h4) (j := 7) (v := nI A.length) (Or.inl rfl))
    refine bX11_endsFormula_108 (b2 := 376) (n_b2 := 10) (R := fun r h' => r = none ∧ fm (fun r j => r = 366 ∧ j = 7 ∨ r = 370 ∨ r = 371) (uI h4 366 7 (nI A.length)) h' ∧ hI h' 366 7 = nI (A.length + 1) ∧ axs h' e (A ++ [.inr (fun a => bw W.1 A2 (fun i => !hasR W.1 B2 i) a ^^ true)])) x4.1.1 x4.1.from.1 x4.1.from.2 (by rw [k16]; exact hv0) (by omega) (by
      rw [k16, cm0, k376]
      exact m_cutTest (b := true) (by omega) x5 (hI_uIs _ _ _ _) (by omega) (axs_eq (fun k _ => by rw [f5.2 370 k (by omega), e4 370 k (by omega)]) (fun _ j _ => by rw [f5.2 371 j (by omega), e4 371 j (by omega)]) ax0.app.app) (fun he j hj => by rw [f5.2 372 j (by omega)]; exact q4 he j hj) (fun h' a1 a2 a3 => ⟨rfl, a1, a2, a3⟩)) ?_
    rintro r h6 ⟨rfl, f6, a7, ax⟩
    have x6 := x5.fa (f6.mono (fun r j z => by unfold pA; omega))
    have e6 : ∀ r j, ¬ (r = 366 ∧ (j = 7 ∨ j = 16) ∨ r = 370 ∨ r = 371 ∨ r = 372 ∨ r = 373) → hI h6 r j = hI h r j := fun r j z => by rw [f6.2 r j (by omega), f5.2 r j (by omega), e4 r j (by omega)]
    have l16 : hI h6 366 16 = nI F.length := by rw [f6.2 366 16 (by omega), f5.2 366 16 (by omega)]; exact k16
    have l377 : hI h6 377 F.length = nI f.2.2.1 := by rw [e6 _ _ (by omega)]; exact w3
    have ex : (fun a => bw W.1 A2 (fun i => !hasR W.1 B2 i) a ^^ true) = (fun j => !bw W.1 A2 (fun i => !hasR W.1 B2 i) j) := by funext a; simp
    rw [ex] at ax
    refine bX11_endsFormula_126 (b2 := 377) (n_b2 := 10) x6.1.1 x6.1.ahead.1 x6.1.ahead.2 (by rw [l16]; exact hv0) ?_
    rw [l16, cm0, l377]
    have f7 : fm (fun r j => r = 366 ∧ j = 13) h6 (uI h6 366 13 (nI f.2.2.1)) := fm_uI _ _ _ _
    have g13 : hI (uI h6 366 13 (nI f.2.2.1)) 366 13 = nI f.2.2.1 := hI_uIs _ _ _ _
    generalize uI h6 366 13 (nI f.2.2.1) = h7 at f7 g13 ⊢
    have e7 : ∀ r j, ¬ (r = 366 ∧ (j = 7 ∨ j = 13 ∨ j = 16) ∨ r = 370 ∨ r = 371 ∨ r = 372 ∨ r = 373) → hI h7 r j = hI h r j := fun r j z => by rw [f7.2 r j (by omega), e6 r j (by omega)]
    obtain ⟨z1, z2, z3, z4, z5, z6, z7, z8, z9, z10, z11, z12⟩ := y
    refine k h7 j (((((((fa_f f1 (fun r j z => z)).tr (fa_f f2 (fun r j z => Or.inl z))).tr (f3.mono (fun r j z => ?_))).tr (fa_f f4 (fun r j z => z))).tr (fa_uI (Or.inl rfl))).tr (f6.mono (fun r j z => ?_))).tr (f7.mono (fun r j z => ?_))) ⟨?_, ?_, g13, ?_, ?_, ?_, ?_, ?_, ?_, vk0.l.app (voks.one trivial), z11, fun b hb => z12 b (List.mem_cons_of_mem _ hb)⟩
    · unfold pA; omega
    · unfold pA; omega
    · unfold pA; omega
    · rw [f7.2 366 7 (by omega), a7, List.length_append]; rfl
    · rw [e7 _ _ (by omega)]; exact z2
    · rw [e7 _ _ (by omega)]; exact z4
    · rw [e7 _ _ (by omega)]; exact z5
    · rw [f7.2 366 16 (by omega), l16, List.length_cons, nI_pred]
    · exact fxs_eq (fun r j h1 h2 h3 => e7 r j (by omega)) (fun _ j _ => e7 382 j (by omega)) z7.2
    · exact axs_eq (fun k _ => f7.2 370 k (by omega)) (fun _ j _ => f7.2 371 j (by omega)) ax
    · rw [List.length_append]; exact pp
  refine bX11_endsFormula_30 ?_
  cases e
  · exact bX11_endsFormula_32 (fun hz => absurd hz (by decide +kernel)) (fun _ => bX11_endsFormula_39 x1.1.1 (fun _ => fin h1 _ fm.rf (fun z => by cases z)) (fun hz => absurd x1.2.2.2.2 hz))
  · have main := vl_down 512 (fun i => vm_E mX11_endsFormula d cx n 32 [some (vR (some 366)), some (vI (nI i))] [] (qI h1 372 0 i (fun a => bN (!hasR W.1 B2 a))) Q) (bX11_endsFormula_32 (fun _ => fin _ _ ((fm_qI _ _ _ _ _).mono (fun r j z => z.1)) (fun _ j hj => by rw [hI_qI, if_pos ⟨rfl, Nat.zero_le _, by omega⟩, Nat.sub_zero])) (fun hz => absurd (by decide +kernel) hz)) (fun i hi ih => by
      rw [← qI_s, Nat.zero_add] at ih
      have f2 : fm (fun r j => r = 372 ∧ j < i) h1 (qI h1 372 0 i (fun a => bN (!hasR W.1 B2 a))) := (fm_qI _ _ _ _ _).mono (fun r j z => ⟨z.1, by omega⟩)
      generalize qI h1 372 0 i (fun a => bN (!hasR W.1 B2 a)) = w at f2 ih ⊢
      have x2 := x1.fa (fa_f f2 (fun r j z => Or.inl z.1))
      have hM2 := x2.1
      have bnow : hI w 372 i = bN (hasR W.1 B2 i) := by rw [f2.2 372 _ (by omega)]; exact q1 rfl i hi
      have put : ∀ b : Bool, (!hasR W.1 B2 i) = b → vm_E mX11_endsFormula d cx n 65 [some (vR (some 366)), some (vI (nI i))] [vI (bN b), vI (nI i), vR (some 372)] w Q := fun b eb => by
        refine bX11_endsFormula_65 (n_sa2 := 512) hM2.now.2 (v512 hi) ?_
        rw [cs (by omega), nar_b, nI_1, ← eb]; exact ih
      refine bX11_endsFormula_32 (fun hz => absurd hz (nI_ge (a := i) (b := 512) hi (by decide))) (fun _ => bX11_endsFormula_39 hM2.1 (fun hz => absurd hz (by rw [x2.2.2.2.2]; decide +kernel)) (fun _ => ?_))
      refine bX11_endsFormula_46 (b3 := 372) (n_b3 := 512) hM2.1 hM2.now.1 hM2.now.2 (v512 hi) (fun hz => ?_) (fun hz => ?_)
      · rw [cs (by omega), bnow, bN_i, Bool.not_eq_false] at hz
        rw [hM2.now.1]
        exact bX11_endsFormula_64 (put false (by rw [hz]; rfl))
      · rw [cs (by omega), bnow, bN_i, Classical.not_not] at hz
        rw [hM2.now.1]
        exact bX11_endsFormula_60 (put true (by rw [hz]; rfl)))
    rw [qI_0] at main; exact main
/-- the kind under the frames behind arrows -/
def und : List fR → Nat
  | [] => 0
  | f :: r => if f.1 = 3 then und r else f.1
def okB (F : List fR) : Prop := ∃ f, f ∈ F ∧ ¬ f.1 = 3
theorem und_mk : ∀ F : List fR, und (F.map mkF) = und F
  | [] => rfl
  | f :: r => by
    show (if f.1 = 3 then und (r.map mkF) else f.1) = (if f.1 = 3 then und r else f.1)
    rw [und_mk r]
theorem un_loop : ∀ (F : List fR), LM h → fxs h e F → (∀ f, f ∈ F → f.1 ≤ 3) → F.length ≤ 10 → okB F → Q (some (vI (nI (und F)))) h → vm_E mX11_under d cx n 5 [some (vR (some 366)), some (vI (nI F.length - 1))] [] h Q
  | [], _, _, _, _, ⟨_, hf, _⟩, _ => nomatch hf
  | f :: r, hM, x, h3, hl, hb, k => by
    have hl2 : r.length + 1 ≤ 10 := hl
    have y1 := x.1.1
    have hk := h3 f (List.mem_cons_self ..)
    have hv : vp_in (nI r.length) 10 := vp_in_nI (by omega) (by decide)
    have k : Q (some (vI (nI (if f.1 = 3 then und r else f.1)))) h := k
    rw [List.length_cons, nI_pred]
    have e3 : nI f.1 = 3 ↔ f.1 = 3 := nI_eq (a := f.1) (b := 3) (by omega) (by decide)
    refine bX11_under_5 (b2 := 375) (n_b2 := 10) hM.1 hM.kind.1 hM.kind.2 hv (fun hz => ?_) (fun hz => ?_)
    · rw [cs (by omega), y1, e3] at hz
      rw [if_neg hz] at k
      refine bX11_under_21 (b2 := 375) (n_b2 := 10) hM.1 hM.kind.1 hM.kind.2 hv ?_
      rw [cs (by omega), y1]; exact k
    · rw [cs (by omega), y1, e3, Classical.not_not] at hz
      rw [if_pos hz] at k
      refine bX11_under_15 ?_
      rw [← Int32.sub_eq_add_neg]
      refine un_loop r hM x.2 (fun g hg => h3 g (List.mem_cons_of_mem _ hg)) (by omega) ?_ k
      obtain ⟨g, hg, hn⟩ := hb
      rcases List.mem_cons.mp hg with rfl | hg
      · exact absurd hz hn
      · exact ⟨g, hg, hn⟩
theorem m_under (hM : LM h) (y : mpc h e p K u dp F A) (hF : F.length ≤ 10) (hb : okB F) (k : Q (some (vI (nI (und F)))) h) : vm_C mX11_under d cx n [vR (some 366)] h Q := by
  refine bX11_under_0 hM.1 ?_
  rw [y.2.2.2.2.2.1]
  exact un_loop F hM y.2.2.2.2.2.2.1 (fun f hf => (y.2.2.2.2.2.2.2.2.2.2.2 f hf).1) hF hb k
end
