/-! ===== the reference's reader: frames, unknown variables, units without signs ===== -/
def rowB (f : fR) : Bool := decide (¬ f.1 = 2) && !f.2.2.2.2.2.2.1
def ct (f : fR) : Nat := if f.1 = 2 ∨ f.2.2.2.2.2.2.1 = true ∨ 0 < f.2.2.2.1 then 1 else 0
def mkF (f : fR) : fR := (f.1, f.2.1, f.2.2.1, f.2.2.2.1, rowB f && decide (f.2.2.2.1 = 0), rowB f, f.2.2.2.2.2.2.1, f.2.2.2.2.2.2.2)
def sct : List fR → Nat
  | [] => 0
  | f :: r => sct r + ct f
/-- an unknown variable is found: the first one counts -/
def udf (u : Option Nat) (d : Nat) (F : List fR) (x : Option (Nat × Nat)) : Option Nat × Nat × List fR := match u with
  | some q => (some q, d, F)
  | none => match x with
    | none => (none, d, F)
    | some y => (some y.1, d + y.2 + sct F, F.map mkF)
theorem ct_mk (f : fR) : ct (mkF f) = ct f := rfl
theorem sct_mk : ∀ F : List fR, sct (F.map mkF) = sct F
  | [] => rfl
  | f :: r => by show sct (r.map mkF) + ct (mkF f) = sct r + ct f; rw [sct_mk r, ct_mk]
theorem udf_or (u : Option Nat) (d : Nat) (F : List fR) (x y : Option (Nat × Nat)) : udf (udf u d F x).1 (udf u d F x).2.1 (udf u d F x).2.2 y = udf u d F (or2 x y) := by
  cases u with
  | some q => rfl
  | none => cases x with
    | none => rfl
    | some z => rfl
theorem udf_len (u : Option Nat) (d : Nat) (F : List fR) (x : Option (Nat × Nat)) : (udf u d F x).2.2.length = F.length := by
  cases u with
  | some q => rfl
  | none => cases x with
    | none => rfl
    | some z => exact List.length_map ..
theorem udf_ok {u : Option Nat} {d : Nat} {F : List fR} {x : Option (Nat × Nat)} (h : ∀ q, u = some q → q < 60) (hx : xok x) : ∀ q, (udf u d F x).1 = some q → q < 60 := by
  cases u with
  | some q => exact h
  | none => cases x with
    | none => exact h
    | some z => intro q e; injection e with e; rw [← e]; exact hx z rfl
theorem udf_n (u : Option Nat) (d : Nat) (F : List fR) : udf u d F none = (u, d, F) := by cases u <;> rfl
section
variable {d cx n p K dp : Nat} {h : vH} {e : Bool} {W : wT} {t : Nat → Nat} {L : Nat} {u : Option Nat} {F : List fR} {A : List aT} {Q : vQ}
theorem mpc.top (x : mpc h e p K u dp F A) : hI h 366 16 + 1 = nI F.length := by rw [x.2.2.2.2.2.1]; exact Int32.sub_add_cancel _ _
theorem m_opens {its : Nat} (hM : LM h) (x : mpc h e p K u dp F A) (hF : F.length ≤ 9) (hk : its ≤ 3) (k : ∀ h', fa h h' → mpc h' e p K u dp ((its, A.length, K, 0, false, false, false, fun _ => false) :: F) A → Q none h') : vm_C mX11_opens d cx n [vR (some 366), vI (nI its)] h Q := by
  have e16 := x.top
  obtain ⟨x1, x2, x3, x4, x5, x6, x7, x8, x9, x10, x11, x12⟩ := x
  have hv : vp_in (nI F.length) 10 := vp_in_nI (by omega) (by decide)
  have cm : Int32.toNatClampNeg (nI F.length) = F.length := cs (by omega)
  generalize hm : F.length = m at *
  have b1 : hI (uI h 366 16 (hI h 366 16 + 1)) 366 16 = nI m := by rw [hI_uIs, e16]
  have b2 : hI (uI (uI h 366 16 (hI h 366 16 + 1)) 375 m (nI its)) 366 16 = nI m := by rw [hI_uIn _ _ _ (by decide), b1]
  have b3 : hI (uI (uI h 366 16 (hI h 366 16 + 1)) 375 m (nI its)) 366 7 = nI A.length := by rw [hI_uIn _ _ _ (by decide), hI_uIk _ _ _ (by decide)]; exact x1
  refine bX11_opens_0 (b2 := 375) (n_b2 := 10) (b3 := 376) (n_b3 := 10) hM.1 hM.kind.1 hM.kind.2 (by rw [b1]; exact hv) hM.from.1 hM.from.2 (by rw [b1, cm, b2]; exact hv) ?_
  rw [b1, cm, b2, cm, b3]
  have f1 : fm (fun r j => r = 366 ∧ j = 16 ∨ (r = 375 ∨ r = 376) ∧ j = m) h (uI (uI (uI h 366 16 (hI h 366 16 + 1)) 375 m (nI its)) 376 m (nI A.length)) := ((((fm_uI h 366 16 _).mono (fun r j z => Or.inl z)).tr ((fm_uI _ 375 m _).mono (fun r j z => Or.inr ⟨Or.inl z.1, z.2⟩))).tr ((fm_uI _ 376 m _).mono (fun r j z => Or.inr ⟨Or.inr z.1, z.2⟩)))
  have g1 : hI (uI (uI (uI h 366 16 (hI h 366 16 + 1)) 375 m (nI its)) 376 m (nI A.length)) 375 m = nI its := by rw [hI_uIn _ _ _ (by decide), hI_uIs]
  have g2 : hI (uI (uI (uI h 366 16 (hI h 366 16 + 1)) 375 m (nI its)) 376 m (nI A.length)) 376 m = nI A.length := hI_uIs _ _ _ _
  have g3 : hI (uI (uI (uI h 366 16 (hI h 366 16 + 1)) 375 m (nI its)) 376 m (nI A.length)) 366 16 = nI m := by rw [hI_uIn _ _ _ (by decide), b2]
  generalize uI (uI (uI h 366 16 (hI h 366 16 + 1)) 375 m (nI its)) 376 m (nI A.length) = h1 at f1 g1 g2 g3 ⊢
  have hM1 := hM.fm f1
  have c1 : hI (uI h1 377 m (hI h1 366 13)) 366 16 = nI m := by rw [hI_uIn _ _ _ (by decide), g3]
  have c2 : hI (uI (uI h1 377 m (hI h1 366 13)) 378 m 0) 366 16 = nI m := by rw [hI_uIn _ _ _ (by decide), c1]
  refine bX11_opens_33 (b2 := 377) (n_b2 := 10) (b3 := 378) (n_b3 := 10) (b4 := 379) (n_b4 := 10) hM1.1 hM1.ahead.1 hM1.ahead.2 (by rw [g3]; exact hv) hM1.rows.1 hM1.rows.2 (by rw [g3, cm, c1]; exact hv) hM1.rm.1 hM1.rm.2 (by rw [g3, cm, c1, cm, c2]; exact hv) ?_
  rw [g3, cm, c1, cm, c2, cm]
  have f2 : fm (fun r j => (r = 377 ∨ r = 378 ∨ r = 379) ∧ j = m) h1 (uI (uI (uI h1 377 m (hI h1 366 13)) 378 m 0) 379 m (vp_nar .boolean 0)) := (((fm_uI h1 377 m _).mono (fun r j z => ⟨Or.inl z.1, z.2⟩)).tr ((fm_uI _ 378 m _).mono (fun r j z => ⟨Or.inr (Or.inl z.1), z.2⟩))).tr ((fm_uI _ 379 m _).mono (fun r j z => ⟨Or.inr (Or.inr z.1), z.2⟩))
  have g4 : hI (uI (uI (uI h1 377 m (hI h1 366 13)) 378 m 0) 379 m (vp_nar .boolean 0)) 377 m = nI K := by rw [hI_uIn _ _ _ (by decide), hI_uIn _ _ _ (by decide), hI_uIs, f1.2 366 13 (by omega)]; exact x3
  have g5 : hI (uI (uI (uI h1 377 m (hI h1 366 13)) 378 m 0) 379 m (vp_nar .boolean 0)) 378 m = nI 0 := by rw [hI_uIn _ _ _ (by decide), hI_uIs]; rfl
  have g6 : hI (uI (uI (uI h1 377 m (hI h1 366 13)) 378 m 0) 379 m (vp_nar .boolean 0)) 379 m = bN false := by rw [hI_uIs]; rfl
  generalize uI (uI (uI h1 377 m (hI h1 366 13)) 378 m 0) 379 m (vp_nar .boolean 0) = h2 at f2 g4 g5 g6 ⊢
  have hM2 := hM1.fm f2
  have g3' : hI h2 366 16 = nI m := by rw [f2.2 366 16 (by omega), g3]
  have c3 : hI (uI h2 380 m (vp_nar .boolean 0)) 366 16 = nI m := by rw [hI_uIn _ _ _ (by decide), g3']
  refine bX11_opens_66 (b2 := 380) (n_b2 := 10) (b3 := 381) (n_b3 := 10) hM2.1 hM2.am.1 hM2.am.2 (by rw [g3']; exact hv) hM2.ha.1 hM2.ha.2 (by rw [g3', cm, c3]; exact hv) ?_
  rw [g3', cm, c3, cm]
  have f3 : fm (fun r j => (r = 380 ∨ r = 381) ∧ j = m) h2 (uI (uI h2 380 m (vp_nar .boolean 0)) 381 m (vp_nar .boolean 0)) := ((fm_uI h2 380 m _).mono (fun r j z => ⟨Or.inl z.1, z.2⟩)).tr ((fm_uI _ 381 m _).mono (fun r j z => ⟨Or.inr z.1, z.2⟩))
  have g7 : hI (uI (uI h2 380 m (vp_nar .boolean 0)) 381 m (vp_nar .boolean 0)) 380 m = bN false := by rw [hI_uIn _ _ _ (by decide), hI_uIs]; rfl
  have g8 : hI (uI (uI h2 380 m (vp_nar .boolean 0)) 381 m (vp_nar .boolean 0)) 381 m = bN false := by rw [hI_uIs]; rfl
  generalize uI (uI h2 380 m (vp_nar .boolean 0)) 381 m (vp_nar .boolean 0) = h3 at f3 g7 g8 ⊢
  have e1 : ∀ r j, ¬ (r = 366 ∧ j = 16 ∨ 375 ≤ r ∧ r ≤ 381 ∧ j = m) → hI h3 r j = hI h r j := fun r j z => by
    rw [f3.2 r j (by omega), f2.2 r j (by omega), f1.2 r j (by omega)]
  refine k h3 (((f1.mono (fun r j z => ?_)).tr (f2.mono (fun r j z => ?_))).tr (f3.mono (fun r j z => ?_))) ⟨?_, ?_, ?_, ?_, ?_, ?_, ⟨⟨?_, ?_, ?_, ?_, ?_, ?_, ?_, ?_⟩, ?_⟩, ?_, x9, x10, x11, fun f hf => ?_⟩
  · unfold pA; omega
  · unfold pA; omega
  · unfold pA; omega
  · rw [e1 _ _ (by omega)]; exact x1
  · rw [e1 _ _ (by omega)]; exact x2
  · rw [e1 _ _ (by omega)]; exact x3
  · rw [e1 _ _ (by omega)]; exact x4
  · rw [e1 _ _ (by omega)]; exact x5
  · rw [f3.2 366 16 (by omega), g3', List.length_cons, hm, nI_pred]
  · rw [hm, f3.2 375 m (by omega), f2.2 375 m (by omega)]; exact g1
  · rw [hm, f3.2 376 m (by omega), f2.2 376 m (by omega)]; exact g2
  · rw [hm, f3.2 377 m (by omega)]; exact g4
  · rw [hm, f3.2 378 m (by omega)]; exact g5
  · rw [hm, f3.2 379 m (by omega)]; exact g6
  · rw [hm]; exact g7
  · rw [hm]; exact g8
  · intro _ hr; exact absurd hr (Nat.lt_irrefl 0)
  · exact fxs_eq (fun r j h1 h2 h3 => e1 r j (by omega)) (fun _ j _ => e1 382 j (by omega)) x7
  · exact axs_eq (fun k _ => e1 370 k (by omega)) (fun _ j _ => e1 371 j (by omega)) x8
  · rcases List.mem_cons.mp hf with rfl | hf
    · exact ⟨hk, Nat.zero_le _⟩
    · exact x12 f hf
/-- what finding does to a frame, from the bottom up -/
theorem fi_loop {N q : Nat} (hN : N ≤ 10) : ∀ (F : List fR) (h : vH), F.length ≤ N → LM h → hI h 366 16 = nI N - 1 → hI h 366 15 = nI dp → fxs h e F → fok 100 F →
    (∀ h' o3, fm (fun r j => r = 366 ∧ j = 15 ∨ (r = 379 ∨ r = 380) ∧ j < F.length) h h' → hI h' 366 15 = nI (dp + sct F) → fxs h' e (F.map mkF) → vm_E mX11_finds d cx n 7 [some (vR (some 366)), some (vI (nI q)), some (vI (nI F.length)), o3] [] h' Q) → ∀ o3, vm_E mX11_finds d cx n 7 [some (vR (some 366)), some (vI (nI q)), some (vI (nI 0)), o3] [] h Q
  | [], h, _, _, _, e15, _, _, k, o3 => k h o3 fm.rf e15 trivial
  | f :: r, h, hl, hM, e16, e15, x, hok, k, o3 => by
    have hl2 : r.length + 1 ≤ N := hl
    refine fi_loop hN r h (by omega) hM e16 e15 x.2 (fun g hg => hok g (List.mem_cons_of_mem _ hg)) (fun h1 o3 f1 q15 xr => ?_) o3
    have hM1 := hM.fm f1
    have e16' : hI h1 366 16 = nI N - 1 := by rw [f1.2 366 16 (by omega)]; exact e16
    obtain ⟨y1, y2, y3, y4, y5, y6, y7, y8⟩ := x.1
    obtain ⟨hk3, hr100⟩ := hok f (List.mem_cons_self ..)
    have hv : vp_in (nI r.length) 10 := vp_in_nI (by omega) (by decide)
    have cm : Int32.toNatClampNeg (nI r.length) = r.length := cs (by omega)
    have z1 : hI h1 375 (Int32.toNatClampNeg (nI r.length)) = nI f.1 := by rw [cm, f1.2 375 _ (by omega)]; exact y1
    have z4 : hI h1 378 (Int32.toNatClampNeg (nI r.length)) = nI f.2.2.2.1 := by rw [cm, f1.2 378 _ (by omega)]; exact y4
    have z7 : hI h1 381 (Int32.toNatClampNeg (nI r.length)) = bN f.2.2.2.2.2.2.1 := by rw [cm, f1.2 381 _ (by omega)]; exact y7
    have i2 : nI f.1 = 2 ↔ f.1 = 2 := nI_eq (a := f.1) (b := 2) (by omega) (by decide)
    have i0 : nI f.2.2.2.1 ≤ 0 ↔ f.2.2.2.1 = 0 := by
      rw [show (0 : Int32) = nI 0 from rfl, nI_leI (by omega) (by decide)]; omega
    have i00 : nI f.2.2.2.1 = 0 ↔ f.2.2.2.1 = 0 := nI_eq (a := f.2.2.2.1) (b := 0) (by omega) (by decide)
    refine bX11_finds_7 hM1.1 (fun hz => absurd hz (by
      rw [e16', Int32.lt_iff_toInt_lt, show (1 : Int32) = nI 1 from rfl, pk_sub_toInt (by omega) (by decide), nI_toInt (by omega)]
      omega)) (fun _ => ?_)
    -- the end of a frame
    have put : ∀ (c m : Bool), c = decide (ct f = 1) → m = rowB f → vm_E mX11_finds d cx n 82 [some (vR (some 366)), some (vI (nI q)), some (vI (nI r.length)), some (vI (bN m))] [vI (bN c), vI (hI h1 366 15), vR (some 366)] h1 Q := by
      intro c m ec em
      have ecn : hI h1 366 15 + bN c = nI (dp + sct (f :: r)) := by
        rw [q15]
        show _ = nI (dp + (sct r + ct f))
        have h01 : ct f = 0 ∨ ct f = 1 := by unfold ct; split; exact Or.inr rfl; exact Or.inl rfl
        rcases h01 with h0 | h1
        · rw [ec, h0]; show nI _ + nI 0 = _; rw [nI_add, Nat.add_assoc]
        · rw [ec, h1]; show nI _ + nI 1 = _; rw [nI_add, Nat.add_assoc]
      have f2 : fm (fun r j => r = 366 ∧ j = 15) h1 (uI h1 366 15 (nI (dp + sct (f :: r)))) := fm_uI _ _ _ _
      have hM2 := hM1.fm f2
      have w4 : hI (uI h1 366 15 (nI (dp + sct (f :: r)))) 378 (Int32.toNatClampNeg (nI r.length)) = nI f.2.2.2.1 := by rw [hI_uIn _ _ _ (by decide)]; exact z4
      have fin : ∀ b : Bool, b = (rowB f && decide (f.2.2.2.1 = 0)) → vm_E mX11_finds d cx n 109 [some (vR (some 366)), some (vI (nI q)), some (vI (nI r.length)), some (vI (bN m))] [vI (bN b), vI (nI r.length), vR (some 379)] (uI h1 366 15 (nI (dp + sct (f :: r)))) Q := by
        intro b eb
        have hM3 : LM (uI (uI h1 366 15 (nI (dp + sct (f :: r)))) 379 (Int32.toNatClampNeg (nI r.length)) (vp_nar .boolean (bN b))) := hM2.fm (fm_uI _ _ _ _)
        refine bX11_finds_109 (n_sa2 := 10) (b3 := 380) (n_b3 := 10) hM2.rm.2 hv hM2.1 hM3.am.1 hM3.am.2 hv ?_
        rw [cm, nar_b, nar_b, nI_1]
        have f3 : fm (fun r' j => r' = 366 ∧ j = 15 ∨ (r' = 379 ∨ r' = 380) ∧ j = r.length) h1 (uI (uI (uI h1 366 15 (nI (dp + sct (f :: r)))) 379 r.length (bN b)) 380 r.length (bN m)) := ((f2.mono (fun r' j z => Or.inl z)).tr ((fm_uI _ 379 _ _).mono (fun r' j z => Or.inr ⟨Or.inl z.1, z.2⟩))).tr ((fm_uI _ 380 _ _).mono (fun r' j z => Or.inr ⟨Or.inr z.1, z.2⟩))
        refine k _ _ ((f1.mono (fun r' j z => ?_)).tr (f3.mono (fun r' j z => ?_))) ?_ ⟨?_, ?_⟩
        · show r' = 366 ∧ j = 15 ∨ (r' = 379 ∨ r' = 380) ∧ j < r.length + 1
          omega
        · show r' = 366 ∧ j = 15 ∨ (r' = 379 ∨ r' = 380) ∧ j < r.length + 1
          omega
        · rw [hI_uIn _ _ _ (by decide), hI_uIn _ _ _ (by decide), hI_uIs]
        · have hlr : (r.map mkF).length = r.length := List.length_map ..
          show fx _ e (mkF f) (r.map mkF).length
          rw [hlr]
          refine ⟨?_, ?_, ?_, ?_, ?_, ?_, ?_, fun he hr a ha => ?_⟩
          · rw [f3.2 375 _ (by omega), f1.2 375 _ (by omega)]; exact y1
          · rw [f3.2 376 _ (by omega), f1.2 376 _ (by omega)]; exact y2
          · rw [f3.2 377 _ (by omega), f1.2 377 _ (by omega)]; exact y3
          · rw [f3.2 378 _ (by omega), f1.2 378 _ (by omega)]; exact y4
          · rw [hI_uIn _ _ _ (by decide), hI_uIs, eb]; rfl
          · rw [hI_uIs, em]; rfl
          · rw [f3.2 381 _ (by omega), f1.2 381 _ (by omega)]; exact y7
          · rw [f3.2 382 _ (by omega), f1.2 382 _ (by omega)]; exact y8 he hr a ha
        · have hlr : (r.map mkF).length = r.length := List.length_map ..
          exact fxs_eq (fun r' j h1 h2 h3 => f3.2 r' j (by omega)) (fun _ j _ => f3.2 382 j (by omega)) xr
      refine bX11_finds_82 hM1.1 hM1.1 (fun hz => ?_) (fun hz => ?_)
      · rw [ecn, show hR (uI h1 366 15 (nI (dp + sct (f :: r)))) 366 21 = some 379 from hM2.rm.1]
        exact bX11_finds_108 (fin false (by rw [← em, bN_0 hz]; rfl))
      · rw [ecn, show hR (uI h1 366 15 (nI (dp + sct (f :: r)))) 366 21 = some 379 from hM2.rm.1]
        have hm1 := bN_1 hz
        refine bX11_finds_95 (b3 := 378) (n_b3 := 10) hM2.1 hM2.rows.1 hM2.rows.2 hv (fun hy => ?_) (fun hy => ?_)
        · rw [w4, i00] at hy
          exact bX11_finds_108 (fin false (by rw [← em, hm1, decide_eq_false hy]; rfl))
        · rw [w4, i00, Classical.not_not] at hy
          exact bX11_finds_104 (fin true (by rw [← em, hm1, decide_eq_true hy]; rfl))
    have mid : ∀ m : Bool, m = rowB f → ∀ o3, vm_E mX11_finds d cx n 39 [some (vR (some 366)), some (vI (nI q)), some (vI (nI r.length)), o3] [vI (bN m)] h1 Q := by
      intro m em o3
      refine bX11_finds_39 (b2 := 375) (n_b2 := 10) hM1.1 hM1.kind.1 hM1.kind.2 hv (fun hz => bX11_finds_77 (put true m ?_ em)) (fun hz => bX11_finds_55 (b3 := 381) (n_b3 := 10) hM1.1 hM1.ha.1 hM1.ha.2 hv (fun hy => bX11_finds_77 (put true m ?_ em)) (fun hy => bX11_finds_64 (fun hx => bX11_finds_81 (put false m ?_ em)) (fun hx => bX11_finds_68 (b3 := 378) (n_b3 := 10) hM1.1 hM1.rows.1 hM1.rows.2 hv (fun hw => bX11_finds_81 (put false m ?_ em)) (fun hw => bX11_finds_77 (put true m ?_ em)))))
      · rw [z1, i2] at hz
        rw [show ct f = 1 from if_pos (Or.inl hz)]; rfl
      · rw [z7] at hy
        rw [show ct f = 1 from if_pos (Or.inr (Or.inl (bN_1 hy)))]; rfl
      · rw [z1, i2] at hz
        rw [z7, Classical.not_not, bN_i] at hy
        have := bN_0 hx
        rw [em] at this
        unfold rowB at this
        rw [hy, decide_eq_true hz] at this
        exact absurd this (by decide)
      · rw [z1, i2] at hz
        rw [z7, Classical.not_not, bN_i] at hy
        rw [z4, i0] at hw
        rw [show ct f = 0 from if_neg (by rw [hy, hw]; intro c; rcases c with c | c | c; exact hz c; exact absurd c (by decide); exact absurd c (by decide))]; rfl
      · rw [z4, i0] at hw
        rw [show ct f = 1 from if_pos (Or.inr (Or.inr (by omega)))]; rfl
    refine bX11_finds_15 (b2 := 375) (n_b2 := 10) hM1.1 hM1.kind.1 hM1.kind.2 hv (fun hz => bX11_finds_38 (mid false ?_ _)) (fun hz => bX11_finds_25 (b2 := 381) (n_b2 := 10) hM1.1 hM1.ha.1 hM1.ha.2 hv (fun hy => bX11_finds_38 (mid false ?_ _)) (fun hy => bX11_finds_34 (mid true ?_ _)))
    · rw [z1, i2] at hz
      unfold rowB; rw [decide_eq_false (show ¬ ¬ f.1 = 2 from fun c => c hz)]; rfl
    · rw [z7] at hy
      unfold rowB; rw [bN_1 hy]; simp
    · rw [z1, i2] at hz
      rw [z7, Classical.not_not, bN_i] at hy
      unfold rowB; rw [hy, decide_eq_true hz]; rfl
theorem m_finds (hM : LM h) (x : mpc h e p K none dp F A) (hF : F.length ≤ 10) (hp : p < 60) (k : ∀ h', fa h h' → mpc h' e p K (some p) (dp + sct F) (F.map mkF) A → Q none h') : vm_C mX11_finds d cx n [vR (some 366), vI (nI p)] h Q := by
  obtain ⟨x1, x2, x3, x4, x5, x6, x7, x8, x9, x10, x11, x12⟩ := x
  have f1 : fm (fun r j => r = 366 ∧ j = 14) h (uI h 366 14 (nI p)) := fm_uI _ _ _ _
  have g14 : hI (uI h 366 14 (nI p)) 366 14 = nI p := hI_uIs _ _ _ _
  refine bX11_finds_0 hM.1 ?_
  generalize uI h 366 14 (nI p) = h1 at f1 g14 ⊢
  have hlr : (F.map mkF).length = F.length := List.length_map ..
  refine fi_loop (N := F.length) (dp := dp) (e := e) hF F h1 (Nat.le_refl _) (hM.fm f1) (by rw [f1.2 366 16 (by omega)]; exact x6) (by rw [f1.2 366 15 (by omega)]; exact x5) (fxs_eq (fun r j h1 h2 h3 => f1.2 r j (by omega)) (fun _ j _ => f1.2 382 j (by omega)) x7) (x12.le (by omega)) (fun h2 o3 f2 q15 xr => ?_) none
  have q16 : hI h2 366 16 = nI F.length - 1 := by rw [f2.2 366 16 (by omega), f1.2 366 16 (by omega)]; exact x6
  refine bX11_finds_7 (hM.fm f1 |>.fm f2).1 (fun _ => bX11_finds_123 (k h2 ((f1.mono (fun r j z => ?_)).tr (f2.mono (fun r j z => ?_))) ⟨?_, ?_, ?_, ?_, q15, by rw [hlr]; exact q16, xr, ?_, x9, x10, fun q z => by injection z with z; omega, fun f hf => ?_⟩)) (fun hz => absurd (by
    rw [q16, Int32.lt_iff_toInt_lt, show (1 : Int32) = nI 1 from rfl, pk_sub_toInt (by omega) (by decide), nI_toInt (by omega)]
    omega) hz)
  · unfold pA; omega
  · unfold pA; omega
  · rw [f2.2 366 7 (by omega), f1.2 366 7 (by omega)]; exact x1
  · rw [f2.2 366 12 (by omega), f1.2 366 12 (by omega)]; exact x2
  · rw [f2.2 366 13 (by omega), f1.2 366 13 (by omega)]; exact x3
  · rw [f2.2 366 14 (by omega), g14]; rfl
  · exact axs_eq (fun k _ => by rw [f2.2 370 k (by omega), f1.2 370 k (by omega)]) (fun _ j _ => by rw [f2.2 371 j (by omega), f1.2 371 j (by omega)]) x8
  · obtain ⟨g, hg, rfl⟩ := List.mem_map.mp hf
    exact x12 g hg
end
