/-! ===== the reference's simple methods ===== -/
def mtx (h : vH) (t : Nat → Nat) (L : Nat) : Prop := hI h 366 4 = nI L ∧ ∀ i, i < L → hI h 369 i = nI (t i)
theorem mtx.fm {A : Nat → Nat → Prop} {h h' : vH} {t : Nat → Nat} {L : Nat} (f : fm A h h') (x : mtx h t L) (hA : ∀ r j, A r j → ¬ (r = 366 ∧ j = 4) ∧ r ≠ 369) : mtx h' t L :=
  ⟨by rw [f.2 366 4 (fun z => (hA _ _ z).1 ⟨rfl, rfl⟩)]; exact x.1, fun i hi => by rw [f.2 369 i (fun z => (hA _ _ z).2 rfl)]; exact x.2 i hi⟩
def mR (h : vH) (S : Nat → Int32) (H : List (Nat → Int32)) (t : Nat → Nat) (L : Nat) : Prop := LM h ∧ mS h S ∧ mh h H ∧ mtx h t L
theorem mR.n {h : vH} {S : Nat → Int32} {H : List (Nat → Int32)} {t : Nat → Nat} {L : Nat} (x : mR h S H t L) (hS : Sok S) : hI h 367 0 = nI (nS S) := by rw [← hS.n.1]; exact x.2.1 0 (by decide)
def bN (b : Bool) : Int32 := if b then 1 else 0
theorem bN_st {x : Nat} {i : Nat} (hi : i < 32) : (((nI x >>> (nI i &&& 31)) &&& 1) = 1 ↔ x.testBit i = true) ∧ (((nI x >>> (nI i &&& 31)) &&& 1) = 0 ↔ x.testBit i = false) := by
  have e : bI (nI x) i = x.testBit i := by rw [bI_nI, decide_eq_true hi, Bool.true_and]
  exact ⟨by rw [bI_st1 hi, e], by rw [bI_st hi, e]⟩
theorem bN_v {x : Nat} {i : Nat} (hi : i < 32) : ((nI x >>> (nI i &&& 31)) &&& 1) = bN (x.testBit i) := by
  cases e : x.testBit i
  · exact (bN_st hi).2.mpr e
  · exact (bN_st hi).1.mpr e
theorem or_step : ∀ m, m < 8 → ∀ q, q < 8 → ∀ j, j < 3 → nI (m ||| q % 2 ^ j) ||| (if q.testBit j then nI (2 ^ j) else 0) = nI (m ||| q % 2 ^ (j + 1)) := by decide +kernel
theorem any_step : ∀ q, q < 8 → ∀ j, j < 3 → (decide (¬ q % 2 ^ j = 0) || q.testBit j) = decide (¬ q % 2 ^ (j + 1) = 0) := by decide +kernel
theorem m_holds {d c n rel r one o : Nat} {h : vH} {Q : vQ} (hM : LM h) (hrel : rel < 2) (hr : hI h 367 (4 + rel) = nI r) (h1 : one < 8) (h2 : o < 8) (k : Q (some (vI (if relN r one o then 1 else 0))) h) : vm_C mX11_holds d c n [vR (some 366), vI (nI rel), vI (nI one), vI (nI o)] h Q := by
  refine bX11_holds_0 ?_
  have e4 : 4 + nI rel = nI (4 + rel) := by rw [show (4 : Int32) = nI 4 from rfl, nI_add]
  refine vl_down 3 (fun i => ∀ o7 o8 o9, vm_E mX11_holds d c n 9 [some (vR (some 366)), some (vI (nI rel)), some (vI (nI one)), some (vI (nI o)), some (vI (nI (rcN r one o i))), some (vI (bN (okN r one o i))), some (vI (nI i)), o7, o8, o9] [] h Q) ?_ ?_ none none none
  · intro o7 o8 o9
    refine bX11_holds_9 (fun _ => ?_) (fun hn => absurd (by decide +kernel) hn)
    have hle := rcN_le r one o h2 3
    unfold relN at k
    cases eo : okN r one o 3
    · rw [eo] at k
      exact bX11_holds_149 (fun _ => bX11_holds_164 (bX11_holds_165 rfl k)) (fun hc => absurd rfl hc)
    · rw [eo, Bool.true_and] at k
      refine bX11_holds_149 (fun hc => absurd hc (by decide +kernel)) (fun _ => bX11_holds_154 (fun hc => bX11_holds_164 (bX11_holds_165 rfl ?_)) (fun hc => bX11_holds_160 (bX11_holds_165 rfl ?_)))
      · rw [decide_eq_false (fun z => hc (by rw [z]))] at k; exact k
      · rw [decide_eq_true ((nI_eq (a := rcN r one o 3) (b := o) (by omega) (by omega)).mp (Classical.byContradiction hc))] at k; exact k
  · intro i hi ih o7 o8 o9
    have aft : ∀ (b7 : Bool) (x8 : Int32) (o9 : Option vV) (met : Nat), rcN r one o (i + 1) = met → okN r one o (i + 1) = (okN r one o i && (b7 || !one.testBit i)) → vm_E mX11_holds d c n 117 [some (vR (some 366)), some (vI (nI rel)), some (vI (nI one)), some (vI (nI o)), some (vI (nI met)), some (vI (bN (okN r one o i))), some (vI (nI i)), some (vI (bN b7)), some (vI x8), o9] [] h Q := by
      intro b7 x8 o9 met e1 e2
      have ih' := ih (some (vI (bN b7))) (some (vI x8)) o9
      rw [e1, e2] at ih'
      cases eo : okN r one o i
      · rw [eo] at ih'
        refine bX11_holds_117 (fun _ => bX11_holds_140 (bX11_holds_141 ?_)) (fun hc => absurd rfl hc)
        rw [nI_1]; exact ih'
      · rw [eo, Bool.true_and] at ih'
        refine bX11_holds_117 (fun hc => absurd hc (by decide +kernel)) (fun _ => ?_)
        cases b7
        · rw [Bool.false_or] at ih'
          refine bX11_holds_122 (fun hc => absurd rfl hc) (fun _ => bX11_holds_127 (fun hc => bX11_holds_140 (bX11_holds_141 ?_)) (fun hc => bX11_holds_136 (bX11_holds_141 ?_)))
          · rw [(bN_st (by omega)).2, Bool.not_eq_false] at hc
            rw [hc] at ih'; rw [nI_1]; exact ih'
          · rw [(bN_st (by omega)).2] at hc
            rw [Classical.byContradiction hc] at ih'; rw [nI_1]; exact ih'
        · refine bX11_holds_122 (fun _ => bX11_holds_136 (bX11_holds_141 ?_)) (fun hc => absurd (by decide +kernel) hc)
          rw [nI_1]; exact ih'
    have hq : (r / 2 ^ (3 * i)) &&& o < 8 := Nat.and_lt_two_pow _ (show o < 2 ^ 3 from h2)
    refine bX11_holds_9 (fun hc => absurd hc (nI_ge (a := i) (b := 3) hi (by decide))) (fun _ => bX11_holds_15 ?_)
    cases hb : one.testBit i
    · refine bX11_holds_21 (fun hc => absurd hc (by decide +kernel)) (fun _ => bX11_holds_27 (fun _ => aft false 0 o9 _ ?_ ?_) (fun hc => ?_))
      · show (rcN r one o i ||| (if one.testBit i then (r / 2 ^ (3 * i)) &&& o else 0)) = _
        rw [hb, if_neg (by decide), Nat.or_zero]
      · show (okN r one o i && (!one.testBit i || decide (¬ (r / 2 ^ (3 * i)) &&& o = 0))) = _
        rw [hb]; rfl
      · rw [(bN_st (by omega)).1, hb] at hc; exact absurd (by decide) hc
    · have e1 : rcN r one o (i + 1) = (rcN r one o i ||| (r / 2 ^ (3 * i)) &&& o) := by
        show (rcN r one o i ||| (if one.testBit i then (r / 2 ^ (3 * i)) &&& o else 0)) = _
        rw [hb, if_pos rfl]
      have e2 : okN r one o (i + 1) = (okN r one o i && (decide (¬ (r / 2 ^ (3 * i)) &&& o = 0) || !one.testBit i)) := by
        show (okN r one o i && (!one.testBit i || decide (¬ (r / 2 ^ (3 * i)) &&& o = 0))) = _
        rw [hb, Bool.or_comm]
      have hle := rcN_le r one o h2 i
      generalize hqe : (r / 2 ^ (3 * i)) &&& o = q at e1 e2 hq
      have g0 := vl_down 3 (fun j => ∀ o9, vm_E mX11_holds d c n 21 [some (vR (some 366)), some (vI (nI rel)), some (vI (nI one)), some (vI (nI o)), some (vI (nI (rcN r one o i ||| q % 2 ^ j))), some (vI (bN (okN r one o i))), some (vI (nI i)), some (vI (bN (decide (¬ q % 2 ^ j = 0)))), some (vI (nI j)), o9] [] h Q) (fun o9 => bX11_holds_21 (fun _ => by
          rw [show q % 2 ^ 3 = q from Nat.mod_eq_of_lt hq]
          exact aft _ _ _ _ e1 e2) (fun hn => absurd (by decide +kernel) hn)) (fun j hj ihj o9 => by
        refine bX11_holds_21 (fun hc => absurd hc (nI_ge (a := j) (b := 3) hj (by decide))) (fun _ => bX11_holds_27 (fun hc => absurd ((bN_st (by omega)).1.mpr hb) hc) (fun _ => ?_))
        have fin : ∀ b9 : Bool, b9 = q.testBit j → vm_E mX11_holds d c n 74 [some (vR (some 366)), some (vI (nI rel)), some (vI (nI one)), some (vI (nI o)), some (vI (nI (rcN r one o i ||| q % 2 ^ j))), some (vI (bN (okN r one o i))), some (vI (nI i)), some (vI (bN (decide (¬ q % 2 ^ j = 0)))), some (vI (nI j)), o9] [vI (bN b9)] h Q := by
          intro b9 hb9
          have s1 := or_step _ hle q hq j hj
          have s2 := any_step q hq j hj
          have ihj := ihj (some (vI (bN b9)))
          rw [← s1, ← s2, ← hb9] at ihj
          have nxt : vm_E mX11_holds d c n 91 [some (vR (some 366)), some (vI (nI rel)), some (vI (nI one)), some (vI (nI o)), some (vI (nI (rcN r one o i ||| q % 2 ^ j))), some (vI (bN (okN r one o i))), some (vI (nI i)), some (vI (bN (decide (¬ q % 2 ^ j = 0)))), some (vI (nI j)), some (vI (bN b9))] [vI (bN (decide (¬ q % 2 ^ j = 0) || b9))] h Q := by
            cases b9
            · refine bX11_holds_91 (fun _ => bX11_holds_107 (bX11_holds_108 ?_)) (fun hc => absurd rfl hc)
              rw [nI_1]; exact ihj
            · refine bX11_holds_91 (fun hc => absurd hc (by decide +kernel)) (fun _ => bX11_holds_100 (bX11_holds_108 ?_))
              rw [nI_1, shl1 j (by omega)]; exact ihj
          refine bX11_holds_74 (fun hc => ?_) (fun hc => ?_)
          · cases ea : decide (¬ q % 2 ^ j = 0)
            · rw [ea] at hc; exact absurd rfl hc
            · rw [ea, Bool.true_or] at nxt; exact bX11_holds_86 nxt
          · cases ea : decide (¬ q % 2 ^ j = 0)
            · rw [ea, Bool.false_or] at nxt
              cases b9
              · exact bX11_holds_81 (fun _ => bX11_holds_90 nxt) (fun hc => absurd rfl hc)
              · exact bX11_holds_81 (fun hc => absurd hc (by decide +kernel)) (fun _ => bX11_holds_86 nxt)
            · rw [ea] at hc; exact absurd (by decide +kernel) hc
        have eq : q.testBit j = (r.testBit (3 * i + j) && o.testBit j) := by rw [← hqe, Nat.testBit_and, Nat.testBit_div_two_pow, Nat.add_comm]
        have e3 : 3 * nI i + nI j = nI (3 * i + j) := by rw [li_3, mulI, nI_add]
        refine bX11_holds_37 (fun hc => bX11_holds_73 (fin false ?_)) (fun ho => bX11_holds_47 (b2 := 367) (n_b2 := 25) hM.1 hM.s.1 hM.s.2 (by rw [e4]; exact vp_in_nI (by omega) (by decide)) (fun hc => bX11_holds_73 (fin false ?_)) (fun hc => bX11_holds_69 (fin true ?_)))
        · rw [(bN_st (by omega)).1, Bool.not_eq_true] at hc
          rw [eq, hc, Bool.and_false]
        · rw [e4, cs (show 4 + rel < _ by omega), hr, e3, (bN_st (by omega)).1, Bool.not_eq_true] at hc
          rw [eq, hc, Bool.false_and]
        · have ho := (bN_st (x := o) (i := j) (by omega)).1.mp (Classical.byContradiction ho)
          have hc := Classical.byContradiction hc
          rw [e4, cs (show 4 + rel < _ by omega), hr, e3, (bN_st (by omega)).1] at hc
          rw [eq, hc, ho]; rfl)
      have g1 := g0 o9
      simp only [Nat.pow_zero, Nat.mod_one, Nat.or_zero] at g1
      exact g1
