/-! ===== the reference: its context turned, looked at, counted, taken ===== -/
def cxt (h : vH) (C : Nat → Bool) : Prop := ∀ j, j < 512 → hI h 374 j = bN (C j)
theorem cxt.fm {A : Nat → Nat → Prop} {h h' : vH} {C : Nat → Bool} (x : cxt h C) (f : fm A h h') (hA : ∀ r j, A r j → r ≠ 374) : cxt h' C := fun j hj => by
  rw [f.2 374 j (fun z => hA _ _ z rfl)]; exact x j hj
theorem cxt.e {h : vH} {C C2 : Nat → Bool} (x : cxt h C) (e : eS C C2) : cxt h C2 := fun j hj => by rw [x j hj, e j hj]
def gA (a : aT) (C : Nat → Bool) : Nat → Bool := match a with
  | .inl _ => fun _ => false
  | .inr X => fun j => C j && X j
theorem st_iff {v j i o : Nat} (hv : v < 3) (hj : j < 512) (hi : i < 512) (ho : o < 8) : j = stv i v o ↔ stv j v 0 = stv i v 0 ∧ ofv j v = o := by
  constructor
  · intro e
    rw [e]
    exact ⟨stv_st hv hi ho (by decide), (ofv_st v hv i hi o ho).2⟩
  · rintro ⟨e1, e2⟩
    rw [← stv_id hv hj, e2, ← stv_st (o := 0) hv hj (by decide) ho, e1, stv_st hv hi (by decide) ho]
def fF (n v : Nat) (C : Nat → Bool) (m k : Nat) : Bool := inO n (ofv k v) && ox (fun a => C a && decide (stv k v 0 = stv a v 0)) m
theorem fF_512 {n v : Nat} (hv : v < 3) (C : Nat → Bool) : eS (fF n v C 512) (fw1 n (.inl v) C) := fun k hk => by
  show (inO n (ofv k v) && ox (fun a => C a && decide (stv k v 0 = stv a v 0)) 512) = (inO n (ofv k v) && ox (fun o => C (stv k v o)) 8)
  suffices key : ox (fun a => C a && decide (stv k v 0 = stv a v 0)) 512 = ox (fun o => C (stv k v o)) 8 by rw [key]
  refine Bool.eq_iff_iff.mpr ⟨fun z => ?_, fun z => ?_⟩
  · obtain ⟨a, ha, q⟩ := ox_t.mp z
    rw [Bool.and_eq_true] at q
    refine ox_t.mpr ⟨ofv a v, ofv_lt a v, ?_⟩
    rw [← stv_st (o := 0) hv hk (by decide) (ofv_lt a v), of_decide_eq_true q.2, stv_st hv ha (by decide) (ofv_lt a v), stv_id hv ha]
    exact q.1
  · obtain ⟨o, ho, q⟩ := ox_t.mp z
    refine ox_t.mpr ⟨stv k v o, (ofv_st v hv k hk o ho).1, ?_⟩
    rw [q, stv_st hv hk ho (by decide), decide_eq_true rfl]; rfl
theorem fF_0 (n v : Nat) (C : Nat → Bool) (k : Nat) : fF n v C 0 k = false := Bool.and_false _
theorem fF_s (n v : Nat) (C : Nat → Bool) (m k : Nat) : fF n v C (m + 1) k = (fF n v C m k || (C m && decide (stv k v 0 = stv m v 0) && inO n (ofv k v))) := by
  show (inO n (ofv k v) && (ox (fun a => C a && decide (stv k v 0 = stv a v 0)) m || (C m && decide (stv k v 0 = stv m v 0)))) = ((inO n (ofv k v) && ox (fun a => C a && decide (stv k v 0 = stv a v 0)) m) || (C m && decide (stv k v 0 = stv m v 0) && inO n (ofv k v)))
  cases inO n (ofv k v)
  · rw [Bool.and_false]; rfl
  · rw [Bool.and_true]; rfl
def fG (n v : Nat) (C : Nat → Bool) (m o k : Nat) : Bool := fF n v C m k || (C m && decide (stv k v 0 = stv m v 0) && inO n (ofv k v) && decide (ofv k v < o))
section
variable {d cx n : Nat} {h : vH} {W : wT} {Q : vQ} {x1 : Int32}
theorem m_turnA {k0 : Nat} {a : aT} {C : Nat → Bool} {o3 o4 : Option vV} (hM : LM h) (hk : k0 < 62) (va : vok a) (ha : ax1 h true a k0) (hC : cxt h C)
    (k : ∀ u, fm (fun r _ => r = 373 ∨ r = 374) h u → (∀ j, j < 512 → hI u 373 j = bN (C j)) → cxt u (gA a C) → ∀ x3, vm_E mX11_turns d cx n 82 [some (vR (some 366)), some (vI x1), some (vI (nI k0)), some (vI x3), o4] [] u Q) : vm_E mX11_turns d cx n 10 [some (vR (some 366)), some (vI x1), some (vI (nI k0)), o3, o4] [] h Q := by
  refine bX11_turns_10 ?_
  have main := vl_down 512 (fun i => ∀ u, fm (fun r _ => r = 373 ∨ r = 374) h u → (∀ j, j < i → hI u 373 j = bN (C j)) → (∀ j, j < 512 → hI u 374 j = bN (if j < i then gA a C j else C j)) → vm_E mX11_turns d cx n 12 [some (vR (some 366)), some (vI x1), some (vI (nI k0)), some (vI (nI i)), o4] [] u Q)
    (fun u f e3 e4 => bX11_turns_12 (fun _ => k u f e3 (fun j hj => by rw [e4 j hj, if_pos hj]) _) (fun hz => absurd (by decide +kernel) hz))
    (fun i hi ih u f e3 e4 => by
      have hMu := hM.fm f
      have ck : Int32.toNatClampNeg (nI k0) = k0 := cs (by omega)
      have ci : Int32.toNatClampNeg (nI i) = i := cs (by omega)
      have ei : hI u 374 i = bN (C i) := by rw [e4 i hi, if_neg (Nat.lt_irrefl i)]
      have step : ∀ y : Bool, gA a C i = y → vm_E mX11_turns d cx n 75 [some (vR (some 366)), some (vI x1), some (vI (nI k0)), some (vI (nI i)), o4] [vI (bN y), vI (nI i), vR (some 374)] (uI u 373 i (bN (C i))) Q := fun y ey => by
        refine bX11_turns_75 (n_sa2 := 512) hMu.con.2 (v512 hi) ?_
        rw [ci, nar_b, nI_1, ← ey]
        refine ih _ (f.tr (((fm_uI _ 373 i _).mono (fun r j z => Or.inl z.1)).tr ((fm_uI _ 374 i _).mono (fun r j z => Or.inr z.1)))) (fun j hj => ?_) (fun j hj => ?_)
        · rw [hI_uIn _ _ _ (by decide), hI_uI]
          by_cases hji : j = i
          · rw [if_pos ⟨rfl, hji⟩, hji]
          · rw [if_neg (fun z => hji z.2)]; exact e3 j (by omega)
        · rw [hI_uI]
          by_cases hji : j = i
          · rw [if_pos ⟨rfl, hji⟩, hji, if_pos (Nat.lt_succ_self i)]
          · rw [if_neg (fun z => hji z.2), hI_uIn _ _ _ (by decide), e4 j hj]
            by_cases hj2 : j < i
            · rw [if_pos hj2, if_pos (by omega)]
            · rw [if_neg hj2, if_neg (by omega)]
      refine bX11_turns_12 (fun hz => absurd hz (nI_ge (a := i) (b := 512) hi (by decide))) (fun _ => ?_)
      have f1 : fm (fun r _ => r = 373) u (uI u 373 i (bN (C i))) := (fm_uI _ 373 i _).mono (fun r j z => z.1)
      have e373 : hI (uI u 373 i (bN (C i))) 373 i = bN (C i) := hI_uIs _ _ _ _
      refine bX11_turns_19 (b2 := 373) (b3 := 374) (b5 := 370) (n_b3 := 512) (n_b2 := 512) (n_b5 := 62) hMu.1 hMu.then.1 hMu.con.1 hMu.con.2 (v512 hi) hMu.then.2 (v512 hi) hMu.act.1 hMu.act.2 (vp_in_nI hk (by decide)) ?_ ?_
      all_goals rw [ci, ck, ei, nar_b]
      all_goals generalize uI u 373 i (bN (C i)) = w at f1 step e373 ⊢
      all_goals have hMw := hMu.fm f1
      all_goals rw [hMw.con.1, f1.2 370 k0 (by omega), f.2 370 k0 (by omega), ha.1]
      · intro hz
        match a, va, ha, step with
        | .inl v, va, ha, step => exact bX11_turns_74 (step false rfl)
        | .inr X, va, ha, step => exact absurd rfl hz
      · intro hz
        match a, va, ha, step, hz with
        | .inl v, va, ha, step, hz =>
          have hv : v < 3 := va
          refine absurd (Classical.byContradiction hz) (fun z => ?_)
          have := (nI_eq (a := v) (b := 3) (by omega) (by decide)).mp z
          omega
        | .inr X, va, ha, step, _ =>
          have e512 : 512 * nI k0 + nI i = nI (512 * k0 + i) := by rw [show (512 : Int32) = nI 512 from rfl, mulI, nI_add]
          have eX : hI w 371 (512 * k0 + i) = bN (X i) := by rw [f1.2 371 _ (by omega), f.2 371 _ (by omega)]; exact ha.2 rfl X rfl i hi
          refine bX11_turns_46 (b3 := 373) (n_b3 := 512) hMw.1 hMw.then.1 hMw.then.2 (v512 hi) (fun hz => ?_) (fun hz => ?_)
          · rw [ci, e373, bN_i] at hz
            exact bX11_turns_74 (step false (by show (C i && X i) = false; rw [hz]; rfl))
          · rw [ci, e373, bN_i, Bool.not_eq_false] at hz
            refine bX11_turns_55 (b3 := 371) (n_b3 := 31744) hMw.1 hMw.pass.1 hMw.pass.2 (by rw [e512]; exact vp_in_nI (by omega) (by decide)) (fun hy => ?_) (fun hy => ?_)
            · rw [e512, cs (by omega), eX, bN_i] at hy
              exact bX11_turns_74 (step false (by show (C i && X i) = false; rw [hz, hy]; rfl))
            · rw [e512, cs (by omega), eX, bN_i, Bool.not_eq_false] at hy
              exact bX11_turns_70 (step true (by show (C i && X i) = true; rw [hz, hy]; rfl)))
  exact main h fm.rf (fun j hj => by omega) (fun j hj => by rw [if_neg (by omega)]; exact hC j hj)
theorem m_turnB {k0 v : Nat} {C : Nat → Bool} (hd : 1 ≤ d) (hM : LM h) (w : mV h W) (hk : k0 < 62) (hv : v < 3) (ea : hI h 370 k0 = nI v) (e373 : ∀ j, j < 512 → hI h 373 j = bN (C j)) (hC : cxt h (fun _ => false))
    (k : ∀ u, fm (fun r _ => r = 374) h u → cxt u (fw1 W.1 (.inl v) C) → ∀ x3 o4, vm_E mX11_turns d cx n 167 [some (vR (some 366)), some (vI x1), some (vI (nI k0)), some (vI x3), o4] [] u Q) (o4 : Option vV) : vm_E mX11_turns d cx n 84 [some (vR (some 366)), some (vI x1), some (vI (nI k0)), some (vI (nI 0)), o4] [] h Q := by
  have hp : 1 ≤ 2 ^ W.1 ∧ 2 ^ W.1 ≤ 8 := (by decide : ∀ m, m < 4 → 1 ≤ 2 ^ m ∧ 2 ^ m ≤ 8) _ w.2.2.1
  have ck : Int32.toNatClampNeg (nI k0) = k0 := cs (by omega)
  have main := vl_down 512 (fun i => ∀ u o4, fm (fun r _ => r = 374) h u → cxt u (fF W.1 v C i) → vm_E mX11_turns d cx n 84 [some (vR (some 366)), some (vI x1), some (vI (nI k0)), some (vI (nI i)), o4] [] u Q)
    (fun u o4 f c => bX11_turns_84 (fun _ => k u f (c.e (fF_512 hv C)) _ o4) (fun hz => absurd (by decide +kernel) hz))
    (fun i hi ih u o4 f c => by
      have ci : Int32.toNatClampNeg (nI i) = i := cs (by omega)
      have hMu := hM.fm f
      have eau : ∀ u', fm (fun r _ => r = 374) h u' → hI u' 370 k0 = nI v := fun u' f' => by rw [f'.2 370 _ (by omega)]; exact ea
      refine bX11_turns_84 (fun hz => absurd hz (nI_ge (a := i) (b := 512) hi (by decide))) (fun _ => bX11_turns_91 (b2 := 370) (n_b2 := 62) hMu.1 hMu.act.1 hMu.act.2 (vp_in_nI hk (by decide)) (fun hz => ?_) (fun _ => bX11_turns_101 ?_))
      · rw [ck, eau u f] at hz
        have := (nI_eq (a := v) (b := 3) (by omega) (by decide)).mp hz
        omega
      · have next : ∀ u' o, fm (fun r _ => r = 374) h u' → cxt u' (fF W.1 v C (i + 1)) → vm_E mX11_turns d cx n 161 [some (vR (some 366)), some (vI x1), some (vI (nI k0)), some (vI (nI i)), some (vI o)] [] u' Q := fun u' o f' c' => by
          refine bX11_turns_161 ?_
          rw [nI_1]
          exact ih u' _ f' c'
        have loop := vl_from (2 ^ W.1) 1 hp.1 (fun o => ∀ u', fm (fun r _ => r = 374) h u' → cxt u' (fG W.1 v C i o) → vm_E mX11_turns d cx n 104 [some (vR (some 366)), some (vI x1), some (vI (nI k0)), some (vI (nI i)), some (vI (nI o))] [] u' Q)
          (fun u' f' c' => by
            have hM' := hM.fm f'
            have w' := w.fm f' (fun r j z => by omega)
            refine bX11_turns_104 (R := fun r h' => r = some (vI (nI (2 ^ W.1 - 1))) ∧ u' = h') hM'.1 hd (m_full hM' w.2.2.1 w'.1 ⟨rfl, rfl⟩) ?_
            rintro r h' ⟨rfl, rfl⟩
            refine bX11_turns_110 (fun _ => next u' _ f' (c'.e (fun k hk => ?_))) (fun hz => absurd (nI_lt (by omega) (by omega)) hz)
            rw [fF_s]
            unfold fG
            cases ex : inO W.1 (ofv k v)
            · rw [Bool.and_false, Bool.false_and]
            · rw [decide_eq_true (inO_t.mp ex).2, Bool.and_true])
          (fun o h1 h2 oh u' f' c' => by
            have hM' := hM.fm f'
            have w' := w.fm f' (fun r j z => by omega)
            have e3 : hI u' 373 i = bN (C i) := by rw [f'.2 373 _ (by omega)]; exact e373 i hi
            refine bX11_turns_104 (R := fun r h' => r = some (vI (nI (2 ^ W.1 - 1))) ∧ u' = h') hM'.1 hd (m_full hM' w.2.2.1 w'.1 ⟨rfl, rfl⟩) ?_
            rintro r h' ⟨rfl, rfl⟩
            refine bX11_turns_110 (fun hz => absurd hz (nI_nlt (by omega) (by omega))) (fun _ => bX11_turns_113 (b2 := 373) (n_b2 := 512) hM'.1 hM'.then.1 hM'.then.2 (v512 hi) (fun hz => ?_) (fun hz => ?_))
            · rw [ci, e3, bN_i] at hz
              refine next u' _ f' (c'.e (fun k hk => ?_))
              unfold fG
              rw [fF_s, hz, Bool.false_and, Bool.false_and, Bool.false_and]
            · rw [ci, e3, bN_i, Bool.not_eq_false] at hz
              have hin : inO W.1 o = true := inO_t.mpr ⟨h1, h2⟩
              have st := (ofv_st v hv i hi o (by omega)).1
              have ei : (nI i &&& (((7 : Int32) <<< ((3 * (hI u' 370 (Int32.toNatClampNeg (nI k0)))) &&& (31 : Int32))) ^^^ (-1))) ||| (nI o <<< ((3 * (hI u' 370 (Int32.toNatClampNeg (nI k0)))) &&& (31 : Int32))) = nI (stv i v o) := by
                rw [ck, eau u' f']; exact stvN v hv i hi o (by omega)
              refine bX11_turns_122 (b2 := 374) (b3 := 370) (b4 := 370) (n_b3 := 62) (n_b4 := 62) (n_b2 := 512) hM'.1 hM'.con.1 hM'.act.1 hM'.act.2 (vp_in_nI hk (by decide)) hM'.act.1 hM'.act.2 (vp_in_nI hk (by decide)) hM'.con.2 (by rw [ei]; exact v512 st) ?_
              rw [ei, cs (by omega), nar_1, nI_1]
              refine oh _ (f'.tr ((fm_uI _ 374 _ _).mono (fun r j z => z.1))) (fun j hj => ?_)
              rw [hI_uI]
              unfold fG
              by_cases ej : j = stv i v o
              · obtain ⟨q1, q2⟩ := (st_iff hv hj hi (by omega)).mp ej
                rw [if_pos ⟨rfl, ej⟩, hz, q1, q2, hin, decide_eq_true rfl, decide_eq_true (Nat.lt_succ_self o), Bool.and_true, Bool.and_true, Bool.and_true, Bool.or_true]
              · rw [if_neg (fun z => ej z.2), c' j hj]
                unfold fG
                by_cases q1 : stv j v 0 = stv i v 0
                · have q2 : ¬ ofv j v = o := fun z => ej ((st_iff hv hj hi (by omega)).mpr ⟨q1, z⟩)
                  have q3 : decide (ofv j v < o + 1) = decide (ofv j v < o) := decide_eq_decide.mpr ⟨fun z => by omega, fun z => by omega⟩
                  rw [q3]
                · rw [decide_eq_false q1, Bool.and_false, Bool.false_and, Bool.false_and, Bool.false_and])
        refine loop u f (c.e (fun k hk => ?_))
        unfold fG
        cases ex : inO W.1 (ofv k v)
        · rw [Bool.and_false, Bool.false_and, Bool.or_false]
        · have := inO_t.mp ex
          rw [decide_eq_false (show ¬ ofv k v < 1 by omega), Bool.and_false, Bool.or_false])
  exact main h o4 fm.rf (hC.e (fun k hk => (fF_0 _ _ _ _).symm))
theorem m_turns {A : List aT} {C : Nat → Bool} (hd : 1 ≤ d) (hM : LM h) (w : mV h W) (e7 : hI h 366 7 = nI A.length) (hl : A.length ≤ 62) (x : axs h true A) (vA : voks A) (hC : cxt h C)
    (k : ∀ h', fm (fun r _ => r = 373 ∨ r = 374) h h' → cxt h' (fw W.1 A C) → Q none h') : vm_C mX11_turns d cx n [vR (some 366), vI 0] h Q := by
  have key : ∀ (A2 A1 : List aT) (C : Nat → Bool) (u : vH) (o3 o4 : Option vV), A = A1 ++ A2 → fm (fun r _ => r = 373 ∨ r = 374) h u → cxt u C → (∀ h', fm (fun r _ => r = 373 ∨ r = 374) h h' → cxt h' (fw W.1 A2 C) → Q none h') → vm_E mX11_turns d cx n 2 [some (vR (some 366)), some (vI 0), some (vI (nI A1.length)), o3, o4] [] u Q := by
    intro A2
    induction A2 with
    | nil =>
      intro A1 C u o3 o4 eA f c kk
      rw [List.append_nil] at eA
      subst eA
      have hMu := hM.fm f
      refine bX11_turns_2 hMu.1 (fun _ => bX11_turns_173 (kk u f c)) (fun hz => absurd ?_ hz)
      rw [f.2 366 7 (by omega), e7]
      exact Int32.le_refl _
    | cons a r ih =>
      intro A1 C u o3 o4 eA f c kk
      have hMu := hM.fm f
      have hlen : A.length = A1.length + (r.length + 1) := by rw [eA, List.length_append]; rfl
      have ga : A[A1.length]? = some a := by rw [eA, List.getElem?_append_right (Nat.le_refl _), Nat.sub_self]; rfl
      have hx := x _ _ ga
      have ha : ∀ u', fm (fun r _ => r = 373 ∨ r = 374) h u' → ax1 u' true a A1.length := fun u' f' => ⟨by rw [f'.2 370 _ (by omega)]; exact hx.1, fun he X eX i hi => by rw [f'.2 371 _ (by omega)]; exact hx.2 he X eX i hi⟩
      have va : vok a := vA a (by rw [eA]; exact List.mem_append_right _ (List.mem_cons_self ..))
      have fin : ∀ u', fm (fun r _ => r = 373 ∨ r = 374) h u' → cxt u' (fw1 W.1 a C) → ∀ x3 o4, vm_E mX11_turns d cx n 167 [some (vR (some 366)), some (vI 0), some (vI (nI A1.length)), some (vI x3), o4] [] u' Q := fun u' f' c' x3 o4 => by
        refine bX11_turns_167 ?_
        rw [nI_1]
        have := ih (A1 ++ [a]) (fw1 W.1 a C) u' (some (vI x3)) o4 (by rw [eA, List.append_assoc]; rfl) f' c' kk
        rw [List.length_append] at this
        exact this
      refine bX11_turns_2 hMu.1 (fun hz => ?_) (fun _ => m_turnA hMu (by omega) va (ha u f) c (fun u1 f1 e1 c1 x3 => ?_))
      · rw [f.2 366 7 (by omega), e7] at hz
        exact absurd hz (nI_ge (by omega) (by omega))
      · have f2 := f.tr f1
        have hM1 := hM.fm f2
        refine bX11_turns_82 ?_
        match a, va, ha, c1, fin with
        | .inl v, va, ha, c1, fin =>
          exact m_turnB hd hM1 (w.fm f2 (fun r j z => by omega)) (by omega) va (ha u1 f2).1 e1 c1 (fun u2 f3 c2 x3 o4 => fin u2 (f2.tr (f3.mono (fun r j z => Or.inr z))) c2 x3 o4) o4
        | .inr X, va, ha, c1, fin =>
          refine bX11_turns_84 (fun hz => absurd hz (by decide +kernel)) (fun _ => bX11_turns_91 (b2 := 370) (n_b2 := 62) hM1.1 hM1.act.1 hM1.act.2 (vp_in_nI (by omega) (by decide)) (fun _ => fin u1 f2 c1 _ _) (fun hz => absurd ?_ hz))
          rw [cs (by omega)]; exact (ha u1 f2).1
  exact bX11_turns_0 (key A [] C h _ _ rfl fm.rf hC k)
theorem m_inContext {C : Nat → Bool} (hM : LM h) (hC : cxt h C) (k : Q (some (vI (nI (cn C 512)))) h) : vm_C mX11_inContext d cx n [vR (some 366)] h Q := by
  refine bX11_inContext_0 ?_
  have main := vl_down 512 (fun i => vm_E mX11_inContext d cx n 4 [some (vR (some 366)), some (vI (nI (cn C i))), some (vI (nI i))] [] h Q)
    (bX11_inContext_4 (fun _ => bX11_inContext_34 k) (fun hz => absurd (by decide +kernel) hz))
    (fun i hi ih => by
      have st : ∀ b : Bool, C i = b → vm_E mX11_inContext d cx n 26 [some (vR (some 366)), some (vI (nI (cn C i))), some (vI (nI i))] [vI (bN b), vI (nI (cn C i))] h Q := fun b eb => by
        refine bX11_inContext_26 ?_
        rw [cn_s, eb] at ih
        rw [nI_1]
        cases b
        · rw [show nI (cn C i) + bN false = nI (cn C i + 0) by rw [← nI_add]; rfl]; exact ih
        · rw [show nI (cn C i) + bN true = nI (cn C i + 1) by rw [← nI_add]; rfl]; exact ih
      refine bX11_inContext_4 (fun hz => absurd hz (nI_ge (a := i) (b := 512) hi (by decide))) (fun _ => bX11_inContext_11 (b2 := 374) (n_b2 := 512) hM.1 hM.con.1 hM.con.2 (v512 hi) (fun hz => bX11_inContext_25 (st false ?_)) (fun hz => bX11_inContext_21 (st true ?_)))
      · rw [cs (by omega), hC i hi, bN_i] at hz; exact hz
      · rw [cs (by omega), hC i hi, bN_i, Bool.not_eq_false] at hz; exact hz)
  exact main
theorem m_isSupported {A : List aT} {C : Nat → Bool} (hd : 3 ≤ d) (hM : LM h) (w : mV h W) (e11 : hI h 366 11 = bN true) (e7 : hI h 366 7 = nI A.length) (hl : A.length ≤ 62) (x : axs h true A) (vA : voks A) (hC : cxt h C)
    (k : ∀ h', fm (fun r _ => r = 372 ∨ r = 373) h h' → Q (some (vI (bN (al C (hasR W.1 A))))) h') : vm_C mX11_isSupported d cx n [vR (some 366), vI 0] h Q := by
  refine bX11_isSupported_0 (R := fun r h' => r = none ∧ fm (fun r _ => r = 372 ∨ r = 373) h h' ∧ ∀ j, j < 512 → hI h' 372 j = bN (hasR W.1 A j)) hM.1 (by omega) (m_hasResults (A1 := []) (A2 := A) (by omega) hM w e11 e7 hl x vA (fun h' f q => ⟨rfl, f, q rfl⟩)) ?_
  rintro r u ⟨rfl, f, q⟩
  have hMu := hM.fm f
  have c := hC.fm f (fun r j z => by omega)
  refine bX11_isSupported_5 ?_
  have main := vl_down 512 (fun i => vm_E mX11_isSupported d cx n 9 [some (vR (some 366)), some (vI 0), some (vI (bN (decide (cn (fun k => C k && !hasR W.1 A k) i = 0)))), some (vI (nI i))] [] u Q)
    (bX11_isSupported_9 (fun _ => bX11_isSupported_50 (by cases decide (cn (fun k => C k && !hasR W.1 A k) 512 = 0) <;> rfl) (k u f)) (fun hz => absurd (by decide +kernel) hz))
    (fun i hi ih => by
      have st : ∀ b : Bool, decide (cn (fun k => C k && !hasR W.1 A k) (i + 1) = 0) = b → vm_E mX11_isSupported d cx n 43 [some (vR (some 366)), some (vI 0), some (vI (bN (decide (cn (fun k => C k && !hasR W.1 A k) i = 0)))), some (vI (nI i))] [vI (bN b)] u Q := fun b eb => by
        refine bX11_isSupported_43 ?_
        rw [nI_1, ← eb]; exact ih
      refine bX11_isSupported_9 (fun hz => absurd hz (nI_ge (a := i) (b := 512) hi (by decide))) (fun _ => bX11_isSupported_16 (fun hz => bX11_isSupported_42 (st false ?_)) (fun hz => ?_))
      · have := of_decide_eq_false (bN_i.mp hz)
        refine decide_eq_false (fun z => this ?_)
        rw [cn_s] at z; omega
      · have h0 := of_decide_eq_true (bN_1 hz)
        have es : ∀ b : Bool, (C i && !hasR W.1 A i) = b → decide (cn (fun k => C k && !hasR W.1 A k) (i + 1) = 0) = !b := fun b eb => by
          rw [cn_s, h0, eb]; cases b <;> rfl
        refine bX11_isSupported_20 (b2 := 374) (n_b2 := 512) hMu.1 hMu.con.1 hMu.con.2 (v512 hi) (fun hy => bX11_isSupported_38 (st true (es false ?_))) (fun hy => ?_)
        · rw [cs (by omega), c i hi, bN_i] at hy; rw [hy]; rfl
        · rw [cs (by omega), c i hi, bN_i, Bool.not_eq_false] at hy
          refine bX11_isSupported_29 (b2 := 372) (n_b2 := 512) hMu.1 hMu.now.1 hMu.now.2 (v512 hi) (fun hx => bX11_isSupported_42 (st false (es true ?_))) (fun hx => bX11_isSupported_38 (st true (es false ?_)))
          · rw [cs (by omega), q i hi, bN_i] at hx; rw [hy, hx]; rfl
          · rw [cs (by omega), q i hi, bN_i, Bool.not_eq_false] at hx; rw [hy, hx]; rfl)
  exact main
theorem m_takesContext {S : Nat → Int32} {b : Bool} (hd : 1 ≤ d) (hM : LM h) (hs : mS h S)
    (k : ∀ h', fm (fun r _ => r = 374) h h' → cxt h' (fun j => if b then decide (j = 0) else ctx S j) → Q none h') : vm_C mX11_takesContext d cx n [vR (some 366), vI (bN b)] h Q := by
  refine bX11_takesContext_0 ?_
  have main := vl_down 512 (fun i => vm_E mX11_takesContext d cx n 2 [some (vR (some 366)), some (vI (bN b)), some (vI (nI i))] [] (qI h 374 0 i (fun j => bN (if b then decide (j = 0) else ctx S j))) Q)
    (bX11_takesContext_2 (fun _ => bX11_takesContext_42 (k _ ((fm_qI _ _ _ _ _).mono (fun r j z => z.1)) (fun j hj => by rw [hI_qI, if_pos ⟨rfl, Nat.zero_le _, by omega⟩, Nat.sub_zero]))) (fun hz => absurd (by decide +kernel) hz))
    (fun i hi ih => by
      rw [← qI_s, Nat.zero_add] at ih
      have f : fm (fun r _ => r = 374) h (qI h 374 0 i (fun j => bN (if b then decide (j = 0) else ctx S j))) := (fm_qI _ _ _ _ _).mono (fun r j z => z.1)
      generalize qI h 374 0 i (fun j => bN (if b then decide (j = 0) else ctx S j)) = u at f ih ⊢
      have hMu := hM.fm f
      have st : ∀ y : Bool, (if b then decide (i = 0) else ctx S i) = y → vm_E mX11_takesContext d cx n 35 [some (vR (some 366)), some (vI (bN b)), some (vI (nI i))] [vI (bN y), vI (nI i), vR (some 374)] u Q := fun y ey => by
        refine bX11_takesContext_35 (n_sa2 := 512) hMu.con.2 (v512 hi) ?_
        rw [cs (by omega), nar_b, nI_1, ← ey]; exact ih
      refine bX11_takesContext_2 (fun hz => absurd hz (nI_ge (a := i) (b := 512) hi (by decide))) (fun _ => bX11_takesContext_9 hMu.1 (fun hz => ?_) (fun hz => ?_))
      · rw [hMu.con.1]
        have hb := bN_0 hz
        refine bX11_takesContext_30 (R := fun r h' => r = some (vI (bN (ctx S i))) ∧ u = h') hMu.1 hd (m_isThere hMu (mS.fm f hs (fun r j z => by omega)) hi ⟨rfl, rfl⟩) ?_
        rintro r h' ⟨rfl, rfl⟩
        exact st _ (by rw [hb]; rfl)
      · rw [hMu.con.1]
        have hb := bN_1 hz
        refine bX11_takesContext_18 (fun h0 => bX11_takesContext_26 (st false ?_)) (fun h0 => bX11_takesContext_22 (st true ?_))
        · rw [hb]; exact decide_eq_false (fun z => h0 (by rw [z]; rfl))
        · rw [hb]
          refine decide_eq_true ((nI_eq (a := i) (b := 0) (by omega) (by decide)).mp ?_)
          exact Classical.byContradiction h0)
  rw [qI_0] at main; exact main
end
