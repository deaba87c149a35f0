/-! ===== the reference's reader: units without signs ===== -/
theorem mpc.mv {h h' : vH} {e : Bool} {p p' K K' dp : Nat} {u : Option Nat} {F : List fR} {A : List aT} {B : Nat → Nat → Prop} (x : mpc h e p K u dp F A) (f : fm B h h') (hB : ∀ r j, B r j → (r = 366 ∧ (j = 12 ∨ j = 13)) ∨ r = 372 ∨ r = 373) (ep : hI h' 366 12 = nI p') (ek : hI h' 366 13 = nI K') (hp : p ≤ p') : mpc h' e p' K' u dp F A := by
  obtain ⟨x1, x2, x3, x4, x5, x6, x7, x8, x9, x10, x11, x12⟩ := x
  have q : ∀ r j, ¬ ((r = 366 ∧ (j = 12 ∨ j = 13)) ∨ r = 372 ∨ r = 373) → hI h' r j = hI h r j := fun r j z => f.2 r j (fun w => z (hB r j w))
  exact ⟨by rw [q _ _ (by omega)]; exact x1, ep, ek, by rw [q _ _ (by omega)]; exact x4, by rw [q _ _ (by omega)]; exact x5, by rw [q _ _ (by omega)]; exact x6, fxs_eq (fun r j h1 h2 h3 => q r j (by omega)) (fun _ j _ => q 382 j (by omega)) x7, axs_eq (fun k _ => q 370 k (by omega)) (fun _ j _ => q 371 j (by omega)) x8, by omega, x10, x11, x12.le hp⟩
theorem mpc.at {h : vH} {e : Bool} {p p' K dp : Nat} {u : Option Nat} {F : List fR} {A : List aT} (x : mpc h e p K u dp F A) (hp : p ≤ p') : mpc (uI h 366 12 (nI p')) e p' K u dp F A :=
  x.mv (fm_uI h 366 12 _) (fun r j z => Or.inl ⟨z.1, Or.inl z.2⟩) (hI_uIs _ _ _ _) (by rw [hI_uIk _ _ _ (by decide)]; exact x.2.2.1) hp
theorem nx_t : ∀ s, s < 127 → ∀ i, i < 3 → (((if s = 0 then (-7 : Int32) else nI s) - 120 = nI i) ↔ s = 120 + i) := by decide +kernel
theorem nx_r : ∀ s, s < 127 → ∀ a, a < 5 → ((if s = 0 then (-7 : Int32) else nI s) = nI (112 + a) ↔ s = 112 + a) ∧ (a < 3 → ((if s = 0 then (-7 : Int32) else nI s) = nI (49 + a) ↔ s = 49 + a)) := by decide +kernel
theorem isv_in {c : Nat → Nat} {p : Nat} (hc : c p < 127) : inr (nx c p - 120) 0 2 ↔ isv (c p) = true := by
  rw [isv_iff]
  constructor
  · rintro ⟨i, _, h2, ei⟩
    have := (nx_t _ hc i (by omega)).mp ei
    omega
  · rintro ⟨h1, h2⟩
    exact ⟨c p - 120, by omega, by omega, (nx_t _ hc _ (by omega)).mpr (by omega)⟩
theorem isv_v {c : Nat → Nat} {p : Nat} (hc : c p < 127) (h : isv (c p) = true) : nx c p - 120 = nI (c p - 120) := by
  have := isv_iff.mp h
  exact (nx_t _ hc _ (by omega)).mpr (by omega)
section
variable {d cx n p K dp : Nat} {h : vH} {e : Bool} {W : wT} {t : Nat → Nat} {L : Nat} {u : Option Nat} {F : List fR} {A : List aT} {Q : vQ}
theorem mE.c127 (x : mE h e W t L) (i : Nat) : chAt t L i < 127 := by
  unfold chAt; split
  · exact (x.2.2.2.1.2 i (by assumption)).2
  · decide
def vu (b : Bool) (u : Option Nat) (dp : Nat) (F : List fR) (x : Option (Nat × Nat)) : Option Nat × Nat × List fR := if b then udf u dp F x else (u, dp, F)
theorem m_variable {b : Bool} (hd : 2 ≤ d) (x : mE h e W t L) (y : mpc h e p K u dp F A) (hF : F.length ≤ 10) (hp : p ≤ L)
    (k1 : isv (chAt t L p) = true → ∀ h', fa h h' → mpc h' e (p + 1) K (vu b u dp F (lk1 (chAt t L p - 120) p K)).1 (vu b u dp F (lk1 (chAt t L p - 120) p K)).2.1 (vu b u dp F (lk1 (chAt t L p - 120) p K)).2.2 A → Q (some (vI (nI (chAt t L p - 120)))) h')
    (k0 : ¬ isv (chAt t L p) = true → Q (some (vI (-7))) h) : vm_C mX11_variable d cx n [vR (some 366), vI (bN b)] h Q := by
  have hM := x.1
  have hL := x.2.2.2.1.1
  have hc := x.c127 p
  refine bX11_variable_0 (R := fun r h' => r = some (vI (nx (chAt t L) p)) ∧ h = h') hM.1 (by omega) (m_next x y.2.1 (by omega) ⟨rfl, rfl⟩) ?_
  rintro r h' ⟨rfl, rfl⟩
  refine bX11_variable_4 (R := rB h (inr (nx (chAt t L) p - 120) 0 2) (¬ inr (nx (chAt t L) p - 120) 0 2)) (by omega) (m_in (a := 0) (b := 2) (by decide) (by decide)) ?_
  rintro r h' ⟨rfl, ⟨hz, rfl⟩ | ⟨hz, rfl⟩⟩
  · rw [isv_in hc] at hz
    have hv := isv_iff.mp hz
    have k1 := k1 hz
    have pL : p < L := isv_lt (c := chAt t L) (fun i hi => by unfold chAt; rw [if_neg (by omega)]) hz
    refine bX11_variable_14 (fun _ => ?_) (fun hq => absurd (by decide +kernel) hq)
    rw [isv_v hc hz]
    have fin : ∀ (u' : Option Nat) (d' : Nat) (F' : List fR), (u', d', F') = vu b u dp F (lk1 (chAt t L p - 120) p K) → ∀ h', fa h h' → mpc h' e p K u' d' F' A → vm_E mX11_variable d cx n 52 [some (vR (some 366)), some (vI (bN b)), some (vI (nI (chAt t L p - 120)))] [] h' Q := by
      intro u' d' F' eu h' f y'
      rw [← eu] at k1
      refine bX11_variable_52 (x.fa f).1.1 ?_
      rw [y'.2.1, nI_1]
      exact k1 _ (f.tr (fa_uI (Or.inr ⟨by decide, by decide⟩))) (y'.at (by omega))
    have same : lk1 (chAt t L p - 120) p K = none ∨ b = false → vm_E mX11_variable d cx n 52 [some (vR (some 366)), some (vI (bN b)), some (vI (nI (chAt t L p - 120)))] [] h Q := fun hs => by
      refine fin u dp F ?_ h fa.rf y
      unfold vu
      rcases hs with hs | hs
      · rw [hs, udf_n]; split <;> rfl
      · rw [hs]; rfl
    refine bX11_variable_20 (fun hq => same (Or.inr (bN_0 hq))) (fun hq => ?_)
    have hb := bN_1 hq
    refine bX11_variable_24 hM.1 (fun hq => same (Or.inl ?_)) (fun hq => ?_)
    · rw [y.2.2.1, (bN_st (by omega)).2, Bool.not_eq_false] at hq
      unfold lk1; rw [if_pos hq]
    · have hq := Classical.byContradiction hq
      rw [y.2.2.1, (bN_st (by omega)).2] at hq
      have el : lk1 (chAt t L p - 120) p K = some (p, 0) := by unfold lk1; rw [if_neg (by rw [hq]; decide)]
      refine bX11_variable_35 hM.1 (fun hw => ?_) (fun hw => ?_)
      · have hu : ¬ u = none := fun z => hw (by rw [y.2.2.2.1, z]; rfl)
        cases u with
        | none => exact absurd rfl hu
        | some q => exact fin (some q) dp F (by unfold vu; rw [hb]; rfl) h fa.rf y
      · have hw := Classical.byContradiction hw
        rw [y.2.2.2.1] at hw
        have hu : u = none := by
          cases u with
          | none => rfl
          | some q => exact absurd hw (nI_m7 (y.2.2.2.2.2.2.2.2.2.2.1 q rfl))
        subst hu
        refine bX11_variable_44 (R := fun r h' => r = none ∧ fa h h' ∧ mpc h' e p K (some p) (dp + sct F) (F.map mkF) A) hM.1 (by omega) (by rw [y.2.1]; exact m_finds hM y hF (by omega) (fun h' f q => ⟨rfl, f, q⟩)) ?_
        rintro r h' ⟨rfl, f, q⟩
        exact fin _ _ _ (by unfold vu; rw [hb, el]; rfl) h' f q
  · rw [isv_in hc] at hz
    exact bX11_variable_14 (fun hq => absurd rfl hq) (fun _ => bX11_variable_17 (k0 hz))
/-- the sign of a test -/
def chk (s kd nm : Nat) : Prop := s = 112 + nm ∧ kd = 7 ∧ nm < 3 ∨ s = 115 + nm ∧ kd = 8 ∧ nm < 2 ∨ s = 61 ∧ kd = 9 ∨ s = 60 ∧ kd = 10 ∨ s = 48 + nm ∧ kd = 11 ∧ 1 ≤ nm ∧ nm ≤ 3
theorem iso_t : ∀ s, s < 127 → Op.lookupswitch.offset (#[(60, 113), (61, 102), (112, 67), (113, 67), (114, 67), (115, 91), (116, 91)] : Array (Int × Int)).toList 127 (Int32.toInt (nI s)) = if s = 60 then 113 else if s = 61 then 102 else if s = 112 ∨ s = 113 ∨ s = 114 then 67 else if s = 115 ∨ s = 116 then 91 else 127 := by decide +kernel
theorem one_t : ∀ o, o < 8 → ((nI o &&& 1) + ((nI o >>> ((1 : Int32) &&& (31 : Int32))) &&& 1)) + ((nI o >>> ((2 : Int32) &&& (31 : Int32))) &&& 1) = nI (cn (fun i => o.testBit i) 3) := by decide +kernel
theorem m_isSo {s kd nm o e' : Nat} (hd : 1 ≤ d) (hM : LM h) (w : mV h W) (hc : chk s kd nm) (ho : o < 8) (he : e' < 8) (k : Q (some (vI (bN (hld W kd nm o e')))) h) : vm_C mX11_isSo d cx n [vR (some 366), vI (nI s), vI (nI o), vI (nI e')] h Q := by
  have hs : s < 127 := by unfold chk at hc; omega
  have sw := iso_t s hs
  unfold hld at k
  rcases hc with ⟨rfl, rfl, hn⟩ | ⟨rfl, rfl, hn⟩ | ⟨rfl, rfl⟩ | ⟨rfl, rfl⟩ | ⟨rfl, rfl, hn⟩
  · rw [if_neg (by omega), if_neg (by omega), if_pos (by omega)] at sw
    rw [if_pos rfl] at k
    have q := w.2.2.2.1 nm hn
    have e1 : (1 : Int32) + nI (112 + nm) - 112 = nI (1 + nm) := by
      rw [show (1 : Int32) = nI 1 from rfl, nI_add, show (112 : Int32) = nI 112 from rfl, pk_sub (by omega)]; congr 1; omega
    refine bX11_isSo_0 (tgt := 68) sw (by decide) (bX11_isSo_68 (b2 := 367) (n_b2 := 25) hM.1 hM.s.1 hM.s.2 (by rw [e1]; exact vp_in_nI (by omega) (by decide)) (fun hz => bX11_isSo_90 (bX11_isSo_91 rfl ?_)) (fun hz => bX11_isSo_86 (bX11_isSo_91 rfl ?_)))
    · rw [e1, cs (by omega), q.1, andn o ho _ q.2] at hz
      rw [decide_eq_false hz] at k; exact k
    · have hz := Classical.byContradiction hz
      rw [e1, cs (by omega), q.1, andn o ho _ q.2] at hz
      rw [decide_eq_true hz] at k; exact k
  · rw [if_neg (by omega), if_neg (by omega), if_neg (by omega), if_pos (by omega)] at sw
    rw [if_neg (by decide), if_pos rfl] at k
    have q := w.2.2.2.2 nm hn
    have e1 : nI (115 + nm) - 115 = nI nm := by rw [show (115 : Int32) = nI 115 from rfl, pk_sub (by omega)]; congr 1; omega
    refine bX11_isSo_0 (tgt := 92) sw (by decide) (bX11_isSo_92 (R := fun r h' => r = some (vI (if relN (W.2.2 nm) o e' then 1 else 0)) ∧ h = h') hM.1 hd (by rw [e1]; exact m_holds hM hn q.1 ho he ⟨rfl, rfl⟩) ?_)
    rintro r h' ⟨rfl, rfl⟩
    refine bX11_isSo_102 ?_ k
    split <;> rfl
  · rw [if_neg (by omega), if_pos rfl] at sw
    rw [if_neg (by decide), if_neg (by decide), if_pos rfl] at k
    refine bX11_isSo_0 (tgt := 103) sw (by decide) (bX11_isSo_103 (fun hz => bX11_isSo_112 (bX11_isSo_113 rfl ?_)) (fun hz => bX11_isSo_108 (bX11_isSo_113 rfl ?_)))
    · rw [decide_eq_false (fun z => hz (by rw [z]))] at k; exact k
    · rw [decide_eq_true ((nI_eq (by omega) (by omega)).mp (Classical.byContradiction hz))] at k; exact k
  · rw [if_pos rfl] at sw
    rw [if_neg (by decide), if_neg (by decide), if_neg (by decide), if_pos rfl] at k
    refine bX11_isSo_0 (tgt := 114) sw (by decide) (bX11_isSo_114 (fun hz => bX11_isSo_126 (bX11_isSo_127 rfl ?_)) (fun hz => bX11_isSo_122 (bX11_isSo_127 rfl ?_)))
    · rw [andn o ho _ he] at hz
      rw [decide_eq_false hz] at k; exact k
    · have hz := Classical.byContradiction hz
      rw [andn o ho _ he] at hz
      rw [decide_eq_true hz] at k; exact k
  · rw [if_neg (by omega), if_neg (by omega), if_neg (by omega), if_neg (by omega)] at sw
    rw [if_neg (by decide), if_neg (by decide), if_neg (by decide), if_neg (by decide)] at k
    have e1 : nI (48 + nm) - 48 = nI nm := by rw [show (48 : Int32) = nI 48 from rfl, pk_sub (by omega)]; congr 1; omega
    have hcn := cn_le (fun i => o.testBit i) 3
    refine bX11_isSo_0 (tgt := 128) sw (by decide) (bX11_isSo_128 (R := fun r h' => r = some (vI (nI (cn (fun i => o.testBit i) 3))) ∧ h = h') hd (bX11_ones_0 (by rw [one_t o ho]; exact ⟨rfl, rfl⟩)) ?_)
    rintro r h' ⟨rfl, rfl⟩
    refine bX11_isSo_132 (fun hz => bX11_isSo_143 (bX11_isSo_144 rfl ?_)) (fun hz => bX11_isSo_139 (bX11_isSo_144 rfl ?_))
    · rw [e1] at hz
      rw [decide_eq_false (fun z => hz (by rw [z]))] at k; exact k
    · have hz := Classical.byContradiction hz
      rw [e1] at hz
      rw [decide_eq_true ((nI_eq (by omega) (by omega)).mp hz)] at k; exact k
theorem m_tests0 {a b c : Int32} (hab : a < 0 ∨ b < 0) (k : Q (some (vI 0)) h) : vm_C mX11_tests d cx n [vR (some 366), vI c, vI a, vI b] h Q := by
  refine bX11_tests_0 (fun _ => bX11_tests_8 k) (fun ha => bX11_tests_4 (fun hb => ?_) (fun _ => bX11_tests_8 k))
  rcases hab with h1 | h1
  · exact absurd h1 ha
  · rw [Int32.le_iff_toInt_le] at hb
    rw [Int32.lt_iff_toInt_lt] at h1
    omega
theorem m_tests {s kd nm v v2 : Nat} (hd : 3 ≤ d) (x : mE h e W t L) (y : mpc h e p K u dp F A) (hl : A.length ≤ 40) (hc : chk s kd nm) (hv : v < 3) (hu : v2 < 3) (pp : 2 * (A.length + 1) ≤ p) (k : ∀ h', fa h h' → mpc h' e p K u dp F (A ++ [.inr (ta2 W kd nm v v2)]) → Q (some (vI 1)) h') : vm_C mX11_tests d cx n [vR (some 366), vI (nI s), vI (nI v), vI (nI v2)] h Q := by
  have fin : ∀ (h' : vH) (j : Int32), fm (fun r _ => r = 372) h h' → (e = true → ∀ j, j < 512 → hI h' 372 j = bN (ta2 W kd nm v v2 j)) → vm_E mX11_tests d cx n 58 [some (vR (some 366)), some (vI (nI s)), some (vI (nI v)), some (vI (nI v2)), some (vI j)] [] h' Q := by
    intro h' j f q
    have x' := x.fm f (fun r j z => by omega)
    have y' := y.mv f (fun r j z => Or.inr (Or.inl z)) (by rw [f.2 366 12 (by omega)]; exact y.2.1) (by rw [f.2 366 13 (by omega)]; exact y.2.2.1) (Nat.le_refl p)
    refine bX11_tests_58 (R := fun r h2 => r = none ∧ fm (fun r j => r = 366 ∧ j = 7 ∨ r = 370 ∨ r = 371) h' h2 ∧ hI h2 366 7 = nI (A.length + 1) ∧ axs h2 e (A ++ [.inr (fun a => ta2 W kd nm v v2 a ^^ false)])) x'.1.1 (by omega) (m_pushesTest (b := false) (by omega) x'.1 x'.2.2.2.2 y'.1 (by omega) y'.2.2.2.2.2.2.2.1 q (fun h2 a1 a2 a3 => ⟨rfl, a1, a2, a3⟩)) ?_
    rintro r h2 ⟨rfl, a1, a2, a3⟩
    obtain ⟨x1, x2, x3, x4, x5, x6, x7, x8, x9, x10, x11, x12⟩ := y'
    have e0 : (fun a => ta2 W kd nm v v2 a ^^ false) = ta2 W kd nm v v2 := by funext a; simp
    rw [e0] at a3
    refine bX11_tests_63 (k h2 ((fa_f f (fun r j z => Or.inl z)).tr (a1.mono (fun r j z => ?_))) ⟨?_, ?_, ?_, ?_, ?_, ?_, ?_, a3, ?_, x10.app (voks.one trivial), x11, x12⟩)
    · unfold pA; omega
    · rw [a2, List.length_append]; rfl
    · rw [a1.2 366 12 (by omega)]; exact x2
    · rw [a1.2 366 13 (by omega)]; exact x3
    · rw [a1.2 366 14 (by omega)]; exact x4
    · rw [a1.2 366 15 (by omega)]; exact x5
    · rw [a1.2 366 16 (by omega)]; exact x6
    · exact fxs_eq (fun r j h1 h2 h3 => a1.2 r j (by omega)) (fun _ j _ => a1.2 382 j (by omega)) x7
    · rw [List.length_append]; exact pp
  have hn : ∀ i, i < 3 → ¬ nI i < 0 := fun i hi => nI_pos (by omega)
  refine bX11_tests_0 (fun hz => absurd hz (hn v hv)) (fun _ => bX11_tests_4 (fun _ => bX11_tests_10 ?_) (fun hz => absurd (nI_pos' (n := v2) (by omega)) hz))
  cases e
  · exact bX11_tests_13 (fun hz => absurd hz (by decide +kernel)) (fun _ => bX11_tests_21 x.1.1 (fun _ => fin h _ fm.rf (fun z => by cases z)) (fun hz => absurd x.2.2.2.2 hz))
  · have main := vl_down 512 (fun i => vm_E mX11_tests d cx n 13 [some (vR (some 366)), some (vI (nI s)), some (vI (nI v)), some (vI (nI v2)), some (vI (nI i))] [] (qI h 372 0 i (fun j => bN (ta2 W kd nm v v2 j))) Q) (bX11_tests_13 (fun _ => fin _ _ ((fm_qI _ _ _ _ _).mono (fun r j z => z.1)) (fun _ j hj => by rw [hI_qI, if_pos ⟨rfl, Nat.zero_le _, by omega⟩, Nat.sub_zero])) (fun hz => absurd (by decide +kernel) hz)) (fun i hi ih => by
      rw [← qI_s, Nat.zero_add] at ih
      have f : fm (fun r _ => r = 372) h (qI h 372 0 i (fun j => bN (ta2 W kd nm v v2 j))) := (fm_qI _ _ _ _ _).mono (fun r j z => z.1)
      generalize qI h 372 0 i (fun j => bN (ta2 W kd nm v v2 j)) = g at f ih ⊢
      have x' := x.fm f (fun r j z => by omega)
      refine bX11_tests_13 (fun hz => absurd hz (nI_ge (a := i) (b := 512) hi (by decide))) (fun _ => bX11_tests_21 x'.1.1 (fun hz => absurd hz (by rw [x'.2.2.2.2]; decide +kernel)) (fun _ => ?_))
      refine bX11_tests_28 (R := fun r h' => r = some (vI (nI (ofv i v))) ∧ g = h') x'.1.1 (by omega) (m_of hi hv ⟨rfl, rfl⟩) ?_
      rintro r h' ⟨rfl, rfl⟩
      refine bX11_tests_42 (R := fun r h' => r = some (vI (nI (ofv i v2))) ∧ g = h') (by omega) (m_of hi hu ⟨rfl, rfl⟩) ?_
      rintro r h' ⟨rfl, rfl⟩
      refine bX11_tests_48 (R := fun r h' => r = some (vI (bN (ta2 W kd nm v v2 i))) ∧ g = h') x'.1.1 (by omega) (m_isSo (by omega) x'.1 x'.2.1 hc (ofv_lt _ _) (ofv_lt _ _) ⟨rfl, rfl⟩) ?_
      rintro r h' ⟨rfl, rfl⟩
      rw [x'.1.now.1]
      refine bX11_tests_51 (n_sa2 := 512) x'.1.now.2 (v512 hi) ?_
      rw [cs (by omega), nar_b, nI_1]; exact ih)
    rw [qI_0] at main; exact main
end
