/-! ===== the reference's simple methods: the last ones ===== -/
theorem inr_tc {x : Int32} : inr x 32 126 ↔ tc x := ⟨fun ⟨i, h0, h1, e⟩ => ⟨i, h0, by omega, e⟩, fun ⟨i, h0, h1, e⟩ => ⟨i, h0, by omega, e⟩⟩
theorem m_type {d c n : Nat} {h : vH} {S : Nat → Int32} {H : List (Nat → Int32)} {t : Nat → Nat} {L : Nat} {Q : vQ} {x : Int32} (hd : 1 ≤ d) (hR0 : mR h S H t L) (hT : Tok t L) (k : ∀ h', mF h h' → mR h' S H (f_type x t L).2.1 (f_type x t L).2.2 → Q (some (vI (f_type x t L).1)) h') : vm_C mX11_type d c n [vR (some 366), vI x] h Q := by
  obtain ⟨hM, hs, hh, ht⟩ := hR0
  have hL := hT.1
  refine bX11_type_0 (R := rB h (inr x 32 126) (¬ inr x 32 126)) hd (m_in (a := 32) (b := 126) (by decide) (by decide)) ?_
  rintro r h' ⟨rfl, ⟨hz, rfl⟩ | ⟨hz, rfl⟩⟩
  · rw [inr_tc] at hz
    have e1 : f_type x t L = if L = 60 then (-5, t, L) else (nI (L + 1), chp t L x.toNatClampNeg, L + 1) := by unfold f_type; rw [cif_t hz]
    rw [e1] at k
    refine bX11_type_8 (fun _ => bX11_type_13 hM.1 (fun hc => ?_) (fun hc => bX11_type_22 ?_)) (fun hc => absurd (by decide +kernel) hc)
    · have hlt : L < 60 := by
        have : L ≠ 60 := fun z => hc (by rw [ht.1, z]; rfl)
        omega
      rw [if_neg (by omega)] at k
      obtain ⟨m, m1, m2, rfl⟩ := hz
      rw [cs (show m < _ by omega)] at k
      have f1 := fm_uI h 369 L (nI m)
      have f2 := fm_uI (uI h 369 L (nI m)) 366 4 (nI (L + 1))
      refine bX11_type_25 (b2 := 369) (n_b2 := 60) hM.1 hM.text.1 hM.text.2 (by rw [ht.1]; exact vp_in_nI hlt (by decide)) ?_
      rw [ht.1, cs (show L < _ by omega), hI_uIn (a := 369) _ _ _ (show 366 ≠ 369 by decide), ht.1, nI_1, hI_uIs]
      have f3 : fm (fun r j => r = 366 ∧ j = 4 ∨ r = 369) h (uI (uI h 369 L (nI m)) 366 4 (nI (L + 1))) := (f1.mono (fun r j z => Or.inr z.1)).tr (f2.mono (fun r j z => Or.inl z))
      refine k _ (f3.fr (fun r j z => by omega)) ⟨hM.fm f3, hs.fm f3 (fun r j z => by omega), hh.fm f3 (fun r j z => by omega), hI_uIs _ _ _ _, fun i hi => ?_⟩
      rw [hI_uIn _ _ _ (by decide), hI_uI]
      show _ = nI (if i = L then m else t i)
      by_cases hiL : i = L
      · rw [if_pos ⟨rfl, hiL⟩, if_pos hiL]
      · rw [if_neg (fun z => hiL z.2), if_neg hiL]
        exact ht.2 i (by have : i < L + 1 := hi; omega)
    · have h60 : L = 60 := (nI_eq (a := L) (b := 60) (by omega) (by decide)).mp (by rw [← ht.1]; exact Classical.byContradiction hc)
      rw [if_pos h60] at k
      exact k h fr.rf ⟨hM, hs, hh, ht⟩
  · rw [inr_tc] at hz
    unfold f_type at k; rw [cif_f hz] at k
    exact bX11_type_8 (fun hc => absurd rfl hc) (fun _ => bX11_type_11 (k h fr.rf ⟨hM, hs, hh, ht⟩))
theorem m_clearText {d c n : Nat} {h : vH} {S : Nat → Int32} {H : List (Nat → Int32)} {t : Nat → Nat} {L : Nat} {Q : vQ} (hR0 : mR h S H t L) (k : ∀ h', mF h h' → mR h' S H t 0 → Q (some (vI (nI L))) h') : vm_C mX11_clearText d c n [vR (some 366)] h Q := by
  obtain ⟨hM, hs, hh, ht⟩ := hR0
  have f := fm_uI h 366 4 0
  refine bX11_clearText_0 hM.1 ?_
  rw [ht.1]
  exact k _ (f.fr (fun r j z => by omega)) ⟨hM.fm f, hs.fm f (fun r j z => by omega), hh.fm f (fun r j z => by omega), hI_uIs _ _ _ _, fun i hi => absurd hi (Nat.not_lt_zero i)⟩
theorem m_contextSize {d c n : Nat} {h : vH} {S : Nat → Int32} {H : List (Nat → Int32)} {t : Nat → Nat} {L : Nat} {Q : vQ} (hd : 2 ≤ d) (hR0 : mR h S H t L) (k : Q (some (vI (f_contextSize S))) h) : vm_C mX11_contextSize d c n [vR (some 366)] h Q := by
  refine bX11_contextSize_0 (R := fun r h' => r = some (vI (f_contextSize S)) ∧ h = h') hR0.1.1 (by omega) (m_size (by omega) hR0.1 hR0.2.1 ⟨rfl, rfl⟩) ?_
  rintro r h' ⟨rfl, rfl⟩
  exact bX11_contextSize_4 k
theorem m_isKnown {d c n i : Nat} {h : vH} {S : Nat → Int32} {Q : vQ} (hM : LM h) (hs : mS h S) (hS : Sok S) (hi : i < 32) (k : Q (some (vI (if (kS S).testBit i then 1 else 0))) h) : vm_C mX11_isKnown d c n [vR (some 366), vI (nI i)] h Q := by
  have e : hI h 367 (Int32.toNatClampNeg 7) = nI (kS S) := by rw [← hS.k.1]; exact hs 7 (by decide)
  refine bX11_isKnown_0 (b2 := 367) (n_b2 := 25) hM.1 hM.s.1 hM.s.2 (vp_in_nI (n := 7) (by decide) (by decide)) (fun hc => ?_) (fun hc => ?_)
  · rw [e, (bN_st hi).1] at hc
    rw [if_neg hc] at k
    exact bX11_isKnown_19 (bX11_isKnown_20 rfl k)
  · rw [e, (bN_st hi).1] at hc
    rw [if_pos (Classical.byContradiction hc)] at k
    exact bX11_isKnown_15 (bX11_isKnown_20 rfl k)
/-- the values that are given, as bits -/
def ov (p : Nat → Bool) (v : Nat) : Nat → Nat
  | 0 => 0
  | n + 1 => ov p v n ||| (if p n then 2 ^ ofv n v else 0)
theorem ov_bit (p : Nat → Bool) (v : Nat) (i : Nat) : ∀ n, (ov p v n).testBit i = true ↔ ∃ a, a < n ∧ p a = true ∧ ofv a v = i
  | 0 => ⟨fun h => by simp [ov] at h, fun ⟨a, h, _⟩ => absurd h (Nat.not_lt_zero a)⟩
  | n + 1 => by
    show (ov p v n ||| (if p n then 2 ^ ofv n v else 0)).testBit i = true ↔ _
    rw [Nat.testBit_or, Bool.or_eq_true, ov_bit p v i n]
    constructor
    · rintro (⟨a, h1, h2⟩ | h)
      · exact ⟨a, by omega, h2⟩
      · cases e : p n
        · rw [e] at h; simp at h
        · rw [e, if_pos rfl, tb_pow, decide_eq_true_iff] at h
          exact ⟨n, by omega, e, h.symm⟩
    · rintro ⟨a, h1, h2, h3⟩
      by_cases ha : a = n
      · subst ha
        right
        rw [h2, if_pos rfl, tb_pow, h3]; simp
      · exact Or.inl ⟨a, by omega, h2, h3⟩
theorem vals_bit (p : Nat → Bool) (v i : Nat) : ∀ n, (vals p v n).testBit i = (decide (1 ≤ i ∧ i ≤ n) && decide (¬ cnt2 p v i v i = 0))
  | 0 => by
    show (0 : Nat).testBit i = _
    rw [Nat.zero_testBit, decide_eq_false (by omega), Bool.false_and]
  | n + 1 => by
    have hl := vals_lt p v n
    have e : vals p v (n + 1) = 2 ^ (n + 1) * (if cnt2 p v (n + 1) v (n + 1) = 0 then 0 else 1) + vals p v n := by
      show vals p v n + (if cnt2 p v (n + 1) v (n + 1) = 0 then 0 else 2 ^ (n + 1)) = _
      split <;> omega
    rw [e, Nat.testBit_two_pow_mul_add _ hl]
    by_cases h1 : i < n + 1
    · rw [if_pos h1, vals_bit p v i n]
      congr 1
      exact decide_eq_decide.mpr ⟨fun z => ⟨z.1, by omega⟩, fun z => ⟨z.1, by omega⟩⟩
    · rw [if_neg h1]
      by_cases h2 : i = n + 1
      · subst h2
        rw [Nat.sub_self, decide_eq_true (by omega), Bool.true_and]
        by_cases h0 : cnt2 p v (n + 1) v (n + 1) = 0
        · rw [if_pos h0, decide_eq_false (by omega)]; rfl
        · rw [if_neg h0, decide_eq_true h0]; rfl
      · rw [decide_eq_false (by omega), Bool.false_and]
        obtain ⟨m, hm⟩ : ∃ m, i - (n + 1) = m + 1 := ⟨i - (n + 1) - 1, by omega⟩
        rw [hm, Nat.testBit_succ]
        split <;> exact Nat.zero_testBit m
theorem cnt2_pos {p : Nat → Bool} {v i : Nat} : ¬ cnt2 p v i v i = 0 ↔ ∃ a, a < 512 ∧ p a = true ∧ ofv a v = i := by
  unfold cnt2
  rw [cn_0]
  constructor
  · intro h
    apply Classical.byContradiction
    intro hn
    apply h
    intro a ha
    cases e : p a
    · rfl
    · have : ¬ ofv a v = i := fun z => hn ⟨a, ha, e, z⟩
      simp [this]
  · rintro ⟨a, ha, h1, h2⟩ h
    have := h a ha
    rw [h1, h2] at this
    simp at this
theorem ov_lt (p : Nat → Bool) (v : Nat) : ∀ n, ov p v n < 256
  | 0 => show 0 < 256 by decide
  | n + 1 => by
    show (ov p v n ||| (if p n then 2 ^ ofv n v else 0)) < 2 ^ 8
    refine Nat.or_lt_two_pow (ov_lt p v n) ?_
    have := (by decide : ∀ a, a < 8 → 2 ^ a < 2 ^ 8) _ (ofv_lt n v)
    split
    · exact this
    · decide
theorem ov_vals {S : Nat → Int32} (hS : Sok S) {v : Nat} (hv : v < 3) (hk : (kS S).testBit v = true) : ov (ctx S) v 512 = vals (ctx S) v 7 := by
  refine Nat.eq_of_testBit_eq fun i => ?_
  rw [vals_bit, Bool.eq_iff_iff, ov_bit, Bool.and_eq_true, decide_eq_true_iff, decide_eq_true_iff, cnt2_pos]
  constructor
  · rintro ⟨a, h1, h2, h3⟩
    have := hS.2.2.2.2.2.2 a h1 h2 v hv
    rw [if_pos hk] at this
    have := ofv_lt a v
    exact ⟨by omega, a, h1, h2, h3⟩
  · exact fun h => h.2
theorem m_objects {d c n : Nat} {h : vH} {S : Nat → Int32} {H : List (Nat → Int32)} {t : Nat → Nat} {L : Nat} {Q : vQ} {x : Int32} (hd : 1 ≤ d) (hR0 : mR h S H t L) (hS : Sok S) (k : Q (some (vI (f_objects x S))) h) : vm_C mX11_objects d c n [vR (some 366), vI x] h Q := by
  obtain ⟨hM, hs, hh, ht⟩ := hR0
  refine bX11_objects_0 (R := rB h (ix x 3) (¬ ix x 3)) hd (m_ix (N := 3) (by decide) (by decide)) ?_
  unfold f_objects at k
  rintro r h' ⟨rfl, ⟨hz, rfl⟩ | ⟨hz, rfl⟩⟩
  · rw [cif_t hz] at k
    obtain ⟨v, hv, rfl⟩ := hz
    rw [cs (show v < _ by omega)] at k
    refine bX11_objects_6 (fun _ => bX11_objects_11 ?_) (fun hc => absurd (by decide +kernel) hc)
    refine vl_down 512 (fun i => vm_E mX11_objects d c n 15 [some (vR (some 366)), some (vI (nI v)), some (vI (nI (ov (ctx S) v i))), some (vI (nI i))] [] h Q) (bX11_objects_15 (fun _ => ?_) (fun hn => absurd (by decide +kernel) hn)) (fun i hi ih => ?_)
    · refine bX11_objects_50 (R := fun r h' => r = some (vI (if (kS S).testBit v then 1 else 0)) ∧ h = h') hM.1 hd (m_isKnown hM hs hS (by omega) ⟨rfl, rfl⟩) ?_
      rintro r h' ⟨rfl, rfl⟩
      cases e : (kS S).testBit v
      · rw [e] at k
        exact bX11_objects_55 (fun _ => bX11_objects_62 (bX11_objects_64 k)) (fun hc => absurd rfl hc)
      · rw [e, if_pos rfl, ← ov_vals hS hv e] at k
        exact bX11_objects_55 (fun hc => absurd hc (by decide +kernel)) (fun _ => bX11_objects_58 (bX11_objects_64 k))
    · refine bX11_objects_15 (fun hc => absurd hc (nI_ge (a := i) (b := 512) hi (by decide))) (fun _ => ?_)
      refine bX11_objects_22 (R := fun r h' => r = some (vI (if ctx S i then 1 else 0)) ∧ h = h') hM.1 hd (m_isThere hM hs hi ⟨rfl, rfl⟩) ?_
      rintro r h' ⟨rfl, rfl⟩
      have es : ov (ctx S) v (i + 1) = (ov (ctx S) v i ||| (if ctx S i then 2 ^ ofv i v else 0)) := rfl
      rw [es] at ih
      cases e : ctx S i
      · rw [e, if_neg (by decide), Nat.or_zero] at ih
        refine bX11_objects_28 (fun _ => bX11_objects_41 (bX11_objects_42 ?_)) (fun hc => absurd rfl hc)
        rw [nI_1, show (0 : Int32) = nI 0 from rfl, nI_or, Nat.or_zero]; exact ih
      · rw [e, if_pos rfl] at ih
        refine bX11_objects_28 (fun hc => absurd hc (by decide +kernel)) (fun _ => bX11_objects_31 (R := fun r h' => r = some (vI (nI (ofv i v))) ∧ h = h') hd (m_of hi hv ⟨rfl, rfl⟩) ?_)
        rintro r h' ⟨rfl, rfl⟩
        refine bX11_objects_37 (bX11_objects_42 ?_)
        rw [nI_1, shl1 _ (ofv_lt i v), nI_or]; exact ih
  · rw [cif_f hz] at k
    exact bX11_objects_6 (fun hc => absurd rfl hc) (fun _ => bX11_objects_9 k)
theorem m_together {d c n : Nat} {h : vH} {S : Nat → Int32} {H : List (Nat → Int32)} {t : Nat → Nat} {L : Nat} {Q : vQ} {x a y b : Int32} (hd : 2 ≤ d) (hR0 : mR h S H t L) (hS : Sok S) (k : Q (some (vI (f_together x a y b S))) h) : vm_C mX11_together d c n [vR (some 366), vI x, vI a, vI y, vI b] h Q := by
  have e0 := hR0.n hS
  have hn := hS.n
  have hp8 : 2 ^ nS S ≤ 8 := (by decide : ∀ m, m < 4 → 2 ^ m ≤ 8) _ (by omega)
  have no : ¬ (ix x 3 ∧ ob a (nS S) ∧ ix y 3 ∧ ob b (nS S)) → Q (some (vI (-1))) h := fun hno => by
    unfold f_together at k; rw [cif_f hno] at k; exact k
  obtain ⟨hM, hs, hh, ht⟩ := hR0
  refine bX11_together_0 (R := rB h (ix x 3) (¬ ix x 3)) (by omega) (m_ix (N := 3) (by decide) (by decide)) ?_
  rintro r h' ⟨rfl, ⟨hx, rfl⟩ | ⟨hx, rfl⟩⟩
  · refine bX11_together_6 (fun hc => absurd hc (by decide +kernel)) (fun _ => bX11_together_9 hM.1 (by omega) (m_isObject (by omega) hM (by omega) e0) ?_)
    rintro r h' ⟨rfl, ⟨ha, rfl⟩ | ⟨ha, rfl⟩⟩
    · refine bX11_together_14 (fun hc => absurd hc (by decide +kernel)) (fun _ => bX11_together_17 (R := rB h (ix y 3) (¬ ix y 3)) (by omega) (m_ix (N := 3) (by decide) (by decide)) ?_)
      rintro r h' ⟨rfl, ⟨hy, rfl⟩ | ⟨hy, rfl⟩⟩
      · refine bX11_together_23 (fun hc => absurd hc (by decide +kernel)) (fun _ => bX11_together_26 hM.1 (by omega) (m_isObject (by omega) hM (by omega) e0) ?_)
        rintro r h' ⟨rfl, ⟨hb, rfl⟩ | ⟨hb, rfl⟩⟩
        · unfold f_together at k
          rw [cif_t ⟨hx, ha, hy, hb⟩] at k
          obtain ⟨v, hv, rfl⟩ := hx
          obtain ⟨p, hp1, hp2, rfl⟩ := ha
          obtain ⟨u, hu, rfl⟩ := hy
          obtain ⟨q, hq1, hq2, rfl⟩ := hb
          rw [cs (show v < _ by omega), cs (show p < _ by omega), cs (show u < _ by omega), cs (show q < _ by omega)] at k
          refine bX11_together_32 (fun _ => bX11_together_37 ?_) (fun hc => absurd (by decide +kernel) hc)
          refine vl_down 512 (fun i => vm_E mX11_together d c n 43 [some (vR (some 366)), some (vI (nI v)), some (vI (nI p)), some (vI (nI u)), some (vI (nI q)), some (vI (nI (cn (fun k => ctx S k && (decide (ofv k v = p) && decide (ofv k u = q))) i))), some (vI (nI i))] [] h Q) (bX11_together_43 (fun _ => ?_) (fun hn => absurd (by decide +kernel) hn)) (fun i hi ih => ?_)
          · refine bX11_together_97 (R := fun r h' => r = some (vI (if (kS S).testBit v then 1 else 0)) ∧ h = h') hM.1 (by omega) (m_isKnown hM hs hS (by omega) ⟨rfl, rfl⟩) ?_
            rintro r h' ⟨rfl, rfl⟩
            cases e : (kS S).testBit v
            · rw [e] at k
              exact bX11_together_102 (fun _ => bX11_together_118 (bX11_together_120 k)) (fun hc => absurd rfl hc)
            · rw [e] at k
              refine bX11_together_102 (fun hc => absurd hc (by decide +kernel)) (fun _ => bX11_together_105 (R := fun r h' => r = some (vI (if (kS S).testBit u then 1 else 0)) ∧ h = h') hM.1 (by omega) (m_isKnown hM hs hS (by omega) ⟨rfl, rfl⟩) ?_)
              rintro r h' ⟨rfl, rfl⟩
              cases e2 : (kS S).testBit u
              · rw [e2] at k
                exact bX11_together_110 (fun _ => bX11_together_118 (bX11_together_120 k)) (fun hc => absurd rfl hc)
              · rw [e2] at k
                exact bX11_together_110 (fun hc => absurd hc (by decide +kernel)) (fun _ => bX11_together_113 (bX11_together_120 k))
          · have o8v := ofv_lt i v
            have o8u := ofv_lt i u
            rw [cn_s] at ih
            have ad : ∀ b : Bool, (ctx S i && (decide (ofv i v = p) && decide (ofv i u = q))) = b → vm_E mX11_together d c n 88 [some (vR (some 366)), some (vI (nI v)), some (vI (nI p)), some (vI (nI u)), some (vI (nI q)), some (vI (nI (cn (fun k => ctx S k && (decide (ofv k v = p) && decide (ofv k u = q))) i))), some (vI (nI i))] [vI (bN b), vI (nI (cn (fun k => ctx S k && (decide (ofv k v = p) && decide (ofv k u = q))) i))] h Q := by
              intro b hb
              rw [hb] at ih
              refine bX11_together_88 ?_
              cases b
              · rw [if_neg (by decide), Nat.add_zero] at ih
                rw [nI_1, show bN false = nI 0 from rfl, nI_add]; exact ih
              · rw [if_pos rfl] at ih
                rw [nI_1, show bN true = nI 1 from rfl, nI_add]; exact ih
            refine bX11_together_43 (fun hc => absurd hc (nI_ge (a := i) (b := 512) hi (by decide))) (fun _ => ?_)
            refine bX11_together_51 (R := fun r h' => r = some (vI (if ctx S i then 1 else 0)) ∧ h = h') hM.1 (by omega) (m_isThere hM hs hi ⟨rfl, rfl⟩) ?_
            rintro r h' ⟨rfl, rfl⟩
            cases e : ctx S i
            · exact bX11_together_59 (fun _ => bX11_together_87 (ad false (by rw [e]; rfl))) (fun hc => absurd rfl hc)
            · refine bX11_together_59 (fun hc => absurd hc (by decide +kernel)) (fun _ => bX11_together_62 (R := fun r h' => r = some (vI (nI (ofv i v))) ∧ h = h') (by omega) (m_of hi hv ⟨rfl, rfl⟩) ?_)
              rintro r h' ⟨rfl, rfl⟩
              refine bX11_together_68 (fun hc => bX11_together_87 (ad false ?_)) (fun hc => bX11_together_72 (R := fun r h' => r = some (vI (nI (ofv i u))) ∧ h = h') (by omega) (m_of hi hu ⟨rfl, rfl⟩) ?_)
              · rw [decide_eq_false (fun z => hc (by rw [z]))]; simp
              · have hv2 : ofv i v = p := (nI_eq (by omega) (by omega)).mp (Classical.byContradiction hc)
                rintro r h' ⟨rfl, rfl⟩
                refine bX11_together_78 (fun hc => bX11_together_87 (ad false ?_)) (fun hc => bX11_together_83 (ad true ?_))
                · rw [decide_eq_false (show ¬ ofv i u = q from fun z => hc (by rw [z]))]; simp
                · have hu2 : ofv i u = q := (nI_eq (by omega) (by omega)).mp (Classical.byContradiction hc)
                  rw [e, decide_eq_true hv2, decide_eq_true hu2]; rfl
        · exact bX11_together_32 (fun hc => absurd rfl hc) (fun _ => bX11_together_35 (no (fun z => hb z.2.2.2)))
      · exact bX11_together_23 (fun _ => bX11_together_35 (no (fun z => hy z.2.2.1))) (fun hc => absurd rfl hc)
    · exact bX11_together_14 (fun _ => bX11_together_35 (no (fun z => ha z.2.1))) (fun hc => absurd rfl hc)
  · exact bX11_together_6 (fun _ => bX11_together_35 (no (fun z => hx z.1))) (fun hc => absurd rfl hc)
theorem m_resetContext {d c n : Nat} {h : vH} {S : Nat → Int32} {H : List (Nat → Int32)} {t : Nat → Nat} {L : Nat} {Q : vQ} (hd : 2 ≤ d) (hR0 : mR h S H t L) (k : ∀ h', mF h h' → mR h' (f_resetContext S H).2.1 (f_resetContext S H).2.2 t L → Q (some (vI (f_resetContext S H).1)) h') : vm_C mX11_resetContext d c n [vR (some 366)] h Q := by
  obtain ⟨hM, hs, hh, ht⟩ := hR0
  refine bX11_resetContext_0 (R := fun r h' => r = none ∧ fm (fun r j => r = 366 ∧ j = 2 ∨ r = 368) h h' ∧ mh h' (push5 H S)) hM.1 (by omega) (m_acts hM hs hh (fun h' f q => ⟨rfl, f, q⟩)) ?_
  rintro r h' ⟨rfl, f, q⟩
  have hM' := hM.fm f
  have hs' : mS h' S := hs.fm f (fun r j z => by omega)
  have ht' : mtx h' t L := ht.fm f (fun r j z => by omega)
  refine bX11_resetContext_4 (R := fun r h2 => r = some (vI (f_contextSize S)) ∧ h' = h2) hM'.1 (by omega) (m_size (by omega) hM' hs' ⟨rfl, rfl⟩) ?_
  rintro r h2 ⟨rfl, rfl⟩
  refine bX11_resetContext_8 (R := fun r h2 => r = none ∧ fstM h' = h2) hM'.1 (by omega) (m_first hM' ⟨rfl, rfl⟩) ?_
  rintro r h2 ⟨rfl, rfl⟩
  have f3 := fm_first h'
  exact bX11_resetContext_13 (k _ ((f.fr (B := fun r => 366 ≤ r) (fun r j z => by omega)).tr (f3.fr (B := fun r => 366 ≤ r) (fun r j z => by omega)) |>.mono (fun r z => by omega)) ⟨hM'.fm f3, mS_first hs', q.fm f3 (fun r j z => by omega), ht'.fm f3 (fun r j z => by omega)⟩)
theorem m_setAccommodation {d c n : Nat} {h : vH} {S : Nat → Int32} {H : List (Nat → Int32)} {t : Nat → Nat} {L : Nat} {Q : vQ} {x : Int32} (hd : 1 ≤ d) (hR0 : mR h S H t L) (k : ∀ h', mF h h' → mR h' (f_setAccommodation x S H).2.1 (f_setAccommodation x S H).2.2 t L → Q (some (vI (f_setAccommodation x S H).1)) h') : vm_C mX11_setAccommodation d c n [vR (some 366), vI x] h Q := by
  obtain ⟨hM, hs, hh, ht⟩ := hR0
  refine bX11_setAccommodation_0 (R := rB h (ix x 2) (¬ ix x 2)) hd (m_ix (N := 2) (by decide) (by decide)) ?_
  rintro r h' ⟨rfl, ⟨hz, rfl⟩ | ⟨hz, rfl⟩⟩
  · have yes : f_setAccommodation x S H = (S 6, putV S 6 x, push5 H S) := cif_t hz
    rw [yes] at k
    refine bX11_setAccommodation_6 (fun _ => ?_) (fun hc => absurd (by decide +kernel) hc)
    refine bX11_setAccommodation_11 (R := fun r h' => r = none ∧ fm (fun r j => r = 366 ∧ j = 2 ∨ r = 368) h h' ∧ mh h' (push5 H S)) hM.1 (by omega) (m_acts hM hs hh (fun h' f q => ⟨rfl, f, q⟩)) ?_
    rintro r h' ⟨rfl, f, q⟩
    have hM' := hM.fm f
    have hs' : mS h' S := hs.fm f (fun r j z => by omega)
    have ht' : mtx h' t L := ht.fm f (fun r j z => by omega)
    refine bX11_setAccommodation_15 (b2 := 367) (n_b2 := 25) (b3 := 367) (n_b3 := 25) hM'.1 hM'.s.1 hM'.s.2 (vp_in_nI (n := 6) (by decide) (by decide)) hM'.s.1 hM'.s.2 (vp_in_nI (n := 6) (by decide) (by decide)) ?_
    rw [show Int32.toNatClampNeg 6 = 6 from rfl, hs' 6 (by decide)]
    exact k _ (mF_one f) (m_one hM' hs' q ht')
  · have no : f_setAccommodation x S H = (-1, S, H) := cif_f hz
    rw [no] at k
    exact bX11_setAccommodation_6 (fun hc => absurd rfl hc) (fun _ => bX11_setAccommodation_9 (k h fr.rf ⟨hM, hs, hh, ht⟩))
theorem m_accommodated {d c n : Nat} {h : vH} {S : Nat → Int32} {H : List (Nat → Int32)} {t : Nat → Nat} {L : Nat} {Q : vQ} (hR0 : mR h S H t L) (hS : Sok S) (k : Q (some (vI (f_accommodated S))) h) : vm_C mX11_accommodated d c n [vR (some 366)] h Q := by
  obtain ⟨hM, hs, hh, ht⟩ := hR0
  refine bX11_accommodated_0 ?_
  refine vl_down 30 (fun i => vm_E mX11_accommodated d c n 4 [some (vR (some 366)), some (vI (nI (cn (fun i => (tkN S).testBit i) i))), some (vI (nI i))] [] h Q) (bX11_accommodated_4 (fun _ => bX11_accommodated_30 k) (fun hn => absurd (by decide +kernel) hn)) (fun i hi ih => ?_)
  rw [cn_s] at ih
  refine bX11_accommodated_4 (fun hc => absurd hc (nI_ge (a := i) (b := 30) hi (by decide))) (fun _ => ?_)
  refine bX11_accommodated_10 (b2 := 367) (n_b2 := 25) hM.1 hM.s.1 hM.s.2 (vp_in_nI (n := 8) (by decide) (by decide)) ?_
  rw [show Int32.toNatClampNeg 8 = 8 from rfl, hs 8 (by decide), hS.t.1, bN_v (by omega), nI_1]
  cases e : (tkN S).testBit i
  · rw [e, if_neg (by decide), Nat.add_zero] at ih
    rw [show bN false = nI 0 from rfl, nI_add]; exact ih
  · rw [e, if_pos rfl] at ih
    rw [show bN true = nI 1 from rfl, nI_add]; exact ih
theorem m_accommodatedPart {d c n : Nat} {h : vH} {S : Nat → Int32} {H : List (Nat → Int32)} {t : Nat → Nat} {L : Nat} {Q : vQ} {x : Int32} (hR0 : mR h S H t L) (hS : Sok S) (k : Q (some (vI (f_accommodatedPart x S))) h) : vm_C mX11_accommodatedPart d c n [vR (some 366), vI x] h Q := by
  obtain ⟨hM, hs, hh, ht⟩ := hR0
  refine bX11_accommodatedPart_0 (fun hx => bX11_accommodatedPart_6 ?_) (fun hx => bX11_accommodatedPart_4 ?_)
  · have hx' : ¬ x < 0 := by
      intro hc
      rw [Int32.lt_iff_toInt_lt] at hc
      rw [Int32.le_iff_toInt_le] at hx
      omega
    have e : f_accommodatedPart x S = pth (fun i => (tkN S).testBit i) x 0 0 30 := by
      unfold f_accommodatedPart; rw [cif_f hx']
    rw [e] at k
    have go : ∀ r kk nn o4, kk + r = 30 → nn ≤ kk → Q (some (vI (pth (fun i => (tkN S).testBit i) x kk nn r))) h → vm_E mX11_accommodatedPart d c n 10 [some (vR (some 366)), some (vI x), some (vI (nI nn)), some (vI (nI kk)), o4] [] h Q := by
      intro r
      induction r with
      | zero => intro kk nn o4 hk hn q; exact bX11_accommodatedPart_10 (fun _ => bX11_accommodatedPart_69 q) (fun hc => absurd (nI_le (a := 30) (b := kk) (by omega) (by omega)) hc)
      | succ r ih =>
        intro kk nn o4 hk hn q
        refine bX11_accommodatedPart_10 (fun hc => absurd hc (nI_ge (a := kk) (b := 30) (by omega) (by decide))) (fun _ => ?_)
        have e8 : hI h 367 (Int32.toNatClampNeg 8) = nI (tkN S) := by rw [← hS.t.1]; exact hs 8 (by decide)
        refine bX11_accommodatedPart_16 (b2 := 367) (n_b2 := 25) hM.1 hM.s.1 hM.s.2 (vp_in_nI (n := 8) (by decide) (by decide)) (fun hc => bX11_accommodatedPart_35 ?_) (fun hc => bX11_accommodatedPart_31 ?_)
        · rw [e8, (bN_st (by omega)).1, Bool.not_eq_true] at hc
          have e2 : pth (fun i => (tkN S).testBit i) x kk nn (r + 1) = pth (fun i => (tkN S).testBit i) x (kk + 1) nn r := by
            show (if (tkN S).testBit kk then _ else _) = _
            rw [hc, if_neg (by decide)]
          rw [e2] at q
          refine bX11_accommodatedPart_36 (fun _ => bX11_accommodatedPart_50 (fun _ => bX11_accommodatedPart_60 (bX11_accommodatedPart_61 ?_)) (fun hc => absurd rfl hc)) (fun hc => absurd rfl hc)
          rw [nI_1, show (0 : Int32) = nI 0 from rfl, nI_add]
          exact ih (kk + 1) nn _ (by omega) (by omega) q
        · rw [e8, (bN_st (by omega)).1] at hc
          have hc := Classical.byContradiction hc
          have e2 : pth (fun i => (tkN S).testBit i) x kk nn (r + 1) = if nI nn = x then nI kk else pth (fun i => (tkN S).testBit i) x (kk + 1) (nn + 1) r := by
            show (if (tkN S).testBit kk then _ else _) = _
            rw [hc, if_pos rfl]
          rw [e2] at q
          refine bX11_accommodatedPart_36 (fun hc => absurd hc (by decide +kernel)) (fun _ => bX11_accommodatedPart_43 (fun hne => ?_) (fun he => bX11_accommodatedPart_48 ?_))
          · rw [if_neg hne] at q
            refine bX11_accommodatedPart_50 (fun hc => absurd hc (by decide +kernel)) (fun _ => bX11_accommodatedPart_56 (bX11_accommodatedPart_61 ?_))
            rw [nI_1, nI_1]
            exact ih (kk + 1) (nn + 1) _ (by omega) (by omega) q
          · rw [if_pos (Classical.byContradiction he)] at q; exact q
    exact go 30 0 0 none rfl (Nat.le_refl 0) k
  · have e : f_accommodatedPart x S = -1 := by
      unfold f_accommodatedPart
      rw [cif_t]
      rw [Int32.le_iff_toInt_le] at hx
      rw [Int32.lt_iff_toInt_lt]
      omega
    rw [e] at k; exact k
theorem m_historySize {d c n : Nat} {h : vH} {S : Nat → Int32} {H : List (Nat → Int32)} {t : Nat → Nat} {L : Nat} {Q : vQ} (hR0 : mR h S H t L) (k : Q (some (vI (nI H.length))) h) : vm_C mX11_historySize d c n [vR (some 366)] h Q := by
  refine bX11_historySize_0 hR0.1.1 ?_
  rw [hR0.2.2.1.1]; exact k
theorem m_undo0 {d c n : Nat} {h : vH} {S : Nat → Int32} {t : Nat → Nat} {L : Nat} {Q : vQ} (hR0 : mR h S [] t L) (k : Q (some (vI (-6))) h) : vm_C mX11_undo d c n [vR (some 366)] h Q := by
  refine bX11_undo_0 hR0.1.1 (fun hc => absurd (by rw [hR0.2.2.1.1]; rfl) hc) (fun _ => bX11_undo_7 k)
theorem m_undo1 {d c n : Nat} {h : vH} {S T : Nat → Int32} {H : List (Nat → Int32)} {t : Nat → Nat} {L : Nat} {Q : vQ} (hR0 : mR h S (H ++ [T]) t L) (k : ∀ h', mF h h' → mR h' T H t L → Q (some (vI (nI H.length))) h') : vm_C mX11_undo d c n [vR (some 366)] h Q := by
  obtain ⟨hM, hs, ⟨q1, q2, q3⟩, ht⟩ := hR0
  rw [List.length_append, List.length_singleton] at q1 q2
  have hT : ∀ i, i < 25 → hI h 368 (25 * H.length + i) = T i := q3 H.length T (by rw [List.getElem?_append_right (Nat.le_refl _), Nat.sub_self]; rfl)
  refine bX11_undo_0 hM.1 (fun _ => bX11_undo_10 hM.1 ?_) (fun hc => absurd (Classical.byContradiction hc) (by rw [q1]; exact nI_ne0 (by omega) (by omega)))
  rw [q1, nI_pred]
  have f : ∀ i, fm (fun r j => r = 366 ∧ j = 2 ∨ r = 367) h (qI (uI h 366 2 (nI H.length)) 367 0 i T) := fun i => ((fm_uI h 366 2 _).mono (fun r j z => Or.inl z)).tr ((fm_qI _ 367 0 i T).mono (fun r j z => Or.inr z.1))
  have e2 : ∀ i, hI (qI (uI h 366 2 (nI H.length)) 367 0 i T) 366 2 = nI H.length := fun i => by rw [hI_qI, if_neg (by omega), hI_uIs]
  have g0 := vl_down 25 (fun i => vm_E mX11_undo d c n 22 [some (vR (some 366)), some (vI (nI i))] [] (qI (uI h 366 2 (nI H.length)) 367 0 i T) Q) (bX11_undo_22 (fun _ => bX11_undo_54 (hM.fm (f 25)).1 (by
      rw [e2]
      refine k _ ((f 25).fr (fun r j z => by omega)) ⟨hM.fm (f 25), fun i hi => by rw [hI_qI, if_pos ⟨rfl, by omega, by omega⟩]; rfl, ⟨e2 25, by omega, fun j U e i hi => ?_⟩, ht.fm (f 25) (fun r j z => by omega)⟩
      rw [hI_qI, if_neg (by omega), hI_uIn _ _ _ (by decide)]
      have hj : j < H.length := by
        by_cases hj : j < H.length
        · exact hj
        · rw [List.getElem?_eq_none (by omega)] at e; cases e
      exact q3 j U (by rw [List.getElem?_append_left hj]; exact e) i hi)) (fun hn => absurd (by decide +kernel) hn)) (fun i hi ih => by
    rw [← qI_s, Nat.zero_add] at ih
    have e3 : 25 * hI (qI (uI h 366 2 (nI H.length)) 367 0 i T) 366 2 + nI i = nI (25 * H.length + i) := by rw [e2, show (25 : Int32) = nI 25 from rfl, pk_mul, nI_add]
    have e4 : hI (qI (uI h 366 2 (nI H.length)) 367 0 i T) 368 (25 * H.length + i) = T i := by
      rw [hI_qI, if_neg (by omega), hI_uIn _ _ _ (by decide)]; exact hT i hi
    have hM2 := hM.fm (f i)
    refine bX11_undo_22 (fun hc => absurd hc (nI_ge (a := i) (b := 25) hi (by decide))) (fun _ => ?_)
    refine bX11_undo_28 (b2 := 367) (b3 := 368) (n_b3 := 125) (n_b2 := 25) hM2.1 hM2.s.1 hM2.past.1 hM2.past.2 (by rw [e3]; exact vp_in_nI (by omega) (by decide)) hM2.s.2 (vp_in_nI (by omega) (by decide)) ?_
    rw [e3, cs (show 25 * H.length + i < _ by omega), cs (show i < _ by omega), e4, nI_1]
    exact ih)
  rw [qI_0] at g0
  exact g0
