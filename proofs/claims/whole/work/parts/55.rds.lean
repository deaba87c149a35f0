/-! ===== the reference's reader: parts, the text looked at ===== -/
/-- the reader's picture between parts -/
def mpl (h : vH) (e : Bool) (p K : Nat) (u : Option Nat) (dp : Nat) (A : List aT) : Prop :=
  hI h 366 7 = nI A.length ∧ hI h 366 12 = nI p ∧ hI h 366 13 = nI K ∧ hI h 366 14 = uaN u ∧ hI h 366 15 = nI dp ∧ axs h e A ∧ 2 * A.length ≤ p ∧ voks A ∧ ∀ q, u = some q → q < 60
theorem mpc.l {h : vH} {e : Bool} {p K : Nat} {u : Option Nat} {dp : Nat} {F : List fR} {A : List aT} (y : mpc h e p K u dp F A) : mpl h e p K u dp A := by
  obtain ⟨z1, z2, z3, z4, z5, z6, z7, z8, z9, z10, z11, z12⟩ := y
  exact ⟨z1, z2, z3, z4, z5, z8, z9, z10, z11⟩
theorem mpl.mv {h h' : vH} {e : Bool} {p p' K dp : Nat} {u : Option Nat} {A : List aT} {B : Nat → Nat → Prop} (y : mpl h e p K u dp A) (f : fm B h h') (hB : ∀ r j, B r j → (r = 366 ∧ (j = 12 ∨ j = 16 ∨ j = 11 ∨ 17 ≤ j)) ∨ r = 372 ∨ r = 373 ∨ r = 374) (e12 : hI h' 366 12 = nI p') (hp : p ≤ p') : mpl h' e p' K u dp A := by
  obtain ⟨z1, z2, z3, z4, z5, z8, z9, z10, z11⟩ := y
  have q : ∀ r j, ¬ ((r = 366 ∧ (j = 12 ∨ j = 16 ∨ j = 11 ∨ 17 ≤ j)) ∨ r = 372 ∨ r = 373 ∨ r = 374) → hI h' r j = hI h r j := fun r j z => f.2 r j (fun w => z (hB r j w))
  exact ⟨by rw [q _ _ (by omega)]; exact z1, e12, by rw [q _ _ (by omega)]; exact z3, by rw [q _ _ (by omega)]; exact z4, by rw [q _ _ (by omega)]; exact z5, axs_eq (fun k _ => q 370 k (by omega)) (fun _ j _ => q 371 j (by omega)) z8, by omega, z10, z11⟩
theorem mpl.c {h : vH} {e : Bool} {p K : Nat} {u : Option Nat} {dp : Nat} {A : List aT} (y : mpl h e p K u dp A) (e16 : hI h 366 16 = -1) : mpc h e p K u dp [] A := by
  obtain ⟨z1, z2, z3, z4, z5, z8, z9, z10, z11⟩ := y
  exact ⟨z1, z2, z3, z4, z5, by rw [e16]; rfl, trivial, z8, z9, z10, z11, fun f hf => nomatch hf⟩
section
variable {d cx n p K dp : Nat} {h : vH} {e : Bool} {W : wT} {t : Nat → Nat} {L : Nat} {u : Option Nat} {A : List aT} {Q : vQ}
theorem m_readsFormula {f : fR} (hd : 20 ≤ d) (x : mE h e W t L) (y : mpc h e p K u dp [f] A) (hp : p ≤ L) (hK : K < 8) (hf : f = (0, A.length, K, 0, false, false, false, fun _ => false))
    (kf : ∀ q, pz (chAt t L) 1000 3 0 p = .inl q → ∀ h', fa h h' → hI h' 366 12 = nI q → Q (some (vI 0)) h')
    (kk : ∀ t1 p', pz (chAt t L) 1000 3 0 p = .inr (t1, p') → ∀ h', fa h h' → mpl h' e p' ((kb t1).1 K) (udf u dp [] ((un t1).1 K)).1 (udf u dp [] ((un t1).1 K)).2.1 (A ++ (ac W.1 (ta2 W) t1).1) → Q (some (vI 1)) h') : vm_C mX11_readsFormula d cx n [vR (some 366)] h Q := by
  subst hf
  have hL : L ≤ 60 := x.2.2.2.1.1
  refine bX11_readsFormula_0 ((g_all2 1000).2.2.2 d cx n h e W t L p K u dp _ [] A 0 Q ⟨x, y, hd, hp, hK, rfl, by decide⟩ (by omega) (show ¬ (0 : Nat) = 2 by decide) rfl rfl rfl rfl rfl rfl ⟨_, List.mem_cons_self .., show ¬ (0 : Nat) = 3 by decide⟩ kf (fun t1 p' _ hu => absurd rfl hu) (fun t1 p' eq h' f' f1 q1 q2 q3 y' => ⟨fun _ o1 => ?_, fun hu => absurd rfl hu⟩) _)
  have x' := x.fa f1
  have hn : (udf u dp [] ((un t1).1 K)).2.2 = [] := List.eq_nil_of_length_eq_zero (udf_len _ _ _ _)
  refine ef_stop x'.1 y' (by rw [hn]; decide) (by rw [q1]; exact (show ¬ (0 : Nat) = 3 by decide)) ⟨rfl, kk t1 p' eq h' f1 y'.l⟩
/-- one part is read, up to what becomes of it -/
theorem pt_step {way x2 : Int32} {o4 o5 : Option vV} (hd : 30 ≤ d) (x : mE h e W t L) (y : mpl h e p K u dp A) (hp : p ≤ L) (hK : K < 8)
    (kf : ∀ q, ptz (chAt t L) p = .inl q → ∀ h', fa h h' → hI h' 366 12 = nI q → Q (some (vI 0)) h')
    (k0 : ∀ a p', ptz (chAt t L) p = .inr (no (if chAt t L p = 91 then 1 else 0) p (cc a .leaf), p') → ∀ h', fa h h' → mpl h' e p' ((kb a).1 K) (udf u dp [] ((un a).1 K)).1 (udf u dp [] ((un a).1 K)).2.1 (A ++ (ac W.1 (ta2 W) a).1) → e = false → vm_E mX11_reads d cx n 175 [some (vR (some 366)), some (vI way), some (vI x2), some (vI 1), some (vI (nI p)), some (vI (bN (decide (chAt t L p = 91))))] [] h' Q)
    (k1 : ∀ a p', ptz (chAt t L) p = .inr (no (if chAt t L p = 91 then 1 else 0) p (cc a .leaf), p') → ∀ h', fa h h' → mpl h' e p' ((kb a).1 K) (udf u dp [] ((un a).1 K)).1 (udf u dp [] ((un a).1 K)).2.1 (A ++ (ac W.1 (ta2 W) a).1) → e = true → vm_E mX11_reads d cx n 161 [some (vR (some 366)), some (vI way), some (vI x2), some (vI 1), some (vI (nI p)), some (vI (bN (decide (chAt t L p = 91))))] [] h' Q) :
    vm_E mX11_reads d cx n 57 [some (vR (some 366)), some (vI way), some (vI x2), some (vI 1), o4, o5] [] h Q := by
  have hL : L ≤ 60 := x.2.2.2.1.1
  have hcok := x.2.2.2.1.k
  have hM := x.1
  have hc := x.c127 p
  refine bX11_reads_57 (fun hz => absurd hz (by decide +kernel)) (fun _ => ?_)
  refine bX11_reads_61 (R := fun r h' => r = some (vI (nx (chAt t L) p)) ∧ h = h') hM.1 (by omega) (m_next x y.2.1 (by omega) ⟨rfl, rfl⟩) ?_
  rintro r h' ⟨rfl, rfl⟩
  rw [y.2.1]
  -- from 98 on: at p or behind the bracket
  have main : ∀ b : Bool, b = decide (chAt t L p = 91) → vm_E mX11_reads d cx n 98 [some (vR (some 366)), some (vI way), some (vI x2), some (vI 1), some (vI (nI p)), some (vI (bN b))] [vI (bN b), vI (nI p), vR (some 366)] h Q := by
    intro b eb
    have epb : nI p + bN b = nI (if chAt t L p = 91 then p + 1 else p) := by
      rw [bN_n, nI_add, eb]
      by_cases h91 : chAt t L p = 91
      · rw [if_pos h91, decide_eq_true h91]; rfl
      · rw [if_neg h91, decide_eq_false h91]; rfl
    have hpb : (if chAt t L p = 91 then p + 1 else p) ≤ L ∧ p ≤ (if chAt t L p = 91 then p + 1 else p) := by
      by_cases h91 : chAt t L p = 91
      · rw [if_pos h91]; have := hcok.lt (p := p) (by omega); omega
      · rw [if_neg h91]; omega
    generalize hp0 : (if chAt t L p = 91 then p + 1 else p) = p0 at epb hpb
    have f1 : fm (fun r j => r = 366 ∧ (j = 12 ∨ j = 16)) h (uI (uI h 366 12 (nI p0)) 366 16 (-1)) := ((fm_uI _ 366 12 _).mono (fun r j z => ⟨z.1, Or.inl z.2⟩)).tr ((fm_uI _ 366 16 _).mono (fun r j z => ⟨z.1, Or.inr z.2⟩))
    have f1a : fa h (uI (uI h 366 12 (nI p0)) 366 16 (-1)) := f1.mono (fun r j z => by unfold pA; omega)
    have y1 : mpc (uI (uI h 366 12 (nI p0)) 366 16 (-1)) e p0 K u dp [] A := (y.mv f1 (fun r j z => by omega) (by rw [hI_uIk _ _ _ (by decide), hI_uIs]) hpb.2).c (hI_uIs _ _ _ _)
    have x1 := x.fa f1a
    refine bX11_reads_98 (R := fun r h' => r = none ∧ fa (uI (uI h 366 12 (nI p0)) 366 16 (-1)) h' ∧ mpc h' e p0 K u dp [(0, A.length, K, 0, false, false, false, fun _ => false)] A) hM.1 hM.1 (by omega) (by rw [epb]; exact m_opens (its := 0) x1.1 y1 (by decide) (by decide) (fun h' f q => ⟨rfl, f, q⟩)) ?_
    rintro r h2 ⟨rfl, f2, y2⟩
    have x2' := x1.fa f2
    have fA := f1a.tr f2
    -- what a part is
    have ep : ptz (chAt t L) p = bnd (pz (chAt t L) 1000 3 0 p0) (fun t1 p' => if chAt t L p = 91 ∧ ¬ chAt t L p' = 93 then .inl p' else .inr (no (if chAt t L p = 91 then 1 else 0) p (cc t1 .leaf), if chAt t L p = 91 then p' + 1 else p')) := by
      unfold ptz; rw [hp0]
    rw [ep] at kf k0 k1
    refine bX11_reads_112 (R := fun r h' => (r = some (vI 0) ∧ Q (some (vI 0)) h') ∨ (r = some (vI 1) ∧ ∃ a p1, pz (chAt t L) 1000 3 0 p0 = .inr (a, p1) ∧ fa h2 h' ∧ mpl h' e p1 ((kb a).1 K) (udf u dp [] ((un a).1 K)).1 (udf u dp [] ((un a).1 K)).2.1 (A ++ (ac W.1 (ta2 W) a).1))) x2'.1.1 (by omega) (m_readsFormula (by omega) x2' y2 hpb.1 hK rfl (fun q eq h' f' e4 => Or.inl ⟨rfl, kf q (by rw [eq]; rfl) h' (fA.tr f') e4⟩) (fun a p1 eq h' f' q => Or.inr ⟨rfl, a, p1, eq, f', q⟩)) ?_
    rintro r h3 (⟨rfl, q⟩ | ⟨rfl, a, p1, eq, f3, y3⟩)
    · exact bX11_reads_116 (fun _ => bX11_reads_133 q) (fun hz => absurd rfl hz)
    · have x3 := x2'.fa f3
      have fB := fA.tr f3
      have hp1 := pz_p1 hcok eq
      have hc1 := x.c127 p1
      rw [eq] at kf k0 k1
      have kf : ∀ q, (if chAt t L p = 91 ∧ ¬ chAt t L p1 = 93 then .inl p1 else .inr (no (if chAt t L p = 91 then 1 else 0) p (cc a .leaf), if chAt t L p = 91 then p1 + 1 else p1) : PR) = .inl q → ∀ h', fa h h' → hI h' 366 12 = nI q → Q (some (vI 0)) h' := kf
      have tail : (chAt t L p = 91 → chAt t L p1 = 93) → vm_E mX11_reads d cx n 135 [some (vR (some 366)), some (vI way), some (vI x2), some (vI 1), some (vI (nI p)), some (vI (bN b))] [] h3 Q := by
        intro h93
        have en : ¬ (chAt t L p = 91 ∧ ¬ chAt t L p1 = 93) := fun z => z.2 (h93 z.1)
        have ef : bnd (.inr (a, p1)) (fun t1 p' => if chAt t L p = 91 ∧ ¬ chAt t L p' = 93 then (.inl p' : PR) else .inr (no (if chAt t L p = 91 then 1 else 0) p (cc t1 .leaf), if chAt t L p = 91 then p' + 1 else p')) = .inr (no (if chAt t L p = 91 then 1 else 0) p (cc a .leaf), if chAt t L p = 91 then p1 + 1 else p1) := if_neg en
        have epb2 : nI p1 + bN b = nI (if chAt t L p = 91 then p1 + 1 else p1) := by
          rw [bN_n, nI_add, eb]
          by_cases h91 : chAt t L p = 91
          · rw [if_pos h91, decide_eq_true h91]; rfl
          · rw [if_neg h91, decide_eq_false h91]; rfl
        have hle : p1 ≤ (if chAt t L p = 91 then p1 + 1 else p1) := by split <;> omega
        have fin : vm_E mX11_reads d cx n 150 [some (vR (some 366)), some (vI way), some (vI x2), some (vI 1), some (vI (nI p)), some (vI (bN b))] [vI (bN b), vI (nI p1), vR (some 366)] h3 Q := by
          have f4 : fa h3 (uI h3 366 12 (nI (if chAt t L p = 91 then p1 + 1 else p1))) := fa_12
          have y4 := y3.mv (fm_uI h3 366 12 (nI (if chAt t L p = 91 then p1 + 1 else p1))) (fun r j z => by omega) (hI_uIs _ _ _ _) hle
          have x4 := x3.fa f4
          refine bX11_reads_150 x3.1.1 x3.1.1 (fun hz => ?_) (fun hz => ?_)
          · rw [epb2] at hz ⊢
            rw [x4.2.2.2.2, bN_i] at hz
            rw [eb]
            exact k0 a _ ef _ (fB.tr f4) y4 hz
          · rw [epb2] at hz ⊢
            rw [x4.2.2.2.2, bN_i, Bool.not_eq_false] at hz
            rw [eb]
            exact k1 a _ ef _ (fB.tr f4) y4 hz
        refine bX11_reads_135 x3.1.1 (fun hz => bX11_reads_149 ?_) (fun hz => bX11_reads_145 ?_)
        · rw [y3.2.1]
          have hb := bN_0 hz
          rw [hb] at fin ⊢; exact fin
        · rw [y3.2.1]
          have hb := bN_1 hz
          rw [hb] at fin ⊢; exact fin
      refine bX11_reads_116 (fun hz => absurd hz (by decide +kernel)) (fun _ => bX11_reads_119 (fun hz => tail ?_) (fun hz => ?_))
      · have hb := bN_0 hz
        rw [eb] at hb
        exact fun z => absurd z (of_decide_eq_false hb)
      · have hb := bN_1 hz
        rw [eb] at hb
        have h91 := of_decide_eq_true hb
        refine bX11_reads_124 (R := fun r h' => r = some (vI (nx (chAt t L) p1)) ∧ h3 = h') x3.1.1 (by omega) (m_next x3 y3.2.1 (by omega) ⟨rfl, rfl⟩) ?_
        rintro r h' ⟨rfl, rfl⟩
        refine bX11_reads_128 (fun h93 => tail (fun _ => (nx_v hc1 (s := 93) (by decide)).mp h93)) (fun h93 => bX11_reads_133 (kf p1 (if_pos ⟨h91, fun z => h93 ((nx_v hc1 (s := 93) (by decide)).mpr z)⟩) h3 fB y3.2.1))
  refine bX11_reads_71 (fun hz => bX11_reads_80 ?_) (fun hz => bX11_reads_76 ?_)
  · have hb : decide (chAt t L p = 91) = false := decide_eq_false (fun z => hz ((nx_v hc (s := 91) (by decide)).mpr z))
    have m := main false hb.symm
    refine bX11_reads_81 hM.1 (fun _ => bX11_reads_97 ?_) (fun hq => absurd rfl hq)
    rw [y.2.1]; exact m
  · have hb : decide (chAt t L p = 91) = true := decide_eq_true ((nx_v hc (s := 91) (by decide)).mp (Classical.byContradiction hz))
    have m := main true hb.symm
    refine bX11_reads_81 hM.1 (fun hq => absurd hq (by decide +kernel)) (fun _ => bX11_reads_93 ?_)
    rw [y.2.1]; exact m
/-- what is written when one goes on to the next part -/
def pN (r j : Nat) : Prop := r = 366 ∧ (j = 7 ∨ j = 12 ∨ j = 25)
theorem pt_next {way x2 x3 x4 x5 : Int32} {i : Nat} (hd : 30 ≤ d) (x : mE h e W t L) (y : mpl h e p K u dp A) (hp : p ≤ L) (hi : hI h 366 25 = nI i)
    (k1 : chAt t L p = 59 → ∀ h', fm pN h h' → mpl h' e (p + 1) K u dp (if e then A else []) → hI h' 366 25 = nI (i + 1) → vm_E mX11_reads d cx n 57 [some (vR (some 366)), some (vI way), some (vI x2), some (vI 1), some (vI x4), some (vI x5)] [] h' Q)
    (k0 : ¬ chAt t L p = 59 → ∀ h', fm pN h h' → mpl h' e p K u dp (if e then A else []) → hI h' 366 25 = nI (i + 1) → Q (some (vI (bN (decide (p = L))))) h') :
    vm_E mX11_reads d cx n 175 [some (vR (some 366)), some (vI way), some (vI x2), some (vI x3), some (vI x4), some (vI x5)] [] h Q := by
  have hL : L ≤ 60 := x.2.2.2.1.1
  have hcok := x.2.2.2.1.k
  have hM := x.1
  have hc := x.c127 p
  have main : ∀ A' : List aT, A' = (if e then A else []) → vm_E mX11_reads d cx n 191 [some (vR (some 366)), some (vI way), some (vI x2), some (vI x3), some (vI x4), some (vI x5)] [vI (nI A'.length), vR (some 366)] h Q := by
    intro A' eA
    rw [← eA] at k0 k1
    have g25 : hI (uI h 366 7 (nI A'.length)) 366 25 + 1 = nI (i + 1) := by rw [hI_uIk _ _ _ (by decide), hi, nI_1]
    have f1 : fm (fun r j => r = 366 ∧ (j = 7 ∨ j = 25)) h (uI (uI h 366 7 (nI A'.length)) 366 25 (nI (i + 1))) := ((fm_uI _ 366 7 _).mono (fun r j z => ⟨z.1, Or.inl z.2⟩)).tr ((fm_uI _ 366 25 _).mono (fun r j z => ⟨z.1, Or.inr z.2⟩))
    have e7 : hI (uI (uI h 366 7 (nI A'.length)) 366 25 (nI (i + 1))) 366 7 = nI A'.length := by rw [hI_uIk _ _ _ (by decide), hI_uIs]
    have e25 : hI (uI (uI h 366 7 (nI A'.length)) 366 25 (nI (i + 1))) 366 25 = nI (i + 1) := hI_uIs _ _ _ _
    refine bX11_reads_191 (R := fun r h' => r = some (vI (nx (chAt t L) p)) ∧ uI (uI h 366 7 (nI A'.length)) 366 25 (nI (i + 1)) = h') hM.1 hM.1 (by omega) (by
      rw [g25]
      exact m_next (x.fm f1 (fun r j z => by omega)) (by rw [f1.2 _ _ (by omega)]; exact y.2.1) (by omega) ⟨rfl, rfl⟩) ?_
    rintro r h' ⟨rfl, rfl⟩
    generalize uI (uI h 366 7 (nI A'.length)) 366 25 (nI (i + 1)) = h1 at f1 e7 e25 ⊢
    have x1 := x.fm f1 (fun r j z => by omega)
    have y1 : mpl h1 e p K u dp A' := by
      obtain ⟨z1, z2, z3, z4, z5, z8, z9, z10, z11⟩ := y
      have hA : axs h1 e A' ∧ 2 * A'.length ≤ p ∧ voks A' := by
        rw [eA]
        cases e
        · exact ⟨fun k a ea => (by cases ea), Nat.zero_le _, voks.nil⟩
        · exact ⟨axs_eq (fun k _ => f1.2 370 k (by omega)) (fun _ j _ => f1.2 371 j (by omega)) z8, z9, z10⟩
      exact ⟨e7, by rw [f1.2 _ _ (by omega)]; exact z2, by rw [f1.2 _ _ (by omega)]; exact z3, by rw [f1.2 _ _ (by omega)]; exact z4, by rw [f1.2 _ _ (by omega)]; exact z5, hA.1, hA.2.1, hA.2.2, z11⟩
    have fN : fm pN h h1 := f1.mono (fun r j z => by unfold pN; omega)
    have fm12 : ∀ q, fm pN h (uI h1 366 12 (nI q)) := fun q => fN.tr ((fm_uI _ 366 12 _).mono (fun r j z => by unfold pN; omega))
    refine bX11_reads_208 (fun hz => bX11_reads_217 ?_) (fun hz => bX11_reads_213 ?_)
    · have h59 : ¬ chAt t L p = 59 := fun z => hz ((nx_v hc (s := 59) (by decide)).mpr z)
      refine bX11_reads_218 x1.1.1 (fun _ => bX11_reads_232 (bX11_reads_233 x1.1.1 ?_)) (fun hq => absurd rfl hq)
      rw [y1.2.1, show nI p + (0 : Int32) = nI p by rw [show (0 : Int32) = nI 0 from rfl, nI_add, Nat.add_zero]]
      have y2 := y1.mv (fm_uI h1 366 12 (nI p)) (fun r j z => by omega) (hI_uIs _ _ _ _) (Nat.le_refl p)
      have k2 := k0 h59 _ (fm12 p) y2 (by rw [hI_uIk _ _ _ (by decide)]; exact e25)
      have x2' := x1.fa (fa_12 (q := p))
      refine bX11_reads_57 (fun _ => bX11_reads_240 x1.1.1 (fun hq => bX11_reads_255 (bX11_reads_256 rfl ?_)) (fun hq => bX11_reads_251 (bX11_reads_256 rfl ?_))) (fun hq => absurd rfl hq)
      · have hn : ¬ p = L := fun z => hq (by rw [y2.2.1, x2'.2.2.1.1, z])
        rw [decide_eq_false hn] at k2; exact k2
      · have hq := Classical.byContradiction hq
        rw [y2.2.1, x2'.2.2.1.1] at hq
        rw [decide_eq_true ((nI_eq (a := p) (b := L) (by omega) (by omega)).mp hq)] at k2; exact k2
    · have h59 := (nx_v hc (s := 59) (by decide)).mp (Classical.byContradiction hz)
      have pL := hcok.lt (p := p) (by omega)
      refine bX11_reads_218 x1.1.1 (fun hq => absurd hq (by decide +kernel)) (fun _ => bX11_reads_228 (bX11_reads_233 x1.1.1 ?_))
      rw [y1.2.1, nI_1]
      exact k1 h59 _ (fm12 (p + 1)) (y1.mv (fm_uI h1 366 12 (nI (p + 1))) (fun r j z => by omega) (hI_uIs _ _ _ _) (Nat.le_succ p)) (by rw [hI_uIk _ _ _ (by decide)]; exact e25)
  refine bX11_reads_175 hM.1 (fun hz => bX11_reads_190 ?_) (fun hz => bX11_reads_183 hM.1 ?_)
  · rw [x.2.2.2.2, bN_i] at hz
    exact main [] (by rw [hz]; rfl)
  · rw [x.2.2.2.2, bN_i, Bool.not_eq_false] at hz
    rw [y.1]
    exact main A (by rw [hz]; rfl)
end
