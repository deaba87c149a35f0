/-! ===== the class's parser: rows, choices, formulas ===== -/
def mp (t : T) : PR → PR
  | .inl q => .inl q
  | .inr (r, p) => .inr (cc t r, p)
def wrR (kd : Nat) : PR → PR
  | .inl q => .inl q
  | .inr (r, p) => .inr (wr kd r, p)
/-- what follows a piece: another one behind the sign, or none -/
def rst (c : Nat → Nat) (sg lv n o p : Nat) : PR := if c p = sg then pz c n lv o (p + 1) else .inr (.leaf, p)
def bnd (e : PR) (f : T → Nat → PR) : PR := match e with
  | .inl q => .inl q
  | .inr (t, p) => f t p
theorem pz_1 (c : Nat → Nat) (n o p : Nat) : pz c (n + 1) 1 o p = bnd (pz c n 0 o p) (fun t p' => mp t (rst c 38 1 n o p')) := by
  rw [pz]
  unfold bnd
  cases pz c n 0 o p with
  | inl q => rfl
  | inr a =>
    obtain ⟨t, p'⟩ := a
    dsimp only
    unfold rst
    by_cases h : c p' = 38
    · rw [if_pos h, if_pos h]; cases pz c n 1 o (p' + 1) <;> rfl
    · rw [if_neg h, if_neg h]; rfl
theorem pz_2 (c : Nat → Nat) (n o p : Nat) : pz c (n + 1) 2 o p = bnd (wrR 2 (pz c n 1 o p)) (fun t p' => mp t (rst c 124 2 n o p')) := by
  rw [pz]
  unfold bnd wrR
  cases pz c n 1 o p with
  | inl q => rfl
  | inr a =>
    obtain ⟨t, p'⟩ := a
    dsimp only
    unfold rst
    by_cases h : c p' = 124
    · rw [if_pos h, if_pos h]; cases pz c n 2 o (p' + 1) <;> rfl
    · rw [if_neg h, if_neg h]; rfl
theorem mp_i {t : T} {e : PR} {x : T} {p : Nat} (h : mp t e = .inr (x, p)) : ∃ r, e = .inr (r, p) ∧ x = cc t r := by
  cases e with
  | inl q => cases h
  | inr a =>
    obtain ⟨r, p'⟩ := a
    injection h with h; injection h with h1 h2
    exact ⟨r, by rw [h2], h1.symm⟩
theorem mp_l {t : T} {e : PR} {q : Nat} (h : mp t e = .inl q) : e = .inl q := by
  cases e with
  | inl q' => injection h with h; rw [h]
  | inr a => cases h
theorem pz_cc {c : Nat → Nat} {n o p p' : Nat} {x : T} {lv : Nat} (hl : lv = 1 ∨ lv = 2) (h : pz c n lv o p = .inr (x, p')) : ∃ t r, x = cc t r := by
  cases n with
  | zero => unfold pz at h; cases h
  | succ n =>
    rcases hl with rfl | rfl
    · rw [pz_1] at h
      cases e : pz c n 0 o p with
      | inl q => rw [e] at h; cases h
      | inr a => rw [e] at h; obtain ⟨r, _, z⟩ := mp_i h; exact ⟨_, r, z⟩
    · rw [pz_2] at h
      cases e : wrR 2 (pz c n 1 o p) with
      | inl q => rw [e] at h; cases h
      | inr a => rw [e] at h; obtain ⟨r, _, z⟩ := mp_i h; exact ⟨_, r, z⟩
/-- a reading's outcome, told -/
def pRes (L : Nat) (h : vH) (u o p0 : Nat) (res : PR) : vQ := fun r h' =>
  (∃ q, res = .inl q ∧ r = some (vR none) ∧ fp 0 h h' ∧ hI h' 41 4 = nI q ∧ q ≤ L) ∨ ∃ t p' u' b, res = .inr (t, p') ∧ r = some (vR (some (nA b))) ∧ fp u h h' ∧ pst h' u' o p' ∧ nd h' t u u' b ∧ hR h' (nA b) 8 = none ∧ u' + p0 + 1 ≤ u + p'
theorem pRes_ok {L : Nat} {h : vH} {u o p0 : Nat} {res : PR} : pOK L h u o p0 res (pRes L h u o p0 res) :=
  ⟨fun q e h' f e4 hq => Or.inl ⟨q, e, rfl, f, e4, hq⟩, fun t p' e h' u' b f e2 e3 e4 n e8 hc => Or.inr ⟨t, p', u', b, e, rfl, f, ⟨e2, e3, e4⟩, n, e8, hc⟩⟩
/-- the contract of a reading method -/
def rdM (M : vM) (D : Nat) (E : (Nat → Nat) → Nat → Nat → PR) (F : Nat → Nat → Prop) : Prop := ∀ (d cx m u o p : Nat) (h : vH) (t : Nat → Nat) (L : Nat) (Q : vQ), 6 * (8 - o) + D ≤ d → pin h t L → pst h u o p → u ≤ p + 1 → o ≤ 8 → p ≤ L → F L p → pOK L h u o p (E (chAt t L) o p) Q → vm_C M d cx m [vR (some 41)] h Q
def A0 (n : Nat) : Prop := rdM mX6_unit 10 (fun c o p => pz c n 0 o p) (fun L p => 4 * (L - p) < n)
def A1 (n : Nat) : Prop := rdM mX6_row 11 (fun c o p => wrR 2 (pz c n 1 o p)) (fun L p => 4 * (L - p) + 1 < n)
def A2 (n : Nat) : Prop := rdM mX6_choice 12 (fun c o p => wrR 3 (pz c n 2 o p)) (fun L p => 4 * (L - p) + 2 < n)
def A3 (n : Nat) : Prop := rdM mX6_formula 13 (fun c o p => pz c n 3 o p) (fun L p => 4 * (L - p) + 3 < n)
theorem fp_ax {u lo hi x : Nat} {h h' : vH} (f : fp u h h') (h1 : hi ≤ u) (h2 : hi ≤ 62) : ax h h' lo hi x := fun i i1 i2 _ =>
  ⟨fun j _ => f.2.2.2.1 _ _ (by rintro (w | ⟨k, k1, k2, k3⟩); exact nA41 i w; have := nA_inj k3; omega), fun j _ _ => f.2.2.2.2 _ _ (by rintro ⟨k, k1, k2, k3, _⟩; have := nA_inj k3; omega)⟩
theorem fp_nd {u b : Nat} {h h' : vH} (f : fp u h h') (hb : b < u) (j : Nat) : hI h' (nA b) j = hI h (nA b) j ∧ hR h' (nA b) j = hR h (nA b) j :=
  ⟨f.2.2.2.1 _ _ (by rintro (w | ⟨k, k1, k2, k3⟩); exact nA41 b w; have := nA_inj k3; omega), f.2.2.2.2 _ _ (by rintro ⟨k, k1, k2, k3, _⟩; have := nA_inj k3; omega)⟩
theorem rst_p {c : Nat → Nat} {L sg lv n o p p' : Nat} {r : T} (x : cOk c L) (hp : p ≤ L) (h : rst c sg lv n o p = .inr (r, p')) : p ≤ p' ∧ p' ≤ L ∧ (c p = sg → p + 2 < p') := by
  unfold rst at h
  split at h
  · have := pz_p x _ _ _ _ _ _ h
    omega
  · injection h with h; injection h with h1 h2
    exact ⟨by omega, by omega, fun z => by contradiction⟩
theorem pz_p1 {c : Nat → Nat} {L n lv o p p' : Nat} {t : T} (x : cOk c L) (h : pz c n lv o p = .inr (t, p')) : p + 1 < p' ∧ p' ≤ L := pz_p x _ _ _ _ _ _ h
theorem wrR_p {c : Nat → Nat} {L kd n lv o p p' : Nat} {t : T} (x : cOk c L) (h : wrR kd (pz c n lv o p) = .inr (t, p')) : p + 1 < p' ∧ p' ≤ L := by
  cases e : pz c n lv o p with
  | inl q => rw [e] at h; cases h
  | inr a =>
    obtain ⟨r, p2⟩ := a
    rw [e] at h
    injection h with h; injection h with h1 h2
    subst h2
    exact pz_p x _ _ _ _ _ _ e
theorem row_loop {N d cx nn u0 o p0 b : Nat} {t : Nat → Nat} {L : Nat} {Q : vQ} (A : ∀ m, m ≤ N → A0 m) (hd : 6 * (8 - o) + 11 ≤ d) (ho : o ≤ 8) (hu0 : u0 ≤ p0 + 1) (hb0 : u0 ≤ b) : ∀ (m : Nat), m ≤ N + 1 → ∀ (i s : Nat) (pre : T) (u1 p1 : Nat) (h1 : vH), pin h1 t L → pst h1 u1 o p1 → cd h1 pre u0 u1 b none (hR h1 (nA b) 6) (hR h1 (nA b) 7) → hI h1 (nA b) 0 = nI 2 → hR h1 (nA b) 8 = none → b < u1 → u1 ≤ 62 → p1 ≤ L → u1 + p0 + s ≤ u0 + p1 → i + 1 ≤ p1 → (chAt t L p1 = 38 → 4 * (L - (p1 + 1)) + 1 < m) →
    (∀ q, rst (chAt t L) 38 1 m o p1 = .inl q → ∀ h', fp 0 h1 h' → hI h' 41 4 = nI q → q ≤ L → Q (some (vR none)) h') →
    (∀ r p', rst (chAt t L) 38 1 m o p1 = .inr (r, p') → ∀ h' u', fp u0 h1 h' → pst h' u' o p' → cd h' (app pre r) u0 u' b none (hR h' (nA b) 6) (hR h' (nA b) 7) → hI h' (nA b) 0 = nI 2 → hR h' (nA b) 8 = none → b < u' → u' ≤ 62 → u' + p0 + s ≤ u0 + p' → (chAt t L p1 = 38 → u' + p0 + s + 1 ≤ u0 + p') → Q (some (vR (some (nA b)))) h') →
    vm_E mX6_row d cx nn 30 [some (vR (some 41)), some (vR (some (nA b))), some (vI (nI i))] [] h1 Q := by
  intro m
  induction m with
  | zero =>
    intro _ i s pre u1 p1 h1 x ps hc hk e8 hb hu hp hcnt hi hf kf ks
    have hL := x.2.2.1
    have hne : ¬ chAt t L p1 = 38 := fun z => absurd (hf z) (by omega)
    have er : rst (chAt t L) 38 1 0 o p1 = .inr (.leaf, p1) := if_neg hne
    refine bX6_row_30 (fun hz => absurd hz (nI_ge (a := i) (b := 60) (by omega) (by decide))) (fun _ => bX6_row_36 (fun hz => absurd hz nofun) (fun _ => ?_))
    refine bX6_row_40 (R := fun r h' => r = some (vI 0) ∧ h1 = h') x.1.2.2.2.2.1.1 (by omega) (c_skip (s := 38) (by omega) x (by omega) (by decide) ps.2.2 (fun z => absurd z hne) (fun _ => ⟨rfl, rfl⟩)) ?_
    rintro r h' ⟨rfl, rfl⟩
    exact bX6_row_46 (fun _ => bX6_row_65 (ks _ _ er h1 u1 fp.rf ps (by rw [app_l]; exact hc) hk e8 hb hu hcnt (fun z => absurd z hne))) (fun hz => absurd rfl hz)
  | succ m ih =>
    intro hmN i s pre u1 p1 h1 x ps hc hk e8 hb hu hp hcnt hi hf kf ks
    have hL := x.2.2.1
    have l := x.1.2.2.2.2.1
    refine bX6_row_30 (fun hz => absurd hz (nI_ge (a := i) (b := 60) (by omega) (by decide))) (fun _ => bX6_row_36 (fun hz => absurd hz nofun) (fun _ => ?_))
    refine bX6_row_40 (R := fun r h' => (chAt t L p1 = 38 ∧ r = some (vI 1) ∧ uI h1 41 4 (nI (p1 + 1)) = h') ∨ (¬ chAt t L p1 = 38 ∧ r = some (vI 0) ∧ h1 = h')) l.1 (by omega) (c_skip (s := 38) (by omega) x (by omega) (by decide) ps.2.2 (fun z => Or.inl ⟨z, rfl, rfl⟩) (fun z => Or.inr ⟨z, rfl, rfl⟩)) ?_
    rintro r h' (⟨hz, rfl, rfl⟩ | ⟨hne, rfl, rfl⟩)
    · have hp1 := x.cok.lt (p := p1) (by omega)
      have hf2 := hf hz
      have er : rst (chAt t L) 38 1 (m + 1) o p1 = bnd (pz (chAt t L) m 0 o (p1 + 1)) (fun t' p' => mp t' (rst (chAt t L) 38 1 m o p')) := by
        unfold rst; rw [if_pos hz, pz_1]
        rfl
      rw [er] at kf ks
      have f0 : fp u1 h1 (uI h1 41 4 (nI (p1 + 1))) := fp_41
      refine bX6_row_46 (fun hc => absurd hc (by decide +kernel)) (fun _ => ?_)
      refine bX6_row_49 (R := pRes L (uI h1 41 4 (nI (p1 + 1))) u1 o (p1 + 1) (pz (chAt t L) m 0 o (p1 + 1))) l.1 (by omega) (A m (by omega) _ _ _ _ _ _ _ _ _ _ (by omega) (x.fp f0) (ps.at (q := p1 + 1)) (by omega) ho (by omega) (by omega) pRes_ok) ?_
      rintro r h' (⟨q, eq, rfl, f, e4, hq⟩ | ⟨t2, p2, u2, b2, eq, rfl, f, s2, n2, e82, hc2⟩)
      · have fin : ∀ j : Int32, vm_E mX6_row d cx nn 30 [some (vR (some 41)), some (vR none), some (vI j)] [] h' Q := fun j => by
          have z := kf q (by rw [eq]; rfl) h' (f0.z.tr f) e4 hq
          exact bX6_row_30 (fun _ => bX6_row_65 z) (fun _ => bX6_row_36 (fun _ => bX6_row_65 z) (fun hz => absurd rfl hz))
        refine bX6_row_55 (R := fun r h2 => r = some (vR none) ∧ h' = h2) (by rw [(f0.z.tr f).k]; exact l.1) (by omega) (c_joined0 ⟨rfl, rfl⟩) ?_
        rintro r h2 ⟨rfl, rfl⟩
        exact bX6_row_58 (fin _)
      · have f1 : fp u1 h1 h' := f0.tr f
        have nb2 := nd_b n2
        have x' := x.fp f1
        have l' := x'.1.2.2.2.2.1
        have hc' : cd h' pre u0 u1 b none (hR h' (nA b) 6) (hR h' (nA b) 7) := by
          rw [(fp_nd f1 hb 6).2, (fp_nd f1 hb 7).2]
          exact (rp_ag pre).2 _ _ _ _ _ _ hc (fp_ax f1 (Nat.le_refl _) hu)
        have hp2 := pz_p1 x.cok eq
        refine bX6_row_55 (R := fun r h2 => r = some (vR (some (nA b))) ∧ fp u0 h' h2 ∧ hI h2 = hI h' ∧ cd h2 (app pre (cc t2 .leaf)) u0 u2 b none (hR h2 (nA b) 6) (hR h2 (nA b) 7) ∧ hR h2 (nA b) 8 = none) l'.1 (by omega) (c_joined (c := pre) (lo0 := u0) (lo := u0) (hi := u1) (by omega) l' (by omega) hc' n2 (Nat.le_refl _) (by omega) (Or.inl hb) e82 (Nat.le_refl _) hb0 (fun h2 g1 g2 g3 g4 => ⟨rfl, g1, g2, g3, by rw [g4, (fp_nd f1 hb 8).2, e8]⟩)) ?_
        rintro r h2 ⟨rfl, g1, g2, g3, g4⟩
        have fA : fp u0 h1 h2 := (f1.mono (by omega)).tr g1
        refine bX6_row_58 ?_
        rw [nI_1]
        refine ih (by omega) (i + 1) (s + 1) (app pre (cc t2 .leaf)) u2 p2 h2 (x'.fp g1) ⟨by rw [g2]; exact s2.1, by rw [g2]; exact s2.2.1, by rw [g2]; exact s2.2.2⟩ g3 (by rw [g2, (fp_nd f1 hb 0).1]; exact hk) g4 (by omega) (by omega) (by omega) (by omega) (by omega) (fun z => by have := x.cok.lt (p := p2) (by omega); omega) (fun q e h3 f3 e4 hq => kf q (by rw [eq]; show mp t2 _ = _; rw [e]; rfl) h3 (fA.z.tr f3) e4 hq) (fun r p' e h3 u' f3 s3 c3 k3 e83 b3 u3 n3 _ => ?_)
        rw [app_a] at c3
        exact ks (cc t2 r) p' (by rw [eq]; show mp t2 _ = _; rw [e]; rfl) h3 u' (fA.tr f3) s3 c3 k3 e83 b3 u3 (by omega) (fun _ => by omega)
    · have er : rst (chAt t L) 38 1 (m + 1) o p1 = .inr (.leaf, p1) := if_neg hne
      exact bX6_row_46 (fun _ => bX6_row_65 (ks _ _ er h1 u1 fp.rf ps (by rw [app_l]; exact hc) hk e8 hb hu hcnt (fun z => absurd z hne))) (fun hz => absurd rfl hz)
theorem c_row {N : Nat} (A : ∀ m, m ≤ N → A0 m) : A1 (N + 1) := by
  intro d cx nn u o p h t L Q hd x ps hu ho hp hf k
  have hL := x.2.2.1
  have l := x.1.2.2.2.2.1
  have ez : pz (chAt t L) (N + 1) 1 o p = bnd (pz (chAt t L) N 0 o p) (fun t' p' => mp t' (rst (chAt t L) 38 1 N o p')) := pz_1 _ _ _ _
  have k2 : pOK L h u o p (wrR 2 (pz (chAt t L) (N + 1) 1 o p)) Q := k
  rw [ez] at k2
  refine bX6_row_0 (R := pRes L h u o p (pz (chAt t L) N 0 o p)) l.1 (by omega) (A N (Nat.le_refl _) _ _ _ _ _ _ _ _ _ _ (by omega) x ps hu ho hp (by omega) pRes_ok) ?_
  rintro r h' (⟨q, eq, rfl, f, e4, hq⟩ | ⟨t1, p1, u1, b1, eq, rfl, f, s1, n1, e81, hc1⟩)
  · have x' := x.fp f
    have l' := x'.1.2.2.2.2.1
    have z := k2.1 q (by rw [eq]; rfl) h' f e4 hq
    have fin : vm_E mX6_row d cx nn 28 [some (vR (some 41)), some (vR none), none] [] h' Q := bX6_row_28 (bX6_row_30 (fun _ => bX6_row_65 z) (fun _ => bX6_row_36 (fun _ => bX6_row_65 z) (fun hz => absurd rfl hz)))
    refine bX6_row_4 (b3 := 39) (R := fun r h2 => r = some (vI (nI (chAt t L q))) ∧ h' = h2) l'.1 l'.2.1 x'.1.2.2.2.1.1 (by omega) (by rw [e4]; exact c_pat x' (by omega) ⟨rfl, rfl⟩) ?_
    rintro r h2 ⟨rfl, rfl⟩
    refine bX6_row_16 (fun _ => fin) (fun _ => bX6_row_21 (R := fun r h2 => r = some (vR none) ∧ h' = h2) l'.1 (by omega) (c_holding0 ⟨rfl, rfl⟩) ?_)
    rintro r h2 ⟨rfl, rfl⟩
    exact bX6_row_27 fin
  · have x' := x.fp f
    have l' := x'.1.2.2.2.2.1
    have hp1 := pz_p1 x.cok eq
    have nb1 := nd_b n1
    have hc127 := x.c127 p1
    refine bX6_row_4 (b3 := 39) (R := fun r h2 => r = some (vI (nI (chAt t L p1))) ∧ h' = h2) l'.1 l'.2.1 x'.1.2.2.2.1.1 (by omega) (by rw [s1.2.2]; exact c_pat x' (by omega) ⟨rfl, rfl⟩) ?_
    rintro r h2 ⟨rfl, rfl⟩
    refine bX6_row_16 (fun hz => ?_) (fun hz => ?_)
    · have hne : ¬ chAt t L p1 = 38 := fun z => hz (by rw [z]; rfl)
      have er : rst (chAt t L) 38 1 N o p1 = .inr (.leaf, p1) := if_neg hne
      have z := k2.2 t1 p1 (by rw [eq]; show wrR 2 (mp t1 _) = _; rw [er]; rfl) h' u1 b1 f s1.1 s1.2.1 s1.2.2 n1 e81 hc1
      refine bX6_row_28 (bX6_row_30 (fun hz => absurd hz (by decide +kernel)) (fun _ => bX6_row_36 (fun hz => absurd hz nofun) (fun _ => ?_)))
      refine bX6_row_40 (R := fun r h2 => r = some (vI 0) ∧ h' = h2) l'.1 (by omega) (c_skip (s := 38) (by omega) x' (by omega) (by decide) s1.2.2 (fun z => absurd z hne) (fun _ => ⟨rfl, rfl⟩)) ?_
      rintro r h2 ⟨rfl, rfl⟩
      exact bX6_row_46 (fun _ => bX6_row_65 z) (fun hz => absurd rfl hz)
    · have hz := (nI_eq (a := chAt t L p1) (b := 38) (by omega) (by decide)).mp (Classical.byContradiction hz)
      have hp1L := x.cok.lt (p := p1) (by omega)
      refine bX6_row_21 (R := fun r h2 => r = some (vR (some (nA u1))) ∧ fp u h' h2 ∧ hI h2 41 2 = nI (u1 + 1) ∧ hI h2 41 3 = hI h' 41 3 ∧ hI h2 41 4 = hI h' 41 4 ∧ hI h2 (nA u1) 0 = nI 2 ∧ cd h2 (cc t1 .leaf) u u1 u1 none (hR h2 (nA u1) 6) (hR h2 (nA u1) 7) ∧ hR h2 (nA u1) 8 = none) l'.1 (by omega) (c_holding (by omega) l' (by omega) s1.1 n1 e81 (fun h2 a1 a2 a3 a4 a5 a6 a7 => ⟨rfl, a1, a2, a3, a4, a5, a6, a7⟩)) ?_
      rintro r h2 ⟨rfl, a1, a2, a3, a4, a5, a6, a7⟩
      have fA := f.tr a1
      refine bX6_row_27 (bX6_row_28 ?_)
      refine row_loop (N := N) (u0 := u) (p0 := p) (b := u1) A hd ho hu (by omega) N (by omega) 0 0 (cc t1 .leaf) (u1 + 1) p1 h2 (x'.fp a1) ⟨a2, by rw [a3]; exact s1.2.1, by rw [a4]; exact s1.2.2⟩ (cd_w (by omega) _ _ _ (Nat.le_refl _) _ _ _ a6) a5 a7 (by omega) (by omega) (by omega) (by omega) (by omega) (fun _ => by omega) (fun q e h3 f3 e4 hq => k2.1 q (by rw [eq]; show wrR 2 (mp t1 _) = _; rw [e]; rfl) h3 (fA.z.tr f3) e4 hq) (fun r p' e h3 u' f3 s3 c3 k3 e83 b3 u3 n3 n4 => ?_)
      have e' := e
      unfold rst at e'
      rw [if_pos hz] at e'
      obtain ⟨t3, r3, rfl⟩ := pz_cc (lv := 1) (by decide) e'
      have n5 := n4 hz
      exact k2.2 (no 2 0 (cc t1 (cc t3 r3))) p' (by rw [eq]; show wrR 2 (mp t1 _) = _; rw [e]; rfl) h3 u' u1 (fA.tr f3) s3.1 s3.2.1 s3.2.2 (nd_i.mpr ⟨by omega, b3, u3, ⟨k3, fun z => absurd z (by decide), fun z => absurd z (by decide)⟩, c3⟩) e83 (by omega)
theorem choice_loop {N d cx nn u0 o p0 b : Nat} {t : Nat → Nat} {L : Nat} {Q : vQ} (A : ∀ m, m ≤ N → A1 m) (hd : 6 * (8 - o) + 12 ≤ d) (ho : o ≤ 8) (hu0 : u0 ≤ p0 + 1) (hb0 : u0 ≤ b) : ∀ (m : Nat), m ≤ N + 1 → ∀ (i s : Nat) (pre : T) (u1 p1 : Nat) (h1 : vH), pin h1 t L → pst h1 u1 o p1 → cd h1 pre u0 u1 b none (hR h1 (nA b) 6) (hR h1 (nA b) 7) → hI h1 (nA b) 0 = nI 3 → hR h1 (nA b) 8 = none → b < u1 → u1 ≤ 62 → p1 ≤ L → u1 + p0 + s ≤ u0 + p1 → i + 1 ≤ p1 → (chAt t L p1 = 124 → 4 * (L - (p1 + 1)) + 2 < m) →
    (∀ q, rst (chAt t L) 124 2 m o p1 = .inl q → ∀ h', fp 0 h1 h' → hI h' 41 4 = nI q → q ≤ L → Q (some (vR none)) h') →
    (∀ r p', rst (chAt t L) 124 2 m o p1 = .inr (r, p') → ∀ h' u', fp u0 h1 h' → pst h' u' o p' → cd h' (app pre r) u0 u' b none (hR h' (nA b) 6) (hR h' (nA b) 7) → hI h' (nA b) 0 = nI 3 → hR h' (nA b) 8 = none → b < u' → u' ≤ 62 → u' + p0 + s ≤ u0 + p' → (chAt t L p1 = 124 → u' + p0 + s + 1 ≤ u0 + p') → Q (some (vR (some (nA b)))) h') →
    vm_E mX6_choice d cx nn 30 [some (vR (some 41)), some (vR (some (nA b))), some (vI (nI i))] [] h1 Q := by
  intro m
  induction m with
  | zero =>
    intro _ i s pre u1 p1 h1 x ps hc hk e8 hb hu hp hcnt hi hf kf ks
    have hL := x.2.2.1
    have hne : ¬ chAt t L p1 = 124 := fun z => absurd (hf z) (by omega)
    have er : rst (chAt t L) 124 2 0 o p1 = .inr (.leaf, p1) := if_neg hne
    refine bX6_choice_30 (fun hz => absurd hz (nI_ge (a := i) (b := 60) (by omega) (by decide))) (fun _ => bX6_choice_36 (fun hz => absurd hz nofun) (fun _ => ?_))
    refine bX6_choice_40 (R := fun r h' => r = some (vI 0) ∧ h1 = h') x.1.2.2.2.2.1.1 (by omega) (c_skip (s := 124) (by omega) x (by omega) (by decide) ps.2.2 (fun z => absurd z hne) (fun _ => ⟨rfl, rfl⟩)) ?_
    rintro r h' ⟨rfl, rfl⟩
    exact bX6_choice_46 (fun _ => bX6_choice_65 (ks _ _ er h1 u1 fp.rf ps (by rw [app_l]; exact hc) hk e8 hb hu hcnt (fun z => absurd z hne))) (fun hz => absurd rfl hz)
  | succ m ih =>
    intro hmN i s pre u1 p1 h1 x ps hc hk e8 hb hu hp hcnt hi hf kf ks
    have hL := x.2.2.1
    have l := x.1.2.2.2.2.1
    refine bX6_choice_30 (fun hz => absurd hz (nI_ge (a := i) (b := 60) (by omega) (by decide))) (fun _ => bX6_choice_36 (fun hz => absurd hz nofun) (fun _ => ?_))
    refine bX6_choice_40 (R := fun r h' => (chAt t L p1 = 124 ∧ r = some (vI 1) ∧ uI h1 41 4 (nI (p1 + 1)) = h') ∨ (¬ chAt t L p1 = 124 ∧ r = some (vI 0) ∧ h1 = h')) l.1 (by omega) (c_skip (s := 124) (by omega) x (by omega) (by decide) ps.2.2 (fun z => Or.inl ⟨z, rfl, rfl⟩) (fun z => Or.inr ⟨z, rfl, rfl⟩)) ?_
    rintro r h' (⟨hz, rfl, rfl⟩ | ⟨hne, rfl, rfl⟩)
    · have hp1 := x.cok.lt (p := p1) (by omega)
      have hf2 := hf hz
      have er : rst (chAt t L) 124 2 (m + 1) o p1 = bnd (wrR 2 (pz (chAt t L) m 1 o (p1 + 1))) (fun t' p' => mp t' (rst (chAt t L) 124 2 m o p')) := by
        unfold rst; rw [if_pos hz, pz_2]
        rfl
      rw [er] at kf ks
      have f0 : fp u1 h1 (uI h1 41 4 (nI (p1 + 1))) := fp_41
      refine bX6_choice_46 (fun hc => absurd hc (by decide +kernel)) (fun _ => ?_)
      refine bX6_choice_49 (R := pRes L (uI h1 41 4 (nI (p1 + 1))) u1 o (p1 + 1) (wrR 2 (pz (chAt t L) m 1 o (p1 + 1)))) l.1 (by omega) (A m (by omega) _ _ _ _ _ _ _ _ _ _ (by omega) (x.fp f0) (ps.at (q := p1 + 1)) (by omega) ho (by omega) (by omega) pRes_ok) ?_
      rintro r h' (⟨q, eq, rfl, f, e4, hq⟩ | ⟨t2, p2, u2, b2, eq, rfl, f, s2, n2, e82, hc2⟩)
      · have fin : ∀ j : Int32, vm_E mX6_choice d cx nn 30 [some (vR (some 41)), some (vR none), some (vI j)] [] h' Q := fun j => by
          have z := kf q (by rw [eq]; rfl) h' (f0.z.tr f) e4 hq
          exact bX6_choice_30 (fun _ => bX6_choice_65 z) (fun _ => bX6_choice_36 (fun _ => bX6_choice_65 z) (fun hz => absurd rfl hz))
        refine bX6_choice_55 (R := fun r h2 => r = some (vR none) ∧ h' = h2) (by rw [(f0.z.tr f).k]; exact l.1) (by omega) (c_joined0 ⟨rfl, rfl⟩) ?_
        rintro r h2 ⟨rfl, rfl⟩
        exact bX6_choice_58 (fin _)
      · have f1 : fp u1 h1 h' := f0.tr f
        have nb2 := nd_b n2
        have x' := x.fp f1
        have l' := x'.1.2.2.2.2.1
        have hc' : cd h' pre u0 u1 b none (hR h' (nA b) 6) (hR h' (nA b) 7) := by
          rw [(fp_nd f1 hb 6).2, (fp_nd f1 hb 7).2]
          exact (rp_ag pre).2 _ _ _ _ _ _ hc (fp_ax f1 (Nat.le_refl _) hu)
        have hp2 := wrR_p x.cok eq
        refine bX6_choice_55 (R := fun r h2 => r = some (vR (some (nA b))) ∧ fp u0 h' h2 ∧ hI h2 = hI h' ∧ cd h2 (app pre (cc t2 .leaf)) u0 u2 b none (hR h2 (nA b) 6) (hR h2 (nA b) 7) ∧ hR h2 (nA b) 8 = none) l'.1 (by omega) (c_joined (c := pre) (lo0 := u0) (lo := u0) (hi := u1) (by omega) l' (by omega) hc' n2 (Nat.le_refl _) (by omega) (Or.inl hb) e82 (Nat.le_refl _) hb0 (fun h2 g1 g2 g3 g4 => ⟨rfl, g1, g2, g3, by rw [g4, (fp_nd f1 hb 8).2, e8]⟩)) ?_
        rintro r h2 ⟨rfl, g1, g2, g3, g4⟩
        have fA : fp u0 h1 h2 := (f1.mono (by omega)).tr g1
        refine bX6_choice_58 ?_
        rw [nI_1]
        refine ih (by omega) (i + 1) (s + 1) (app pre (cc t2 .leaf)) u2 p2 h2 (x'.fp g1) ⟨by rw [g2]; exact s2.1, by rw [g2]; exact s2.2.1, by rw [g2]; exact s2.2.2⟩ g3 (by rw [g2, (fp_nd f1 hb 0).1]; exact hk) g4 (by omega) (by omega) (by omega) (by omega) (by omega) (fun z => by have := x.cok.lt (p := p2) (by omega); omega) (fun q e h3 f3 e4 hq => kf q (by rw [eq]; show mp t2 _ = _; rw [e]; rfl) h3 (fA.z.tr f3) e4 hq) (fun r p' e h3 u' f3 s3 c3 k3 e83 b3 u3 n3 _ => ?_)
        rw [app_a] at c3
        exact ks (cc t2 r) p' (by rw [eq]; show mp t2 _ = _; rw [e]; rfl) h3 u' (fA.tr f3) s3 c3 k3 e83 b3 u3 (by omega) (fun _ => by omega)
    · have er : rst (chAt t L) 124 2 (m + 1) o p1 = .inr (.leaf, p1) := if_neg hne
      exact bX6_choice_46 (fun _ => bX6_choice_65 (ks _ _ er h1 u1 fp.rf ps (by rw [app_l]; exact hc) hk e8 hb hu hcnt (fun z => absurd z hne))) (fun hz => absurd rfl hz)
theorem c_choice {N : Nat} (A : ∀ m, m ≤ N → A1 m) : A2 (N + 1) := by
  intro d cx nn u o p h t L Q hd x ps hu ho hp hf k
  have hL := x.2.2.1
  have l := x.1.2.2.2.2.1
  have ez : pz (chAt t L) (N + 1) 2 o p = bnd (wrR 2 (pz (chAt t L) N 1 o p)) (fun t' p' => mp t' (rst (chAt t L) 124 2 N o p')) := pz_2 _ _ _ _
  have k2 : pOK L h u o p (wrR 3 (pz (chAt t L) (N + 1) 2 o p)) Q := k
  rw [ez] at k2
  refine bX6_choice_0 (R := pRes L h u o p (wrR 2 (pz (chAt t L) N 1 o p))) l.1 (by omega) (A N (Nat.le_refl _) _ _ _ _ _ _ _ _ _ _ (by omega) x ps hu ho hp (by omega) pRes_ok) ?_
  rintro r h' (⟨q, eq, rfl, f, e4, hq⟩ | ⟨t1, p1, u1, b1, eq, rfl, f, s1, n1, e81, hc1⟩)
  · have x' := x.fp f
    have l' := x'.1.2.2.2.2.1
    have z := k2.1 q (by rw [eq]; rfl) h' f e4 hq
    have fin : vm_E mX6_choice d cx nn 28 [some (vR (some 41)), some (vR none), none] [] h' Q := bX6_choice_28 (bX6_choice_30 (fun _ => bX6_choice_65 z) (fun _ => bX6_choice_36 (fun _ => bX6_choice_65 z) (fun hz => absurd rfl hz)))
    refine bX6_choice_4 (b3 := 39) (R := fun r h2 => r = some (vI (nI (chAt t L q))) ∧ h' = h2) l'.1 l'.2.1 x'.1.2.2.2.1.1 (by omega) (by rw [e4]; exact c_pat x' (by omega) ⟨rfl, rfl⟩) ?_
    rintro r h2 ⟨rfl, rfl⟩
    refine bX6_choice_16 (fun _ => fin) (fun _ => bX6_choice_21 (R := fun r h2 => r = some (vR none) ∧ h' = h2) l'.1 (by omega) (c_holding0 ⟨rfl, rfl⟩) ?_)
    rintro r h2 ⟨rfl, rfl⟩
    exact bX6_choice_27 fin
  · have x' := x.fp f
    have l' := x'.1.2.2.2.2.1
    have hp1 := wrR_p x.cok eq
    have nb1 := nd_b n1
    have hc127 := x.c127 p1
    refine bX6_choice_4 (b3 := 39) (R := fun r h2 => r = some (vI (nI (chAt t L p1))) ∧ h' = h2) l'.1 l'.2.1 x'.1.2.2.2.1.1 (by omega) (by rw [s1.2.2]; exact c_pat x' (by omega) ⟨rfl, rfl⟩) ?_
    rintro r h2 ⟨rfl, rfl⟩
    refine bX6_choice_16 (fun hz => ?_) (fun hz => ?_)
    · have hne : ¬ chAt t L p1 = 124 := fun z => hz (by rw [z]; rfl)
      have er : rst (chAt t L) 124 2 N o p1 = .inr (.leaf, p1) := if_neg hne
      have z := k2.2 t1 p1 (by rw [eq]; show wrR 3 (mp t1 _) = _; rw [er]; rfl) h' u1 b1 f s1.1 s1.2.1 s1.2.2 n1 e81 hc1
      refine bX6_choice_28 (bX6_choice_30 (fun hz => absurd hz (by decide +kernel)) (fun _ => bX6_choice_36 (fun hz => absurd hz nofun) (fun _ => ?_)))
      refine bX6_choice_40 (R := fun r h2 => r = some (vI 0) ∧ h' = h2) l'.1 (by omega) (c_skip (s := 124) (by omega) x' (by omega) (by decide) s1.2.2 (fun z => absurd z hne) (fun _ => ⟨rfl, rfl⟩)) ?_
      rintro r h2 ⟨rfl, rfl⟩
      exact bX6_choice_46 (fun _ => bX6_choice_65 z) (fun hz => absurd rfl hz)
    · have hz := (nI_eq (a := chAt t L p1) (b := 124) (by omega) (by decide)).mp (Classical.byContradiction hz)
      have hp1L := x.cok.lt (p := p1) (by omega)
      refine bX6_choice_21 (R := fun r h2 => r = some (vR (some (nA u1))) ∧ fp u h' h2 ∧ hI h2 41 2 = nI (u1 + 1) ∧ hI h2 41 3 = hI h' 41 3 ∧ hI h2 41 4 = hI h' 41 4 ∧ hI h2 (nA u1) 0 = nI 3 ∧ cd h2 (cc t1 .leaf) u u1 u1 none (hR h2 (nA u1) 6) (hR h2 (nA u1) 7) ∧ hR h2 (nA u1) 8 = none) l'.1 (by omega) (c_holding (by omega) l' (by omega) s1.1 n1 e81 (fun h2 a1 a2 a3 a4 a5 a6 a7 => ⟨rfl, a1, a2, a3, a4, a5, a6, a7⟩)) ?_
      rintro r h2 ⟨rfl, a1, a2, a3, a4, a5, a6, a7⟩
      have fA := f.tr a1
      refine bX6_choice_27 (bX6_choice_28 ?_)
      refine choice_loop (N := N) (u0 := u) (p0 := p) (b := u1) A hd ho hu (by omega) N (by omega) 0 0 (cc t1 .leaf) (u1 + 1) p1 h2 (x'.fp a1) ⟨a2, by rw [a3]; exact s1.2.1, by rw [a4]; exact s1.2.2⟩ (cd_w (by omega) _ _ _ (Nat.le_refl _) _ _ _ a6) a5 a7 (by omega) (by omega) (by omega) (by omega) (by omega) (fun _ => by omega) (fun q e h3 f3 e4 hq => k2.1 q (by rw [eq]; show wrR 3 (mp t1 _) = _; rw [e]; rfl) h3 (fA.z.tr f3) e4 hq) (fun r p' e h3 u' f3 s3 c3 k3 e83 b3 u3 n3 n4 => ?_)
      have e' := e
      unfold rst at e'
      rw [if_pos hz] at e'
      obtain ⟨t3, r3, rfl⟩ := pz_cc (lv := 2) (by decide) e'
      have n5 := n4 hz
      exact k2.2 (no 3 0 (cc t1 (cc t3 r3))) p' (by rw [eq]; show wrR 3 (mp t1 _) = _; rw [e]; rfl) h3 u' u1 (fA.tr f3) s3.1 s3.2.1 s3.2.2 (nd_i.mpr ⟨by omega, b3, u3, ⟨k3, fun z => absurd z (by decide), fun z => absurd z (by decide)⟩, c3⟩) e83 (by omega)
