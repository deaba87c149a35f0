/-! ===== the class's parser: the whole text ===== -/
theorem c_levels : ∀ n, A0 n ∧ A1 n ∧ A2 n ∧ A3 n := by
  have z0 : A0 0 := fun _ _ _ _ _ _ _ _ _ _ _ _ _ _ _ _ hf => absurd hf (Nat.not_lt_zero _)
  have z1 : A1 0 := fun _ _ _ _ _ _ _ _ _ _ _ _ _ _ _ _ hf => absurd hf (Nat.not_lt_zero _)
  have z2 : A2 0 := fun _ _ _ _ _ _ _ _ _ _ _ _ _ _ _ _ hf => absurd hf (Nat.not_lt_zero _)
  have z3 : A3 0 := fun _ _ _ _ _ _ _ _ _ _ _ _ _ _ _ _ hf => absurd hf (Nat.not_lt_zero _)
  have key : ∀ n m, m ≤ n → A0 m ∧ A1 m ∧ A2 m ∧ A3 m := by
    intro n
    induction n with
    | zero => intro m hm; have : m = 0 := by omega
              subst this; exact ⟨z0, z1, z2, z3⟩
    | succ n ih =>
      intro m hm
      by_cases hmn : m ≤ n
      · exact ih m hmn
      · have : m = n + 1 := by omega
        subst this
        exact ⟨c_unit (ih n (Nat.le_refl _)).1 (ih n (Nat.le_refl _)).2.2.2, c_row (fun m hm => (ih m hm).1), c_choice (fun m hm => (ih m hm).2.1), c_formula (ih n (Nat.le_refl _)).2.2.1 (ih n (Nat.le_refl _)).2.2.2⟩
  exact fun n => key n n (Nat.le_refl _)
/-- a part -/
def ptz (c : Nat → Nat) (p : Nat) : PR := bnd (pz c 1000 3 0 (if c p = 91 then p + 1 else p)) (fun t p' => if c p = 91 ∧ ¬ c p' = 93 then .inl p' else .inr (no (if c p = 91 then 1 else 0) p (cc t .leaf), if c p = 91 then p' + 1 else p'))
def rsd (c : Nat → Nat) (n p : Nat) : PR := if c p = 59 then dz c n (p + 1) else .inr (.leaf, p)
theorem dz_s (c : Nat → Nat) (n p : Nat) : dz c (n + 1) p = bnd (ptz c p) (fun t p' => mp t (rsd c n p')) := by
  rw [dz]
  unfold ptz
  cases pz c 1000 3 0 (if c p = 91 then p + 1 else p) with
  | inl q => rfl
  | inr a =>
    obtain ⟨t, p'⟩ := a
    show (if c p = 91 ∧ ¬ c p' = 93 then .inl p' else _) = bnd (if c p = 91 ∧ ¬ c p' = 93 then .inl p' else _) _
    by_cases h1 : c p = 91 ∧ ¬ c p' = 93
    · rw [if_pos h1, if_pos h1]; rfl
    · rw [if_neg h1, if_neg h1]
      show _ = mp _ (rsd c n _)
      unfold rsd
      generalize (if c p = 91 then p' + 1 else p') = q
      by_cases h2 : c q = 59
      · rw [if_pos h2, if_pos h2]; cases dz c n (q + 1) <;> rfl
      · rw [if_neg h2, if_neg h2]; rfl
theorem part_end {d cx n u u1 b1 p p1 kd : Nat} {g : vH} {t1 : T} {x2 : Int32} {o4 : Option vV} {Q : vQ} (hd : 3 ≤ d) (l : LPx g) (ps : pst g u1 0 p1) (hu1 : u1 < 62) (n1 : nd g t1 u u1 b1) (e8 : hR g (nA b1) 8 = none) (hkd : kd ≤ 1) (k : ∀ h', fp u g h' → pst h' (u1 + 1) 0 p1 → nd h' (no kd p (cc t1 .leaf)) u (u1 + 1) u1 → hR h' (nA u1) 8 = none → Q (some (vR (some (nA u1)))) h') : vm_E mX6_part d cx n 46 [some (vR (some 41)), some (vI (nI p)), some (vI x2), some (vR (some (nA b1))), o4] [vI (nI kd), vR (some 41)] g Q := by
  have nb := nd_b n1
  refine bX6_part_46 (R := fun r h2 => r = some (vR (some (nA u1))) ∧ fp u g h2 ∧ hI h2 41 2 = nI (u1 + 1) ∧ hI h2 41 3 = hI g 41 3 ∧ hI h2 41 4 = hI g 41 4 ∧ hI h2 (nA u1) 0 = nI kd ∧ cd h2 (cc t1 .leaf) u u1 u1 none (hR h2 (nA u1) 6) (hR h2 (nA u1) 7) ∧ hR h2 (nA u1) 8 = none) l.1 (by omega) (c_holding (by omega) l (by omega) ps.1 n1 e8 (fun h2 a1 a2 a3 a4 a5 a6 a7 => ⟨rfl, a1, a2, a3, a4, a5, a6, a7⟩)) ?_
  rintro r h2 ⟨rfl, a1, a2, a3, a4, a5, a6, a7⟩
  have l2 := l.fp a1
  refine bX6_part_50 (fun hz => absurd hz nofun) (fun _ => bX6_part_57 (l2.nk hu1) (bX6_part_63 (k _ (a1.tr (fp_nI (by omega) hu1)) ⟨?_, ?_, ?_⟩ (nd_i.mpr ⟨by omega, by omega, by omega, ⟨?_, fun z => absurd z (by omega), fun _ => hI_uIs _ _ _ _⟩, ?_⟩) a7)))
  · rw [hI_uIn _ _ _ (nA41 _).symm]; exact a2
  · rw [hI_uIn _ _ _ (nA41 _).symm, a3]; exact ps.2.1
  · rw [hI_uIn _ _ _ (nA41 _).symm, a4]; exact ps.2.2
  · rw [hI_uIk _ _ _ (by decide)]; exact a5
  · exact cd_w (by omega) _ _ _ (Nat.le_refl _) _ _ _ ((rp_ag (cc t1 .leaf)).2 _ _ _ _ _ _ a6 (fun i i1 i2 i3 => ⟨fun j _ => by rw [hI_uIn _ _ _ (fun w => i3 (nA_inj w))], fun j _ _ => rfl⟩))
theorem c_part {d cx nn u p : Nat} {h : vH} {t : Nat → Nat} {L : Nat} {Q : vQ} (hd : 62 ≤ d) (x : pin h t L) (ps : pst h u 0 p) (hu : u ≤ p + 1) (hp : p ≤ L)
    (kf : ∀ q, ptz (chAt t L) p = .inl q → ∀ h', fp 0 h h' → hI h' 41 4 = nI q → q ≤ L → Q (some (vR none)) h')
    (ks : ∀ t1 p', ptz (chAt t L) p = .inr (t1, p') → ∀ h' u' b, fp u h h' → pst h' u' 0 p' → nd h' t1 u u' b → hR h' (nA b) 8 = none → u' + p ≤ u + p' → p < p' → p' ≤ L → Q (some (vR (some (nA b)))) h') : vm_C mX6_part d cx nn [vR (some 41)] h Q := by
  have hL := x.2.2.1
  have l := x.1.2.2.2.2.1
  refine bX6_part_0 (R := fun r h' => (chAt t L p = 91 ∧ r = some (vI 1) ∧ uI h 41 4 (nI (p + 1)) = h') ∨ (¬ chAt t L p = 91 ∧ r = some (vI 0) ∧ h = h')) l.1 (by omega) (c_skip (s := 91) (by omega) x (by omega) (by decide) ps.2.2 (fun z => Or.inl ⟨z, rfl, rfl⟩) (fun z => Or.inr ⟨z, rfl, rfl⟩)) ?_
  rw [ps.2.2]
  rintro r h' (⟨hz, rfl, rfl⟩ | ⟨hz, rfl, rfl⟩)
  · have hpL := x.cok.lt (p := p) (by omega)
    have f0 : fp u h (uI h 41 4 (nI (p + 1))) := fp_41
    have ep : ptz (chAt t L) p = bnd (pz (chAt t L) 1000 3 0 (p + 1)) (fun t1 p' => if ¬ chAt t L p' = 93 then .inl p' else .inr (no 1 p (cc t1 .leaf), p' + 1)) := by
      unfold ptz
      rw [if_pos hz]
      congr 1
      funext t1 p'
      by_cases h93 : chAt t L p' = 93
      · rw [if_neg (show ¬ (chAt t L p = 91 ∧ ¬ chAt t L p' = 93) from fun w => w.2 h93), if_pos hz, if_pos hz, if_neg (show ¬ ¬ chAt t L p' = 93 from fun w => w h93)]
      · rw [if_pos (show chAt t L p = 91 ∧ ¬ chAt t L p' = 93 from ⟨hz, h93⟩), if_pos h93]
    rw [ep] at kf ks
    refine bX6_part_11 (R := pRes L (uI h 41 4 (nI (p + 1))) u 0 (p + 1) (pz (chAt t L) 1000 3 0 (p + 1))) l.1 (by omega) ((c_levels 1000).2.2.2 _ _ _ _ _ _ _ _ _ _ (by omega) (x.fp f0) (ps.at (q := p + 1)) (by omega) (by omega) (by omega) (by omega) pRes_ok) ?_
    rintro r h2 (⟨q, eq, rfl, f, e4, hq⟩ | ⟨t1, p1, u1, b1, eq, rfl, f, s1, n1, e81, hc1⟩)
    · exact bX6_part_16 (fun _ => bX6_part_34 (kf q (by rw [eq]; rfl) h2 (f0.z.tr f) e4 hq)) (fun hc => absurd rfl hc)
    · have fA := f0.tr f
      have x2 := x.fp fA
      have l2 := l.fp fA
      have hp1 := pz_p1 x.cok eq
      refine bX6_part_16 (fun hc => absurd hc nofun) (fun _ => bX6_part_21 (fun hc => absurd hc (by decide +kernel)) (fun _ => ?_))
      refine bX6_part_25 (R := fun r h3 => (chAt t L p1 = 93 ∧ r = some (vI 1) ∧ uI h2 41 4 (nI (p1 + 1)) = h3) ∨ (¬ chAt t L p1 = 93 ∧ r = some (vI 0) ∧ h2 = h3)) l2.1 (by omega) (c_skip (s := 93) (by omega) x2 (by omega) (by decide) s1.2.2 (fun z => Or.inl ⟨z, rfl, rfl⟩) (fun z => Or.inr ⟨z, rfl, rfl⟩)) ?_
      rintro r h3 (⟨h93, rfl, rfl⟩ | ⟨h93, rfl, rfl⟩)
      · have hp1L := x.cok.lt (p := p1) (by omega)
        have nb := nd_b n1
        refine bX6_part_31 (fun _ => bX6_part_36 (fun hc => absurd hc (by decide +kernel)) (fun _ => bX6_part_41 ?_)) (fun hc => absurd (by decide +kernel) hc)
        refine part_end (kd := 1) (by omega) (l2.fp (u := 0) fp_41) (s1.at (q := p1 + 1)) (by omega) (nd_41 n1) e81 (by omega) (fun h4 a1 a2 a3 a4 => ks _ _ (by rw [eq]; exact if_neg (fun w => w h93)) h4 _ _ (fA.tr (fp_41.tr a1)) a2 a3 a4 (by omega) (by omega) (by omega))
      · exact bX6_part_31 (fun hc => absurd rfl hc) (fun _ => bX6_part_34 (kf p1 (by rw [eq]; exact if_pos h93) h2 fA.z s1.2.2 hp1.2))
  · have ep : ptz (chAt t L) p = bnd (pz (chAt t L) 1000 3 0 p) (fun t1 p' => .inr (no 0 p (cc t1 .leaf), p')) := by
      unfold ptz
      rw [if_neg hz]
      congr 1
      funext t1 p'
      rw [if_neg (show ¬ (chAt t L p = 91 ∧ ¬ chAt t L p' = 93) from fun w => hz w.1), if_neg hz, if_neg hz]
    rw [ep] at kf ks
    refine bX6_part_11 (R := pRes L h u 0 p (pz (chAt t L) 1000 3 0 p)) l.1 (by omega) ((c_levels 1000).2.2.2 _ _ _ _ _ _ _ _ _ _ (by omega) x ps (by omega) (by omega) (by omega) (by omega) pRes_ok) ?_
    rintro r h2 (⟨q, eq, rfl, f, e4, hq⟩ | ⟨t1, p1, u1, b1, eq, rfl, f, s1, n1, e81, hc1⟩)
    · exact bX6_part_16 (fun _ => bX6_part_34 (kf q (by rw [eq]; rfl) h2 f e4 hq)) (fun hc => absurd rfl hc)
    · have x2 := x.fp f
      have l2 := l.fp f
      have nb := nd_b n1
      have hp1 := pz_p1 x.cok eq
      refine bX6_part_16 (fun hc => absurd hc nofun) (fun _ => bX6_part_21 (fun _ => bX6_part_36 (fun _ => bX6_part_45 ?_) (fun hc => absurd rfl hc)) (fun hc => absurd rfl hc))
      refine part_end (kd := 0) (by omega) l2 s1 (by omega) n1 e81 (by omega) (fun h4 a1 a2 a3 a4 => ks _ _ (by rw [eq]; rfl) h4 _ _ (f.tr a1) a2 a3 a4 (by omega) (by omega) (by omega))
/-- a text: the place of its fault, or its parts -/
def dsf (L : Nat) : PR → Nat ⊕ T
  | .inl q => .inl q
  | .inr (r, p) => if p = L then .inr r else .inl p
def dsc (c : Nat → Nat) (L : Nat) : Nat ⊕ T := dsf L (dz c 61 0)
theorem ptz_p {c : Nat → Nat} {L p p' : Nat} {t : T} (x : cOk c L) (h : ptz c p = .inr (t, p')) : p + 1 < p' ∧ p' ≤ L ∧ ∃ a, t = no (if c p = 91 then 1 else 0) p (cc a .leaf) := by
  unfold ptz at h
  cases e : pz c 1000 3 0 (if c p = 91 then p + 1 else p) with
  | inl q => rw [e] at h; cases h
  | inr a =>
    obtain ⟨t1, p1⟩ := a
    rw [e] at h
    have hp := pz_p1 x e
    have h2 : (if c p = 91 ∧ ¬ c p1 = 93 then (.inl p1 : PR) else .inr (no (if c p = 91 then 1 else 0) p (cc t1 .leaf), if c p = 91 then p1 + 1 else p1)) = .inr (t, p') := h
    by_cases hz : c p = 91
    · by_cases h93 : c p1 = 93
      · have := x.lt (p := p1) (by omega)
        rw [if_neg (fun w => w.2 h93)] at h2
        injection h2 with h2; injection h2 with h2 h3
        rw [if_pos hz] at h3 hp
        exact ⟨by omega, by omega, t1, h2.symm⟩
      · rw [if_pos ⟨hz, h93⟩] at h2; cases h2
    · rw [if_neg (fun w => hz w.1)] at h2
      injection h2 with h2; injection h2 with h2 h3
      rw [if_neg hz] at h3 hp
      exact ⟨by omega, by omega, t1, h2.symm⟩
theorem disc_loop {d cx nn b : Nat} {t : Nat → Nat} {L : Nat} {Q : vQ} (hd : 63 ≤ d) : ∀ (m i : Nat) (pre : T) (u1 p1 : Nat) (h1 : vH), pin h1 t L → pst h1 u1 0 p1 → cd h1 pre 0 u1 b none (hR h1 (nA b) 6) (hR h1 (nA b) 7) → hI h1 (nA b) 0 = nI 2 → hR h1 (nA b) 8 = none → b < u1 → u1 ≤ p1 + 1 → p1 ≤ L → i + 2 ≤ p1 → (chAt t L p1 = 59 → L - p1 ≤ m) →
    (∀ q, rsd (chAt t L) m p1 = .inl q → ∀ h', fp 0 h1 h' → hI h' 41 4 = nI q → q ≤ L → Q (some (vR none)) h') →
    (∀ r p', rsd (chAt t L) m p1 = .inr (r, p') → ∀ h' u' A, fp 0 h1 h' → hI h' 41 4 = nI p' → p' ≤ L → (p' = L → A = some (nA b)) → (¬ p' = L → A = none) → u' ≤ 62 → b < u' → cd h' (app pre r) 0 u' b none (hR h' (nA b) 6) (hR h' (nA b) 7) → hI h' (nA b) 0 = nI 2 → hR h' (nA b) 8 = none → Q (some (vR A)) h') →
    vm_E mX6_discourse d cx nn 27 [some (vR (some 41)), some (vR (some (nA b))), some (vI (nI i))] [] h1 Q := by
  intro m
  have fin : ∀ (q : Nat) (R : Option Nat) (j : Int32) (h' : vH), pin h' t L → hI h' 41 4 = nI q → q ≤ L → (q = L → Q (some (vR R)) h') → (¬ q = L → Q (some (vR none)) h') → vm_E mX6_discourse d cx nn 62 [some (vR (some 41)), some (vR R), some (vI j)] [] h' Q := fun q R j h' x e4 hq k1 k0 => by
    have l := x.1.2.2.2.2.1
    have hL := x.2.2.1
    refine bX6_discourse_62 (b3 := 39) l.1 l.2.1 x.1.2.2.2.1.1 (fun hz => bX6_discourse_80 (bX6_discourse_81 (k0 (fun z => hz ?_)))) (fun hz => bX6_discourse_76 (bX6_discourse_81 (k1 ?_)))
    · rw [e4, x.2.1.1, z]
    · have := Classical.byContradiction hz
      rw [e4, x.2.1.1] at this
      exact (nI_eq (a := q) (b := L) (by omega) (by omega)).mp this
  have fin0 : ∀ (q : Nat) (j : Int32) (h' : vH), pin h' t L → hI h' 41 4 = nI q → q ≤ L → Q (some (vR none)) h' → vm_E mX6_discourse d cx nn 27 [some (vR (some 41)), some (vR none), some (vI j)] [] h' Q := fun q j h' x e4 hq k =>
    bX6_discourse_27 (fun _ => fin q none j h' x e4 hq (fun _ => k) (fun _ => k)) (fun _ => bX6_discourse_33 (fun _ => fin q none j h' x e4 hq (fun _ => k) (fun _ => k)) (fun hz => absurd rfl hz))
  induction m with
  | zero =>
    intro i pre u1 p1 h1 x ps hc hk e8 hb hu hp hi hf kf ks
    have hL := x.2.2.1
    have hne : ¬ chAt t L p1 = 59 := fun z => by have := x.cok.lt (p := p1) (by omega); have := hf z; omega
    have er : rsd (chAt t L) 0 p1 = .inr (.leaf, p1) := if_neg hne
    refine bX6_discourse_27 (fun hz => absurd hz (nI_ge (a := i) (b := 60) (by omega) (by decide))) (fun _ => bX6_discourse_33 (fun hz => absurd hz nofun) (fun _ => ?_))
    refine bX6_discourse_37 (R := fun r h' => r = some (vI 0) ∧ h1 = h') x.1.2.2.2.2.1.1 (by omega) (c_skip (s := 59) (by omega) x (by omega) (by decide) ps.2.2 (fun z => absurd z hne) (fun _ => ⟨rfl, rfl⟩)) ?_
    rintro r h' ⟨rfl, rfl⟩
    exact bX6_discourse_43 (fun _ => fin p1 _ _ h1 x ps.2.2 hp (fun z => ks _ _ er h1 u1 _ fp.rf ps.2.2 hp (fun _ => rfl) (fun w => absurd z w) (by omega) hb (by rw [app_l]; exact hc) hk e8) (fun z => ks _ _ er h1 u1 _ fp.rf ps.2.2 hp (fun w => absurd w z) (fun _ => rfl) (by omega) hb (by rw [app_l]; exact hc) hk e8)) (fun hz => absurd rfl hz)
  | succ m ih =>
    intro i pre u1 p1 h1 x ps hc hk e8 hb hu hp hi hf kf ks
    have hL := x.2.2.1
    have l := x.1.2.2.2.2.1
    refine bX6_discourse_27 (fun hz => absurd hz (nI_ge (a := i) (b := 60) (by omega) (by decide))) (fun _ => bX6_discourse_33 (fun hz => absurd hz nofun) (fun _ => ?_))
    refine bX6_discourse_37 (R := fun r h' => (chAt t L p1 = 59 ∧ r = some (vI 1) ∧ uI h1 41 4 (nI (p1 + 1)) = h') ∨ (¬ chAt t L p1 = 59 ∧ r = some (vI 0) ∧ h1 = h')) l.1 (by omega) (c_skip (s := 59) (by omega) x (by omega) (by decide) ps.2.2 (fun z => Or.inl ⟨z, rfl, rfl⟩) (fun z => Or.inr ⟨z, rfl, rfl⟩)) ?_
    rintro r h' (⟨hz, rfl, rfl⟩ | ⟨hne, rfl, rfl⟩)
    · have hp1 := x.cok.lt (p := p1) (by omega)
      have hf2 := hf hz
      have er : rsd (chAt t L) (m + 1) p1 = bnd (ptz (chAt t L) (p1 + 1)) (fun t' p' => mp t' (rsd (chAt t L) m p')) := by
        unfold rsd; rw [if_pos hz, dz_s]
        rfl
      rw [er] at kf ks
      have f0 : fp u1 h1 (uI h1 41 4 (nI (p1 + 1))) := fp_41
      refine bX6_discourse_43 (fun hc => absurd hc (by decide +kernel)) (fun _ => ?_)
      refine bX6_discourse_46 (R := fun r h2 => (∃ q, ptz (chAt t L) (p1 + 1) = .inl q ∧ r = some (vR none) ∧ fp 0 (uI h1 41 4 (nI (p1 + 1))) h2 ∧ hI h2 41 4 = nI q ∧ q ≤ L) ∨ ∃ t1 p' u' b', ptz (chAt t L) (p1 + 1) = .inr (t1, p') ∧ r = some (vR (some (nA b'))) ∧ fp u1 (uI h1 41 4 (nI (p1 + 1))) h2 ∧ pst h2 u' 0 p' ∧ nd h2 t1 u1 u' b' ∧ hR h2 (nA b') 8 = none ∧ u' + (p1 + 1) ≤ u1 + p' ∧ p' ≤ L) l.1 (by omega) (c_part (by omega) (x.fp f0) (ps.at (q := p1 + 1)) (by omega) (by omega) (fun q e h2 f e4 hq => Or.inl ⟨q, e, rfl, f, e4, hq⟩) (fun t1 p' e h2 u' b' f s n e82 hc2 _ hq => Or.inr ⟨t1, p', u', b', e, rfl, f, s, n, e82, hc2, hq⟩)) ?_
      rintro r h' (⟨q, eq, rfl, f, e4, hq⟩ | ⟨t2, p2, u2, b2, eq, rfl, f, s2, n2, e82, hc2, hp2L⟩)
      · have fA := f0.z.tr f
        refine bX6_discourse_52 (R := fun r h2 => r = some (vR none) ∧ h' = h2) (by rw [fA.k]; exact l.1) (by omega) (c_joined0 ⟨rfl, rfl⟩) ?_
        rintro r h2 ⟨rfl, rfl⟩
        exact bX6_discourse_55 (fin0 q _ h' (x.fp fA) e4 hq (kf q (by rw [eq]; rfl) h' fA e4 hq))
      · have f1 : fp u1 h1 h' := f0.tr f
        have nb2 := nd_b n2
        have x' := x.fp f1
        have l' := x'.1.2.2.2.2.1
        have hc' : cd h' pre 0 u1 b none (hR h' (nA b) 6) (hR h' (nA b) 7) := by
          rw [(fp_nd f1 hb 6).2, (fp_nd f1 hb 7).2]
          exact (rp_ag pre).2 _ _ _ _ _ _ hc (fp_ax f1 (Nat.le_refl _) (by omega))
        have hp2 := ptz_p x.cok eq
        refine bX6_discourse_52 (R := fun r h2 => r = some (vR (some (nA b))) ∧ fp 0 h' h2 ∧ hI h2 = hI h' ∧ cd h2 (app pre (cc t2 .leaf)) 0 u2 b none (hR h2 (nA b) 6) (hR h2 (nA b) 7) ∧ hR h2 (nA b) 8 = none) l'.1 (by omega) (c_joined (c := pre) (lo0 := 0) (lo := 0) (hi := u1) (by omega) l' (by omega) hc' n2 (Nat.le_refl _) (by omega) (Or.inl hb) e82 (Nat.le_refl _) (by omega) (fun h2 g1 g2 g3 g4 => ⟨rfl, g1, g2, g3, by rw [g4, (fp_nd f1 hb 8).2, e8]⟩)) ?_
        rintro r h2 ⟨rfl, g1, g2, g3, g4⟩
        have fA : fp 0 h1 h2 := f1.z.tr g1
        refine bX6_discourse_55 ?_
        rw [nI_1]
        refine ih (i + 1) (app pre (cc t2 .leaf)) u2 p2 h2 (x'.fp g1) ⟨by rw [g2]; exact s2.1, by rw [g2]; exact s2.2.1, by rw [g2]; exact s2.2.2⟩ g3 (by rw [g2, (fp_nd f1 hb 0).1]; exact hk) g4 (by omega) (by omega) hp2L (by omega) (fun z => by omega) (fun q e h3 f3 e4 hq => kf q (by rw [eq]; show mp t2 _ = _; rw [e]; rfl) h3 (fA.tr f3) e4 hq) (fun r p' e h3 u' A f3 s3 q1 q2 q3 q4 q5 c3 k3 e83 => ?_)
        rw [app_a] at c3
        exact ks (cc t2 r) p' (by rw [eq]; show mp t2 _ = _; rw [e]; rfl) h3 u' A (fA.tr f3) s3 q1 q2 q3 q4 q5 c3 k3 e83
    · have er : rsd (chAt t L) (m + 1) p1 = .inr (.leaf, p1) := if_neg hne
      exact bX6_discourse_43 (fun _ => fin p1 _ _ h1 x ps.2.2 hp (fun z => ks _ _ er h1 u1 _ fp.rf ps.2.2 hp (fun _ => rfl) (fun w => absurd z w) (by omega) hb (by rw [app_l]; exact hc) hk e8) (fun z => ks _ _ er h1 u1 _ fp.rf ps.2.2 hp (fun w => absurd w z) (fun _ => rfl) (by omega) hb (by rw [app_l]; exact hc) hk e8)) (fun hz => absurd rfl hz)
theorem c_discourse {d cx nn : Nat} {h : vH} {t : Nat → Nat} {L : Nat} {Q : vQ} (hd : 63 ≤ d) (x : pin h t L)
    (kf : ∀ q, dsc (chAt t L) L = .inl q → ∀ h', fp 0 h h' → hI h' 41 4 = nI q → Q (some (vR none)) h')
    (ks : ∀ r, dsc (chAt t L) L = .inr r → ∀ h' b, fp 0 h h' → nd h' (no 2 0 r) 0 62 b → Q (some (vR (some (nA b)))) h') : vm_C mX6_discourse d cx nn [vR (some 41)] h Q := by
  have hL := x.2.2.1
  have l := x.1.2.2.2.2.1
  have ed : dz (chAt t L) 61 0 = bnd (ptz (chAt t L) 0) (fun t1 p' => mp t1 (rsd (chAt t L) 60 p')) := dz_s _ _ _
  unfold dsc at kf ks
  rw [ed] at kf ks
  refine bX6_discourse_0 l.1 ?_
  have f0 : fp 0 h (uI (uI (uI h 41 2 0) 41 3 0) 41 4 0) := (fp_41.tr fp_41).tr fp_41
  have s0 : pst (uI (uI (uI h 41 2 0) 41 3 0) 41 4 0) 0 0 0 := ⟨by rw [hI_uIk _ _ _ (by decide), hI_uIk _ _ _ (by decide), hI_uIs]; rfl, by rw [hI_uIk _ _ _ (by decide), hI_uIs]; rfl, hI_uIs _ _ _ _⟩
  generalize uI (uI (uI h 41 2 0) 41 3 0) 41 4 0 = g at f0 s0 ⊢
  have x0 := x.fp f0
  have l0 := l.fp f0
  have fin : ∀ (q : Nat) (j : Int32) (h' : vH), pin h' t L → hI h' 41 4 = nI q → q ≤ L → Q (some (vR none)) h' → vm_E mX6_discourse d cx nn 27 [some (vR (some 41)), some (vR none), some (vI j)] [] h' Q := fun q j h' x e4 hq k => by
    have l := x.1.2.2.2.2.1
    have f62 : vm_E mX6_discourse d cx nn 62 [some (vR (some 41)), some (vR none), some (vI j)] [] h' Q := bX6_discourse_62 (b3 := 39) l.1 l.2.1 x.1.2.2.2.1.1 (fun hz => bX6_discourse_80 (bX6_discourse_81 k)) (fun hz => bX6_discourse_76 (bX6_discourse_81 k))
    exact bX6_discourse_27 (fun _ => f62) (fun _ => bX6_discourse_33 (fun _ => f62) (fun hz => absurd rfl hz))
  refine bX6_discourse_15 (R := fun r h2 => (∃ q, ptz (chAt t L) 0 = .inl q ∧ r = some (vR none) ∧ fp 0 g h2 ∧ hI h2 41 4 = nI q ∧ q ≤ L) ∨ ∃ t1 p' u' b', ptz (chAt t L) 0 = .inr (t1, p') ∧ r = some (vR (some (nA b'))) ∧ fp 0 g h2 ∧ pst h2 u' 0 p' ∧ nd h2 t1 0 u' b' ∧ hR h2 (nA b') 8 = none ∧ u' ≤ p' ∧ p' ≤ L) l0.1 (by omega) (c_part (by omega) x0 s0 (by omega) (by omega) (fun q e h2 f e4 hq => Or.inl ⟨q, e, rfl, f, e4, hq⟩) (fun t1 p' e h2 u' b' f s n e82 hc2 _ hq => Or.inr ⟨t1, p', u', b', e, rfl, f, s, n, e82, by omega, hq⟩)) ?_
  rintro r h' (⟨q, eq, rfl, f, e4, hq⟩ | ⟨t1, p1, u1, b1, eq, rfl, f, s1, n1, e81, hc1, hp1L⟩)
  · have fA := f0.tr f
    refine bX6_discourse_21 (R := fun r h2 => r = some (vR none) ∧ h' = h2) (by rw [fA.k]; exact l.1) (by omega) (c_holding0 ⟨rfl, rfl⟩) ?_
    rintro r h2 ⟨rfl, rfl⟩
    exact bX6_discourse_24 (fin q _ h' (x.fp fA) e4 hq (kf q (by rw [eq]; rfl) h' fA e4))
  · have fA := f0.tr f
    have x' := x.fp fA
    have l' := l.fp fA
    have nb1 := nd_b n1
    have hp1 := ptz_p x.cok eq
    refine bX6_discourse_21 (R := fun r h2 => r = some (vR (some (nA u1))) ∧ fp 0 h' h2 ∧ hI h2 41 2 = nI (u1 + 1) ∧ hI h2 41 3 = hI h' 41 3 ∧ hI h2 41 4 = hI h' 41 4 ∧ hI h2 (nA u1) 0 = nI 2 ∧ cd h2 (cc t1 .leaf) 0 u1 u1 none (hR h2 (nA u1) 6) (hR h2 (nA u1) 7) ∧ hR h2 (nA u1) 8 = none) l'.1 (by omega) (c_holding (by omega) l' (by omega) s1.1 n1 e81 (fun h2 a1 a2 a3 a4 a5 a6 a7 => ⟨rfl, a1, a2, a3, a4, a5, a6, a7⟩)) ?_
    rintro r h2 ⟨rfl, a1, a2, a3, a4, a5, a6, a7⟩
    have fB := fA.tr a1
    refine bX6_discourse_24 ?_
    refine disc_loop (b := u1) hd 60 0 (cc t1 .leaf) (u1 + 1) p1 h2 (x'.fp a1) ⟨a2, by rw [a3]; exact s1.2.1, by rw [a4]; exact s1.2.2⟩ (cd_w (by omega) _ _ _ (Nat.le_refl _) _ _ _ a6) a5 a7 (by omega) (by omega) hp1L (by omega) (fun _ => by omega) (fun q e h3 f3 e4 hq => kf q (by rw [eq]; show dsf L (mp t1 (rsd (chAt t L) 60 p1)) = _; rw [e]; rfl) h3 (fB.tr f3) e4) (fun r p' e h3 u' A f3 s3 q1 q2 q3 q4 q5 c3 k3 e83 => ?_)
    by_cases hpe : p' = L
    · rw [q2 hpe]
      exact ks (cc t1 r) (by rw [eq]; show dsf L (mp t1 (rsd (chAt t L) 60 p1)) = _; rw [e]; exact if_pos hpe) h3 u1 (fB.tr f3) (nd_i.mpr ⟨by omega, by omega, by omega, ⟨k3, fun z => absurd z (by decide), fun z => absurd z (by decide)⟩, cd_w q4 _ _ _ (Nat.le_refl _) _ _ _ c3⟩)
    · rw [q3 hpe]
      exact kf p' (by rw [eq]; show dsf L (mp t1 (rsd (chAt t L) 60 p1)) = _; rw [e]; exact if_neg hpe) h3 (fB.tr f3) s3
