/-! ===== what the reading gives is well made ===== -/
theorem bnd_i {e : PR} {f : T → Nat → PR} {x : T × Nat} (h : bnd e f = .inr x) : ∃ t p, e = .inr (t, p) ∧ f t p = .inr x := by
  cases e with
  | inl q => cases h
  | inr a => obtain ⟨t, p⟩ := a; exact ⟨t, p, rfl, h⟩
theorem inr_i {a b : T} {p q : Nat} (h : (.inr (a, p) : PR) = .inr (b, q)) : a = b ∧ p = q := by injection h with h; injection h with h1 h2; exact ⟨h1, h2⟩
theorem lf_wf {kd nm pl pl2 v u : Nat} (h1 : 6 ≤ kd) (h2 : kd ≤ 11) (h : lfok kd nm (pl, pl2, v, u)) : (wft (lf kd nm pl pl2 v u)).1 := ⟨h2, fun _ => h, fun z => by omega, fun z => by omega, trivial⟩
theorem sz1_wf {c : Nat → Nat} {L kd nm p p' : Nat} {t : T} (x : cOk c L) (hL : L ≤ 60) (hk : kd = 6 ∨ kd = 7 ∧ nm < 3 ∨ kd = 11 ∧ 1 ≤ nm ∧ nm ≤ 3) (h : sz1 c kd nm p = .inr (t, p')) : (wft t).1 := by
  unfold sz1 at h
  split at h
  · rename_i hv
    have h1 := isv_lt x hv
    have h2 := isv_iff.mp hv
    obtain ⟨rfl, rfl⟩ := inr_i h
    exact lf_wf (by omega) (by omega) ⟨by show p < 60; omega, by show p < 60; omega, by show c p - 120 < 3; omega, by show c p - 120 < 3; omega, fun z => by omega, fun z => by omega, fun z => by omega, fun _ => ⟨rfl, rfl⟩⟩
  · cases h
theorem sz2_wf {c : Nat → Nat} {L nm p p' : Nat} {t : T} (x : cOk c L) (hL : L ≤ 60) (hk : nm < 2) (h : sz2 c nm p = .inr (t, p')) : (wft t).1 := by
  unfold sz2 at h
  split at h
  · rename_i hv
    split at h
    · rename_i hv2
      have h1 := isv_lt x hv
      have h2 := isv_iff.mp hv
      have h3 := isv_lt x hv2
      have h4 := isv_iff.mp hv2
      obtain ⟨rfl, rfl⟩ := inr_i h
      exact lf_wf (by omega) (by omega) ⟨by show p < 60; omega, by show p + 1 < 60; omega, by show c p - 120 < 3; omega, by show c (p + 1) - 120 < 3; omega, fun z => by omega, fun _ => hk, fun z => by omega, fun z => by omega⟩
    · cases h
  · cases h
theorem szc_wf {c : Nat → Nat} {L p p' : Nat} {t : T} (x : cOk c L) (hL : L ≤ 60) (h : szc c p = .inr (t, p')) : (wft t).1 := by
  unfold szc at h
  split at h
  · rename_i hv
    split at h
    · split at h
      · rename_i hv2
        have h1 := isv_lt x hv
        have h2 := isv_iff.mp hv
        have h3 := isv_lt x hv2
        have h4 := isv_iff.mp hv2
        obtain ⟨rfl, rfl⟩ := inr_i h
        have hk : (if c (p + 1) = 61 then 9 else 10) = 9 ∨ (if c (p + 1) = 61 then 9 else 10) = 10 := by
          split
          · exact Or.inl rfl
          · exact Or.inr rfl
        exact lf_wf (by omega) (by omega) ⟨by show p < 60; omega, by show p + 2 < 60; omega, by show c p - 120 < 3; omega, by show c (p + 2) - 120 < 3; omega, fun z => by omega, fun z => by omega, fun z => by omega, fun z => by omega⟩
      · cases h
    · cases h
  · cases h
theorem sz_wf {c : Nat → Nat} {L p p' : Nat} {t : T} (x : cOk c L) (hL : L ≤ 60) (h : sz c p = .inr (t, p')) : (wft t).1 := by
  unfold sz at h
  split at h
  · exact sz1_wf x hL (Or.inl rfl) h
  · split at h
    · exact sz1_wf x hL (Or.inr (Or.inl ⟨rfl, by omega⟩)) h
    · split at h
      · exact sz2_wf x hL (by omega) h
      · split at h
        · split at h
          · exact sz1_wf x hL (Or.inr (Or.inr ⟨rfl, by omega, by omega⟩)) h
          · cases h
        · exact szc_wf x hL h
theorem no_wf {kd pl : Nat} {c : T} (h : kd ≤ 3) (w : (wft c).2) : (wft (no kd pl c)).1 := ⟨by omega, fun z => by omega, fun z => by omega, fun z => by omega, w⟩
theorem wr_wf {kd : Nat} (hk : kd ≤ 3) : ∀ c : T, (wft c).2 → (wft (wr kd c)).1
  | .leaf, _ => no_wf hk trivial
  | .inner _ _ _ a .leaf, w => w.1
  | .inner k n v a (.inner k2 n2 v2 l2 r2), w => no_wf (c := .inner k n v a (.inner k2 n2 v2 l2 r2)) hk w
theorem rst_wf {c : Nat → Nat} {sg lv n o p p' : Nat} {r : T} (ih : ∀ o p p' t, pz c n lv o p = .inr (t, p') → (wft t).2) (h : rst c sg lv n o p = .inr (r, p')) : (wft r).2 := by
  unfold rst at h
  split at h
  · exact ih _ _ _ _ h
  · rw [← (inr_i h).1]; trivial
theorem wrR_i {kd : Nat} {e : PR} {t : T} {p : Nat} (h : wrR kd e = .inr (t, p)) : ∃ r, e = .inr (r, p) ∧ t = wr kd r := by
  cases e with
  | inl q => cases h
  | inr a => obtain ⟨r, q⟩ := a; obtain ⟨h1, h2⟩ := inr_i h; exact ⟨r, by rw [h2], h1.symm⟩
theorem pz_wf {c : Nat → Nat} {L : Nat} (x : cOk c L) (hL : L ≤ 60) : ∀ n, (∀ o p p' t, pz c n 0 o p = .inr (t, p') → (wft t).1) ∧ (∀ o p p' t, pz c n 1 o p = .inr (t, p') → (wft t).2) ∧ (∀ o p p' t, pz c n 2 o p = .inr (t, p') → (wft t).2) ∧ (∀ o p p' t, pz c n 3 o p = .inr (t, p') → (wft t).1)
  | 0 => ⟨fun _ _ _ _ h => (by unfold pz at h; cases h), fun _ _ _ _ h => (by unfold pz at h; cases h), fun _ _ _ _ h => (by unfold pz at h; cases h), fun _ _ _ _ h => (by unfold pz at h; cases h)⟩
  | n + 1 => by
    obtain ⟨i0, i1, i2, i3⟩ := pz_wf x hL n
    refine ⟨fun o p p' t h => ?_, fun o p p' t h => ?_, fun o p p' t h => ?_, fun o p p' t h => ?_⟩
    · rw [pz_0] at h
      split at h
      · split at h
        · cases h
        · obtain ⟨t1, p1, e1, e2⟩ := bnd_i h
          rw [← (inr_i e2).1]
          exact ⟨by decide, fun z => absurd z (by decide), fun z => absurd z (by decide), fun _ => ⟨t1, rfl⟩, i0 _ _ _ _ e1, trivial⟩
      · split at h
        · split at h
          · cases h
          · obtain ⟨t1, p1, e1, e2⟩ := bnd_i h
            split at e2
            · rw [← (inr_i e2).1]; exact i3 _ _ _ _ e1
            · cases e2
        · exact sz_wf x hL h
    · rw [pz_1] at h
      obtain ⟨t1, p1, e1, e2⟩ := bnd_i h
      obtain ⟨r, e3, rfl⟩ := mp_i e2
      exact ⟨i0 _ _ _ _ e1, rst_wf i1 e3⟩
    · rw [pz_2] at h
      obtain ⟨t1, p1, e1, e2⟩ := bnd_i h
      obtain ⟨r, e3, rfl⟩ := mp_i e2
      obtain ⟨q, e4, rfl⟩ := wrR_i e1
      exact ⟨wr_wf (by decide) _ (i1 _ _ _ _ e4), rst_wf i2 e3⟩
    · rw [pz_3] at h
      obtain ⟨t1, p1, e1, e2⟩ := bnd_i h
      obtain ⟨q, e4, rfl⟩ := wrR_i e1
      have w1 := wr_wf (kd := 3) (by decide) _ (i2 _ _ _ _ e4)
      split at e2
      · split at e2
        · cases e2
        · obtain ⟨t2, p2, e5, e6⟩ := bnd_i e2
          rw [← (inr_i e6).1]
          exact ⟨by decide, fun z => absurd z (by decide), fun _ => ⟨_, t2, rfl⟩, fun z => absurd z (by decide), w1, i3 _ _ _ _ e5, trivial⟩
      · rw [← (inr_i e2).1]; exact w1
/-- a chain of parts; its length -/
def pts : T → Prop
  | .leaf => True
  | .inner _ _ _ a r => (∃ kd pl x, a = no kd pl (cc x .leaf) ∧ kd ≤ 1 ∧ pl < 60) ∧ pts r
def ln : T → Nat
  | .leaf => 0
  | .inner _ _ _ _ r => ln r + 1
theorem dz_wf {c : Nat → Nat} {L : Nat} (x : cOk c L) (hL : L ≤ 60) : ∀ (n p p' : Nat) (r : T), dz c n p = .inr (r, p') → (wft r).2 ∧ pts r ∧ 3 * ln r + p ≤ p' + 1 ∧ p' ≤ L ∧ 1 ≤ ln r
  | 0, p, p', r, h => by unfold dz at h; cases h
  | n + 1, p, p', r, h => by
    rw [dz_s] at h
    obtain ⟨t1, p1, e1, e2⟩ := bnd_i h
    obtain ⟨r2, e3, rfl⟩ := mp_i e2
    have hp := ptz_p x e1
    have w1 : (wft t1).1 ∧ ∃ kd pl a, t1 = no kd pl (cc a .leaf) ∧ kd ≤ 1 ∧ pl < 60 := by
      obtain ⟨q1, q2, a, ea⟩ := id hp
      unfold ptz at e1
      obtain ⟨t2, p2, e4, e5⟩ := bnd_i e1
      split at e5
      · cases e5
      · have e6 := (inr_i e5).1
        refine ⟨?_, _, _, _, e6.symm, by split <;> omega, by omega⟩
        rw [← e6]
        exact no_wf (by split <;> omega) ⟨(pz_wf x hL 1000).2.2.2 _ _ _ _ e4, trivial⟩
    unfold rsd at e3
    split at e3
    · have ih := dz_wf x hL n _ _ _ e3
      exact ⟨⟨w1.1, ih.1⟩, ⟨w1.2, ih.2.1⟩, by show 3 * (ln r2 + 1) + p ≤ p' + 1; omega, ih.2.2.2.1, by show 1 ≤ ln r2 + 1; omega⟩
    · obtain ⟨rfl, rfl⟩ := inr_i e3
      exact ⟨⟨w1.1, trivial⟩, ⟨w1.2, trivial⟩, by show 3 * (0 + 1) + p ≤ p1 + 1; omega, hp.2.1, by show 1 ≤ 0 + 1; omega⟩
theorem dsc_wf {c : Nat → Nat} {L : Nat} {r : T} (x : cOk c L) (hL : L ≤ 60) (h : dsc c L = .inr r) : (wft (no 2 0 r)).1 ∧ (wft r).2 ∧ pts r ∧ 3 * ln r ≤ L + 1 ∧ 1 ≤ ln r ∧ dz c 61 0 = .inr (r, L) := by
  unfold dsc at h
  cases e : dz c 61 0 with
  | inl q => rw [e] at h; cases h
  | inr a =>
    obtain ⟨r2, p⟩ := a
    rw [e] at h
    have h2 : (if p = L then (.inr r2 : Nat ⊕ T) else .inl p) = .inr r := h
    split at h2
    · rename_i hp
      injection h2 with h2
      subst h2; subst hp
      have := dz_wf x hL _ _ _ _ e
      exact ⟨no_wf (by decide) this.1, this.1, this.2.1, by omega, this.2.2.2.2, rfl⟩
    · cases h2
