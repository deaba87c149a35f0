/-! ===== parsed texts: trees (a type of the library's), the text's reading as a function, the nodes that hold a tree ===== -/
abbrev T : Type := Std.DTreeMap.Internal.Impl Nat (fun _ => Nat × Nat × Nat × Nat)
def lf (kd nm pl pl2 v u : Nat) : T := .inner kd nm (pl, pl2, v, u) .leaf .leaf
/-- a node over a chain of pieces -/
def no (kd pl : Nat) (c : T) : T := .inner kd 0 (pl, 0, 0, 0) c .leaf
def cc (a r : T) : T := .inner 100 0 (0, 0, 0, 0) a r
def app : T → T → T
  | .leaf, c => c
  | .inner kd nm v l r, c => .inner kd nm v l (app r c)
abbrev PR : Type := Nat ⊕ (T × Nat)
def isv (x : Nat) : Bool := decide (120 ≤ x) && decide (x ≤ 122)
def sz1 (c : Nat → Nat) (kd nm p : Nat) : PR := if isv (c p) then .inr (lf kd nm p p (c p - 120) (c p - 120), p + 1) else .inl p
def sz2 (c : Nat → Nat) (nm p : Nat) : PR := if isv (c p) then (if isv (c (p + 1)) then .inr (lf 8 nm p (p + 1) (c p - 120) (c (p + 1) - 120), p + 2) else .inl (p + 1)) else .inl p
def szc (c : Nat → Nat) (p : Nat) : PR := if isv (c p) then (if c (p + 1) = 61 ∨ c (p + 1) = 60 then (if isv (c (p + 2)) then .inr (lf (if c (p + 1) = 61 then 9 else 10) 0 p (p + 2) (c p - 120) (c (p + 2) - 120), p + 3) else .inl (p + 2)) else .inl (p + 1)) else .inl p
def sz (c : Nat → Nat) (p : Nat) : PR :=
  if c p = 69 then sz1 c 6 0 (p + 1)
  else if c p = 112 ∨ c p = 113 ∨ c p = 114 then sz1 c 7 (c p - 112) (p + 1)
  else if c p = 115 ∨ c p = 116 then sz2 c (c p - 115) (p + 1)
  else if c p = 35 then (if 49 ≤ c (p + 1) ∧ c (p + 1) ≤ 51 then sz1 c 11 (c (p + 1) - 48) (p + 2) else .inl (p + 1))
  else szc c p
/-- a row of one piece is that piece -/
def wr (kd : Nat) : T → T
  | .inner _ _ _ a .leaf => a
  | c => no kd 0 c
/-- level 0 a unit, 1 a row's units, 2 a choice's rows, 3 a formula; o signs are open -/
def pz (c : Nat → Nat) : Nat → Nat → Nat → Nat → PR
  | 0, _, _, p => .inl p
  | n + 1, 0, o, p =>
    if c p = 33 then (if 8 ≤ o then .inl p else match pz c n 0 (o + 1) (p + 1) with
      | .inl q => .inl q
      | .inr (t, p') => .inr (no 5 0 (cc t .leaf), p'))
    else if c p = 40 then (if 8 ≤ o then .inl p else match pz c n 3 (o + 1) (p + 1) with
      | .inl q => .inl q
      | .inr (t, p') => if c p' = 41 then .inr (t, p' + 1) else .inl p')
    else sz c p
  | n + 1, 1, o, p => match pz c n 0 o p with
    | .inl q => .inl q
    | .inr (t, p') => if c p' = 38 then (match pz c n 1 o (p' + 1) with
        | .inl q => .inl q
        | .inr (r, p2) => .inr (cc t r, p2)) else .inr (cc t .leaf, p')
  | n + 1, 2, o, p => match pz c n 1 o p with
    | .inl q => .inl q
    | .inr (t, p') => if c p' = 124 then (match pz c n 2 o (p' + 1) with
        | .inl q => .inl q
        | .inr (r, p2) => .inr (cc (wr 2 t) r, p2)) else .inr (cc (wr 2 t) .leaf, p')
  | n + 1, _ + 3, o, p => match pz c n 2 o p with
    | .inl q => .inl q
    | .inr (t, p') => if c p' = 62 then (if 8 ≤ o then .inl p' else match pz c n 3 (o + 1) (p' + 1) with
        | .inl q => .inl q
        | .inr (t2, p2) => .inr (no 4 0 (cc (wr 3 t) (cc t2 .leaf)), p2)) else .inr (wr 3 t, p')
/-- the parts -/
def dz (c : Nat → Nat) : Nat → Nat → PR
  | 0, p => .inl p
  | n + 1, p => match pz c 1000 3 0 (if c p = 91 then p + 1 else p) with
    | .inl q => .inl q
    | .inr (t, p') =>
      if c p = 91 ∧ ¬ c p' = 93 then .inl p' else
        if c (if c p = 91 then p' + 1 else p') = 59 then (match dz c n ((if c p = 91 then p' + 1 else p') + 1) with
          | .inl q => .inl q
          | .inr (r, p2) => .inr (cc (no (if c p = 91 then 1 else 0) p (cc t .leaf)) r, p2))
        else .inr (cc (no (if c p = 91 then 1 else 0) p (cc t .leaf)) .leaf, if c p = 91 then p' + 1 else p')
theorem app_cc (a r c : T) : app (cc a r) c = cc a (app r c) := rfl
theorem app_l : ∀ c : T, app c .leaf = c
  | .leaf => rfl
  | .inner kd nm v l r => by show (.inner kd nm v l (app r .leaf) : T) = _; rw [app_l r]
theorem app_a : ∀ a b c : T, app (app a b) c = app a (app b c)
  | .leaf, _, _ => rfl
  | .inner kd nm v l r, b, c => by show (.inner kd nm v l (app (app r b) c) : T) = .inner kd nm v l (app r (app b c)); rw [app_a r b c]
/-- a text's end -/
def cOk (c : Nat → Nat) (L : Nat) : Prop := ∀ i, L ≤ i → c i = 0
theorem cOk.lt {c : Nat → Nat} {L p : Nat} (x : cOk c L) (h : ¬ c p = 0) : p < L := Nat.lt_of_not_le fun z => h (x p z)
theorem isv_lt {c : Nat → Nat} {L p : Nat} (x : cOk c L) (h : isv (c p) = true) : p < L := x.lt fun z => by rw [z] at h; exact absurd h (by decide)
theorem sz1_p {c : Nat → Nat} {L kd nm p p' : Nat} {t : T} (x : cOk c L) (h : sz1 c kd nm p = .inr (t, p')) : p < p' ∧ p' ≤ L := by
  unfold sz1 at h
  split at h
  · have := isv_lt x (by assumption)
    injection h with h; injection h with h1 h2; omega
  · cases h
theorem sz2_p {c : Nat → Nat} {L nm p p' : Nat} {t : T} (x : cOk c L) (h : sz2 c nm p = .inr (t, p')) : p < p' ∧ p' ≤ L := by
  unfold sz2 at h
  split at h
  · split at h
    · have := isv_lt x (by assumption)
      injection h with h; injection h with h1 h2; omega
    · cases h
  · cases h
theorem szc_p {c : Nat → Nat} {L p p' : Nat} {t : T} (x : cOk c L) (h : szc c p = .inr (t, p')) : p + 1 < p' ∧ p' ≤ L := by
  unfold szc at h
  split at h
  · split at h
    · split at h
      · have := isv_lt x (by assumption)
        injection h with h; injection h with h1 h2; omega
      · cases h
    · cases h
  · cases h
theorem sz_p {c : Nat → Nat} {L p p' : Nat} {t : T} (x : cOk c L) (h : sz c p = .inr (t, p')) : p + 1 < p' ∧ p' ≤ L := by
  unfold sz at h
  split at h
  · have := sz1_p x h; omega
  · split at h
    · have := sz1_p x h; omega
    · split at h
      · have := sz2_p x h; omega
      · split at h
        · split at h
          · have := sz1_p x h; omega
          · cases h
        · exact szc_p x h
theorem pz_p {c : Nat → Nat} {L : Nat} (x : cOk c L) : ∀ (n lv o p p' : Nat) (t : T), pz c n lv o p = .inr (t, p') → p + 1 < p' ∧ p' ≤ L
  | 0, _, _, _, _, _, h => by unfold pz at h; cases h
  | n + 1, 0, o, p, p', t, h => by
    unfold pz at h
    split at h
    · split at h
      · cases h
      · split at h
        · cases h
        · have := pz_p x n _ _ _ _ _ (by assumption)
          injection h with h; injection h with h1 h2; omega
    · split at h
      · split at h
        · cases h
        · split at h
          · cases h
          · have := pz_p x n _ _ _ _ _ (by assumption)
            split at h
            · have := x.lt (p := (by assumption : Nat)) (by rename_i hq; rw [hq]; decide)
              injection h with h; injection h with h1 h2; omega
            · cases h
      · exact sz_p x h
  | n + 1, 1, o, p, p', t, h => by
    unfold pz at h
    split at h
    · cases h
    · have := pz_p x n _ _ _ _ _ (by assumption)
      split at h
      · split at h
        · cases h
        · have := pz_p x n _ _ _ _ _ (by assumption)
          injection h with h; injection h with h1 h2; omega
      · injection h with h; injection h with h1 h2; omega
  | n + 1, 2, o, p, p', t, h => by
    unfold pz at h
    split at h
    · cases h
    · have := pz_p x n _ _ _ _ _ (by assumption)
      split at h
      · split at h
        · cases h
        · have := pz_p x n _ _ _ _ _ (by assumption)
          injection h with h; injection h with h1 h2; omega
      · injection h with h; injection h with h1 h2; omega
  | n + 1, lv + 3, o, p, p', t, h => by
    unfold pz at h
    split at h
    · cases h
    · have := pz_p x n _ _ _ _ _ (by assumption)
      split at h
      · split at h
        · cases h
        · split at h
          · cases h
          · have := pz_p x n _ _ _ _ _ (by assumption)
            injection h with h; injection h with h1 h2; omega
      · injection h with h; injection h with h1 h2; omega
/-! the nodes of the class that hold a tree: node b, in the stretch from lo to hi -/
def nA (i : Nat) : Nat := 43 + 5 * i
def fd (h : vH) (kd nm : Nat) (v : Nat × Nat × Nat × Nat) (b : Nat) : Prop := hI h (nA b) 0 = nI kd ∧ (6 ≤ kd → hI h (nA b) 1 = nI nm ∧ hI h (nA b) 3 = nI v.2.1 ∧ hI h (nA b) 4 = nI v.2.2.1 ∧ hI h (nA b) 5 = nI v.2.2.2) ∧ (6 ≤ kd ∨ kd ≤ 1 → hI h (nA b) 2 = nI v.1)
def rp (h : vH) : T → (Nat → Nat → Nat → Prop) × (Nat → Nat → Nat → Option Nat → Option Nat → Option Nat → Prop)
  | .leaf => (fun _ _ _ => False, fun _ _ _ p f l => f = none ∧ l = p)
  | .inner kd nm v l r => (fun lo hi b => lo ≤ b ∧ b < hi ∧ hi ≤ 62 ∧ fd h kd nm v b ∧ (rp h l).2 lo hi b none (hR h (nA b) 6) (hR h (nA b) 7),
      fun lo hi x p f l' => ∃ b lo' hi', f = some (nA b) ∧ lo ≤ lo' ∧ hi' ≤ hi ∧ (x < lo' ∨ hi' ≤ x) ∧ (rp h l).1 lo' hi' b ∧ hR h (nA b) 9 = p ∧ (rp h r).2 hi' hi x (some (nA b)) (hR h (nA b) 8) l')
/-- a node, a chain of pieces in it -/
def nd (h : vH) (t : T) (lo hi b : Nat) : Prop := (rp h t).1 lo hi b
def cd (h : vH) (c : T) (lo hi x : Nat) (p f l : Option Nat) : Prop := (rp h c).2 lo hi x p f l
theorem nd_i {h : vH} {kd nm : Nat} {v : Nat × Nat × Nat × Nat} {l r : T} {lo hi b : Nat} : nd h (.inner kd nm v l r) lo hi b ↔ lo ≤ b ∧ b < hi ∧ hi ≤ 62 ∧ fd h kd nm v b ∧ cd h l lo hi b none (hR h (nA b) 6) (hR h (nA b) 7) := Iff.rfl
theorem cd_l {h : vH} {lo hi x : Nat} {p f l : Option Nat} : cd h .leaf lo hi x p f l ↔ f = none ∧ l = p := Iff.rfl
theorem cd_i {h : vH} {kd nm : Nat} {v : Nat × Nat × Nat × Nat} {a r : T} {lo hi x : Nat} {p f l' : Option Nat} : cd h (.inner kd nm v a r) lo hi x p f l' ↔ ∃ b lo' hi', f = some (nA b) ∧ lo ≤ lo' ∧ hi' ≤ hi ∧ (x < lo' ∨ hi' ≤ x) ∧ nd h a lo' hi' b ∧ hR h (nA b) 9 = p ∧ cd h r hi' hi x (some (nA b)) (hR h (nA b) 8) l' := Iff.rfl
theorem nd_b {h : vH} {lo hi b : Nat} : ∀ {t : T}, nd h t lo hi b → lo ≤ b ∧ b < hi ∧ hi ≤ 62
  | .leaf, x => x.elim
  | .inner _ _ _ _ _, x => ⟨x.1, x.2.1, x.2.2.1⟩
theorem nA_inj {a b : Nat} (h : nA a = nA b) : a = b := by unfold nA at h; omega
theorem cd_w {h : vH} {hi hi2 x : Nat} (h2 : hi ≤ hi2) : ∀ (c : T) (lo lo2 : Nat) (_ : lo2 ≤ lo) (p f l : Option Nat), cd h c lo hi x p f l → cd h c lo2 hi2 x p f l
  | .leaf, _, _, _, _, _, _, y => y
  | .inner kd nm v a r, lo, lo2, h1, p, f, l, y => by
    obtain ⟨b, lo', hi', e1, e2, e3, e4, e5, e6, e7⟩ := cd_i.mp y
    exact cd_i.mpr ⟨b, lo', hi', e1, by omega, by omega, e4, e5, e6, cd_w h2 r _ _ (Nat.le_refl _) _ _ _ e7⟩
/-- the same numbers and links in a stretch, but the links to the neighbours of node x -/
def ag (h h' : vH) (lo hi x : Nat) : Prop := (∀ i, lo ≤ i → i < hi → ∀ j, j ≤ 5 → hI h' (nA i) j = hI h (nA i) j) ∧ ∀ i, lo ≤ i → i < hi → ∀ j, 6 ≤ j → j ≤ 9 → (i ≠ x ∨ j ≤ 7) → hR h' (nA i) j = hR h (nA i) j
/-- the same, but all of node x -/
def ax (h h' : vH) (lo hi x : Nat) : Prop := ∀ i, lo ≤ i → i < hi → i ≠ x → (∀ j, j ≤ 5 → hI h' (nA i) j = hI h (nA i) j) ∧ ∀ j, 6 ≤ j → j ≤ 9 → hR h' (nA i) j = hR h (nA i) j
theorem ag.ax {h h' : vH} {lo hi x : Nat} (a : ag h h' lo hi x) : ax h h' lo hi x := fun i h1 h2 h3 => ⟨a.1 i h1 h2, fun j j1 j2 => a.2 i h1 h2 j j1 j2 (Or.inl h3)⟩
theorem rp_ag {h h' : vH} : ∀ t : T, (∀ lo hi b, nd h t lo hi b → ag h h' lo hi b → nd h' t lo hi b) ∧ ∀ lo hi x p f l, cd h t lo hi x p f l → ax h h' lo hi x → cd h' t lo hi x p f l
  | .leaf => ⟨fun _ _ _ y _ => y, fun _ _ _ _ _ _ y _ => y⟩
  | .inner kd nm v l r => by
    refine ⟨fun lo hi b y a => ?_, fun lo hi x p f l' y a => ?_⟩
    · obtain ⟨e1, e2, e3, e4, e5⟩ := nd_i.mp y
      refine nd_i.mpr ⟨e1, e2, e3, ?_, ?_⟩
      · unfold fd at e4 ⊢
        rw [a.1 b e1 e2 0 (by decide), a.1 b e1 e2 1 (by decide), a.1 b e1 e2 2 (by decide), a.1 b e1 e2 3 (by decide), a.1 b e1 e2 4 (by decide), a.1 b e1 e2 5 (by decide)]
        exact e4
      · rw [a.2 b e1 e2 6 (by decide) (by decide) (Or.inr (by decide)), a.2 b e1 e2 7 (by decide) (by decide) (Or.inr (by decide))]
        exact (rp_ag l).2 _ _ _ _ _ _ e5 a.ax
    · obtain ⟨b, lo', hi', e1, e2, e3, e4, e5, e6, e7⟩ := cd_i.mp y
      have hb := nd_b e5
      have ab := a b (by omega) (by omega) (by omega)
      refine cd_i.mpr ⟨b, lo', hi', e1, e2, e3, e4, (rp_ag l).1 _ _ _ e5 ⟨fun i h1 h2 => (a i (by omega) (by omega) (by omega)).1, fun i h1 h2 j j1 j2 _ => (a i (by omega) (by omega) (by omega)).2 j j1 j2⟩, ?_, ?_⟩
      · rw [ab.2 9 (by decide) (by decide)]; exact e6
      · rw [ab.2 8 (by decide) (by decide)]
        exact (rp_ag r).2 _ _ _ _ _ _ e7 (fun i h1 h2 h3 => a i (by omega) h2 h3)
/-- a piece is put behind a chain -/
theorem cd_add {h h' : vH} {hi x lo2 hi2 b2 : Nat} {t2 : T} (hhi : hi ≤ lo2) (hx : x < lo2 ∨ hi2 ≤ x) (h2 : nd h' t2 lo2 hi2 b2) (hn : hR h' (nA b2) 8 = none) : ∀ (c : T) (lo : Nat) (_ : lo ≤ lo2) (p f l : Option Nat), cd h c lo hi x p f l → hR h' (nA b2) 9 = l →
    (c = .leaf ∧ l = p ∧ cd h' (cc t2 .leaf) lo hi2 x p (some (nA b2)) (some (nA b2))) ∨ (¬ c = .leaf ∧ ∃ bl, l = some (nA bl) ∧ lo ≤ bl ∧ bl < hi ∧ bl ≠ x ∧ ((∀ i, lo ≤ i → i < hi → i ≠ x → (∀ j, j ≤ 5 → hI h' (nA i) j = hI h (nA i) j) ∧ ∀ j, 6 ≤ j → j ≤ 9 → ¬ (i = bl ∧ j = 8) → hR h' (nA i) j = hR h (nA i) j) → hR h' (nA bl) 8 = some (nA b2) → cd h' (app c (cc t2 .leaf)) lo hi2 x p f (some (nA b2))))
  | .leaf, lo, hlo, p, f, l, y, e => Or.inl ⟨rfl, y.2, cd_i.mpr ⟨b2, lo2, hi2, rfl, hlo, Nat.le_refl _, hx, h2, by rw [e, y.2], by rw [hn]; exact cd_l.mpr ⟨rfl, rfl⟩⟩⟩
  | .inner kd nm v a r, lo, hlo, p, f, l, y, e => by
    right
    obtain ⟨b, lo', hi', e1, e2, e3, e4, e5, e6, e7⟩ := cd_i.mp y
    have hb := nd_b e5
    have hb2 := nd_b h2
    refine ⟨nofun, ?_⟩
    rcases cd_add hhi hx h2 hn r hi' (by omega) _ _ _ e7 e with ⟨er, el, z⟩ | ⟨er, bl, el, b1, b3, b4, z⟩
    · subst er
      refine ⟨b, el, by omega, by omega, by omega, fun A B => ?_⟩
      have ab := A b (by omega) (by omega) (by omega)
      refine cd_i.mpr ⟨b, lo', hi', e1, e2, by omega, e4, (rp_ag a).1 _ _ _ e5 ⟨fun i h1 h2 => (A i (by omega) (by omega) (by omega)).1, fun i h1 h2 j j1 j2 h3 => (A i (by omega) (by omega) (by omega)).2 j j1 j2 (by omega)⟩, ?_, ?_⟩
      · rw [ab.2 9 (by decide) (by decide) (by omega)]; exact e6
      · rw [B]; exact z
    · refine ⟨bl, el, by omega, b3, b4, fun A B => ?_⟩
      have ab := A b (by omega) (by omega) (by omega)
      refine cd_i.mpr ⟨b, lo', hi', e1, e2, by omega, e4, (rp_ag a).1 _ _ _ e5 ⟨fun i h1 h2 => (A i (by omega) (by omega) (by omega)).1, fun i h1 h2 j j1 j2 h3 => (A i (by omega) (by omega) (by omega)).2 j j1 j2 (by omega)⟩, ?_, ?_⟩
      · rw [ab.2 9 (by decide) (by decide) (by omega)]; exact e6
      · rw [ab.2 8 (by decide) (by decide) (by omega)]
        exact z (fun i h1 h2 h3 => A i (by omega) h2 h3) B
