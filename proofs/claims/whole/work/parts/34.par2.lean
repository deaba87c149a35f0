/-! ===== the class's parser: nodes are joined ===== -/
theorem cd_last {h : vH} {hi x : Nat} : ∀ (c : T) (lo : Nat) (p f l : Option Nat), cd h c lo hi x p f l → (c = .leaf ∧ l = p) ∨ (¬ c = .leaf ∧ ∃ bl, l = some (nA bl) ∧ lo ≤ bl ∧ bl < hi ∧ bl ≠ x)
  | .leaf, _, _, _, _, y => Or.inl ⟨rfl, y.2⟩
  | .inner kd nm v a r, lo, p, f, l, y => by
    obtain ⟨b, lo', hi', e1, e2, e3, e4, e5, e6, e7⟩ := cd_i.mp y
    have hb := nd_b e5
    refine Or.inr ⟨nofun, ?_⟩
    rcases cd_last r _ _ _ _ e7 with ⟨-, z⟩ | ⟨-, bl, z1, z2, z3, z4⟩
    · exact ⟨b, z, by omega, by omega, by omega⟩
    · exact ⟨bl, z1, by omega, z3, z4⟩
theorem c_add0 {d c n b b2 : Nat} {h : vH} {Q : vQ} (k1 : (hK h)[nA b]? = some (5, 0)) (k2 : (hK h)[nA b2]? = some (5, 0)) (hb : b ≠ b2) (e : hR h (nA b) 7 = none) (k : Q none (uR (uR (uR h (nA b2) 9 none) (nA b) 6 (some (nA b2))) (nA b) 7 (some (nA b2)))) : vm_C mX5_add d c n [vR (some (nA b)), vR (some (nA b2))] h Q := by
  have e2 : hR (uR h (nA b2) 9 (hR h (nA b) 7)) (nA b) 7 = none := by rw [hR_uR, if_neg (by unfold nA; omega), e]
  refine bX5_add_0 k1 k2 (fun hz => absurd e2 hz) (fun _ => bX5_add_15 k1 (bX5_add_31 k1 ?_))
  rw [e]; exact k
theorem c_add1 {d c n b b2 bl : Nat} {h : vH} {Q : vQ} (k1 : (hK h)[nA b]? = some (5, 0)) (k2 : (hK h)[nA b2]? = some (5, 0)) (k3 : (hK h)[nA bl]? = some (5, 0)) (hb : b ≠ b2) (e : hR h (nA b) 7 = some (nA bl)) (k : Q none (uR (uR (uR h (nA b2) 9 (some (nA bl))) (nA bl) 8 (some (nA b2))) (nA b) 7 (some (nA b2)))) : vm_C mX5_add d c n [vR (some (nA b)), vR (some (nA b2))] h Q := by
  have e2 : hR (uR h (nA b2) 9 (hR h (nA b) 7)) (nA b) 7 = some (nA bl) := by rw [hR_uR, if_neg (by unfold nA; omega), e]
  refine bX5_add_0 k1 k2 (fun _ => bX5_add_23 (b3 := nA bl) k1 e2 k3 (bX5_add_31 k1 ?_)) (fun hz => absurd (by rw [e2]; nofun) hz)
  rw [e]; exact k
theorem LPx.nk {h : vH} (l : LPx h) {i : Nat} (hi : i < 62) : (hK h)[nA i]? = some (5, 0) := (l.2.2.2.2 i hi).2.1
/-- piece b2 is joined to node b, whose chain of pieces is c -/
theorem c_joined {d cx n lo0 lo hi lo2 hi2 b b2 : Nat} {h : vH} {c t2 : T} {Q : vQ} (hd : 1 ≤ d) (l : LPx h) (hb : b < 62) (hc : cd h c lo hi b none (hR h (nA b) 6) (hR h (nA b) 7)) (h2 : nd h t2 lo2 hi2 b2) (hhi : hi ≤ lo2) (hlo : lo ≤ lo2) (hx : b < lo2 ∨ hi2 ≤ b) (hn : hR h (nA b2) 8 = none) (h0 : lo0 ≤ lo) (h0b : lo0 ≤ b)
    (k : ∀ h', fp lo0 h h' → hI h' = hI h → cd h' (app c (cc t2 .leaf)) lo hi2 b none (hR h' (nA b) 6) (hR h' (nA b) 7) → hR h' (nA b) 8 = hR h (nA b) 8 → Q (some (vR (some (nA b)))) h') : vm_C mX6_joined d cx n [vR (some 41), vR (some (nA b)), vR (some (nA b2))] h Q := by
  have nb := nd_b h2
  have hbb : b ≠ b2 := by omega
  refine bX6_joined_0 (fun hz => absurd hz nofun) (fun _ => bX6_joined_4 (fun _ => ?_) (fun hz => absurd nofun hz))
  rcases cd_last c lo _ _ _ hc with ⟨ec, el⟩ | ⟨ec, bl, el, q1, q2, q3⟩
  · refine bX6_joined_10 (R := fun r h' => r = none ∧ h' = uR (uR (uR h (nA b2) 9 none) (nA b) 6 (some (nA b2))) (nA b) 7 (some (nA b2))) (l.nk hb) hd (c_add0 (l.nk hb) (l.nk (by omega)) hbb el ⟨rfl, rfl⟩) ?_
    rintro r h' ⟨rfl, rfl⟩
    have f : fp lo0 h (uR (uR (uR h (nA b2) 9 none) (nA b) 6 (some (nA b2))) (nA b) 7 (some (nA b2))) :=
      ((fp_nR (by omega) (by omega) (by decide) (by decide)).tr (fp_nR h0b hb (by decide) (by decide))).tr (fp_nR h0b hb (by decide) (by decide))
    have n2 : nd (uR (uR (uR h (nA b2) 9 none) (nA b) 6 (some (nA b2))) (nA b) 7 (some (nA b2))) t2 lo2 hi2 b2 := (rp_ag t2).1 _ _ _ h2 ⟨fun i _ _ j _ => rfl, fun i i1 i2 j j1 j2 j3 => by
      rw [hR_uR, if_neg (by unfold nA; omega), hR_uR, if_neg (by unfold nA; omega), hR_uR, if_neg (by unfold nA; omega)]⟩
    have e8 : hR (uR (uR (uR h (nA b2) 9 none) (nA b) 6 (some (nA b2))) (nA b) 7 (some (nA b2))) (nA b2) 8 = none := by
      rw [hR_uR, if_neg (by omega), hR_uR, if_neg (by omega), hR_uR, if_neg (by omega)]; exact hn
    have e9 : hR (uR (uR (uR h (nA b2) 9 none) (nA b) 6 (some (nA b2))) (nA b) 7 (some (nA b2))) (nA b2) 9 = hR h (nA b) 7 := by
      rw [hR_uR, if_neg (by omega), hR_uR, if_neg (by omega), hR_uR, if_pos ⟨rfl, rfl⟩, el]
    rcases cd_add hhi hx n2 e8 c lo hlo _ _ _ hc e9 with ⟨er, _, z⟩ | ⟨er, _⟩
    · subst ec
      refine bX6_joined_15 (k _ f rfl ?_ ?_)
      · rw [hR_uR, if_neg (by omega), hR_uR, if_pos ⟨rfl, rfl⟩, hR_uR, if_pos ⟨rfl, rfl⟩]; exact z
      · rw [hR_uR, if_neg (by omega), hR_uR, if_neg (by omega), hR_uR, if_neg (by omega)]
    · exact absurd ec er
  · refine bX6_joined_10 (R := fun r h' => r = none ∧ h' = uR (uR (uR h (nA b2) 9 (some (nA bl))) (nA bl) 8 (some (nA b2))) (nA b) 7 (some (nA b2))) (l.nk hb) hd (c_add1 (l.nk hb) (l.nk (by omega)) (l.nk (by omega)) hbb el ⟨rfl, rfl⟩) ?_
    rintro r h' ⟨rfl, rfl⟩
    have f : fp lo0 h (uR (uR (uR h (nA b2) 9 (some (nA bl))) (nA bl) 8 (some (nA b2))) (nA b) 7 (some (nA b2))) :=
      ((fp_nR (by omega) (by omega) (by decide) (by decide)).tr (fp_nR (by omega) (by omega) (by decide) (by decide))).tr (fp_nR h0b hb (by decide) (by decide))
    have n2 : nd (uR (uR (uR h (nA b2) 9 (some (nA bl))) (nA bl) 8 (some (nA b2))) (nA b) 7 (some (nA b2))) t2 lo2 hi2 b2 := (rp_ag t2).1 _ _ _ h2 ⟨fun i _ _ j _ => rfl, fun i i1 i2 j j1 j2 j3 => by
      rw [hR_uR, if_neg (by unfold nA; omega), hR_uR, if_neg (by unfold nA; omega), hR_uR, if_neg (by unfold nA; omega)]⟩
    have e8 : hR (uR (uR (uR h (nA b2) 9 (some (nA bl))) (nA bl) 8 (some (nA b2))) (nA b) 7 (some (nA b2))) (nA b2) 8 = none := by
      rw [hR_uR, if_neg (by omega), hR_uR, if_neg (by unfold nA; omega), hR_uR, if_neg (by omega)]; exact hn
    have e9 : hR (uR (uR (uR h (nA b2) 9 (some (nA bl))) (nA bl) 8 (some (nA b2))) (nA b) 7 (some (nA b2))) (nA b2) 9 = hR h (nA b) 7 := by
      rw [hR_uR, if_neg (by omega), hR_uR, if_neg (by omega), hR_uR, if_pos ⟨rfl, rfl⟩, el]
    rcases cd_add hhi hx n2 e8 c lo hlo _ _ _ hc e9 with ⟨er, _⟩ | ⟨_, bl', el', z1, z2, z3, z⟩
    · exact absurd er ec
    · have ebl : bl' = bl := by rw [el'] at el; injection el with el; exact nA_inj el
      subst ebl
      refine bX6_joined_15 (k _ f rfl ?_ ?_)
      · have e6 : hR (uR (uR (uR h (nA b2) 9 (some (nA bl'))) (nA bl') 8 (some (nA b2))) (nA b) 7 (some (nA b2))) (nA b) 6 = hR h (nA b) 6 := by
          rw [hR_uR, if_neg (by omega), hR_uR, if_neg (by omega), hR_uR, if_neg (by omega)]
        rw [e6, hR_uR, if_pos ⟨rfl, rfl⟩]
        refine z (fun i i1 i2 i3 => ⟨fun j _ => rfl, fun j j1 j2 j3 => ?_⟩) ?_
        · rw [hR_uR, if_neg (by unfold nA; omega), hR_uR, if_neg (fun w => j3 ⟨nA_inj w.1, w.2⟩), hR_uR, if_neg (by unfold nA; omega)]
        · rw [hR_uR, if_neg (by omega), hR_uR, if_pos ⟨rfl, rfl⟩]
      · rw [hR_uR, if_neg (by omega), hR_uR, if_neg (by unfold nA; omega), hR_uR, if_neg (by omega)]
theorem LPx.fp {u : Nat} {h h' : vH} (l : LPx h) (f : fp u h h') : LPx h' := by
  obtain ⟨h1, h2, h3, h4, h5⟩ := l
  exact ⟨by rw [f.k]; exact h1, by rw [f.R (by omega)]; exact h2, by rw [f.R (by omega)]; exact h3, by rw [f.k]; exact h4, fun i hi => ⟨by rw [f.R (by omega)]; exact (h5 i hi).1, (h5 i hi).2.fp f⟩⟩
/-- a new node over one piece -/
theorem c_holding {d cx n lo u b2 : Nat} {h : vH} {t2 : T} {kd : Int32} {Q : vQ} (hd : 2 ≤ d) (l : LPx h) (hu : u < 62) (eu : hI h 41 2 = nI u) (h2 : nd h t2 lo u b2) (hn : hR h (nA b2) 8 = none)
    (k : ∀ h', fp lo h h' → hI h' 41 2 = nI (u + 1) → hI h' 41 3 = hI h 41 3 → hI h' 41 4 = hI h 41 4 → hI h' (nA u) 0 = kd → cd h' (cc t2 .leaf) lo u u none (hR h' (nA u) 6) (hR h' (nA u) 7) → hR h' (nA u) 8 = none → Q (some (vR (some (nA u)))) h') : vm_C mX6_holding d cx n [vR (some 41), vI kd, vR (some (nA b2))] h Q := by
  have nb := nd_b h2
  have f1 : fp lo h (tkn h u kd) := fp_tkn (by omega) hu
  have l' : LPx (tkn h u kd) := l.fp f1
  refine bX6_holding_0 (fun _ => bX6_holding_8 (R := fun r h' => r = some (vR (some (nA u))) ∧ tkn h u kd = h') l.1 (by omega) (c_taken l hu eu ⟨rfl, rfl⟩) ?_) (fun hz => absurd nofun hz)
  rintro r h' ⟨rfl, rfl⟩
  have e6 : hR (tkn h u kd) (nA u) 6 = none := by rw [hR_tkn, if_pos ⟨rfl, by decide, by decide⟩]
  have e7 : hR (tkn h u kd) (nA u) 7 = none := by rw [hR_tkn, if_pos ⟨rfl, by decide, by decide⟩]
  have e8 : hR (tkn h u kd) (nA u) 8 = none := by rw [hR_tkn, if_pos ⟨rfl, by decide, by decide⟩]
  have n2 : nd (tkn h u kd) t2 lo u b2 := (rp_ag t2).1 _ _ _ h2 ⟨fun i i1 i2 j _ => by rw [hI_tkn, if_neg (by unfold nA; omega), if_neg (by unfold nA; omega)], fun i i1 i2 j j1 j2 j3 => by
    rw [hR_tkn, if_neg (by unfold nA; omega)]⟩
  refine bX6_holding_14 (R := fun r h' => r = some (vR (some (nA u))) ∧ fp lo h h' ∧ hI h' = hI (tkn h u kd) ∧ cd h' (cc t2 .leaf) lo u u none (hR h' (nA u) 6) (hR h' (nA u) 7) ∧ hR h' (nA u) 8 = none) l'.1 (by omega) (c_joined (c := .leaf) (lo0 := lo) (lo := lo) (hi := lo) (by omega) l' hu (cd_l.mpr ⟨e6, e7⟩) n2 (Nat.le_refl _) (Nat.le_refl _) (Or.inr (Nat.le_refl _)) (by rw [hR_tkn, if_neg (by unfold nA; omega)]; exact hn) (Nat.le_refl _) (by omega) (fun h' f2 eI z z8 => ⟨rfl, f1.tr f2, eI, z, by rw [z8, e8]⟩)) ?_
  rintro r h' ⟨rfl, f, eI, z, z8⟩
  refine bX6_holding_18 (k h' f ?_ ?_ ?_ ?_ z z8)
  · rw [eI, hI_tkn, if_neg (fun w => nA41 u w.1.symm), if_pos ⟨rfl, rfl⟩]
  · rw [eI, hI_tkn, if_neg (fun w => nA41 u w.1.symm), if_neg (by omega)]
  · rw [eI, hI_tkn, if_neg (fun w => nA41 u w.1.symm), if_neg (by omega)]
  · rw [eI, hI_tkn, if_pos ⟨rfl, rfl⟩]
theorem c_holding0 {d cx n : Nat} {h : vH} {kd : Int32} {Q : vQ} (k : Q (some (vR none)) h) : vm_C mX6_holding d cx n [vR (some 41), vI kd, vR none] h Q :=
  bX6_holding_0 (fun hz => absurd rfl hz) (fun _ => bX6_holding_4 (bX6_holding_18 k))
theorem c_joined0 {d cx n : Nat} {h : vH} {A : Option Nat} {Q : vQ} (k : Q (some (vR none)) h) : vm_C mX6_joined d cx n [vR (some 41), vR A, vR none] h Q :=
  bX6_joined_0 (fun _ => bX6_joined_8 k) (fun _ => bX6_joined_4 (fun hz => absurd rfl hz) (fun _ => bX6_joined_8 k))
theorem c_joined1 {d cx n : Nat} {h : vH} {B : Option Nat} {Q : vQ} (k : Q (some (vR none)) h) : vm_C mX6_joined d cx n [vR (some 41), vR none, vR B] h Q :=
  bX6_joined_0 (fun _ => bX6_joined_8 k) (fun hz => absurd rfl hz)
