/-! ===== the reference: its layout, its simplest methods ===== -/
def mTab : List (Nat × Nat × Nat × Nat) := [(0, 367, 20, 25), (1, 368, 20, 125), (3, 369, 20, 60), (5, 370, 20, 62), (6, 371, 21, 31744), (8, 372, 21, 512), (9, 373, 21, 512), (10, 374, 21, 512), (17, 375, 20, 10), (18, 376, 20, 10), (19, 377, 20, 10), (20, 378, 20, 10), (21, 379, 21, 10), (22, 380, 21, 10), (23, 381, 21, 10), (24, 382, 21, 5120)]
def LM (h : vH) : Prop := (hK h)[366]? = some (11, 0) ∧ ∀ e, e ∈ mTab → hR h 366 e.1 = some e.2.1 ∧ (hK h)[e.2.1]? = some e.2.2
theorem LM.s {h : vH} (x : LM h) : hR h 366 0 = some 367 ∧ (hK h)[367]? = some (20, 25) := x.2 (0, 367, 20, 25) (by decide)
theorem LM.past {h : vH} (x : LM h) : hR h 366 1 = some 368 ∧ (hK h)[368]? = some (20, 125) := x.2 (1, 368, 20, 125) (by decide)
theorem LM.text {h : vH} (x : LM h) : hR h 366 3 = some 369 ∧ (hK h)[369]? = some (20, 60) := x.2 (3, 369, 20, 60) (by decide)
theorem LM.act {h : vH} (x : LM h) : hR h 366 5 = some 370 ∧ (hK h)[370]? = some (20, 62) := x.2 (5, 370, 20, 62) (by decide)
theorem LM.pass {h : vH} (x : LM h) : hR h 366 6 = some 371 ∧ (hK h)[371]? = some (21, 31744) := x.2 (6, 371, 21, 31744) (by decide)
theorem LM.now {h : vH} (x : LM h) : hR h 366 8 = some 372 ∧ (hK h)[372]? = some (21, 512) := x.2 (8, 372, 21, 512) (by decide)
theorem LM.then {h : vH} (x : LM h) : hR h 366 9 = some 373 ∧ (hK h)[373]? = some (21, 512) := x.2 (9, 373, 21, 512) (by decide)
theorem LM.con {h : vH} (x : LM h) : hR h 366 10 = some 374 ∧ (hK h)[374]? = some (21, 512) := x.2 (10, 374, 21, 512) (by decide)
theorem LM.kind {h : vH} (x : LM h) : hR h 366 17 = some 375 ∧ (hK h)[375]? = some (20, 10) := x.2 (17, 375, 20, 10) (by decide)
theorem LM.from {h : vH} (x : LM h) : hR h 366 18 = some 376 ∧ (hK h)[376]? = some (20, 10) := x.2 (18, 376, 20, 10) (by decide)
theorem LM.ahead {h : vH} (x : LM h) : hR h 366 19 = some 377 ∧ (hK h)[377]? = some (20, 10) := x.2 (19, 377, 20, 10) (by decide)
theorem LM.rows {h : vH} (x : LM h) : hR h 366 20 = some 378 ∧ (hK h)[378]? = some (20, 10) := x.2 (20, 378, 20, 10) (by decide)
theorem LM.rm {h : vH} (x : LM h) : hR h 366 21 = some 379 ∧ (hK h)[379]? = some (21, 10) := x.2 (21, 379, 21, 10) (by decide)
theorem LM.am {h : vH} (x : LM h) : hR h 366 22 = some 380 ∧ (hK h)[380]? = some (21, 10) := x.2 (22, 380, 21, 10) (by decide)
theorem LM.ha {h : vH} (x : LM h) : hR h 366 23 = some 381 ∧ (hK h)[381]? = some (21, 10) := x.2 (23, 381, 21, 10) (by decide)
theorem LM.any {h : vH} (x : LM h) : hR h 366 24 = some 382 ∧ (hK h)[382]? = some (21, 5120) := x.2 (24, 382, 21, 5120) (by decide)
/-- ints alone are written, and none but these -/
def fm (A : Nat → Nat → Prop) (h h' : vH) : Prop := h'.2 = h.2 ∧ ∀ r j, ¬ A r j → hI h' r j = hI h r j
theorem fm.rf {A : Nat → Nat → Prop} {h : vH} : fm A h h := ⟨rfl, fun _ _ _ => rfl⟩
theorem fm.tr {A : Nat → Nat → Prop} {h h' h2 : vH} (x : fm A h h') (y : fm A h' h2) : fm A h h2 := ⟨y.1.trans x.1, fun r j hr => (y.2 r j hr).trans (x.2 r j hr)⟩
theorem fm.mono {A B : Nat → Nat → Prop} {h h' : vH} (x : fm A h h') (m : ∀ r j, A r j → B r j) : fm B h h' := ⟨x.1, fun r j hr => x.2 r j (fun z => hr (m r j z))⟩
theorem fm.k {A : Nat → Nat → Prop} {h h' : vH} (x : fm A h h') : hK h' = hK h := congrArg (fun q => q.2.2.1) x.1
theorem fm.r {A : Nat → Nat → Prop} {h h' : vH} (x : fm A h h') : hR h' = hR h := congrArg (fun q => q.2.1) x.1
theorem fm.x {A : Nat → Nat → Prop} {h h' : vH} (x : fm A h h') : hX h' = hX h := congrArg (fun q => q.2.2.2) x.1
theorem fm.l {A : Nat → Nat → Prop} {h h' : vH} (x : fm A h h') : hL h' = hL h := congrArg (fun q => q.1) x.1
theorem LM.fm {A : Nat → Nat → Prop} {h h' : vH} (x : LM h) (f : fm A h h') : LM h' := by
  unfold LM; rw [f.k, f.r]; exact x
theorem fm.fr {A : Nat → Nat → Prop} {h h' : vH} (f : fm A h h') {B : Nat → Prop} (hA : ∀ r j, A r j → B r) : fr B h h' :=
  ⟨congrArg (fun q => q.2) f.1, fun r hr => ⟨funext fun j => f.2 r j (fun z => hr (hA r j z)), by rw [f.l]⟩⟩
theorem fm_uI (h : vH) (a k : Nat) (v : Int32) : fm (fun r j => r = a ∧ j = k) h (uI h a k v) := ⟨rfl, fun r j hr => by rw [hI_uI, if_neg hr]⟩
/-- a stretch of a row of ints -/
def qI (h : vH) (w o i : Nat) (X : Nat → Int32) : vH := sI h w (fun j => if o ≤ j ∧ j < o + i then X (j - o) else hI h w j)
theorem hI_qI (h : vH) (w o i : Nat) (X : Nat → Int32) (b j : Nat) : hI (qI h w o i X) b j = if b = w ∧ o ≤ j ∧ j < o + i then X (j - o) else hI h b j := by
  unfold qI; rw [hI_sI]
  by_cases hb : b = w
  · subst hb; rw [if_pos rfl]; by_cases h2 : o ≤ j ∧ j < o + i
    · rw [if_pos h2, if_pos ⟨rfl, h2⟩]
    · rw [if_neg h2, if_neg (fun z => h2 z.2)]
  · rw [if_neg hb, if_neg (fun z => hb z.1)]
theorem vH_ext {h h' : vH} (e : ∀ b j, hI h b j = hI h' b j) (e2 : h.2 = h'.2) : h = h' := Prod.ext (funext fun b => funext fun j => e b j) e2
theorem qI_0 (h : vH) (w o : Nat) (X : Nat → Int32) : qI h w o 0 X = h := vH_ext (fun b j => by rw [hI_qI, if_neg (by omega)]) rfl
theorem qI_s (h : vH) (w o i : Nat) (X : Nat → Int32) : uI (qI h w o i X) w (o + i) (X i) = qI h w o (i + 1) X := vH_ext (fun b j => by
  rw [hI_uI, hI_qI, hI_qI]
  by_cases h1 : b = w ∧ j = o + i
  · rw [if_pos h1, if_pos ⟨h1.1, by omega, by omega⟩, h1.2, Nat.add_sub_cancel_left]
  · rw [if_neg h1]
    by_cases h2 : b = w ∧ o ≤ j ∧ j < o + i
    · rw [if_pos h2, if_pos ⟨h2.1, h2.2.1, by omega⟩]
    · rw [if_neg h2, if_neg (fun z => by have : j ≠ o + i := fun q => h1 ⟨z.1, q⟩; exact h2 ⟨z.1, z.2.1, by omega⟩)]) rfl
theorem fm_qI (h : vH) (w o i : Nat) (X : Nat → Int32) : fm (fun r j => r = w ∧ o ≤ j ∧ j < o + i) h (qI h w o i X) := ⟨rfl, fun r j hr => by rw [hI_qI, if_neg hr]⟩
def inr (x : Int32) (a b : Nat) : Prop := ∃ i, a ≤ i ∧ i ≤ b ∧ x = nI i
theorem m_in {d c n a b : Nat} {h : vH} {x : Int32} (hb : b < 2147483647) (hab : a ≤ b + 1) : vm_C mX11_in d c n [vI x, vI (nI a), vI (nI b)] h (rB h (inr x a b) (¬ inr x a b)) := by
  have no : x < nI a ∨ nI b < x → ¬ inr x a b := by
    rintro hz ⟨i, h1, h2, rfl⟩
    rcases hz with hz | hz
    · exact nI_nlt h1 (by omega) hz
    · exact nI_nlt h2 (by omega) hz
  refine bX11_in_0 (fun hc => bX11_in_14 (bX11_in_15 rfl ⟨rfl, Or.inr ⟨no (Or.inl hc), rfl⟩⟩)) (fun h1 => bX11_in_5 (fun hc => bX11_in_14 (bX11_in_15 rfl ⟨rfl, Or.inr ⟨no (Or.inr hc), rfl⟩⟩)) (fun h2 => bX11_in_10 (bX11_in_15 rfl ⟨rfl, Or.inl ⟨?_, rfl⟩⟩)))
  rcases ix_or x (n := b + 1) (by omega) with (hh | hh) | ⟨j, hj, ej⟩
  · refine absurd ?_ h1
    rw [Int32.lt_iff_toInt_lt] at hh ⊢
    rw [nI_toInt (by omega)]
    have : (0 : Int32).toInt = 0 := by decide
    omega
  · refine absurd ?_ h2
    rw [Int32.le_iff_toInt_le, nI_toInt (by omega)] at hh
    rw [Int32.lt_iff_toInt_lt, nI_toInt (by omega)]
    omega
  · refine ⟨j, Nat.le_of_not_lt fun z => h1 ?_, by omega, ej⟩
    rw [ej]; exact nI_lt z (by omega)
theorem inr_ix {x : Int32} {n : Nat} (hn : 0 < n) : inr x 0 (n - 1) ↔ ix x n := ⟨fun ⟨i, _, h, e⟩ => ⟨i, by omega, e⟩, fun ⟨i, h, e⟩ => ⟨i, by omega, by omega, e⟩⟩
theorem inr_ob {x : Int32} {n : Nat} : inr x 1 (2 ^ n - 1) ↔ ob x n := by
  have := Nat.two_pow_pos n
  exact ⟨fun ⟨i, h0, h, e⟩ => ⟨i, h0, by omega, e⟩, fun ⟨i, h0, h, e⟩ => ⟨i, h0, by omega, e⟩⟩
theorem rB.imp {h : vH} {P P' N N' : Prop} (hp : P → P') (hn : N → N') {r : Option vV} {h' : vH} (x : rB h P N r h') : rB h P' N' r h' := by
  obtain ⟨e, h1 | h1⟩ := x
  · exact ⟨e, Or.inl ⟨hp h1.1, h1.2⟩⟩
  · exact ⟨e, Or.inr ⟨hn h1.1, h1.2⟩⟩
theorem m_ix {d c n N : Nat} {h : vH} {x : Int32} (hN : 0 < N) (hN2 : N < 2147483647) : vm_C mX11_in d c n [vI x, vI 0, vI (nI (N - 1))] h (rB h (ix x N) (¬ ix x N)) := by
  have := m_in (d := d) (c := c) (n := n) (a := 0) (b := N - 1) (h := h) (x := x) (by omega) (by omega)
  rw [inr_ix hN] at this
  exact this
def mS (h : vH) (S : Nat → Int32) : Prop := ∀ i, i < 25 → hI h 367 i = S i
theorem m_full {d c n m : Nat} {h : vH} {Q : vQ} (hM : LM h) (hm : m < 4) (e : hI h 367 0 = nI m) (k : Q (some (vI (nI (2 ^ m - 1)))) h) : vm_C mX11_full d c n [vR (some 366)] h Q := by
  refine bX11_full_0 (b2 := 367) (n_b2 := 25) hM.1 hM.s.1 hM.s.2 (vp_in_nI (n := 0) (by decide) (by decide)) ?_
  rw [show Int32.toNatClampNeg 0 = 0 from rfl, e, everyN m hm]; exact k
theorem m_isObject {d c n m : Nat} {h : vH} {x : Int32} (hd : 1 ≤ d) (hM : LM h) (hm : m < 4) (e : hI h 367 0 = nI m) : vm_C mX11_isObject d c n [vR (some 366), vI x] h (rB h (ob x m) (¬ ob x m)) := by
  have hp : 1 ≤ 2 ^ m ∧ 2 ^ m ≤ 8 := (by decide : ∀ m, m < 4 → 1 ≤ 2 ^ m ∧ 2 ^ m ≤ 8) m hm
  refine bX11_isObject_0 (R := fun r h' => r = some (vI (nI (2 ^ m - 1))) ∧ h = h') hM.1 hd (m_full hM hm e ⟨rfl, rfl⟩) ?_
  rintro r h' ⟨rfl, rfl⟩
  refine bX11_isObject_6 (R := rB h (ob x m) (¬ ob x m)) hd ?_ ?_
  · have := m_in (d := d - 1) (c := 0) (n := 0) (a := 1) (b := 2 ^ m - 1) (h := h) (x := x) (by omega) (by omega)
    rw [inr_ob] at this
    exact this
  · rintro r h' ⟨rfl, ⟨hz, rfl⟩ | ⟨hz, rfl⟩⟩
    · exact bX11_isObject_9 rfl ⟨rfl, Or.inl ⟨hz, rfl⟩⟩
    · exact bX11_isObject_9 rfl ⟨rfl, Or.inr ⟨hz, rfl⟩⟩
theorem div32 {a : Nat} (ha : a < 512) : 9 + nI a / 32 = nI (9 + a / 32) ∧ nI a - nI a / 32 * 32 = nI (a % 32) := by
  have e1 : nI a / 32 = nI (a / 32) := pk_div (d := 32) (by omega) (by decide) (by decide)
  have e2 : nI a - nI a / 32 * 32 = nI (a % 32) := pk_rem (d := 32) (by omega) (by decide) (by decide)
  exact ⟨by rw [e1, show (9 : Int32) = nI 9 from rfl, nI_add], e2⟩
theorem m_isThere {d c n a : Nat} {h : vH} {S : Nat → Int32} {Q : vQ} (hM : LM h) (hs : mS h S) (ha : a < 512) (k : Q (some (vI (if ctx S a then 1 else 0))) h) : vm_C mX11_isThere d c n [vR (some 366), vI (nI a)] h Q := by
  have e : Int32.toNatClampNeg (9 + nI a / 32) = 9 + a / 32 := by rw [(div32 ha).1, cs (by omega)]
  refine bX11_isThere_0 (b2 := 367) (n_b2 := 25) hM.1 hM.s.1 hM.s.2 (by rw [(div32 ha).1]; exact vp_in_nI (by omega) (by decide)) (fun hc => ?_) (fun hc => ?_)
  · rw [e, (div32 ha).2, bI_st1 (by omega), hs _ (by omega)] at hc
    rw [if_neg (show ¬ ctx S a = true from hc)] at k
    exact bX11_isThere_27 (bX11_isThere_28 rfl k)
  · rw [e, (div32 ha).2, bI_st1 (by omega), hs _ (by omega)] at hc
    rw [if_pos (show ctx S a = true from Classical.byContradiction hc)] at k
    exact bX11_isThere_23 (bX11_isThere_28 rfl k)
theorem ofvN : ∀ v, v < 3 → ∀ a, a < 512 → ((nI a >>> ((3 * nI v) &&& (31 : Int32))) &&& 7) = nI (ofv a v) := by decide +kernel
theorem m_of {d c n a v : Nat} {h : vH} {Q : vQ} (ha : a < 512) (hv : v < 3) (k : Q (some (vI (nI (ofv a v)))) h) : vm_C mX11_of d c n [vI (nI a), vI (nI v)] h Q := by
  refine bX11_of_0 ?_
  rw [ofvN v hv a ha]; exact k
theorem m_size {d c n : Nat} {h : vH} {S : Nat → Int32} {Q : vQ} (hd : 1 ≤ d) (hM : LM h) (hs : mS h S) (k : Q (some (vI (f_contextSize S))) h) : vm_C mX11_size d c n [vR (some 366)] h Q := by
  refine bX11_size_0 ?_
  refine vl_down 512 (fun i => vm_E mX11_size d c n 4 [some (vR (some 366)), some (vI (nI (cn (ctx S) i))), some (vI (nI i))] [] h Q) (bX11_size_4 (fun _ => bX11_size_33 k) (fun hn => absurd (by decide +kernel) hn)) (fun i hi ih => ?_)
  refine bX11_size_4 (fun hc => absurd hc (nI_ge (a := i) (b := 512) hi (by decide))) (fun _ => ?_)
  refine bX11_size_11 (R := fun r h' => r = some (vI (if ctx S i then 1 else 0)) ∧ h = h') hM.1 hd (m_isThere hM hs hi ⟨rfl, rfl⟩) ?_
  rintro r h' ⟨rfl, rfl⟩
  rw [cn_s] at ih
  cases e : ctx S i
  · rw [e, if_neg (by decide), Nat.add_zero] at ih
    refine bX11_size_17 (fun _ => bX11_size_24 (bX11_size_25 ?_)) (fun hc => absurd rfl hc)
    rw [nI_1, show (0 : Int32) = nI 0 from rfl, nI_add]; exact ih
  · rw [e, if_pos rfl] at ih
    refine bX11_size_17 (fun hc => absurd hc (by decide +kernel)) (fun _ => bX11_size_20 (bX11_size_25 ?_))
    rw [nI_1, nI_1]; exact ih
def fstM (h : vH) : vH := qI (uI h 367 7 0) 367 9 16 (fun k => if k = 0 then 1 else 0)
theorem m_first {d c n : Nat} {h : vH} {Q : vQ} (hM : LM h) (k : Q none (fstM h)) : vm_C mX11_first d c n [vR (some 366)] h Q := by
  refine bX11_first_0 (b2 := 367) (n_b2 := 25) hM.1 hM.s.1 hM.s.2 (vp_in_nI (n := 7) (by decide) (by decide)) ?_
  have g0 := vl_down 16 (fun i => vm_E mX11_first d c n 10 [some (vR (some 366)), some (vI (nI i))] [] (qI (uI h 367 7 0) 367 9 i (fun k => if k = 0 then 1 else 0)) Q) (bX11_first_10 (fun _ => bX11_first_40 k) (fun hn => absurd (by decide +kernel) hn)) (fun i hi ih => by
    have e9 : 9 + nI i = nI (9 + i) := by rw [show (9 : Int32) = nI 9 from rfl, nI_add]
    have ec : Int32.toNatClampNeg (nI (9 + i)) = 9 + i := cs (by omega)
    rw [← qI_s] at ih
    refine bX11_first_10 (fun hc => absurd hc (nI_ge (a := i) (b := 16) hi (by decide))) (fun _ => ?_)
    refine bX11_first_16 hM.1 (fun hc => ?_) (fun hc => ?_)
    · have h0 : i ≠ 0 := fun z => hc (by rw [z]; rfl)
      rw [show hR (qI (uI h 367 7 0) 367 9 i (fun k => if k = 0 then 1 else 0)) 366 0 = some 367 from hM.s.1]
      refine bX11_first_32 (bX11_first_33 (n_sa2 := 25) hM.s.2 (by rw [e9]; exact vp_in_nI (by omega) (by decide)) ?_)
      rw [e9, ec, nI_1]
      rw [if_neg h0] at ih; exact ih
    · have h0 : i = 0 := (nI_eq (a := i) (b := 0) (by omega) (by decide)).mp (Classical.byContradiction hc)
      rw [show hR (qI (uI h 367 7 0) 367 9 i (fun k => if k = 0 then 1 else 0)) 366 0 = some 367 from hM.s.1]
      refine bX11_first_28 (bX11_first_33 (n_sa2 := 25) hM.s.2 (by rw [e9]; exact vp_in_nI (by omega) (by decide)) ?_)
      rw [e9, ec, nI_1]
      rw [if_pos h0] at ih; exact ih)
  rw [qI_0] at g0
  exact g0
theorem mS_first {h : vH} {S : Nat → Int32} (x : mS h S) : mS (fstM h) (fstV S) := by
  intro i hi
  unfold fstM fstV
  rw [hI_qI, hI_uI, x i hi]
  by_cases h7 : i = 7
  · subst h7; rfl
  · rw [if_neg (show ¬ (367 = 367 ∧ i = 7) from fun z => h7 z.2), if_neg h7]
    by_cases h9 : 9 ≤ i
    · rw [if_pos ⟨rfl, h9, by omega⟩, if_pos h9]
      by_cases h0 : i = 9
      · subst h0; rfl
      · rw [if_neg h0, if_neg (by omega)]
    · rw [if_neg h9, if_neg (fun z => h9 z.2.1)]
theorem fm_first (h : vH) : fm (fun r _ => r = 367) h (fstM h) := ((fm_uI h 367 7 0).mono (fun r j z => z.1)).tr ((fm_qI _ 367 9 16 _).mono (fun r j z => z.1))
/-! the reference's history -/
def mh (h : vH) (H : List (Nat → Int32)) : Prop := hI h 366 2 = nI H.length ∧ H.length ≤ 5 ∧ ∀ (j : Nat) (T : Nat → Int32), H[j]? = some T → ∀ i, i < 25 → hI h 368 (25 * j + i) = T i
theorem mh.fm {A : Nat → Nat → Prop} {h h' : vH} {H : List (Nat → Int32)} (f : fm A h h') (x : mh h H) (hA : ∀ r j, A r j → ¬ (r = 366 ∧ j = 2) ∧ r ≠ 368) : mh h' H :=
  ⟨by rw [f.2 366 2 (fun z => (hA _ _ z).1 ⟨rfl, rfl⟩)]; exact x.1, x.2.1, fun j T e i hi => by rw [f.2 368 _ (fun z => (hA _ _ z).2 rfl)]; exact x.2.2 j T e i hi⟩
theorem mS.fm {A : Nat → Nat → Prop} {h h' : vH} {S : Nat → Int32} (f : fm A h h') (x : mS h S) (hA : ∀ r j, A r j → r ≠ 367) : mS h' S := fun i hi => by
  rw [f.2 367 i (fun z => hA _ _ z rfl)]; exact x i hi
/-- the present state behind those that are kept -/
theorem m_keeps {d c n p : Nat} {h : vH} {S : Nat → Int32} {o1 : Option vV} {Q : vQ} (hM : LM h) (hs : mS h S) (hp : p < 5) (e : hI h 366 2 = nI p) (k : Q none (uI (qI h 368 (25 * p) 25 S) 366 2 (nI (p + 1)))) : vm_E mX11_acts d c n 47 [some (vR (some 366)), o1] [] h Q := by
  refine bX11_acts_47 ?_
  have g0 := vl_down 25 (fun i => vm_E mX11_acts d c n 49 [some (vR (some 366)), some (vI (nI i))] [] (qI h 368 (25 * p) i S) Q) (bX11_acts_49 (fun _ => bX11_acts_81 hM.1 (by
      rw [hI_qI, if_neg (by omega), e, nI_1]; exact k)) (fun hn => absurd (by decide +kernel) hn)) (fun i hi ih => by
    rw [← qI_s] at ih
    have e1 : hI (qI h 368 (25 * p) i S) 366 2 = nI p := by rw [hI_qI, if_neg (by omega), e]
    have e2 : 25 * hI (qI h 368 (25 * p) i S) 366 2 + nI i = nI (25 * p + i) := by rw [e1, show (25 : Int32) = nI 25 from rfl, pk_mul, nI_add]
    have e3 : hI (qI h 368 (25 * p) i S) 367 i = S i := by rw [hI_qI, if_neg (by omega)]; exact hs i hi
    refine bX11_acts_49 (fun hc => absurd hc (nI_ge (a := i) (b := 25) hi (by decide))) (fun _ => ?_)
    refine bX11_acts_55 (b2 := 368) (b3 := 367) (n_b3 := 25) (n_b2 := 125) hM.1 hM.past.1 hM.s.1 hM.s.2 (vp_in_nI hi (by decide)) hM.past.2 (by rw [e2]; exact vp_in_nI (by omega) (by decide)) ?_
    rw [e2, cs (show 25 * p + i < _ by omega), cs (show i < _ by omega), e3, nI_1]
    exact ih)
  rw [qI_0] at g0
  exact g0
theorem m_acts {d c n : Nat} {h : vH} {S : Nat → Int32} {H : List (Nat → Int32)} {Q : vQ} (hM : LM h) (hs : mS h S) (hh : mh h H) (k : ∀ h', fm (fun r j => r = 366 ∧ j = 2 ∨ r = 368) h h' → mh h' (push5 H S) → Q none h') : vm_C mX11_acts d c n [vR (some 366)] h Q := by
  obtain ⟨q1, q2, q3⟩ := hh
  have base : ∀ (g : vH) (G : List (Nat → Int32)), mh g G → G.length < 5 → mh (uI (qI g 368 (25 * G.length) 25 S) 366 2 (nI (G.length + 1))) (G ++ [S]) := by
    intro g G ⟨g1, g2, g3⟩ hlt
    refine ⟨by rw [hI_uIs]; simp, by simp; omega, fun j T e i hi => ?_⟩
    rw [hI_uIn _ _ _ (by decide), hI_qI]
    by_cases hj : j < G.length
    · rw [if_neg (by omega)]
      rw [List.getElem?_append_left hj] at e
      exact g3 j T e i hi
    · rw [List.getElem?_append_right (by omega)] at e
      have hj2 : j = G.length := by
        by_cases h0 : j - G.length = 0
        · omega
        · rw [List.getElem?_eq_none (by simp; omega)] at e; cases e
      subst hj2
      rw [Nat.sub_self] at e
      have : S = T := by simpa using e
      rw [if_pos ⟨rfl, by omega, by omega⟩, this]
      congr 1; omega
  refine bX11_acts_0 hM.1 (fun hc => ?_) (fun hc => ?_)
  · have hlt : H.length < 5 := by
      have : H.length ≠ 5 := fun z => hc (by rw [q1, z]; rfl)
      omega
    refine m_keeps hM hs hlt q1 (k _ (((fm_qI h 368 _ _ _).mono (fun r j z => Or.inr z.1)).tr ((fm_uI _ 366 2 _).mono (fun r j z => Or.inl z))) ?_)
    unfold push5
    rw [if_neg (by omega)]
    exact base h H ⟨q1, q2, q3⟩ hlt
  · have h5 : H.length = 5 := (nI_eq (a := H.length) (b := 5) (by omega) (by decide)).mp (by rw [← q1]; exact Classical.byContradiction hc)
    refine bX11_acts_8 ?_
    have g0 := vl_down 100 (fun i => vm_E mX11_acts d c n 10 [some (vR (some 366)), some (vI (nI i))] [] (qI h 368 0 i (fun j => hI h 368 (j + 25))) Q) (bX11_acts_10 (fun _ => bX11_acts_37 hM.1 ?_) (fun hn => absurd (by decide +kernel) hn)) (fun i hi ih => by
      rw [← qI_s] at ih
      have e2 : nI i + 25 = nI (i + 25) := by rw [show (25 : Int32) = nI 25 from rfl, nI_add]
      have e3 : hI (qI h 368 0 i (fun j => hI h 368 (j + 25))) 368 (i + 25) = hI h 368 (i + 25) := by rw [hI_qI, if_neg (by omega)]
      refine bX11_acts_10 (fun hc => absurd hc (nI_ge (a := i) (b := 100) hi (by decide))) (fun _ => ?_)
      refine bX11_acts_16 (b2 := 368) (b3 := 368) (n_b3 := 125) (n_b2 := 125) hM.1 hM.past.1 hM.past.1 hM.past.2 (by rw [e2]; exact vp_in_nI (by omega) (by decide)) hM.past.2 (vp_in_nI (by omega) (by decide)) ?_
      rw [e2, cs (show i + 25 < _ by omega), cs (show i < _ by omega), e3, nI_1]
      rw [Nat.zero_add] at ih
      exact ih)
    · rw [qI_0] at g0
      exact g0
    · rw [hI_qI, if_neg (by omega), q1, h5, show (nI 5 - 1 : Int32) = nI 4 by decide]
      have hM' : LM (uI (qI h 368 0 100 (fun j => hI h 368 (j + 25))) 366 2 (nI 4)) := hM
      have f1 : fm (fun r j => r = 366 ∧ j = 2 ∨ r = 368) h (uI (qI h 368 0 100 (fun j => hI h 368 (j + 25))) 366 2 (nI 4)) := ((fm_qI h 368 _ _ _).mono (fun r j z => Or.inr z.1)).tr ((fm_uI _ 366 2 _).mono (fun r j z => Or.inl z))
      have hl : (H.drop 1).length = 4 := by rw [List.length_drop, h5]
      have hm' : mh (uI (qI h 368 0 100 (fun j => hI h 368 (j + 25))) 366 2 (nI 4)) (H.drop 1) := by
        refine ⟨by rw [hI_uIs, hl], by omega, fun j T e i hi => ?_⟩
        have hj : j < 4 := by
          by_cases hj : j < 4
          · exact hj
          · rw [List.getElem?_eq_none (by omega)] at e; cases e
        rw [hI_uIn _ _ _ (by decide), hI_qI, if_pos ⟨rfl, by omega, by omega⟩]
        rw [List.getElem?_drop] at e
        have := q3 (1 + j) T e i hi
        rw [← this]; congr 1; omega
      refine m_keeps hM' (hs.fm f1 (fun r j z => by omega)) (by decide) (hI_uIs _ _ _ _) (k _ (f1.tr (((fm_qI _ 368 _ _ _).mono (fun r j z => Or.inr z.1)).tr ((fm_uI _ 366 2 _).mono (fun r j z => Or.inl z)))) ?_)
      unfold push5
      rw [if_pos h5]
      have := base _ _ hm' (by omega)
      rw [hl] at this
      exact this
