/-! ===== the rules of the heap ===== -/
theorem vm_S_put {A : Nat → Prop} {H0 H H1 : Heap} {locs L : List Loc} (h : va_S A H0 H locs) (h1 : va_S A H0 H1 L) : va_S A H0 H1 L := h1
theorem vm_cE_obj {B b : Nat} {dT : Nat → ClassId} {h : vH} {a ci : Nat} {q : vw_C} (hq : vCls[ci]? = some q) (n : Nat) : vm_cE B b dT h a (ci, n) = .inr (ci, (List.range q.2.2).map (fun k => vm_sh B b (vm_f h a k (vm_ft ci k)))) := by
  have hci : ci < 20 := Nat.lt_of_lt_of_le (List.getElem?_eq_some_iff.mp hq).1 (by decide)
  unfold vm_cE vm_n
  rw [if_pos hci, hq]
theorem vm_clsG : ∀ (ci : Nat) (q : vw_C), vCls[ci]? = some q → ∀ w ∈ u_ws q.1 q.2.1 q.2.2, w ∈ vm_G := by
  intro ci q hq w hw
  match ci, hq with
  | 0, hq => cases hq; exact (by decide +kernel : ∀ w ∈ u_ws RX0 TX0 5, w ∈ vm_G) w hw
  | 1, hq => cases hq; exact (by decide +kernel : ∀ w ∈ u_ws RX1 TX1 1, w ∈ vm_G) w hw
  | 2, hq => cases hq; exact (by decide +kernel : ∀ w ∈ u_ws RX2 TX2 3, w ∈ vm_G) w hw
  | 3, hq => cases hq; exact (by decide +kernel : ∀ w ∈ u_ws RX3 TX3 3, w ∈ vm_G) w hw
  | 4, hq => cases hq; exact (by decide +kernel : ∀ w ∈ u_ws RX4 TX4 1, w ∈ vm_G) w hw
  | 5, hq => cases hq; exact (by decide +kernel : ∀ w ∈ u_ws RX5 TX5 12, w ∈ vm_G) w hw
  | 6, hq => cases hq; exact (by decide +kernel : ∀ w ∈ u_ws RX6 TX6 5, w ∈ vm_G) w hw
  | 7, hq => cases hq; exact (by decide +kernel : ∀ w ∈ u_ws RX7 TX7 5, w ∈ vm_G) w hw
  | 8, hq => cases hq; exact (by decide +kernel : ∀ w ∈ u_ws RX8 TX8 2, w ∈ vm_G) w hw
  | 9, hq => cases hq; exact (by decide +kernel : ∀ w ∈ u_ws RX9 TX9 3, w ∈ vm_G) w hw
  | 10, hq => cases hq; exact (by decide +kernel : ∀ w ∈ u_ws RX10 TX10 10, w ∈ vm_G) w hw
  | 11, hq => cases hq; exact (by decide +kernel : ∀ w ∈ u_ws RX11 TX11 29, w ∈ vm_G) w hw
  | _ + 12, hq => cases hq
theorem vm_clsT : ∀ (ci : Nat) (q : vw_C), vCls[ci]? = some q → ∀ k, k < q.2.2 → parseFieldDescriptor (q.2.1 k).2.2.1 = some (vm_ft ci k) := by
  intro ci q hq
  match ci, hq with
  | 0, hq => cases hq; exact tyX0_ok
  | 1, hq => cases hq; exact tyX1_ok
  | 2, hq => cases hq; exact tyX2_ok
  | 3, hq => cases hq; exact tyX3_ok
  | 4, hq => cases hq; exact tyX4_ok
  | 5, hq => cases hq; exact tyX5_ok
  | 6, hq => cases hq; exact tyX6_ok
  | 7, hq => cases hq; exact tyX7_ok
  | 8, hq => cases hq; exact tyX8_ok
  | 9, hq => cases hq; exact tyX9_ok
  | 10, hq => cases hq; exact tyX10_ok
  | 11, hq => cases hq; exact tyX11_ok
  | _ + 12, hq => cases hq
theorem vm_clsN : ∀ (ci : Nat) (q : vw_C), vCls[ci]? = some q → ∀ a, a < q.2.2 → ∀ b, b < q.2.2 → a ≠ b → (q.2.1 a).2.1 ≠ (q.2.1 b).2.1 := by
  intro ci q hq
  match ci, hq with
  | 0, hq => cases hq; exact nmX0
  | 1, hq => cases hq; exact nmX1
  | 2, hq => cases hq; exact nmX2
  | 3, hq => cases hq; exact nmX3
  | 4, hq => cases hq; exact nmX4
  | 5, hq => cases hq; exact nmX5
  | 6, hq => cases hq; exact nmX6
  | 7, hq => cases hq; exact nmX7
  | 8, hq => cases hq; exact nmX8
  | 9, hq => cases hq; exact nmX9
  | 10, hq => cases hq; exact nmX10
  | 11, hq => cases hq; exact nmX11
  | _ + 12, hq => cases hq
theorem vm_Dh.of {B b : Nat} {D : va_G} {dT : Nat → ClassId} {X : Nat × (Nat → Int32)} {s : State} {h h' : vH} {H H1 : Heap} {locs locs1 : List Loc} {a : Nat} {kd : Nat × Nat} {e : va_E} (hD : vm_Dh B b D dT X s h H locs) (hk : (hK h)[a]? = some kd) (hsz : H1.size = H.size) (hP : va_P D vCls ((vm_W B b dT h).set a (B + a, e)) H1) (hS : va_S (fun q => B ≤ q) s.heap H1 locs1)
    (he : e = vm_cE B b dT h' a kd) (hkk : hK h' = hK h) (hxx : hX h' = hX h) (ho : ∀ (q : Nat) (kq : Nat × Nat), q ≠ a → vm_cE B b dT h' q kq = vm_cE B b dT h q kq) : vm_Dh B b D dT X s h' H1 locs1 := by
  subst he
  rw [vm_W_set hk hkk ho] at hP
  exact ⟨hP, by rw [hsz, hkk]; exact hD.2.1, hS, by rw [hxx]; exact hD.2.2.2⟩
theorem vm_cE_same {B b : Nat} {dT : Nat → ClassId} {h h' : vH} {q : Nat} (h1 : hI h' q = hI h q) (h2 : hL h' q = hL h q) (h3 : hR h' q = hR h q) (kq : Nat × Nat) : vm_cE B b dT h' q kq = vm_cE B b dT h q kq := by
  have hf : ∀ k t, vm_f h' q k t = vm_f h q k t := by
    intro k t
    unfold vm_f
    split <;> first | rw [h1] | rw [h2] | rw [h3]
  unfold vm_cE
  rw [h1, h2, h3]
  split
  · rw [show (fun k => vm_sh B b (vm_f h' q k (vm_ft kq.1 k))) = (fun k => vm_sh B b (vm_f h q k (vm_ft kq.1 k))) from funext (fun k => by rw [hf])]
  · rfl
theorem up2_row {α : Type} (f : Nat → Nat → α) (a k : Nat) (v : α) {q : Nat} (hq : q ≠ a) : up2 f a k v q = f q := by
  funext j; simp [up2, hq]
theorem vm_pf_o {B b : Nat} {dT : Nat → ClassId} {h : vH} {a k : Nat} {v : vV} (q : Nat) (kq : Nat × Nat) (hq : q ≠ a) : vm_cE B b dT (vm_pf h a k v) q kq = vm_cE B b dT h q kq := by
  obtain x | y | r | u := v
  · exact vm_cE_same (h := h) (h' := uI h a k x) (show up2 (hI h) a k x q = hI h q from up2_row _ _ _ _ hq) rfl rfl kq
  · exact vm_cE_same (h := h) (h' := uL h a k y) rfl (show up2 (hL h) a k y q = hL h q from up2_row _ _ _ _ hq) rfl kq
  · exact vm_cE_same (h := h) (h' := uR h a k r) rfl rfl (show up2 (hR h) a k r q = hR h q from up2_row _ _ _ _ hq) kq
  · rfl
theorem vm_pf_k {h : vH} {a k : Nat} {v : vV} : hK (vm_pf h a k v) = hK h := by
  obtain x | y | r | u := v <;> rfl
theorem vm_pf_x {h : vH} {a k : Nat} {v : vV} : hX (vm_pf h a k v) = hX h := by
  obtain x | y | r | u := v <;> rfl
theorem vm_pf_f {h : vH} {a k : Nat} {v : vV} {t : FieldType} (hf : vm_fit t v) : vm_f (vm_pf h a k v) a k t = v := by
  unfold vm_fit at hf
  split at hf <;> first | cases hf; done | (simp [vm_f, vm_pf, hI, hL, hR, uI, uL, uR, up2]; done) | skip
theorem vm_pf_n {h : vH} {a k j : Nat} {v : vV} {t : FieldType} (hj : j ≠ k) : vm_f (vm_pf h a k v) a j t = vm_f h a j t := by
  obtain x | y | r | u := v
  · unfold vm_f; split <;> first | rfl | (simp [vm_pf, hI, uI, up2, hj]; done)
  · unfold vm_f; split <;> first | rfl | (simp [vm_pf, hL, uL, up2, hj]; done)
  · unfold vm_f; split <;> first | rfl | (simp [vm_pf, hR, uR, up2, hj]; done)
  · rfl
theorem vm_fit_n {B b : Nat} {t : FieldType} {v : vV} (hf : vm_fit t v) : narrow t (vm_sh B b v) = vm_sh B b v ∧ fits t (vm_sh B b v) = true := by
  unfold vm_fit at hf
  split at hf
  · exact ⟨rfl, rfl⟩
  · rcases hf with rfl | rfl <;> exact ⟨rfl, rfl⟩
  · exact ⟨rfl, rfl⟩
  · rename_i r; cases r <;> exact ⟨rfl, rfl⟩
  · rename_i r; cases r <;> exact ⟨rfl, rfl⟩
  · cases hf
theorem vs_get : vr_get vm_S := by
  intro M d c n pc ls a st h Q idx ci kf hd hF hk k
  intro p l e R s m args below meth cd B b D dT X Z hC hf hlo hret H locs cells slots LS hLR hD hc hs
  have j := k p l e R s m args below meth cd B b D dT X Z hC hf hlo hret H locs cells slots LS hLR hD hc hs
  obtain ⟨hx, hb, -, -, -, hown, hts, hN, -, hKn, -⟩ := hC
  obtain ⟨q, hq, hlt, hdecl, hlink⟩ := hF
  have he : (vm_W B b dT h)[a]? = some (B + a, .inr (ci, (List.range q.2.2).map (fun k => vm_sh B b (vm_f h a k (vm_ft ci k))))) := by rw [vm_W_at hk, vm_cE_obj hq]
  have hv : ((List.range q.2.2).map (fun k => vm_sh B b (vm_f h a k (vm_ft ci k))))[kf]? = some (vm_sh B b (vm_f h a kf (vm_ft ci kf))) := by simp [hlt]
  rcases hlink with hl | hl
  · exact va_get hx hb hts (vm_clsG ci q hq) hown hKn hD.1 a he hq kf hlt (hts _ hl) (fun x hx => by rw [hdecl] at hx; exact hx) hv hd j
  · exact va_getN hx hb hts (vm_clsG ci q hq) hown hKn hD.1 a he hq kf hlt (va_Nw.use rfl (hN _ hl)) (fun x hx => by rw [hdecl] at hx; exact hx) hv hd j
theorem vm_set_obj {B b : Nat} {h : vH} {a ci k N : Nat} {v : vV} (hf : vm_fit (vm_ft ci k) v) (hlt : k < N) : ((List.range N).map (fun j => vm_sh B b (vm_f h a j (vm_ft ci j)))).set k (vm_sh B b v) = (List.range N).map (fun j => vm_sh B b (vm_f (vm_pf h a k v) a j (vm_ft ci j))) := by
  apply List.ext_getElem?
  intro i
  by_cases hi : i = k
  · subst hi
    rw [List.getElem?_set_self (by simpa using hlt)]
    simp [hlt, vm_pf_f hf]
  · rw [List.getElem?_set_ne (Ne.symm hi)]
    by_cases hN : i < N
    · simp [hN, vm_pf_n hi]
    · simp [hN]
theorem vs_put : vr_put vm_S := by
  intro M d c n pc ls v a st h Q idx ci kf hd hF hfin hk hfit k
  intro p l e R s m args below meth cd B b D dT X Z hC hf hlo hret H locs cells slots LS hLR hD hc hs
  have j := fun H1 locs1 hD1 => k p l e R s m args below meth cd B b D dT X Z hC hf hlo hret H1 locs1 cells slots LS hLR hD1 hc hs
  obtain ⟨hx, hb, -, -, -, hown, hts, hN, hnm, hKn, -⟩ := hC
  obtain ⟨q, hq, hlt, hdecl, hlink⟩ := hF
  have he : (vm_W B b dT h)[a]? = some (B + a, .inr (ci, (List.range q.2.2).map (fun k => vm_sh B b (vm_f h a k (vm_ft ci k))))) := by rw [vm_W_at hk, vm_cE_obj hq]
  have hfl : vm_fin ci kf = (q.2.1 kf).2.2.2 := by unfold vm_fin; rw [hq]
  have fin : ∀ (H1 : Heap) (locs1 : List Loc) (cell : Cell) (i : Nat), H[B + a]? = some cell → H1[B + a]? = some (cell.setSlot (D.2 ci kf) (vm_sh B b v)) → cell.cls = D.1 ci → cell.vm = .none → (∀ k, k < q.2.2 → cell.slots[D.2 ci k]? = some (vp_V ((List.range q.2.2).map (fun k => vm_sh B b (vm_f h a k (vm_ft ci k)))) k)) → H1.size = H.size → (∀ x, x ≠ B + a → H1[x]? = H[x]?) → vm_Dh B b D dT X s (vm_pf h a kf v) H1 (locs ++ [⟨B + a, i⟩]) := by
    intro H1 locs1 cell i q1 e1 q2 q3 q4 e2 e3
    have hap := va_apart (own := mO M) hts (vm_clsG ci q hq) (vm_ft ci) (vm_clsT ci q hq) (vm_clsN ci q hq) hKn hq
    have hlen : kf < ((List.range q.2.2).map (fun k => vm_sh B b (vm_f h a k (vm_ft ci k)))).length := by simpa using hlt
    refine hD.of (e := .inr (ci, ((List.range q.2.2).map (fun k => vm_sh B b (vm_f h a k (vm_ft ci k)))).set kf (vm_sh B b v))) hk e2 (hD.1.set (vm_W_D B b dT h) he ⟨_, hq, t_OB.to (V := updV (vp_V _) kf (vm_sh B b v)) ⟨_, e1, q2, q3, t_set q4 hap hlt (vm_sh B b v)⟩ (fun j _ => vp_updV_set hlen (vm_sh B b v) j)⟩ e3) (hD.2.2.1.put e2 e3 (Nat.le_add_right _ _)) (by rw [vm_set_obj hfit hlt, vm_cE_obj hq]) vm_pf_k vm_pf_x (fun q kq hq => vm_pf_o q kq hq)
  obtain ⟨r, h1, cell, q1, q2, q3, q4⟩ := hD.1 a _ he
  have hr : r = q := Option.some.inj (h1.symm.trans hq)
  subst hr
  obtain ⟨hS, hfc, kC, hkC, hkind⟩ := hKn.1 ci _ hq
  obtain ⟨cf, kf2, fi, f, hi, hsl⟩ := hS kf hlt
  have hlay := hts _ (vm_clsG ci r hq _ (u_in_lay hlt))
  have hst := (u_facts hfc hkC (u_lays hts (vm_clsG ci r hq) hlt) hi).1
  have hn := vm_fit_n (B := B) (b := b) hfit
  have hi' : s.fieldFound? r.1 (r.2.1 kf).2.1 (r.2.1 kf).2.2.1 = some (cf, kf2, fi, f) := by rw [← hdecl]; exact hi
  have hslot : f.slot < cell.slots.size := by rw [hsl]; exact k2_hasslot (q4 kf hlt)
  have hfl : vm_fin ci kf = (r.2.1 kf).2.2.2 := by unfold vm_fin; rw [hq]
  rcases hfin with hfin | ⟨hin2, ⟨q2', hq2, hown2⟩, ⟨q3', hq3, hlk⟩, hfin⟩
  · unfold u_lay at hlay
    rw [if_neg (by rw [← hfl, hfin]; decide)] at hlay
    have h6 := u_store hfc hkC hkind hlay hi (vm_clsT ci r hq kf hlt) hn.1 hn.2
    rcases hlink with hl | hl
    · refine W.putK hx hb (f := f) ⟨hown, hts _ hl, ⟨_, _, _, hi'⟩, hst⟩ (by rw [q2]; exact h6) q1 q3 hslot rfl rfl hd fun H' e1 e2 e3 => ?_
      exact j H' _ (fin H' locs cell _ q1 (by rw [hsl] at e1; exact e1) q2 q3 q4 e2 e3)
    · refine va_WputK hx hb (f := f) hown (va_Nw.use rfl (hN _ hl)) hi' hst (by rw [q2]; exact h6) q1 q3 hslot rfl rfl hd fun H' e1 e2 e3 => ?_
      exact j H' _ (fin H' locs cell _ q1 (by rw [hsl] at e1; exact e1) q2 q3 q4 e2 e3)
  · cases hq.symm.trans hq2
    cases hq.symm.trans hq3
    unfold u_lay at hlay
    rw [if_pos (by rw [← hfl, hfin])] at hlay
    have hcf : m.cls = cf := by
      obtain ⟨_, _, c', _, _, _, -, -, hf', -, -, -, hown3, -⟩ := Cond.laysFinal_spec hlay
      have e1 : c' = cf := by have := hi.symm.trans hf'; simp at this; exact this.1.symm
      rw [hdecl, hown2] at hown3
      rw [← e1]; exact Option.some.inj (hown.symm.trans hown3)
    have h6 := u_fits hfc hkC hkind (Or.inr hlay) hi (vm_clsT ci r hq kf hlt) hn.1 hn.2
    refine W.putFinK hx hb hown (hts _ hlk) hi' hst hcf (hnm hin2) (by rw [q2]; exact h6) q1 q3 hslot rfl rfl hd fun H' e1 e2 e3 => ?_
    exact j H' _ (fin H' locs cell _ q1 (by rw [hsl] at e1; exact e1) q2 q3 q4 e2 e3)
/-! arrays -/
theorem vm_cE_arrI {B b : Nat} {dT : Nat → ClassId} {h : vH} {a t n : Nat} (h1 : 20 ≤ t) (h2 : t < 23) : vm_cE B b dT h a (t, n) = .inl (dT t, n, .inl (hI h a)) := by
  unfold vm_cE; rw [if_neg (by simp; omega), if_pos (by simpa using h2)]
theorem vm_cE_arrL {B b : Nat} {dT : Nat → ClassId} {h : vH} {a n : Nat} : vm_cE B b dT h a (23, n) = .inl (dT 23, n, .inr (.inl (hL h a))) := rfl
theorem vm_cE_arrR {B b : Nat} {dT : Nat → ClassId} {h : vH} {a t n : Nat} (h1 : t = 24 ∨ t = 25) : vm_cE B b dT h a (t, n) = .inl (dT t, n, .inr (.inr (.inr (.inr (fun j => (hR h a j).map (fun a => B + a)))))) := by
  rcases h1 with rfl | rfl <;> rfl
theorem vs_ald : vr_ald vm_S := by
  intro M d c n pc ls i a st h Q ins t len hd ht hk hin k
  intro p l e R s m args below meth cd B b D dT X Z hC hf hlo hret H locs cells slots LS hLR hD hc hs
  have j := k p l e R s m args below meth cd B b D dT X Z hC hf hlo hret H locs cells slots LS hLR hD hc hs
  obtain ⟨hx, hb, -, -, -, hown, hts, hN, -, hKn, -⟩ := hC
  rcases ht with ⟨rfl, rfl⟩ | ⟨rfl, rfl⟩ | ⟨rfl, rfl⟩
  · exact va_iald hx hb hKn hD.1 a 0 (by rw [vm_W_at hk, vm_cE_arrI (by decide) (by decide)]) rfl hin hd j
  · exact va_zald hx hb hKn hD.1 a 1 (by rw [vm_W_at hk, vm_cE_arrI (by decide) (by decide)]) rfl hin hd j
  · exact va_cald hx hb hKn hD.1 a 2 (by rw [vm_W_at hk, vm_cE_arrI (by decide) (by decide)]) rfl hin hd j
theorem vs_lald : vr_lald vm_S := by
  intro M d c n pc ls i a st h Q len hd hk hin k
  intro p l e R s m args below meth cd B b D dT X Z hC hf hlo hret H locs cells slots LS hLR hD hc hs
  have j := k p l e R s m args below meth cd B b D dT X Z hC hf hlo hret H locs cells slots LS hLR hD hc hs
  obtain ⟨hx, hb, -, -, -, hown, hts, hN, -, hKn, -⟩ := hC
  exact va_lald hx hb hKn hD.1 a 3 (by rw [vm_W_at hk, vm_cE_arrL]) rfl hin hd j
theorem vs_aald : vr_aald vm_S := by
  intro M d c n pc ls i a st h Q t len hd ht hk hin k
  intro p l e R s m args below meth cd B b D dT X Z hC hf hlo hret H locs cells slots LS hLR hD hc hs
  have j := k p l e R s m args below meth cd B b D dT X Z hC hf hlo hret H locs cells slots LS hLR hD hc hs
  obtain ⟨hx, hb, -, -, -, hown, hts, hN, -, hKn, -⟩ := hC
  have he : (vm_W B b dT h)[a]? = some (B + a, .inl (dT t, len, .inr (.inr (.inr (.inr (fun j => (hR h a j).map (fun a => B + a))))))) := by rw [vm_W_at hk, vm_cE_arrR ht]
  rcases ht with rfl | rfl
  · exact va_aldq hx hb hKn hD.1 a 4 (C := RX7) he rfl hin hd j
  · exact va_aldq hx hb hKn hD.1 a 5 (C := RX5) he rfl hin hd j
theorem vm_st {B b : Nat} {D : va_G} {dT : Nat → ClassId} {X : Nat × (Nat → Int32)} {s : State} {h h' : vH} {H H1 : Heap} {locs : List Loc} {a i : Nat} {kd : Nat × Nat} {e : va_E} (hD : vm_Dh B b D dT X s h H locs) (hk : (hK h)[a]? = some kd) (he : va_at D vCls (B + a, e) H1) (z : H1.size = H.size) (oq : ∀ x, x ≠ B + a → H1[x]? = H[x]?) (hc : e = vm_cE B b dT h' a kd) (hkk : hK h' = hK h) (hxx : hX h' = hX h) (ho : ∀ (q : Nat) (kq : Nat × Nat), q ≠ a → vm_cE B b dT h' q kq = vm_cE B b dT h q kq) : vm_Dh B b D dT X s h' H1 (locs ++ [⟨B + a, i⟩]) :=
  hD.of hk z (hD.1.set (vm_W_D B b dT h) (vm_W_at hk) he oq) (hD.2.2.1.put z oq (Nat.le_add_right _ _)) hc hkk hxx ho
theorem vm_arrI {B : Nat} {D : va_G} {dT : Nat → ClassId} {h : vH} {H1 : Heap} {a t n i : Nat} {x : Int32} (e : H1[B + a]? = some ((vp_cell (dT t) (n, .inl (hI h a))).setSlot i (.int x))) : va_at D vCls (B + a, .inl (dT t, n, .inl (hI (uI h a i x) a))) H1 := by
  show H1[B + a]? = some (vp_cell _ _)
  rw [e, vp_cell_i, vp_cell_i, arrV_store]
  congr 2
  funext q
  by_cases hq : q = i
  · subst hq; simp [updV, hI, uI, up2]
  · simp [updV, hI, uI, up2, hq]
theorem vs_ast : vr_ast vm_S := by
  intro M d c n pc ls x i a st h Q ins t len x' hd ht hk hin k
  intro p l e R s m args below meth cd B b D dT X Z hC hf hlo hret H locs cells slots LS hLR hD hc hs
  have j := fun H1 locs1 hD1 => k p l e R s m args below meth cd B b D dT X Z hC hf hlo hret H1 locs1 cells slots LS hLR hD1 hc hs
  obtain ⟨hx, hb, -, -, -, hown, hts, hN, -, hKn, -⟩ := hC
  have ht2 : 20 ≤ t ∧ t < 23 := by rcases ht with ⟨-, rfl, -⟩ | ⟨-, rfl, -⟩ | ⟨-, rfl, -⟩ <;> decide
  have he : (vm_W B b dT h)[a]? = some (B + a, .inl (dT t, len, .inl (hI h a))) := by rw [vm_W_at hk, vm_cE_arrI ht2.1 ht2.2]
  have hin2 : ¬ (i < 0 ∨ (vp_cell (dT t) (len, .inl (hI h a))).slots.size ≤ i.toNatClampNeg) := by rw [vp_cell_i, arrV_size]; exact hin
  have fin : ∀ (H1 : Heap), H1[B + a]? = some ((vp_cell (dT t) (len, .inl (hI h a))).setSlot i.toNatClampNeg (.int x')) → H1.size = H.size → (∀ q, q ≠ B + a → H1[q]? = H[q]?) → vm_Dh B b D dT X s (uI h a i.toNatClampNeg x') H1 (locs ++ [⟨B + a, i.toNatClampNeg⟩]) := fun H1 e z oq =>
    vm_st hD hk (vm_arrI e) z oq (by rw [vm_cE_arrI ht2.1 ht2.2]) rfl rfl (fun q kq hq => vm_cE_same (h := h) (h' := uI h a i.toNatClampNeg x') (show up2 (hI h) a _ x' q = hI h q from up2_row _ _ _ _ hq) rfl rfl kq)
  rcases ht with ⟨rfl, rfl, rfl⟩ | ⟨rfl, rfl, rfl⟩ | ⟨rfl, rfl, rfl⟩
  · exact W.iast hx hb (hD.1 a _ he) ((hKn.2 0 _ rfl).1 len (fun j => .int (hI h a j))) (fun q => by cases q) hin2 rfl rfl hd fun H1 e z oq => j H1 _ (fin H1 e z oq)
  · exact W.zast hx hb (hD.1 a _ he) ((hKn.2 1 _ rfl).1 len (fun j => .int (hI h a j))) (fun q => by cases q) hin2 rfl rfl hd fun H1 e z oq => j H1 _ (fin H1 e z oq)
  · exact W.cast hx hb (hD.1 a _ he) ((hKn.2 2 _ rfl).1 len (fun j => .int (hI h a j))) (fun q => by cases q) hin2 rfl rfl hd fun H1 e z oq => j H1 _ (fin H1 e z oq)
theorem vs_last : vr_last vm_S := by
  intro M d c n pc ls x i a st h Q len hd hk hin k
  intro p l e R s m args below meth cd B b D dT X Z hC hf hlo hret H locs cells slots LS hLR hD hc hs
  have j := fun H1 locs1 hD1 => k p l e R s m args below meth cd B b D dT X Z hC hf hlo hret H1 locs1 cells slots LS hLR hD1 hc hs
  obtain ⟨hx, hb, -, -, -, hown, hts, hN, -, hKn, -⟩ := hC
  have he : (vm_W B b dT h)[a]? = some (B + a, .inl (dT 23, len, .inr (.inl (hL h a)))) := by rw [vm_W_at hk, vm_cE_arrL]
  have hin2 : ¬ (i < 0 ∨ (vp_cell (dT 23) (len, .inr (.inl (hL h a)))).slots.size ≤ i.toNatClampNeg) := by rw [vp_cell_l, arrV_size]; exact hin
  refine W.last hx hb (hD.1 a _ he) ((hKn.2 3 _ rfl).1 len (fun j => .long (hL h a j))) (fun q => by cases q) hin2 rfl rfl hd fun H1 e z oq => j H1 _ ?_
  refine vm_st (e := .inl (dT 23, len, .inr (.inl (hL (uL h a i.toNatClampNeg x) a)))) hD hk ?_ z oq vm_cE_arrL.symm rfl rfl (fun q kq hq => vm_cE_same (h := h) (h' := uL h a i.toNatClampNeg x) rfl (show up2 (hL h) a _ x q = hL h q from up2_row _ _ _ _ hq) rfl kq)
  show H1[B + a]? = some (vp_cell _ _)
  rw [e, vp_cell_l, vp_cell_l, arrV_store]
  congr 2
  funext q
  by_cases hq : q = i.toNatClampNeg
  · subst hq; simp [updV, hL, uL, up2]
  · simp [updV, hL, uL, up2, hq]
theorem vs_sld : vr_sld vm_S := by
  intro M d c n pc ls i st h Q hd hin k
  intro p l e R s m args below meth cd B b D dT X Z hC hf hlo hret H locs cells slots LS hLR hD hc hs
  have j := k p l e R s m args below meth cd B b D dT X Z hC hf hlo hret H locs cells slots LS hLR hD hc hs
  obtain ⟨hx, hb, -, -, -, hown, hts, hN, -, hKn, hXs, hbB, hBs, -⟩ := hC
  rw [hD.2.2.2] at hin j
  exact va_sld hx hb hXs (Nat.lt_of_lt_of_le hbB hBs) (Nat.not_le.mpr hbB) hD.2.2.1 hin hd j
theorem vs_slen : vr_slen vm_S := by
  intro M d c n pc ls st h Q hd k
  intro p l e R s m args below meth cd B b D dT X Z hC hf hlo hret H locs cells slots LS hLR hD hc hs
  have j := k p l e R s m args below meth cd B b D dT X Z hC hf hlo hret H locs cells slots LS hLR hD hc hs
  obtain ⟨hx, hb, -, -, -, hown, hts, hN, -, hKn, hXs, hbB, hBs, -⟩ := hC
  rw [hD.2.2.2] at j
  exact va_slen hx hb hXs (Nat.lt_of_lt_of_le hbB hBs) (Nat.not_le.mpr hbB) hD.2.2.1 hd j
theorem vs_aast : vr_aast vm_S := by
  intro M d c n pc ls r i a st h Q t ci len hd ht hk hin hkr k
  intro p l e R s m args below meth cd B b D dT X Z hC hf hlo hret H locs cells slots LS hLR hD hc hs
  have j := fun H1 locs1 hD1 => k p l e R s m args below meth cd B b D dT X Z hC hf hlo hret H1 locs1 cells slots LS hLR hD1 hc hs
  obtain ⟨hx, hb, -, -, -, hown, hts, hN, -, hKn, -⟩ := hC
  have ht2 : t = 24 ∨ t = 25 := by rcases ht with ⟨rfl, -⟩ | ⟨rfl, -⟩ <;> simp
  have he : (vm_W B b dT h)[a]? = some (B + a, .inl (dT t, len, .inr (.inr (.inr (.inr (fun j => (hR h a j).map (fun a => B + a))))))) := by rw [vm_W_at hk, vm_cE_arrR ht2]
  have hlt : i.toNatClampNeg < len := Nat.not_le.mp fun q => hin (Or.inr q)
  have h0 : ¬ i < 0 := fun q => hin (Or.inl q)
  obtain ⟨q, t0, hq, htt⟩ : ∃ (q : vw_C) (t0 : Nat), vCls[ci]? = some q ∧ (vm_ty dT)[t0]? = some (dT t, .object q.1) := by
    rcases ht with ⟨rfl, rfl⟩ | ⟨rfl, rfl⟩
    · exact ⟨_, 4, rfl, rfl⟩
    · exact ⟨_, 5, rfl, rfl⟩
  have hv : (vm_W B b dT h)[r]? = some (B + r, .inr (ci, (List.range q.2.2).map (fun k => vm_sh B b (vm_f h r k (vm_ft ci k))))) := by rw [vm_W_at hkr, vm_cE_obj hq]
  obtain ⟨r', hr', cellV, g1, g2, g3, -⟩ := hD.1 r _ hv
  have hcls := (hKn.1 ci q hq).2
  obtain ⟨kA, comp, k1, k2, k3, -⟩ := (hKn.2 t0 _ htt).2
  have hcomp : comp = D.1 ci := Option.some.inj (k3.symm.trans hcls.1)
  subst hcomp
  obtain ⟨kC, hkC, -⟩ := hcls.2
  refine W.aast hx hb (hD.1 a _ he) (fun q h => by cases h) (fun h => by cases h) k1 k2 rfl hkC ⟨h0, by show _ < (arrV _ _ _).slots.size; rw [arrV_size]; exact hlt⟩ g1 (fun q h => by rw [g3] at h; cases h) (by rw [g2]; exact hkC) (by rw [g2]; exact va_assign hcls) rfl rfl hd fun H1 e z oq => j H1 _ ?_
  refine vm_st (e := .inl (dT t, len, .inr (.inr (.inr (.inr (fun j => (hR (uR h a i.toNatClampNeg (some r)) a j).map (fun a => B + a))))))) hD hk ?_ z oq (vm_cE_arrR ht2).symm rfl rfl (fun q kq hq => vm_cE_same (h := h) (h' := uR h a i.toNatClampNeg (some r)) rfl rfl (show up2 (hR h) a _ (some r) q = hR h q from up2_row _ _ _ _ hq) kq)
  show H1[B + a]? = some (vp_cell _ _)
  rw [e, vp_cell_q, vp_cell_q, arrV_store]
  congr 2
  funext q
  by_cases hq : q = i.toNatClampNeg
  · subst hq; simp [updV, hR, uR, up2, va_rf]
  · simp [updV, hR, uR, up2, hq]
