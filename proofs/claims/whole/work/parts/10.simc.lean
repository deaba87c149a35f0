/-! ===== new cells, calls, ends ===== -/
theorem vm_W_new {B b : Nat} {dT : Nat → ClassId} {h : vH} {kd : Nat × Nat} (ho : ∀ (q : Nat) (kq : Nat × Nat), q ≠ (hK h).length → vm_cE B b dT (uN h kd) q kq = vm_cE B b dT h q kq) : vm_W B b dT (uN h kd) = vm_W B b dT h ++ [(B + (hK h).length, vm_cE B b dT (uN h kd) (hK h).length kd)] := by
  apply List.ext_getElem?
  intro i
  have hl : (vm_W B b dT h).length = (hK h).length := by simp [vm_W]
  have hkk : hK (uN h kd) = hK h ++ [kd] := rfl
  rw [vm_W_get, hkk]
  by_cases hi : i < (hK h).length
  · rw [List.getElem?_append_left hi, List.getElem?_append_left (by rw [hl]; exact hi), vm_W_get]
    cases (hK h)[i]? with
    | none => rfl
    | some kq => simp only [Option.map_some, ho i kq (Nat.ne_of_lt hi)]
  · rw [List.getElem?_append_right (by omega), List.getElem?_append_right (by rw [hl]; omega), hl]
    by_cases he : i = (hK h).length
    · subst he; simp
    · rw [List.getElem?_eq_none (by simp; omega), List.getElem?_eq_none (by simp; omega)]; rfl
theorem up1_row {α : Type} (f : Nat → Nat → α) (a : Nat) (v : α) {q : Nat} (hq : q ≠ a) : up1 f a v q = f q := by
  funext j; simp [up1, hq]
theorem up1_self {α : Type} (f : Nat → Nat → α) (a : Nat) (v : α) : up1 f a v a = fun _ => v := by
  funext j; simp [up1]
theorem vm_new_o {B b : Nat} {dT : Nat → ClassId} {h : vH} {kd : Nat × Nat} (q : Nat) (kq : Nat × Nat) (hq : q ≠ (hK h).length) : vm_cE B b dT (uN h kd) q kq = vm_cE B b dT h q kq :=
  vm_cE_same (h := h) (h' := uN h kd) (show up1 (hI h) _ 0 q = hI h q from up1_row _ _ _ hq) (show up1 (hL h) _ 0 q = hL h q from up1_row _ _ _ hq) (show up1 (hR h) _ none q = hR h q from up1_row _ _ _ hq) kq
theorem vm_born {B b : Nat} {D : va_G} {dT : Nat → ClassId} {X : Nat × (Nat → Int32)} {s : State} {h : vH} {H H1 : Heap} {locs : List Loc} {kd : Nat × Nat} (hD : vm_Dh B b D dT X s h H locs) (hB : B ≤ s.heap.size) (z : H1.size = H.size + 1) (oq : ∀ x, x < H.size → H1[x]? = H[x]?) (he : va_at D vCls (B + (hK h).length, vm_cE B b dT (uN h kd) (hK h).length kd) H1) : vm_Dh B b D dT X s (uN h kd) H1 locs := by
  obtain ⟨hP, hz, hS, hX⟩ := hD
  refine ⟨?_, by rw [z, hz]; simp [uN, hK]; omega, ⟨Nat.le_trans hS.1 (by omega), fun x h1 h2 => (oq x (Nat.lt_of_lt_of_le h1 hS.1)).trans (hS.2.1 x h1 h2), hS.2.2⟩, hX⟩
  rw [vm_W_new (fun q kq hq => vm_new_o q kq hq)]
  refine (hP.kept (fun k x hx => oq x.1 ((hP k x hx).lt))).app (fun k x hx => ?_)
  have hk0 : k < 1 := (List.getElem?_eq_some_iff.mp hx).1
  rw [show k = 0 by omega] at hx
  cases hx
  exact he
theorem vm_f_new {h : vH} {kd : Nat × Nat} {B b k : Nat} {t : FieldType} (ht : t = .int ∨ t = .boolean ∨ t = .char ∨ t = .long ∨ (∃ n, t = .object n) ∨ ∃ u, t = .array u) : vm_sh B b (vm_f (uN h kd) (hK h).length k t) = defaultValue t := by
  rcases ht with rfl | rfl | rfl | rfl | ⟨n, rfl⟩ | ⟨u, rfl⟩ <;> simp [vm_f, uN, hI, hL, hR, hK, up1, vm_sh, defaultValue, va_rf]
theorem vm_ft_is (ci k : Nat) : vm_ft ci k = .int ∨ vm_ft ci k = .boolean ∨ vm_ft ci k = .char ∨ vm_ft ci k = .long ∨ (∃ n, vm_ft ci k = .object n) ∨ ∃ u, vm_ft ci k = .array u := by
  unfold vm_ft
  split <;> first | (unfold tyX0; split <;> simp; done) | (unfold tyX1; split <;> simp; done) | (unfold tyX2; split <;> simp; done) | (unfold tyX3; split <;> simp; done) | (unfold tyX4; split <;> simp; done) | (unfold tyX5; split <;> simp; done) | (unfold tyX6; split <;> simp; done) | (unfold tyX7; split <;> simp; done) | (unfold tyX8; split <;> simp; done) | (unfold tyX9; split <;> simp; done) | (unfold tyX10; split <;> simp; done) | (unfold tyX11; split <;> simp; done)
theorem vs_new : vr_new vm_S := by
  intro M d c n pc ls st h Q idx ci q hd hq hcl hins hini h1c h1n k
  intro p l e R s m args below meth cd B b D dT X Z hC hf hlo hret H locs cells slots LS hLR hD hc hs
  have j := fun H1 hD1 hc1 hs1 => k p l e R s m args below meth cd B b D dT X Z hC hf hlo hret H1 locs (cells + 1) (slots + q.2.2) LS hLR hD1 hc1 hs1
  obtain ⟨hx, hb, -, -, -, hown, hts, hN, -, hKn, hXs, hbB, hBs, -⟩ := hC
  have hKq := hKn.1 ci _ hq
  refine W.newcK hx hb hown (hts _ hcl) (hts _ hins) (hts _ hini) rfl hd (by omega) (by omega) hKq.2.1 hD.2.1 fun H1 kC hkC e1 z1 o1 => ?_
  refine j H1 (vm_born hD hBs (by rw [z1, hD.2.1]) (fun x hx => o1 x (by rw [← hD.2.1]; exact hx)) ?_) (by omega) (by omega)
  rw [vm_cE_obj hq]
  refine ⟨_, hq, (u_born (vm_ft ci) hts (vm_clsG ci q hq) hKq hkC e1 (vm_clsT ci q hq)).to (fun i hi => ?_)⟩
  show defaultValue (vm_ft ci i) = vp_V _ i
  unfold vp_V
  rw [List.getD_eq_getElem?_getD]
  simp [hi, vm_f_new (vm_ft_is ci i)]
theorem vs_newa : vr_newa vm_S := by
  intro M d c n pc ls st h Q ty t N kk hd ht hk0 hkN hN6 h1c h1n k
  intro p l e R s m args below meth cd B b D dT X Z hC hf hlo hret H locs cells slots LS hLR hD hc hs
  have j := fun H1 hD1 hc1 hs1 => k p l e R s m args below meth cd B b D dT X Z hC hf hlo hret H1 locs (cells + 1) (slots + N) LS hLR hD1 hc1 hs1
  obtain ⟨hx, hb, -, -, -, hown, hts, hNw, -, hKn, hXs, hbB, hBs, -⟩ := hC
  have wI : Cond.arrayClass .int ∈ vm_G := by decide +kernel
  have wZ : Cond.arrayClass .boolean ∈ vm_G := by decide +kernel
  have wC : Cond.arrayClass .char ∈ vm_G := by decide +kernel
  have wL : Cond.arrayClass .long ∈ vm_G := by decide +kernel
  rcases ht with ⟨rfl, rfl⟩ | ⟨rfl, rfl⟩ | ⟨rfl, rfl⟩ | ⟨rfl, rfl⟩
  · refine va_newaK (atype := .int) hx hb (hts _ wI) rfl hd rfl hk0 hkN (by show N * 4 ≤ _; omega) (by omega) (by omega) hD.2.1 fun H1 cA e1 z1 o1 hAr hNm => ?_
    have hcA : cA = dT 20 := Option.some.inj (hNm.symm.trans (hKn.2 0 _ rfl).2)
    subst hcA
    refine j H1 (vm_born hD hBs (by rw [z1, hD.2.1]) (fun x hx => o1 x (by rw [← hD.2.1]; exact hx)) ?_) (by omega) (by omega)
    rw [vm_cE_arrI (by decide) (by decide)]
    show H1[_]? = some (vp_cell _ _)
    rw [e1, vp_cell_i, show hI (uN h (20, N)) (hK h).length = fun _ => 0 from up1_self _ _ _]
    rfl
  · refine va_newaK (atype := .boolean) hx hb (hts _ wZ) rfl hd rfl hk0 hkN (by show N * 1 ≤ _; omega) (by omega) (by omega) hD.2.1 fun H1 cA e1 z1 o1 hAr hNm => ?_
    have hcA : cA = dT 21 := Option.some.inj (hNm.symm.trans (hKn.2 1 _ rfl).2)
    subst hcA
    refine j H1 (vm_born hD hBs (by rw [z1, hD.2.1]) (fun x hx => o1 x (by rw [← hD.2.1]; exact hx)) ?_) (by omega) (by omega)
    rw [vm_cE_arrI (by decide) (by decide)]
    show H1[_]? = some (vp_cell _ _)
    rw [e1, vp_cell_i, show hI (uN h (21, N)) (hK h).length = fun _ => 0 from up1_self _ _ _]
    rfl
  · refine va_newaK (atype := .char) hx hb (hts _ wC) rfl hd rfl hk0 hkN (by show N * 2 ≤ _; omega) (by omega) (by omega) hD.2.1 fun H1 cA e1 z1 o1 hAr hNm => ?_
    have hcA : cA = dT 22 := Option.some.inj (hNm.symm.trans (hKn.2 2 _ rfl).2)
    subst hcA
    refine j H1 (vm_born hD hBs (by rw [z1, hD.2.1]) (fun x hx => o1 x (by rw [← hD.2.1]; exact hx)) ?_) (by omega) (by omega)
    rw [vm_cE_arrI (by decide) (by decide)]
    show H1[_]? = some (vp_cell _ _)
    rw [e1, vp_cell_i, show hI (uN h (22, N)) (hK h).length = fun _ => 0 from up1_self _ _ _]
    rfl
  · refine va_newaK (atype := .long) hx hb (hts _ wL) rfl hd rfl hk0 hkN (by show N * 8 ≤ _; omega) (by omega) (by omega) hD.2.1 fun H1 cA e1 z1 o1 hAr hNm => ?_
    have hcA : cA = dT 23 := Option.some.inj (hNm.symm.trans (hKn.2 3 _ rfl).2)
    subst hcA
    refine j H1 (vm_born hD hBs (by rw [z1, hD.2.1]) (fun x hx => o1 x (by rw [← hD.2.1]; exact hx)) ?_) (by omega) (by omega)
    rw [vm_cE_arrL]
    show H1[_]? = some (vp_cell _ _)
    rw [e1, vp_cell_l, show hL (uN h (23, N)) (hK h).length = fun _ => 0 from up1_self _ _ _]
    rfl
theorem vs_anew : vr_anew vm_S := by
  intro M d c n pc ls st h Q idx t N C kk hd ht hcl hk0 hkN hN6 h1c h1n k
  intro p l e R s m args below meth cd B b D dT X Z hC hf hlo hret H locs cells slots LS hLR hD hc hs
  have j := fun H1 hD1 hc1 hs1 => k p l e R s m args below meth cd B b D dT X Z hC hf hlo hret H1 locs (cells + 1) (slots + N) LS hLR hD1 hc1 hs1
  obtain ⟨hx, hb, -, -, -, hown, hts, hNw, -, hKn, hXs, hbB, hBs, ha7, ha5⟩ := hC
  subst hkN
  have hAO : va_AO C s := by rcases ht with ⟨rfl, -⟩ | ⟨rfl, -⟩ <;> assumption
  have ht2 : t = 24 ∨ t = 25 := by rcases ht with ⟨-, rfl⟩ | ⟨-, rfl⟩ <;> simp
  have hty : ∃ t0 : Nat, (vm_ty dT)[t0]? = some (dT t, FieldType.object C) := by
    rcases ht with ⟨rfl, rfl⟩ | ⟨rfl, rfl⟩
    · exact ⟨4, rfl⟩
    · exact ⟨5, rfl⟩
  obtain ⟨t0, htt⟩ := hty
  refine W.anew hx hb hown (hts _ hcl) (va_AO.use hAO) rfl hd rfl hk0 (by omega) (by omega) (by omega) fun cA kA comp f1 f2 f3 f4 => ?_
  obtain ⟨kA2, comp2, -, -, -, g4⟩ := (hKn.2 t0 _ htt).2
  have hcA : cA = dT t := Option.some.inj (f1.symm.trans g4)
  subst hcA
  rw [hD.2.1]
  refine j _ (vm_born hD hBs (by rw [Array.size_push]) (fun x hx => by rw [Array.getElem?_push, if_neg (Nat.ne_of_lt hx)]) ?_) (by omega) (by omega)
  rw [vm_cE_arrR ht2]
  show (Array.push _ _)[B + (hK h).length]? = some (vp_cell _ _)
  rw [← hD.2.1, Array.getElem?_push_size, vp_cell_q, show hR (uN h (t, kk.toNatClampNeg)) (hK h).length = fun _ => none from up1_self _ _ _, ← arrV_new]
  rfl
theorem vm_oiG : Cond.instanceMethod Lib.objectInit ∈ vm_G ∧ Cond.code Lib.objectInit ⟨#[0xb1]⟩ 1 none ∈ vm_G := ⟨by decide +kernel, by decide +kernel⟩
theorem vs_oin : vr_oin vm_S := by
  intro M d c n pc ls a st h Q idx hd hl hct hd1 k
  intro p l e R s m args below meth cd B b D dT X Z hC hf hlo hret H locs cells slots LS hLR hD hc hs
  have j := k p l e R s m args below meth cd B b D dT X Z hC hf hlo hret H locs cells slots LS hLR hD hc hs
  obtain ⟨hx, hb, hml, -, -, hown, hts, -⟩ := hC
  refine W.objInit hx hb hown (hts _ hl) (hts _ vm_oiG.1) (hts _ vm_oiG.2) rfl (by rw [hml]; exact hLR.2.1) rfl hd (by omega) ?_ j
  have h8 := lv_room (m := m) (pc := pc) (ls := LS) (rest := List.map (vm_sh B b) (vR (some a) :: st)) (st := st.map (vm_sh B b)) (by rw [vm_cats_eq]; exact hct)
  omega
def vm_Pc (B b : Nat) (D : va_G) (dT : Nat → ClassId) (X : Nat × (Nat → Int32)) (av : vT) (h : vH) : Array Value → State → Prop := fun v U => v = (av.map (vm_sh B b)).toArray ∧ (∀ w ∈ vm_N, va_Nw w U) ∧ va_K D vCls (vm_ty dT) U ∧ va_X b X.1 X.2 U U.heap ∧ B ≤ U.heap.size ∧ va_AO RX7 U ∧ va_AO RX5 U ∧ va_P D vCls (vm_W B b dT h) U.heap ∧ U.heap.size = B + (hK h).length
def vm_Qc (B b : Nat) (D : va_G) (dT : Nat → ClassId) (X : Nat × (Nat → Int32)) (Q : vQ) : Array Value → State → Outcome → State → Prop := fun _ st o t => (∃ (v : Option vV) (h : vH), o = .returned (v.map (vm_sh B b)) ∧ Q v h ∧ va_P D vCls (vm_W B b dT h) t.heap ∧ t.heap.size = B + (hK h).length ∧ hX h = X) ∧ va_F (fun q => B ≤ q) st t
def vm_cw (K : vM) : List Cond := Cond.code (mY K) (mB K) (mL K) (mT K) :: vm_G
def vm_rm (d c n : Nat) : Room := { frames := d, cells := c, slots := n, locals := 60 * d + 20 }
theorem vm_met {K : vM} {d c n B b : Nat} {D : va_G} {dT : Nat → ClassId} {X : Nat × (Nat → Int32)} {av : vT} {h : vH} {Q : vQ} (l : Launch) (hK0 : vm_Mok K) (hbB : b < B) (hXX : hX h = X) (hlen : (vm_sl av).length ≤ mL K) (k : vm_S K d c n 0 (vm_ent (mL K) av) [] h Q) :
    Met l (mY K) (vm_cw K) (vm_rm d c n) (vm_Pc B b D dT X av h) (vm_Qc B b D dT X Q) c n (fun q => B ≤ q) := by
  refine Met.ofW (cc := mB K) (maxL := mL K) (ret := mT K) hK0.2.2.2.1 rfl ?_
  intro p e s m args below meth cd s₁ Bd hml hv
  obtain ⟨rfl, hN, hKn, hXs, hBs, ha7, ha5, hP, hsz⟩ := hv
  have hts0 := atoms_spec (ws := vm_cw K) Bd.pre
  have hts : ∀ w ∈ vm_G, w.before _ s = true := fun w hw => hts0 w (List.mem_cons_of_mem _ hw)
  have hown : s.vm.findClass (mO K) = some m.cls := by rw [hK0.2.2.2.2.2]; exact findClass_of_methodNamed Bd.named
  have hnm : (mY K).name = "<init>" → meth.name = "<init>" := fun h => (name_of_methodNamed Bd.named Bd.method).1.trans h
  have hx := Bd.exec
  have hb := Bd.bytes
  have hr := Bd.returns
  have hlocks := Bd.notSynchronized
  rw [lg_entry_eq]
  refine k p l e _ s m _ below meth cd B b D dT X (MQ below (vm_Qc B b D dT X Q) _ s c n (fun q => B ≤ q)) ⟨hx, hb, hml, hr, hlocks, hown, hts, hN, hnm, hKn, hXs, hbB, hBs, ha7, ha5⟩ (Nat.le_refl _) (Nat.le_refl _) ?_ s.heap [] 0 0 _ (vm_LR.ent hlen) ⟨hP, hsz, va_S.rf, hXX⟩ (Nat.le_of_eq (Nat.zero_add _)) (Nat.le_of_eq (Nat.zero_add _))
  intro v h' H locs cells slots LS pc ins hd hrt hQ hDh hc hs
  refine W.widen (k := c) (n := n) hc hs ?_
  obtain ⟨hP1, hz1, hS1, hX1⟩ := hDh
  have post : ∀ t : State, t.heap = H → s.WarmedH t.vm → vm_Qc B b D dT X Q (List.map (vm_sh B b) av).toArray s (.returned (v.map (vm_sh B b))) t := fun t ht hW => ⟨⟨v, h', rfl, hQ, by rw [ht]; exact hP1, by rw [ht]; exact hz1, hX1⟩, hS1.F ht⟩
  unfold vm_ret at hrt
  split at hrt
  · exact W.vret hx hb (hr.trans hrt) post hS1.2.2 hd hlocks
  · obtain ⟨ty, h1, h2⟩ := hrt
    exact W.zret hx hb (hr.trans h1) h2 post hS1.2.2 hd hlocks
  · exact W.lret hx hb (hr.trans hrt) post hS1.2.2 hd hlocks
  · obtain ⟨nm, h1⟩ := hrt
    rename_i r
    cases r with
    | none => exact W.aret hx hb (hr.trans h1) (Or.inl ⟨_, rfl⟩) (Or.inl rfl) post hS1.2.2 hd hlocks
    | some r => exact W.aret hx hb (hr.trans h1) (Or.inl ⟨_, rfl⟩) (Or.inr ⟨_, rfl⟩) post hS1.2.2 hd hlocks
  · cases hrt
theorem vm_nwOn {w : Cond} (h : w ∈ vm_N) : w.onTables = true := by
  have h1 := (List.mem_filter.mp h).2
  cases w <;> first | rfl | cases h1
theorem vm_nwW {w : Cond} (h : w ∈ vm_N) {s U : State} (hW : s.WarmedH U.vm) (hz : va_Nw w s) : va_Nw w U := by
  have h1 := (List.mem_filter.mp h).2
  cases w <;> first | exact va_Nw.warmF hW hz | exact va_Nw.warmM hW hz | cases h1
theorem vm_blind {B b : Nat} {D : va_G} {dT : Nat → ClassId} {X : Nat × (Nat → Int32)} {av : vT} {h : vH} : FrameBlind (vm_Pc B b D dT X av h) := by
  intro a U g mk q
  obtain ⟨q0, q1, q2, q3, q3b, q4, q5, q6, q7⟩ := q
  exact ⟨q0, fun w hw => va_Nw.same (vm_nwOn hw) (u := U) (U := U.calling g mk a) rfl (q1 w hw), va_K.moved (u := U) (U := U.calling g mk a) (Vm.Alike.refl U.vm) q2, va_X.moved (u := U) (U := U.calling g mk a) (Vm.Alike.refl U.vm) q3, q3b, va_AO.moved (u := U) (U := U.calling g mk a) (Vm.Alike.refl U.vm) q4, va_AO.moved (u := U) (U := U.calling g mk a) (Vm.Alike.refl U.vm) q5, q6, q7⟩
theorem vm_before {M : vM} {p : Program} {s : State} {m : MethodId} {meth : Method} {cd : Code} {args : Array Value} {B b : Nat} {D : va_G} {dT : Nat → ClassId} {X : Nat × (Nat → Int32)} {h : vH} {H : Heap} {locs : List Loc} (hC : vm_Cx M p s m meth cd args B b D dT X) (hD : vm_Dh B b D dT X s h H locs) (av : vT) : ∀ U : State, U.heap = H → s.WarmedH U.vm → vm_Pc B b D dT X av h (av.map (vm_sh B b)).toArray U := by
  intro U hU hW
  obtain ⟨-, -, -, -, -, -, -, hN, -, hKn, hXs, hbB, hBs, ha7, ha5⟩ := hC
  obtain ⟨hP, hz, hS, -⟩ := hD
  refine ⟨rfl, fun w hw => vm_nwW hw hW (hN w hw), va_K.moved hW.alike hKn, ?_, by rw [hU]; exact Nat.le_trans hBs hS.1, va_AO.moved hW.alike ha7, va_AO.moved hW.alike ha5, by rw [hU]; exact hP, by rw [hU]; exact hz⟩
  rw [hU]
  exact (va_X.moved hW.alike hXs).kept (hS.2.1 b (Nat.lt_of_lt_of_le hbB hBs) (Nat.not_le.mpr hbB))
theorem vm_after {M : vM} {p : Program} {l : Launch} {e : Env} {R : Room} {s : State} {m : MethodId} {args : Array Value} {below : List Frame} {meth : Method} {cd : Code} {H : Heap} {locs : List Loc} {cells slots c1 n1 pc : Nat} {LS : Array Slot} {st0 rest : List Value} {a : Array Value} {Z : State → Prop} {B b : Nat} {D : va_G} {dT : Nat → ClassId} {X : Nat × (Nat → Int32)} {h : vH} {Q1 : vQ}
    (hr : va_Run p l e R s m args below meth cd H locs cells slots c1 n1 (F0 m pc LS st0) rest (vm_Qc B b D dT X Q1 a) (fun q => B ≤ q)) (hBs : B ≤ s.heap.size) (hD : vm_Dh B b D dT X s h H locs)
    (kk : ∀ (v : Option vV) (h1 : vH) (H1 : Heap) (locs1 : List Loc), Q1 v h1 → vm_Dh B b D dT X s h1 H1 locs1 → W p l e R s m args below meth cd H1 locs1 (cells + c1) (slots + n1) Z (F0 m (pc + 3) LS ((v.map (vm_sh B b)).toList ++ rest))) : W p l e R s m args below meth cd H locs cells slots Z (F0 m pc LS st0) := by
  intro T hT Xs
  obtain ⟨v, st₀, t, T', L, h0, X', hL, e1, e2, ⟨⟨r, h1, hv, hp, hP1, hz1, hX1⟩, hz, hk⟩, st⟩ := hr T hT Xs
  cases hv
  rw [h0] at hz hk
  have hS := hD.2.2.1
  obtain ⟨t2, a1, b1⟩ := kk r h1 T'.heap (locs ++ L) hp ⟨by rw [e1]; exact hP1, by rw [e1]; exact hz1, ⟨Nat.le_trans hS.1 (by rw [e1]; exact hz), fun q h2 h3 => by rw [e1, hk q (Nat.lt_of_lt_of_le h2 hS.1) h3]; exact hS.2.1 q h2 h3, fun q hq => by
      rcases List.mem_append.mp hq with h | h
      · exact hS.2.2 q h
      · exact hL q h⟩, hX1⟩ T' rfl X'
  exact ⟨t2, st t2 a1, b1⟩
theorem vm_endst (B b : Nat) (v : Option vV) (st : vT) : (v.map (vm_sh B b)).toList ++ st.map (vm_sh B b) = (vm_end v ++ st).map (vm_sh B b) := by
  cases v <;> rfl
theorem vm_good : ∀ w ∈ vm_G, w ∈ vm_G ∧ ((w.onTables && w.keeps) = true ∨ ∃ ty, w = .arrayClass ty) := fun w hw => ⟨hw, good_of_word (List.mem_filter.mp hw).2⟩
theorem vm_goodK {K : vM} (hK0 : vm_Mok K) : GoodIn vm_G (vm_cw K) := fun w hw => by
  rcases List.mem_cons.mp hw with rfl | hw
  · exact vm_good _ hK0.1
  · exact vm_good _ hw
theorem vm_hR {R : Room} {d c n : Nat} {K : vM} (hK0 : vm_Mok K) (hd1 : 1 ≤ d) (hf : d ≤ R.frames) (hlo : 60 * d + 20 ≤ R.locals) : (vm_rm (d - 1) c n).frames + 1 ≤ R.frames ∧ 8 + (mL K + 11) + (vm_rm (d - 1) c n).locals ≤ R.locals := by
  have h5 := hK0.2.2.2.2.1
  refine ⟨by show d - 1 + 1 ≤ _; omega, by show 8 + (mL K + 11) + (60 * (d - 1) + 20) ≤ _; omega⟩
theorem vs_inv : vr_inv vm_S := by
  intro M d c n pc ls a av st h Q idx ci c1 n1 K R0 hd hK0 hlk hins hsel hci hk hav hlen hct hd1 hc1 hn1 k1 k2
  intro p l e R s m args below meth cd B b D dT X Z hC hf hlo hret H locs cells slots LS hLR hD hc hs
  have hC0 := hC
  obtain ⟨hx, hb, hml, -, -, hown, hts, hN, hnm, hKn, hXs, hbB, hBs, ha7, ha5⟩ := hC
  obtain ⟨q, hq, hqn⟩ := hci
  have hM := vm_met (D := D) (dT := dT) (X := X) l hK0 hbB hD.2.2.2 hlen k1
  have hst : List.map (vm_sh B b) (av.reverse ++ vR (some a) :: st) = (av.map (vm_sh B b)).reverse ++ .ref (B + a) :: st.map (vm_sh B b) := by
    rw [List.map_append, List.map_reverse]; rfl
  have he : (vm_W B b dT h)[a]? = some (B + a, .inr (ci, (List.range q.2.2).map (fun k => vm_sh B b (vm_f h a k (vm_ft ci k))))) := by rw [vm_W_at hk, vm_cE_obj hq]
  have hpre : PreV s H (mY K).cls (B + a) (vm_Pc B b D dT X (vR (some a) :: av) h) (av.map (vm_sh B b)) := ⟨vm_blind, by rw [← hqn]; exact va_recv hKn hD.1 hq he, vm_before hC0 hD (vR (some a) :: av)⟩
  have hrm := vm_hR (c := c1) (n := n1) hK0 hd1 hf hlo
  have h8 : 2 * (F0 m pc LS (List.map (vm_sh B b) (av.reverse ++ vR (some a) :: st))).monitorRoom + ((st.map (vm_sh B b)).map fun v => v.category).sum ≤ 8 := lv_room (by rw [vm_cats_eq]; exact hct)
  have fin : va_Run p l e R s m args below meth cd H locs cells slots c1 n1 (F0 m pc LS (List.map (vm_sh B b) (av.reverse ++ vR (some a) :: st))) (st.map (vm_sh B b)) (vm_Qc B b D dT X R0 (Value.ref (B + a) :: av.map (vm_sh B b)).toArray) (fun q => B ≤ q) := by
    rcases hlk with hl | hl
    · exact va_runV (Ts := vm_G) (own := mO M) (C := (mY K).cls) (As := av.map (vm_sh B b)) (n := mN K) (nL := mL M) ⟨hx, hb, hml, hown, hts⟩ hM (cwV (mN K) hts (fun w hw => by
          rcases List.mem_append.mp hw with hw | hw
          · simp only [List.mem_cons, List.not_mem_nil, or_false] at hw
            rcases hw with rfl | rfl | rfl | rfl
            · exact vm_good _ hl
            · exact vm_good _ hins
            · exact vm_good _ hsel
            · exact vm_good _ hK0.2.1
          · exact vm_goodK hK0 w hw) rfl rfl rfl ⟨rfl, hK0.2.2.1⟩ hrm) hpre rfl (by simpa using hav) hLR.2.1 hst h8 hd ⟨by omega, by omega⟩
    · exact va_runVN (Ts := vm_G) (own := mO M) (C := (mY K).cls) (As := av.map (vm_sh B b)) (n := mN K) (nL := mL M) ⟨hx, hb, hml, hown, hts⟩ hM ⟨va_cnB (mN K) hts (vm_goodK hK0) rfl rfl rfl (hN _ hl) (hts _ hK0.2.1) hK0.2.2.1 hrm, hts _ hins, hts _ hsel⟩ hpre rfl (by simpa using hav) hLR.2.1 hst h8 hd ⟨by omega, by omega⟩
  refine vm_after (M := M) fin hBs hD fun v h1 H1 locs1 hq1 hD1 => ?_
  rw [vm_endst]
  exact k2 v h1 hq1 p l e R s m args below meth cd B b D dT X Z hC0 hf hlo hret H1 locs1 (cells + c1) (slots + n1) LS hLR hD1 (by omega) (by omega)
theorem vs_invS : vr_invS vm_S := by
  intro M d c n pc ls av st h Q idx c1 n1 K R0 hd hK0 hlk hstt hav hlen hct hd1 hc1 hn1 k1 k2
  intro p l e R s m args below meth cd B b D dT X Z hC hf hlo hret H locs cells slots LS hLR hD hc hs
  have hC0 := hC
  obtain ⟨hx, hb, hml, -, -, hown, hts, hN, hnm, hKn, hXs, hbB, hBs, ha7, ha5⟩ := hC
  have hM := vm_met (D := D) (dT := dT) (X := X) l hK0 hbB hD.2.2.2 hlen k1
  have hst : List.map (vm_sh B b) (av.reverse ++ st) = (av.map (vm_sh B b)).reverse ++ st.map (vm_sh B b) := by
    rw [List.map_append, List.map_reverse]
  have hpre : PreS s H (vm_Pc B b D dT X av h) (av.map (vm_sh B b)) := ⟨vm_blind, vm_before hC0 hD av⟩
  have hrm := vm_hR (c := c1) (n := n1) hK0 hd1 hf hlo
  have h8 : 2 * (F0 m pc LS (List.map (vm_sh B b) (av.reverse ++ st))).monitorRoom + ((st.map (vm_sh B b)).map fun v => v.category).sum ≤ 8 := lv_room (by rw [vm_cats_eq]; exact hct)
  have fin : va_Run p l e R s m args below meth cd H locs cells slots c1 n1 (F0 m pc LS (List.map (vm_sh B b) (av.reverse ++ st))) (st.map (vm_sh B b)) (vm_Qc B b D dT X R0 (av.map (vm_sh B b)).toArray) (fun q => B ≤ q) := by
    rcases hlk with hl | hl
    · exact va_runS (Ts := vm_G) (own := mO M) (As := av.map (vm_sh B b)) (n := mN K) (nL := mL M) ⟨hx, hb, hml, hown, hts⟩ hM (va_cwS (mN K) hts (fun w hw => by
          rcases List.mem_append.mp hw with hw | hw
          · simp only [List.mem_cons, List.not_mem_nil, or_false] at hw
            rcases hw with rfl | rfl | rfl
            · exact vm_good _ hl
            · exact vm_good _ hstt
            · exact vm_good _ hK0.2.1
          · exact vm_goodK hK0 w hw) rfl rfl rfl hK0.2.2.1 hrm) hpre rfl (by simpa using hav) hLR.2.1 hst h8 hd ⟨by omega, by omega⟩
    · exact va_runSN (Ts := vm_G) (own := mO M) (As := av.map (vm_sh B b)) (n := mN K) (nL := mL M) ⟨hx, hb, hml, hown, hts⟩ hM ⟨va_cnB (mN K) hts (vm_goodK hK0) rfl rfl rfl (hN _ hl) (hts _ hK0.2.1) hK0.2.2.1 hrm, hts _ hstt, trivial⟩ hpre rfl (by simpa using hav) hLR.2.1 hst h8 hd ⟨by omega, by omega⟩
  refine vm_after (M := M) fin hBs hD fun v h1 H1 locs1 hq1 hD1 => ?_
  rw [vm_endst]
  exact k2 v h1 hq1 p l e R s m args below meth cd B b D dT X Z hC0 hf hlo hret H1 locs1 (cells + c1) (slots + n1) LS hLR hD1 (by omega) (by omega)
theorem vs_invI : vr_invI vm_S := by
  intro M d c n pc ls a av st h Q idx c1 n1 K R0 hd hK0 hKT hKi hlk hins hav hlen hct hd1 hc1 hn1 k1 k2
  intro p l e R s m args below meth cd B b D dT X Z hC hf hlo hret H locs cells slots LS hLR hD hc hs
  have hC0 := hC
  obtain ⟨hx, hb, hml, -, -, hown, hts, hN, hnm, hKn, hXs, hbB, hBs, ha7, ha5⟩ := hC
  have hM := vm_met (D := D) (dT := dT) (X := X) l hK0 hbB hD.2.2.2 hlen k1
  have hst : List.map (vm_sh B b) (av.reverse ++ vR (some a) :: st) = (av.map (vm_sh B b)).reverse ++ .ref (B + a) :: st.map (vm_sh B b) := by
    rw [List.map_append, List.map_reverse]; rfl
  have hpre : PreS s H (vm_Pc B b D dT X (vR (some a) :: av) h) (.ref (B + a) :: av.map (vm_sh B b)) := ⟨vm_blind, vm_before hC0 hD (vR (some a) :: av)⟩
  have hrm := vm_hR (c := c1) (n := n1) hK0 hd1 hf hlo
  have h8 : 2 * (F0 m pc LS (List.map (vm_sh B b) (av.reverse ++ vR (some a) :: st))).monitorRoom + ((st.map (vm_sh B b)).map fun v => v.category).sum ≤ 8 := lv_room (by rw [vm_cats_eq]; exact hct)
  have fin : va_Run p l e R s m args below meth cd H locs cells slots c1 n1 (F0 m pc LS (List.map (vm_sh B b) (av.reverse ++ vR (some a) :: st))) (st.map (vm_sh B b)) (vm_Qc B b D dT X R0 (Value.ref (B + a) :: av.map (vm_sh B b)).toArray) (fun q => B ≤ q) := by
    have hw : vm_cw K = Cond.code (mY K) (mB K) (mL K) none :: vm_G := by unfold vm_cw; rw [hKT]
    rcases hlk with hl | hl
    · exact va_runI (Ts := vm_G) (own := mO M) (As := av.map (vm_sh B b)) (n := mN K) (nL := mL M) ⟨hx, hb, hml, hown, hts⟩ hM (cwI (mN K) hts (vm_goodK hK0) hw rfl rfl (hts _ hK0.2.1) (hts _ hl) (hts _ hins) hKi hK0.2.2.1 hrm) hpre rfl (by simpa using hav) hLR.2.1 hst h8 hd ⟨by omega, by omega⟩
    · exact va_runIN (Ts := vm_G) (own := mO M) (As := av.map (vm_sh B b)) (n := mN K) (nL := mL M) ⟨hx, hb, hml, hown, hts⟩ hM ⟨va_cnB (mN K) hts (vm_goodK hK0) hw rfl rfl (hN _ hl) (hts _ hK0.2.1) hK0.2.2.1 hrm, hKi, hts _ hins⟩ hpre rfl (by simpa using hav) hLR.2.1 hst h8 hd ⟨by omega, by omega⟩
  refine vm_after (M := M) fin hBs hD fun v h1 H1 locs1 hq1 hD1 => ?_
  rw [vm_endst]
  exact k2 v h1 hq1 p l e R s m args below meth cd B b D dT X Z hC0 hf hlo hret H1 locs1 (cells + c1) (slots + n1) LS hLR hD1 (by omega) (by omega)
theorem vs_end : vr_end vm_S := by
  intro M d c n pc ls h Q ins v hd hr hQ
  intro p l e R s m args below meth cd B b D dT X Z hC hf hlo hret H locs cells slots LS hLR hD hc hs
  exact hret v h H locs cells slots LS pc ins hd hr hQ hD (by omega) (by omega)
theorem vm_minG : Cond.static Lib.Math.min.name ∈ vm_G ∧ Cond.initialized "java/lang/Math" ∈ vm_G ∧ Cond.code Lib.Math.min.name Lib.Math.min.code 2 (some .int) ∈ vm_G := ⟨by decide +kernel, by decide +kernel, by decide +kernel⟩
theorem vs_min : vr_min vm_S := by
  intro M d c n pc ls x y st h Q idx hd hl hct hd1 k
  intro p l e R s m args below meth cd B b D dT X Z hC hf hlo hret H locs cells slots LS hLR hD hc hs
  have j := k p l e R s m args below meth cd B b D dT X Z hC hf hlo hret H locs cells slots LS hLR hD hc hs
  obtain ⟨hx, hb, hml, -, -, hown, hts, -⟩ := hC
  exact va_mmin hx hb (by rw [hml, hLR.2.1]) hown (hts _ hl) (hts _ vm_minG.1) (hts _ vm_minG.2.1) (hts _ vm_minG.2.2) (by omega) (by rw [vm_cats_eq]; omega) (by omega) (by omega) hd j
theorem vm_sim : vm_X vm_S := ⟨vs_op, vs_div, vs_rem, vs_br, vs_goto, vs_tsw, vs_lsw, vs_ldc, vs_ldc2, vs_get, vs_put, vs_ald, vs_lald, vs_aald, vs_ast, vs_last, vs_aast, vs_sld, vs_slen, vs_new, vs_newa, vs_anew, vs_oin, vs_inv, vs_invS, vs_invI, vs_end, vs_min⟩
