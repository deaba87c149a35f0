/-! ===== the rules, one by one ===== -/
def vm_Cx (M : vM) (p : Program) (s : State) (m : MethodId) (meth : Method) (cd : Code) (args : Array Value) (B b : Nat) (D : va_G) (dT : Nat → ClassId) (X : Nat × (Nat → Int32)) : Prop :=
  p.tables.exec = Jvm.exec ∧ cd.code = mB M ∧ cd.maxLocals = mL M ∧ meth.sig.returnType = mT M ∧ meth.locks = false ∧ s.vm.findClass (mO M) = some m.cls ∧ (∀ w ∈ vm_G, w.before args s = true) ∧ (∀ w ∈ vm_N, va_Nw w s) ∧ ((mY M).name = "<init>" → meth.name = "<init>") ∧ va_K D vCls (vm_ty dT) s ∧ va_X b X.1 X.2 s s.heap ∧ b < B ∧ B ≤ s.heap.size ∧ va_AO RX7 s ∧ va_AO RX5 s
def vm_Dh (B b : Nat) (D : va_G) (dT : Nat → ClassId) (X : Nat × (Nat → Int32)) (s : State) (h : vH) (H : Heap) (locs : List Loc) : Prop :=
  va_P D vCls (vm_W B b dT h) H ∧ H.size = B + (hK h).length ∧ va_S (fun q => B ≤ q) s.heap H locs ∧ hX h = X
def vm_Rt (M : vM) (Q : vQ) (p : Program) (l : Launch) (e : Env) (R : Room) (s : State) (m : MethodId) (args : Array Value) (below : List Frame) (meth : Method) (cd : Code) (B b : Nat) (D : va_G) (dT : Nat → ClassId) (X : Nat × (Nat → Int32)) (Z : State → Prop) : Prop :=
  ∀ (v : Option vV) (h : vH) (H : Heap) (locs : List Loc) (cells slots : Nat) (LS : Array Slot) (pc : Nat) (ins : Instr), decode (mB M) pc = .ok (ins, 1) → vm_ret M ins v → Q v h → vm_Dh B b D dT X s h H locs → cells ≤ R.cells → slots ≤ R.slots → W p l e R s m args below meth cd H locs cells slots Z (F0 m pc LS ((vm_end v).map (vm_sh B b)))
def vm_S : vP := fun M d c n pc ls st h Q => ∀ (p : Program) (l : Launch) (e : Env) (R : Room) (s : State) (m : MethodId) (args : Array Value) (below : List Frame) (meth : Method) (cd : Code) (B b : Nat) (D : va_G) (dT : Nat → ClassId) (X : Nat × (Nat → Int32)) (Z : State → Prop),
  vm_Cx M p s m meth cd args B b D dT X → d ≤ R.frames → 60 * d + 20 ≤ R.locals → vm_Rt M Q p l e R s m args below meth cd B b D dT X Z →
  ∀ (H : Heap) (locs : List Loc) (cells slots : Nat) (LS : Array Slot), vm_LR B b (mL M) ls LS → vm_Dh B b D dT X s h H locs → cells + c ≤ R.cells → slots + n ≤ R.slots → W p l e R s m args below meth cd H locs cells slots Z (F0 m pc LS (st.map (vm_sh B b)))
theorem vm_opR_inv {ins : Instr} {len : Nat} {ls : vL} {st : vT} {r : vL × vT} (h : vm_opR ins len ls st = some r) : ∃ f, vm_op ins = some (len, f) ∧ f ls st = some r := by
  unfold vm_opR at h
  split at h
  · rename_i q hq
    split at h
    · rename_i e
      exact ⟨q.2, by rw [hq, ← e], h⟩
    · cases h
  · cases h
theorem vm_ii_inv {f : Int32 → Int32 → Int32} {ls ls' : vL} {st st' : vT} (h : vm_ii f ls st = some (ls', st')) : ∃ x y r, st = vI y :: vI x :: r ∧ ls' = ls ∧ st' = vI (f x y) :: r := by
  unfold vm_ii at h
  split at h
  · cases h; exact ⟨_, _, _, rfl, rfl, rfl⟩
  · cases h
theorem vm_jj_inv {f : Int64 → Int64 → Int64} {ls ls' : vL} {st st' : vT} (h : vm_jj f ls st = some (ls', st')) : ∃ x y r, st = vJ y :: vJ x :: r ∧ ls' = ls ∧ st' = vJ (f x y) :: r := by
  unfold vm_jj at h
  split at h
  · cases h; exact ⟨_, _, _, rfl, rfl, rfl⟩
  · cases h
theorem vm_ji_inv {f : Int64 → Int32 → Int64} {ls ls' : vL} {st st' : vT} (h : vm_ji f ls st = some (ls', st')) : ∃ x y r, st = vI y :: vJ x :: r ∧ ls' = ls ∧ st' = vJ (f x y) :: r := by
  unfold vm_ji at h
  split at h
  · cases h; exact ⟨_, _, _, rfl, rfl, rfl⟩
  · cases h
theorem vm_i_inv {f : Int32 → vV} {ls ls' : vL} {st st' : vT} (h : vm_i f ls st = some (ls', st')) : ∃ x r, st = vI x :: r ∧ ls' = ls ∧ st' = f x :: r := by
  unfold vm_i at h
  split at h
  · cases h; exact ⟨_, _, rfl, rfl, rfl⟩
  · cases h
theorem vm_ld_inv {f : vV → Bool} {ls ls' : vL} {st st' : vT} {i : Nat} (h : vm_ld ls st i f = some (ls', st')) : ∃ v, ls[i]? = some (some v) ∧ f v = true ∧ ls' = ls ∧ st' = v :: st := by
  unfold vm_ld at h
  split at h
  · rename_i v hv
    cases hf : f v with
    | true => rw [hf, cond_true] at h; cases h; exact ⟨v, hv, hf, rfl, rfl⟩
    | false => rw [hf, cond_false] at h; cases h
  · cases h
theorem vm_sto_inv {f : vV → Bool} {g : vL → Nat → vV → Option vL} {ls ls' : vL} {st st' : vT} {i : Nat} (h : vm_sto ls st i f g = some (ls', st')) : ∃ v, st = v :: st' ∧ f v = true ∧ g ls i v = some ls' := by
  unfold vm_sto at h
  split at h
  · rename_i v r
    cases hf : f v with
    | true =>
      rw [hf, cond_true] at h
      cases hg : g ls i v with
      | none => rw [hg] at h; cases h
      | some l => rw [hg] at h; cases h; exact ⟨v, rfl, hf, hg⟩
    | false => rw [hf, cond_false] at h; cases h
  · cases h
theorem vm_inc_inv {ls ls' : vL} {st st' : vT} {i : Nat} {k : Int} (h : vm_inc ls st i k = some (ls', st')) : ∃ x, ls[i]? = some (some (vI x)) ∧ vm_s1 ls i (vI (x + Int32.ofInt k)) = some ls' ∧ st' = st := by
  unfold vm_inc at h
  split at h
  · rename_i x hx
    cases hg : vm_s1 ls i (vI (x + Int32.ofInt k)) with
    | none => rw [hg] at h; cases h
    | some l => rw [hg] at h; cases h; exact ⟨x, hx, hg, rfl⟩
  · cases h
theorem vm_isI_inv {v : vV} (h : vm_isI v = true) : ∃ x, v = vI x := by
  obtain x | y := v
  · exact ⟨x, rfl⟩
  · cases h
theorem vm_isJ_inv {v : vV} (h : vm_isJ v = true) : ∃ x, v = vJ x := by
  obtain x | y | z := v
  · cases h
  · exact ⟨y, rfl⟩
  · cases h
theorem vm_isR0_inv {v : vV} (h : vm_isR0 v = true) : ∃ r, v = vR r := by
  obtain x | y | r | u := v
  · cases h
  · cases h
  · exact ⟨r, rfl⟩
  · cases h
theorem vm_isR_inv {v : vV} (h : vm_isR v = true) : v = vX ∨ ∃ r, v = vR r := by
  obtain x | y | r | u := v
  · cases h
  · cases h
  · exact Or.inr ⟨r, rfl⟩
  · cases u; exact Or.inl rfl
set_option maxHeartbeats 4000000 in
theorem vs_op : vr_op vm_S := by
  intro M d c n pc ls st h Q ins len ls' st' hd ho k
  intro p l e R s m args below meth cd B b D dT X Z hC hf hlo hret H locs cells slots LS hL hD hc hs
  have k' := fun LS hL => k p l e R s m args below meth cd B b D dT X Z hC hf hlo hret H locs cells slots LS hL hD hc hs
  clear k
  obtain ⟨hx, hb, -⟩ := hC
  have ho1 := vm_opR_inv ho
  clear ho
  obtain ⟨f, hf1, ho⟩ := ho1
  cases ins
  case iconst z => cases hf1; cases ho; exact lv_iconst hx hb hd rfl (k' LS hL)
  case bipush z => cases hf1; cases ho; exact lv_bipush hx hb hd rfl (k' LS hL)
  case sipush z => cases hf1; cases ho; exact lv_sipush hx hb hd rfl (k' LS hL)
  case lconst z => cases hf1; cases ho; exact lv_lconst hx hb hd rfl (k' LS hL)
  case aconst_null => cases hf1; cases ho; exact lv_null hx hb hd (k' LS hL)
  case iload i =>
    cases hf1
    obtain ⟨v, h1, h2, rfl, rfl⟩ := vm_ld_inv ho
    obtain ⟨x, rfl⟩ := vm_isI_inv h2
    exact lv_iload hx hb hd (hL.2.2.2 _ _ h1) (k' LS hL)
  case iload_n i =>
    cases hf1
    obtain ⟨v, h1, h2, rfl, rfl⟩ := vm_ld_inv ho
    obtain ⟨x, rfl⟩ := vm_isI_inv h2
    exact lv_iload_n hx hb hd rfl (hL.2.2.2 _ _ h1) (k' LS hL)
  case lload i =>
    cases hf1
    obtain ⟨v, h1, h2, rfl, rfl⟩ := vm_ld_inv ho
    obtain ⟨x, rfl⟩ := vm_isJ_inv h2
    exact lv_lload hx hb hd (hL.2.2.2 _ _ h1) (k' LS hL)
  case lload_n i =>
    cases hf1
    obtain ⟨v, h1, h2, rfl, rfl⟩ := vm_ld_inv ho
    obtain ⟨x, rfl⟩ := vm_isJ_inv h2
    exact lv_lload_n hx hb hd rfl (hL.2.2.2 _ _ h1) (k' LS hL)
  case aload i =>
    cases hf1
    obtain ⟨v, h1, h2, rfl, rfl⟩ := vm_ld_inv ho
    rcases vm_isR_inv h2 with rfl | ⟨r, rfl⟩
    · exact lv_aload hx hb hd (hL.2.2.2 _ _ h1) (k' LS hL)
    · cases r with
      | none => exact lv_aloadN hx hb hd (hL.2.2.2 _ _ h1) (k' LS hL)
      | some r => exact lv_aload hx hb hd (hL.2.2.2 _ _ h1) (k' LS hL)
  case aload_n i =>
    cases hf1
    obtain ⟨v, h1, h2, rfl, rfl⟩ := vm_ld_inv ho
    rcases vm_isR_inv h2 with rfl | ⟨r, rfl⟩
    · exact lv_aload_n hx hb hd rfl (hL.2.2.2 _ _ h1) (k' LS hL)
    · cases r with
      | none => exact lv_aload_nN hx hb hd rfl (hL.2.2.2 _ _ h1) (k' LS hL)
      | some r => exact lv_aload_n hx hb hd rfl (hL.2.2.2 _ _ h1) (k' LS hL)
  case istore i =>
    cases hf1
    obtain ⟨v, rfl, h2, h3⟩ := vm_sto_inv ho
    obtain ⟨x, rfl⟩ := vm_isI_inv h2
    exact lv_istore hx hb hd hL.has (hL.lt1 h3) rfl (fun LS' h' => k' LS' (hL.st1 h3 h'))
  case istore_n i =>
    cases hf1
    obtain ⟨v, rfl, h2, h3⟩ := vm_sto_inv ho
    obtain ⟨x, rfl⟩ := vm_isI_inv h2
    exact lv_istore_n hx hb hd rfl hL.has (hL.lt1 h3) rfl (fun LS' h' => k' LS' (hL.st1 h3 h'))
  case lstore i =>
    cases hf1
    obtain ⟨v, rfl, h2, h3⟩ := vm_sto_inv ho
    obtain ⟨x, rfl⟩ := vm_isJ_inv h2
    exact lv_lstore hx hb hd hL.has (hL.lt2 h3) rfl (fun LS' h' => k' LS' (hL.st2 h3 h'))
  case lstore_n i =>
    cases hf1
    obtain ⟨v, rfl, h2, h3⟩ := vm_sto_inv ho
    obtain ⟨x, rfl⟩ := vm_isJ_inv h2
    exact lv_lstore_n hx hb hd rfl hL.has (hL.lt2 h3) rfl (fun LS' h' => k' LS' (hL.st2 h3 h'))
  case astore i =>
    cases hf1
    obtain ⟨v, rfl, h2, h3⟩ := vm_sto_inv ho
    obtain ⟨r, rfl⟩ := vm_isR0_inv h2
    cases r with
    | none => exact lv_astoreN hx hb hd hL.has (hL.lt1 h3) rfl (fun LS' h' => k' LS' (hL.st1 h3 h'))
    | some r => exact lv_astore hx hb hd hL.has (hL.lt1 h3) rfl (fun LS' h' => k' LS' (hL.st1 h3 h'))
  case astore_n i =>
    cases hf1
    obtain ⟨v, rfl, h2, h3⟩ := vm_sto_inv ho
    obtain ⟨r, rfl⟩ := vm_isR0_inv h2
    cases r with
    | none => exact lv_astore_nN hx hb hd rfl hL.has (hL.lt1 h3) rfl (fun LS' h' => k' LS' (hL.st1 h3 h'))
    | some r => exact lv_astore_n hx hb hd rfl hL.has (hL.lt1 h3) rfl (fun LS' h' => k' LS' (hL.st1 h3 h'))
  case iinc i z =>
    cases hf1
    obtain ⟨x, h1, h3, rfl⟩ := vm_inc_inv ho
    obtain ⟨q, hq⟩ := List.getElem?_of_mem (vm_pr_mem.mpr ⟨vI x, h1, rfl⟩ : (i, vm_sh B b (vI x)) ∈ vm_pr B b ls)
    exact lv_iinc hx hb hd hL.has hq rfl (hL.lt1 h3) rfl (fun LS' h' => k' LS' (hL.st1 h3 h'))
  case iadd => cases hf1; obtain ⟨x, y, r, rfl, rfl, rfl⟩ := vm_ii_inv ho; exact lv_iadd hx hb hd (k' LS hL)
  case isub => cases hf1; obtain ⟨x, y, r, rfl, rfl, rfl⟩ := vm_ii_inv ho; exact lv_isub hx hb hd (k' LS hL)
  case imul => cases hf1; obtain ⟨x, y, r, rfl, rfl, rfl⟩ := vm_ii_inv ho; exact lv_imul hx hb hd (k' LS hL)
  case iand => cases hf1; obtain ⟨x, y, r, rfl, rfl, rfl⟩ := vm_ii_inv ho; exact lv_iand hx hb hd (k' LS hL)
  case ior => cases hf1; obtain ⟨x, y, r, rfl, rfl, rfl⟩ := vm_ii_inv ho; exact lv_ior hx hb hd (k' LS hL)
  case ixor => cases hf1; obtain ⟨x, y, r, rfl, rfl, rfl⟩ := vm_ii_inv ho; exact lv_ixor hx hb hd (k' LS hL)
  case ishl => cases hf1; obtain ⟨x, y, r, rfl, rfl, rfl⟩ := vm_ii_inv ho; exact lv_ishl hx hb hd (k' LS hL)
  case ishr => cases hf1; obtain ⟨x, y, r, rfl, rfl, rfl⟩ := vm_ii_inv ho; exact lv_ishr hx hb hd (k' LS hL)
  case iushr => cases hf1; obtain ⟨x, y, r, rfl, rfl, rfl⟩ := vm_ii_inv ho; exact lv_iushr hx hb hd rfl (k' LS hL)
  case ladd => cases hf1; obtain ⟨x, y, r, rfl, rfl, rfl⟩ := vm_jj_inv ho; exact lv_ladd hx hb hd (k' LS hL)
  case lsub => cases hf1; obtain ⟨x, y, r, rfl, rfl, rfl⟩ := vm_jj_inv ho; exact lv_lsub hx hb hd (k' LS hL)
  case lmul => cases hf1; obtain ⟨x, y, r, rfl, rfl, rfl⟩ := vm_jj_inv ho; exact lv_lmul hx hb hd (k' LS hL)
  case land => cases hf1; obtain ⟨x, y, r, rfl, rfl, rfl⟩ := vm_jj_inv ho; exact lv_land hx hb hd (k' LS hL)
  case lor => cases hf1; obtain ⟨x, y, r, rfl, rfl, rfl⟩ := vm_jj_inv ho; exact lv_lor hx hb hd (k' LS hL)
  case lxor => cases hf1; obtain ⟨x, y, r, rfl, rfl, rfl⟩ := vm_jj_inv ho; exact lv_lxor hx hb hd (k' LS hL)
  case lshl => cases hf1; obtain ⟨x, y, r, rfl, rfl, rfl⟩ := vm_ji_inv ho; exact lv_lshl hx hb hd rfl (k' LS hL)
  case lushr => cases hf1; obtain ⟨x, y, r, rfl, rfl, rfl⟩ := vm_ji_inv ho; exact lv_lushr hx hb hd rfl (k' LS hL)
  case i2l => cases hf1; obtain ⟨x, r, rfl, rfl, rfl⟩ := vm_i_inv ho; exact lv_i2l hx hb hd rfl (k' LS hL)
  case i2c => cases hf1; obtain ⟨x, r, rfl, rfl, rfl⟩ := vm_i_inv ho; exact lv_i2c hx hb hd rfl (k' LS hL)
  case lcmp =>
    cases hf1
    dsimp only at ho
    split at ho
    · cases ho; exact W.lcmp hx hb hd (k' LS hL)
    · cases ho
  case l2i =>
    cases hf1
    dsimp only at ho
    split at ho
    · cases ho; exact lv_l2i hx hb hd rfl (k' LS hL)
    · cases ho
  case dup =>
    cases hf1
    dsimp only at ho
    split at ho
    · rename_i v r
      cases hv : vm_c2 v with
      | true => rw [hv, cond_true] at ho; cases ho
      | false => rw [hv, cond_false] at ho; cases ho; exact lv_dup hx hb hd (vm_sh_c1 hv) (k' LS hL)
    · cases ho
  case dup2 =>
    cases hf1
    dsimp only at ho
    split at ho
    · rename_i v w r
      cases hv : vm_c2 v with
      | true => rw [hv, Bool.true_or, cond_true] at ho; cases ho
      | false =>
        cases hw : vm_c2 w with
        | true => rw [hv, hw, Bool.or_true, cond_true] at ho; cases ho
        | false => rw [hv, hw, Bool.or_false, cond_false] at ho; cases ho; exact lv_dup2_11 hx hb hd (vm_sh_c1 hv) (vm_sh_c1 hw) (k' LS hL)
    · cases ho
  case pop =>
    cases hf1
    dsimp only at ho
    split at ho
    · rename_i v r
      cases hv : vm_c2 v with
      | true => rw [hv, cond_true] at ho; cases ho
      | false => rw [hv, cond_false] at ho; cases ho; exact lv_pop hx hb hd (vm_sh_c1 hv) (k' LS hL)
    · cases ho
  all_goals cases hf1
theorem vs_div : vr_div vm_S := by
  intro M d c n pc ls x y st h Q hd hy k
  intro p l e R s m args below meth cd B b D dT X Z hC hf hlo hret H locs cells slots LS hL hD hc hs
  exact lv_idiv hC.1 hC.2.1 hd hy (k p l e R s m args below meth cd B b D dT X Z hC hf hlo hret H locs cells slots LS hL hD hc hs)
theorem vs_rem : vr_rem vm_S := by
  intro M d c n pc ls x y st h Q hd hy k
  intro p l e R s m args below meth cd B b D dT X Z hC hf hlo hret H locs cells slots LS hL hD hc hs
  exact lv_irem hC.1 hC.2.1 hd hy (k p l e R s m args below meth cd B b D dT X Z hC hf hlo hret H locs cells slots LS hL hD hc hs)
theorem vs_goto : vr_goto vm_S := by
  intro M d c n pc ls st h Q o tgt hd ht k
  intro p l e R s m args below meth cd B b D dT X Z hC hf hlo hret H locs cells slots LS hL hD hc hs
  exact lv_goto hC.1 hC.2.1 hd ht (k p l e R s m args below meth cd B b D dT X Z hC hf hlo hret H locs cells slots LS hL hD hc hs)
theorem vs_br : vr_br vm_S := by
  intro M d c n pc ls st h Q ins P o r tgt hd hb1 ht k1 k2
  intro p l e R s m args below meth cd B b D dT X Z hC hf hlo hret H locs cells slots LS hL hD hc hs
  have j1 := fun hp => k1 hp p l e R s m args below meth cd B b D dT X Z hC hf hlo hret H locs cells slots LS hL hD hc hs
  have j2 := fun hp => k2 hp p l e R s m args below meth cd B b D dT X Z hC hf hlo hret H locs cells slots LS hL hD hc hs
  obtain ⟨hx, hb, -⟩ := hC
  unfold vm_br at hb1
  split at hb1 <;> cases hb1
  · exact lv_if_eq hx hb hd ht j1 j2
  · exact lv_if_ne hx hb hd ht j1 (fun q => j2 (fun z => z q))
  · exact lv_if_lt hx hb hd ht j1 j2
  · exact lv_if_ge hx hb hd ht j1 j2
  · exact lv_if_gt hx hb hd ht j1 j2
  · exact lv_if_le hx hb hd ht j1 j2
  · exact lv_icmp_eq hx hb hd ht j1 j2
  · exact lv_icmp_ne hx hb hd ht j1 (fun q => j2 (fun z => z q))
  · exact lv_icmp_lt hx hb hd ht j1 j2
  · exact lv_icmp_ge hx hb hd ht j1 j2
  · exact lv_icmp_gt hx hb hd ht j1 j2
  · exact lv_icmp_le hx hb hd ht j1 j2
  · rename_i a
    cases a with
    | none => exact lv_ifnullN hx hb hd ht (j1 rfl)
    | some a => exact lv_ifnull hx hb hd (j2 (fun z => by cases z))
  · rename_i a
    cases a with
    | none => exact lv_ifnonnullN hx hb hd (j2 (fun z => z rfl))
    | some a => exact lv_ifnonnull hx hb hd ht (j1 (fun z => by cases z))
theorem vs_tsw : vr_tsw vm_S := by
  intro M d c n pc ls x st h Q dflt lo hi offs len o tgt hd ho ht k
  intro p l e R s m args below meth cd B b D dT X Z hC hf hlo hret H locs cells slots LS hL hD hc hs
  have j := k p l e R s m args below meth cd B b D dT X Z hC hf hlo hret H locs cells slots LS hL hD hc hs
  obtain ⟨hx, hb, -⟩ := hC
  unfold vm_tsw at ho
  split at ho
  · rename_i hh; cases ho; exact lv_tableOut hx hb hd hh ht j
  · rename_i hh; exact lv_tableIn hx hb hd (fun z => hh (Or.inl z)) (fun z => hh (Or.inr z)) ho ht j
theorem vs_lsw : vr_lsw vm_S := by
  intro M d c n pc ls x st h Q dflt ps len o tgt hd hp ho ht k
  intro p l e R s m args below meth cd B b D dT X Z hC hf hlo hret H locs cells slots LS hL hD hc hs
  exact lv_lookup hC.1 hC.2.1 hd hp ho ht (k p l e R s m args below meth cd B b D dT X Z hC hf hlo hret H locs cells slots LS hL hD hc hs)
theorem vs_ldc : vr_ldc vm_S := by
  intro M d c n pc ls st h Q idx v hd hw k
  intro p l e R s m args below meth cd B b D dT X Z hC hf hlo hret H locs cells slots LS hL hD hc hs
  have j := k p l e R s m args below meth cd B b D dT X Z hC hf hlo hret H locs cells slots LS hL hD hc hs
  obtain ⟨hx, hb, -, -, -, hown, hts, -⟩ := hC
  exact lv_ldcw hx hb hown (hts _ hw) hd j
theorem vs_ldc2 : vr_ldc2 vm_S := by
  intro M d c n pc ls st h Q idx v hd hw k
  intro p l e R s m args below meth cd B b D dT X Z hC hf hlo hret H locs cells slots LS hL hD hc hs
  have j := k p l e R s m args below meth cd B b D dT X Z hC hf hlo hret H locs cells slots LS hL hD hc hs
  obtain ⟨hx, hb, -, -, -, hown, hts, -⟩ := hC
  exact lv_ldc2 hx hb hown (hts _ hw) hd j
