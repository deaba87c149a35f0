/-! ===== A VIRTUAL MACHINE: values, heap, one step a rule; vm_E is the least predicate that its rules close (a total-correctness judgement). Addresses are numbers from 0 on; the machine's own are these shifted. ===== -/
abbrev vV : Type := Int32 ⊕ (Int64 ⊕ (Option Nat ⊕ Unit))
abbrev vI (x : Int32) : vV := Sum.inl x
abbrev vJ (x : Int64) : vV := Sum.inr (Sum.inl x)
abbrev vR (r : Option Nat) : vV := Sum.inr (Sum.inr (Sum.inl r))
abbrev vX : vV := Sum.inr (Sum.inr (Sum.inr ()))
def vm_c2 : vV → Bool
  | .inr (.inl _) => true
  | _ => false
/-- ints, longs, references by address and place; the cells' kinds (class number, 0; or 20 + array type, length); the script -/
abbrev vH : Type := (Nat → Nat → Int32) × (Nat → Nat → Int64) × (Nat → Nat → Option Nat) × List (Nat × Nat) × (Nat × (Nat → Int32))
def hI (h : vH) : Nat → Nat → Int32 := h.1
def hL (h : vH) : Nat → Nat → Int64 := h.2.1
def hR (h : vH) : Nat → Nat → Option Nat := h.2.2.1
def hK (h : vH) : List (Nat × Nat) := h.2.2.2.1
def hX (h : vH) : Nat × (Nat → Int32) := h.2.2.2.2
def up2 {α : Type} (f : Nat → Nat → α) (a k : Nat) (v : α) : Nat → Nat → α := fun b j => if b = a ∧ j = k then v else f b j
def uI (h : vH) (a k : Nat) (v : Int32) : vH := (up2 (hI h) a k v, h.2)
def uL (h : vH) (a k : Nat) (v : Int64) : vH := (h.1, up2 (hL h) a k v, h.2.2)
def uR (h : vH) (a k : Nat) (v : Option Nat) : vH := (h.1, h.2.1, up2 (hR h) a k v, h.2.2.2)
def up1 {α : Type} (f : Nat → Nat → α) (a : Nat) (v : α) : Nat → Nat → α := fun b j => if b = a then v else f b j
/-- a new cell, all its places empty -/
def uN (h : vH) (kd : Nat × Nat) : vH := (up1 (hI h) (hK h).length 0, up1 (hL h) (hK h).length 0, up1 (hR h) (hK h).length none, hK h ++ [kd], hX h)
theorem up2_s {α : Type} (f : Nat → Nat → α) (a k : Nat) (v : α) : up2 f a k v a k = v := by simp [up2]
theorem up2_n {α : Type} (f : Nat → Nat → α) {a k b j : Nat} (v : α) (hn : ¬ (b = a ∧ j = k)) : up2 f a k v b j = f b j := by simp [up2, hn]
theorem hI_uI (h : vH) (a k : Nat) (v : Int32) (b j : Nat) : hI (uI h a k v) b j = if b = a ∧ j = k then v else hI h b j := rfl
theorem hL_uL (h : vH) (a k : Nat) (v : Int64) (b j : Nat) : hL (uL h a k v) b j = if b = a ∧ j = k then v else hL h b j := rfl
theorem hR_uR (h : vH) (a k : Nat) (v : Option Nat) (b j : Nat) : hR (uR h a k v) b j = if b = a ∧ j = k then v else hR h b j := rfl
theorem hI_uL (h : vH) (a k : Nat) (v : Int64) : hI (uL h a k v) = hI h := rfl
theorem hI_uR (h : vH) (a k : Nat) (v : Option Nat) : hI (uR h a k v) = hI h := rfl
theorem hL_uI (h : vH) (a k : Nat) (v : Int32) : hL (uI h a k v) = hL h := rfl
theorem hL_uR (h : vH) (a k : Nat) (v : Option Nat) : hL (uR h a k v) = hL h := rfl
theorem hR_uI (h : vH) (a k : Nat) (v : Int32) : hR (uI h a k v) = hR h := rfl
theorem hR_uL (h : vH) (a k : Nat) (v : Int64) : hR (uL h a k v) = hR h := rfl
theorem hK_uI (h : vH) (a k : Nat) (v : Int32) : hK (uI h a k v) = hK h := rfl
theorem hK_uL (h : vH) (a k : Nat) (v : Int64) : hK (uL h a k v) = hK h := rfl
theorem hK_uR (h : vH) (a k : Nat) (v : Option Nat) : hK (uR h a k v) = hK h := rfl
theorem hX_uI (h : vH) (a k : Nat) (v : Int32) : hX (uI h a k v) = hX h := rfl
theorem hX_uL (h : vH) (a k : Nat) (v : Int64) : hX (uL h a k v) = hX h := rfl
theorem hX_uR (h : vH) (a k : Nat) (v : Option Nat) : hX (uR h a k v) = hX h := rfl
/-- a method: name, code, its locals, its answer's type, its class, how many arguments (no receiver) -/
abbrev vM : Type := MethodName × ByteArray × Nat × Option FieldType × String × Nat
def mY (M : vM) : MethodName := M.1
def mB (M : vM) : ByteArray := M.2.1
def mL (M : vM) : Nat := M.2.2.1
def mT (M : vM) : Option FieldType := M.2.2.2.1
def mO (M : vM) : String := M.2.2.2.2.1
def mN (M : vM) : Nat := M.2.2.2.2.2
abbrev vCls : List vw_C := [(RX0, TX0, 5), (RX1, TX1, 1), (RX2, TX2, 3), (RX3, TX3, 3), (RX4, TX4, 1), (RX5, TX5, 12), (RX6, TX6, 5), (RX7, TX7, 5), (RX8, TX8, 2), (RX9, TX9, 3), (RX10, TX10, 10), (RX11, TX11, 29)]
def vm_n (ci : Nat) : Nat := match vCls[ci]? with
  | some q => q.2.2
  | none => 0
def vm_ft (ci : Nat) : Nat → FieldType := match ci with
  | 0 => tyX0
  | 1 => tyX1
  | 2 => tyX2
  | 3 => tyX3
  | 4 => tyX4
  | 5 => tyX5
  | 6 => tyX6
  | 7 => tyX7
  | 8 => tyX8
  | 9 => tyX9
  | 10 => tyX10
  | _ => tyX11
def vm_f (h : vH) (a k : Nat) (t : FieldType) : vV := match t with
  | .long => vJ (hL h a k)
  | .object _ => vR (hR h a k)
  | .array _ => vR (hR h a k)
  | _ => vI (hI h a k)
def vm_pf (h : vH) (a k : Nat) (v : vV) : vH := match v with
  | .inl x => uI h a k x
  | .inr (.inl y) => uL h a k y
  | .inr (.inr (.inl r)) => uR h a k r
  | .inr (.inr (.inr _)) => h
def vm_fit (t : FieldType) (v : vV) : Prop := match t, v with
  | .int, .inl _ => True
  | .boolean, .inl x => x = 0 ∨ x = 1
  | .long, .inr (.inl _) => True
  | .object _, .inr (.inr (.inl _)) => True
  | .array _, .inr (.inr (.inl _)) => True
  | _, _ => False
/-- what the tables say that callers hand on, and the words of nest mates -/
def vm_G : List Cond := lw_tbl.filter goodWord
def vm_nw : Cond → Bool
  | .fieldLinkNest .. => true
  | .methodLinkNest .. => true
  | _ => false
def vm_N : List Cond := lw_tbl.filter vm_nw
theorem vm_inG {w : Cond} {i : Nat} (h : lw_tbl[i]? = some w) (g : goodWord w = true) : w ∈ vm_G := List.mem_filter.mpr ⟨List.mem_of_getElem? h, g⟩
theorem vm_inN {w : Cond} {i : Nat} (h : lw_tbl[i]? = some w) (g : vm_nw w = true) : w ∈ vm_N := List.mem_filter.mpr ⟨List.mem_of_getElem? h, g⟩
/-- entry idx of class own's pool is field k of class ci -/
def vm_Fok (own : String) (idx ci k : Nat) : Prop := ∃ q : vw_C, vCls[ci]? = some q ∧ k < q.2.2 ∧ (q.2.1 k).1 = q.1 ∧
  (Cond.fieldLink own idx q.1 (q.2.1 k).2.1 (q.2.1 k).2.2.1 ∈ vm_G ∨ Cond.fieldLinkNest own idx q.1 (q.2.1 k).2.1 (q.2.1 k).2.2.1 "DiscourseContexts" ∈ vm_N)
def vm_fin (ci k : Nat) : Bool := match vCls[ci]? with
  | some q => (q.2.1 k).2.2.2
  | none => false
/-- a method of the tables -/
def vm_Mok (M : vM) : Prop := Cond.code (mY M) (mB M) (mL M) (mT M) ∈ vm_G ∧ Cond.initialized (mY M).cls ∈ vm_G ∧ ((mY M).cls ≠ "java/lang/invoke/MethodHandle" ∧ (mY M).cls ≠ "java/lang/invoke/VarHandle" ∧ (parseMethodDescriptor (mY M).desc).map (fun d => d.parameters.length) = some (mN M)) ∧ plainName (mY M).cls = true ∧ mL M ≤ 40 ∧ mO M = (mY M).cls
def vm_Lok (own : String) (idx : Nat) (y : MethodName) : Prop := Cond.methodLink own idx y ∈ vm_G ∨ Cond.methodLinkNest own idx y "DiscourseContexts" ∈ vm_N
/-- locals -/
def vm_kl (ls : List (Option vV)) (i : Nat) : List (Option vV) := match i with
  | 0 => ls
  | j + 1 => match ls[j]? with
    | some (some (.inr (.inl _))) => ls.set j none
    | _ => ls
def vm_s1 (ls : List (Option vV)) (i : Nat) (v : vV) : Option (List (Option vV)) := match ls[i]? with
  | some _ => some ((vm_kl ls i).set i (some v))
  | none => none
def vm_s2 (ls : List (Option vV)) (i : Nat) (v : vV) : Option (List (Option vV)) := match ls[i + 1]? with
  | some _ => some (((vm_kl ls i).set i (some v)).set (i + 1) none)
  | none => none
def vm_sl : List vV → List (Option vV)
  | [] => []
  | v :: r => bif vm_c2 v then some v :: none :: vm_sl r else some v :: vm_sl r
def vm_ent (nL : Nat) (av : List vV) : List (Option vV) := vm_sl av ++ List.replicate (nL - (vm_sl av).length) none
abbrev vL : Type := List (Option vV)
abbrev vT : Type := List vV
def vm_ld (ls : vL) (st : vT) (i : Nat) (f : vV → Bool) : Option (vL × vT) := match ls[i]? with
  | some (some v) => bif f v then some (ls, v :: st) else none
  | _ => none
def vm_isI : vV → Bool
  | .inl _ => true
  | _ => false
def vm_isJ : vV → Bool
  | .inr (.inl _) => true
  | _ => false
def vm_isR : vV → Bool
  | .inr (.inr _) => true
  | _ => false
def vm_isR0 : vV → Bool
  | .inr (.inr (.inl _)) => true
  | _ => false
def vm_sto (ls : vL) (st : vT) (i : Nat) (f : vV → Bool) (g : vL → Nat → vV → Option vL) : Option (vL × vT) := match st with
  | v :: r => bif f v then (g ls i v).map (fun l => (l, r)) else none
  | [] => none
def vm_ii (f : Int32 → Int32 → Int32) (ls : vL) (st : vT) : Option (vL × vT) := match st with
  | .inl y :: .inl x :: r => some (ls, vI (f x y) :: r)
  | _ => none
def vm_jj (f : Int64 → Int64 → Int64) (ls : vL) (st : vT) : Option (vL × vT) := match st with
  | .inr (.inl y) :: .inr (.inl x) :: r => some (ls, vJ (f x y) :: r)
  | _ => none
def vm_ji (f : Int64 → Int32 → Int64) (ls : vL) (st : vT) : Option (vL × vT) := match st with
  | .inl y :: .inr (.inl x) :: r => some (ls, vJ (f x y) :: r)
  | _ => none
def vm_i (f : Int32 → vV) (ls : vL) (st : vT) : Option (vL × vT) := match st with
  | .inl x :: r => some (ls, f x :: r)
  | _ => none
def vm_inc (ls : vL) (st : vT) (i : Nat) (k : Int) : Option (vL × vT) := match ls[i]? with
  | some (some (.inl x)) => (vm_s1 ls i (vI (x + Int32.ofInt k))).map (fun l => (l, st))
  | _ => none
/-- the instructions that touch locals and stack alone: length and what they do -/
def vm_op : Instr → Option (Nat × (vL → vT → Option (vL × vT)))
  | .iconst k => some (1, fun ls st => some (ls, vI (Int32.ofInt k) :: st))
  | .bipush k => some (2, fun ls st => some (ls, vI (Int8.ofInt k).toInt32 :: st))
  | .sipush k => some (3, fun ls st => some (ls, vI (Int16.ofInt k).toInt32 :: st))
  | .lconst k => some (1, fun ls st => some (ls, vJ (Int64.ofNat k) :: st))
  | .aconst_null => some (1, fun ls st => some (ls, vR none :: st))
  | .iload i => some (2, fun ls st => vm_ld ls st i vm_isI)
  | .iload_n i => some (1, fun ls st => vm_ld ls st i vm_isI)
  | .lload i => some (2, fun ls st => vm_ld ls st i vm_isJ)
  | .lload_n i => some (1, fun ls st => vm_ld ls st i vm_isJ)
  | .aload i => some (2, fun ls st => vm_ld ls st i vm_isR)
  | .aload_n i => some (1, fun ls st => vm_ld ls st i vm_isR)
  | .istore i => some (2, fun ls st => vm_sto ls st i vm_isI vm_s1)
  | .istore_n i => some (1, fun ls st => vm_sto ls st i vm_isI vm_s1)
  | .lstore i => some (2, fun ls st => vm_sto ls st i vm_isJ vm_s2)
  | .lstore_n i => some (1, fun ls st => vm_sto ls st i vm_isJ vm_s2)
  | .astore i => some (2, fun ls st => vm_sto ls st i vm_isR0 vm_s1)
  | .astore_n i => some (1, fun ls st => vm_sto ls st i vm_isR0 vm_s1)
  | .iinc i k => some (3, fun ls st => vm_inc ls st i k)
  | .iadd => some (1, vm_ii (fun x y => x + y))
  | .isub => some (1, vm_ii (fun x y => x - y))
  | .imul => some (1, vm_ii (fun x y => x * y))
  | .iand => some (1, vm_ii (fun x y => x &&& y))
  | .ior => some (1, vm_ii (fun x y => x ||| y))
  | .ixor => some (1, vm_ii (fun x y => x ^^^ y))
  | .ishl => some (1, vm_ii (fun x y => x <<< (y &&& 31)))
  | .ishr => some (1, vm_ii (fun x y => x >>> (y &&& 31)))
  | .iushr => some (1, vm_ii (fun x y => (x.toUInt32 >>> (y.toUInt32 &&& Int32.toUInt32 31)).toInt32))
  | .ladd => some (1, vm_jj (fun x y => x + y))
  | .lsub => some (1, vm_jj (fun x y => x - y))
  | .lmul => some (1, vm_jj (fun x y => x * y))
  | .land => some (1, vm_jj (fun x y => x &&& y))
  | .lor => some (1, vm_jj (fun x y => x ||| y))
  | .lxor => some (1, vm_jj (fun x y => x ^^^ y))
  | .lshl => some (1, vm_ji (fun x y => x <<< (y.toInt64 &&& 63)))
  | .lushr => some (1, vm_ji (fun x y => (x.toUInt64 >>> (y.toInt64.toUInt64 &&& Int64.toUInt64 63)).toInt64))
  | .lcmp => some (1, fun ls st => match st with
      | .inr (.inl y) :: .inr (.inl x) :: r => some (ls, vI (lg_cmp x y) :: r)
      | _ => none)
  | .i2l => some (1, vm_i (fun x => vJ x.toInt64))
  | .i2c => some (1, vm_i (fun x => vI (x.toUInt32 % 65536).toInt32))
  | .l2i => some (1, fun ls st => match st with
      | .inr (.inl x) :: r => some (ls, vI x.toInt32 :: r)
      | _ => none)
  | .dup => some (1, fun ls st => match st with
      | v :: r => bif vm_c2 v then none else some (ls, v :: v :: r)
      | _ => none)
  | .dup2 => some (1, fun ls st => match st with
      | v :: w :: r => bif vm_c2 v || vm_c2 w then none else some (ls, v :: w :: v :: w :: r)
      | _ => none)
  | .pop => some (1, fun ls st => match st with
      | v :: r => bif vm_c2 v then none else some (ls, r)
      | _ => none)
  | _ => none
def vm_opR (ins : Instr) (len : Nat) (ls : vL) (st : vT) : Option (vL × vT) := match vm_op ins with
  | some q => if q.1 = len then q.2 ls st else none
  | none => none
/-- branches over ints: what must hold, the offset, the rest -/
def vm_br (ins : Instr) (st : vT) : Option (Prop × Int × vT) := match ins, st with
  | .ifCond .eq o, .inl x :: r => some (x = 0, o, r)
  | .ifCond .ne o, .inl x :: r => some (¬ x = 0, o, r)
  | .ifCond .lt o, .inl x :: r => some (x < 0, o, r)
  | .ifCond .ge o, .inl x :: r => some (0 ≤ x, o, r)
  | .ifCond .gt o, .inl x :: r => some (0 < x, o, r)
  | .ifCond .le o, .inl x :: r => some (x ≤ 0, o, r)
  | .if_icmp .eq o, .inl y :: .inl x :: r => some (x = y, o, r)
  | .if_icmp .ne o, .inl y :: .inl x :: r => some (¬ x = y, o, r)
  | .if_icmp .lt o, .inl y :: .inl x :: r => some (x < y, o, r)
  | .if_icmp .ge o, .inl y :: .inl x :: r => some (y ≤ x, o, r)
  | .if_icmp .gt o, .inl y :: .inl x :: r => some (y < x, o, r)
  | .if_icmp .le o, .inl y :: .inl x :: r => some (x ≤ y, o, r)
  | .ifnull o, .inr (.inr (.inl a)) :: r => some (a = none, o, r)
  | .ifnonnull o, .inr (.inr (.inl a)) :: r => some (¬ a = none, o, r)
  | _, _ => none
def vm_tsw (x : Int32) (dflt lo hi : Int) (offs : Array Int) : Option Int := if x.toInt < lo ∨ hi < x.toInt then some dflt else offs[(x.toInt - lo).toNat]?
def vm_cats (st : vT) : Nat := match st with
  | [] => 0
  | v :: r => (bif vm_c2 v then 2 else 1) + vm_cats r
def vm_end (v : Option vV) : vT := match v with
  | none => []
  | some x => [x]
/-- a method's end: its instruction, its answer -/
def vm_ret (M : vM) (ins : Instr) (v : Option vV) : Prop := match ins, v with
  | .return_, none => mT M = none
  | .ireturn, some (.inl x) => ∃ ty, mT M = some ty ∧ narrow ty (.int x) = .int x
  | .lreturn, some (.inr (.inl _)) => mT M = some .long
  | .areturn, some (.inr (.inr (.inl _))) => ∃ n, mT M = some (.object n)
  | _, _ => False
abbrev vQ : Type := Option vV → vH → Prop
abbrev vP : Type := vM → Nat → Nat → Nat → Nat → vL → vT → vH → vQ → Prop
section VMR
variable (X : vP)
def vr_op : Prop := ∀ (M : vM) (d c n pc : Nat) (ls : vL) (st : vT) (h : vH) (Q : vQ) (ins : Instr) (len : Nat) (ls' : vL) (st' : vT), decode (mB M) pc = .ok (ins, len) → vm_opR ins len ls st = some (ls', st') → X M d c n (pc + len) ls' st' h Q → X M d c n pc ls st h Q
def vr_div : Prop := ∀ (M : vM) (d c n pc : Nat) (ls : vL) (x y : Int32) (st : vT) (h : vH) (Q : vQ), decode (mB M) pc = .ok (.idiv, 1) → ¬ y = 0 → X M d c n (pc + 1) ls (vI (x / y) :: st) h Q → X M d c n pc ls (vI y :: vI x :: st) h Q
def vr_rem : Prop := ∀ (M : vM) (d c n pc : Nat) (ls : vL) (x y : Int32) (st : vT) (h : vH) (Q : vQ), decode (mB M) pc = .ok (.irem, 1) → ¬ y = 0 → X M d c n (pc + 1) ls (vI (x - x / y * y) :: st) h Q → X M d c n pc ls (vI y :: vI x :: st) h Q
def vr_br : Prop := ∀ (M : vM) (d c n pc : Nat) (ls : vL) (st : vT) (h : vH) (Q : vQ) (ins : Instr) (P : Prop) (o : Int) (r : vT) (tgt : Nat), decode (mB M) pc = .ok (ins, 3) → vm_br ins st = some (P, o, r) → (pc : Int) + o = (tgt : Int) → (P → X M d c n tgt ls r h Q) → (¬ P → X M d c n (pc + 3) ls r h Q) → X M d c n pc ls st h Q
def vr_goto : Prop := ∀ (M : vM) (d c n pc : Nat) (ls : vL) (st : vT) (h : vH) (Q : vQ) (o : Int) (tgt : Nat), decode (mB M) pc = .ok (.goto o, 3) → (pc : Int) + o = (tgt : Int) → X M d c n tgt ls st h Q → X M d c n pc ls st h Q
def vr_tsw : Prop := ∀ (M : vM) (d c n pc : Nat) (ls : vL) (x : Int32) (st : vT) (h : vH) (Q : vQ) (dflt lo hi : Int) (offs : Array Int) (len : Nat) (o : Int) (tgt : Nat), decode (mB M) pc = .ok (.tableswitch dflt lo hi offs, len) → vm_tsw x dflt lo hi offs = some o → (pc : Int) + o = (tgt : Int) → X M d c n tgt ls st h Q → X M d c n pc ls (vI x :: st) h Q
def vr_lsw : Prop := ∀ (M : vM) (d c n pc : Nat) (ls : vL) (x : Int32) (st : vT) (h : vH) (Q : vQ) (dflt : Int) (ps : Array (Int × Int)) (len : Nat) (o : Int) (tgt : Nat), decode (mB M) pc = .ok (.lookupswitch dflt ps, len) → (ps.toList.zip (ps.toList.drop 1)).all (fun (a, next) => a.1 < next.1) = true → Op.lookupswitch.offset ps.toList dflt x.toInt = o → (pc : Int) + o = (tgt : Int) → X M d c n tgt ls st h Q → X M d c n pc ls (vI x :: st) h Q
def vr_ldc : Prop := ∀ (M : vM) (d c n pc : Nat) (ls : vL) (st : vT) (h : vH) (Q : vQ) (idx : Nat) (v : Int32), decode (mB M) pc = .ok (.ldc_w idx, 3) → Cond.constant (mO M) idx v ∈ vm_G → X M d c n (pc + 3) ls (vI v :: st) h Q → X M d c n pc ls st h Q
def vr_ldc2 : Prop := ∀ (M : vM) (d c n pc : Nat) (ls : vL) (st : vT) (h : vH) (Q : vQ) (idx : Nat) (v : Int64), decode (mB M) pc = .ok (.ldc2_w idx, 3) → Cond.constantLong (mO M) idx v ∈ vm_G → X M d c n (pc + 3) ls (vJ v :: st) h Q → X M d c n pc ls st h Q
def vr_get : Prop := ∀ (M : vM) (d c n pc : Nat) (ls : vL) (a : Nat) (st : vT) (h : vH) (Q : vQ) (idx ci k : Nat), decode (mB M) pc = .ok (.getfield idx, 3) → vm_Fok (mO M) idx ci k → (hK h)[a]? = some (ci, 0) → X M d c n (pc + 3) ls (vm_f h a k (vm_ft ci k) :: st) h Q → X M d c n pc ls (vR (some a) :: st) h Q
def vr_put : Prop := ∀ (M : vM) (d c n pc : Nat) (ls : vL) (v : vV) (a : Nat) (st : vT) (h : vH) (Q : vQ) (idx ci k : Nat), decode (mB M) pc = .ok (.putfield idx, 3) → vm_Fok (mO M) idx ci k → vm_fin ci k = false ∨ (mY M).name = "<init>" ∧ (∃ q : vw_C, vCls[ci]? = some q ∧ q.1 = mO M) ∧ (∃ q : vw_C, vCls[ci]? = some q ∧ Cond.fieldLink (mO M) idx q.1 (q.2.1 k).2.1 (q.2.1 k).2.2.1 ∈ vm_G) ∧ vm_fin ci k = true → (hK h)[a]? = some (ci, 0) → vm_fit (vm_ft ci k) v → X M d c n (pc + 3) ls st (vm_pf h a k v) Q → X M d c n pc ls (v :: vR (some a) :: st) h Q
def vr_ald : Prop := ∀ (M : vM) (d c n pc : Nat) (ls : vL) (i : Int32) (a : Nat) (st : vT) (h : vH) (Q : vQ) (ins : Instr) (t len : Nat), decode (mB M) pc = .ok (ins, 1) → (ins = .iaload ∧ t = 20 ∨ ins = .baload ∧ t = 21 ∨ ins = .caload ∧ t = 22) → (hK h)[a]? = some (t, len) → vp_in i len → X M d c n (pc + 1) ls (vI (hI h a i.toNatClampNeg) :: st) h Q → X M d c n pc ls (vI i :: vR (some a) :: st) h Q
def vr_lald : Prop := ∀ (M : vM) (d c n pc : Nat) (ls : vL) (i : Int32) (a : Nat) (st : vT) (h : vH) (Q : vQ) (len : Nat), decode (mB M) pc = .ok (.laload, 1) → (hK h)[a]? = some (23, len) → vp_in i len → X M d c n (pc + 1) ls (vJ (hL h a i.toNatClampNeg) :: st) h Q → X M d c n pc ls (vI i :: vR (some a) :: st) h Q
def vr_aald : Prop := ∀ (M : vM) (d c n pc : Nat) (ls : vL) (i : Int32) (a : Nat) (st : vT) (h : vH) (Q : vQ) (t len : Nat), decode (mB M) pc = .ok (.aaload, 1) → t = 24 ∨ t = 25 → (hK h)[a]? = some (t, len) → vp_in i len → X M d c n (pc + 1) ls (vR (hR h a i.toNatClampNeg) :: st) h Q → X M d c n pc ls (vI i :: vR (some a) :: st) h Q
def vr_ast : Prop := ∀ (M : vM) (d c n pc : Nat) (ls : vL) (x i : Int32) (a : Nat) (st : vT) (h : vH) (Q : vQ) (ins : Instr) (t len : Nat) (x' : Int32), decode (mB M) pc = .ok (ins, 1) → (ins = .iastore ∧ t = 20 ∧ x' = x ∨ ins = .bastore ∧ t = 21 ∧ x' = vp_nar .boolean x ∨ ins = .castore ∧ t = 22 ∧ x' = vp_nar .char x) → (hK h)[a]? = some (t, len) → vp_in i len → X M d c n (pc + 1) ls st (uI h a i.toNatClampNeg x') Q → X M d c n pc ls (vI x :: vI i :: vR (some a) :: st) h Q
def vr_last : Prop := ∀ (M : vM) (d c n pc : Nat) (ls : vL) (x : Int64) (i : Int32) (a : Nat) (st : vT) (h : vH) (Q : vQ) (len : Nat), decode (mB M) pc = .ok (.lastore, 1) → (hK h)[a]? = some (23, len) → vp_in i len → X M d c n (pc + 1) ls st (uL h a i.toNatClampNeg x) Q → X M d c n pc ls (vJ x :: vI i :: vR (some a) :: st) h Q
def vr_aast : Prop := ∀ (M : vM) (d c n pc : Nat) (ls : vL) (b : Nat) (i : Int32) (a : Nat) (st : vT) (h : vH) (Q : vQ) (t ci len : Nat), decode (mB M) pc = .ok (.aastore, 1) → (t = 24 ∧ ci = 7 ∨ t = 25 ∧ ci = 5) → (hK h)[a]? = some (t, len) → vp_in i len → (hK h)[b]? = some (ci, 0) → X M d c n (pc + 1) ls st (uR h a i.toNatClampNeg (some b)) Q → X M d c n pc ls (vR (some b) :: vI i :: vR (some a) :: st) h Q
def vr_sld : Prop := ∀ (M : vM) (d c n pc : Nat) (ls : vL) (i : Int32) (st : vT) (h : vH) (Q : vQ), decode (mB M) pc = .ok (.iaload, 1) → vp_in i (hX h).1 → X M d c n (pc + 1) ls (vI ((hX h).2 i.toNatClampNeg) :: st) h Q → X M d c n pc ls (vI i :: vX :: st) h Q
def vr_slen : Prop := ∀ (M : vM) (d c n pc : Nat) (ls : vL) (st : vT) (h : vH) (Q : vQ), decode (mB M) pc = .ok (.arraylength, 1) → X M d c n (pc + 1) ls (vI (Int32.ofNat (hX h).1) :: st) h Q → X M d c n pc ls (vX :: st) h Q
def vr_new : Prop := ∀ (M : vM) (d c n pc : Nat) (ls : vL) (st : vT) (h : vH) (Q : vQ) (idx ci : Nat) (q : vw_C), decode (mB M) pc = .ok (.new idx, 3) → vCls[ci]? = some q → Cond.classLink (mO M) idx q.1 ∈ vm_G → Cond.instantiable q.1 q.2.2 ∈ vm_G → Cond.initialized q.1 ∈ vm_G → 1 ≤ c → q.2.2 ≤ n → X M d (c - 1) (n - q.2.2) (pc + 3) ls (vR (some (hK h).length) :: st) (uN h (ci, 0)) Q → X M d c n pc ls st h Q
def vr_newa : Prop := ∀ (M : vM) (d c n pc : Nat) (ls : vL) (st : vT) (h : vH) (Q : vQ) (ty : ArrayType) (t N : Nat) (k : Int32), decode (mB M) pc = .ok (.newarray ty, 2) → (ty = .int ∧ t = 20 ∨ ty = .boolean ∧ t = 21 ∨ ty = .char ∧ t = 22 ∨ ty = .long ∧ t = 23) → ¬ k < 0 → k.toNatClampNeg = N → N ≤ 60000000 → 1 ≤ c → N ≤ n → X M d (c - 1) (n - N) (pc + 2) ls (vR (some (hK h).length) :: st) (uN h (t, N)) Q → X M d c n pc ls (vI k :: st) h Q
def vr_anew : Prop := ∀ (M : vM) (d c n pc : Nat) (ls : vL) (st : vT) (h : vH) (Q : vQ) (idx t N : Nat) (C : String) (k : Int32), decode (mB M) pc = .ok (.anewarray idx, 3) → (C = RX7 ∧ t = 24 ∨ C = RX5 ∧ t = 25) → Cond.classLink (mO M) idx C ∈ vm_G → ¬ k < 0 → k.toNatClampNeg = N → N ≤ 60000000 → 1 ≤ c → N ≤ n → X M d (c - 1) (n - N) (pc + 3) ls (vR (some (hK h).length) :: st) (uN h (t, N)) Q → X M d c n pc ls (vI k :: st) h Q
def vr_oin : Prop := ∀ (M : vM) (d c n pc : Nat) (ls : vL) (a : Nat) (st : vT) (h : vH) (Q : vQ) (idx : Nat), decode (mB M) pc = .ok (.invokespecial idx, 3) → Cond.methodLink (mO M) idx Lib.objectInit ∈ vm_G → vm_cats st ≤ 8 → 1 ≤ d → X M d c n (pc + 3) ls st h Q → X M d c n pc ls (vR (some a) :: st) h Q
def vr_inv : Prop := ∀ (M : vM) (d c n pc : Nat) (ls : vL) (a : Nat) (av st : vT) (h : vH) (Q : vQ) (idx ci c1 n1 : Nat) (K : vM) (R : vQ), decode (mB M) pc = .ok (.invokevirtual idx, 3) → vm_Mok K → vm_Lok (mO M) idx (mY K) → Cond.instanceMethod (mY K) ∈ vm_G → Cond.selects (mY K).cls (mY K) (mY K) ∈ vm_G → (∃ q : vw_C, vCls[ci]? = some q ∧ q.1 = (mY K).cls) → (hK h)[a]? = some (ci, 0) → av.length = mN K → (vm_sl (vR (some a) :: av)).length ≤ mL K → vm_cats st ≤ 8 → 1 ≤ d → c1 ≤ c → n1 ≤ n → X K (d - 1) c1 n1 0 (vm_ent (mL K) (vR (some a) :: av)) [] h R → (∀ r h', R r h' → X M d (c - c1) (n - n1) (pc + 3) ls (vm_end r ++ st) h' Q) → X M d c n pc ls (av.reverse ++ vR (some a) :: st) h Q
def vr_invS : Prop := ∀ (M : vM) (d c n pc : Nat) (ls : vL) (av st : vT) (h : vH) (Q : vQ) (idx c1 n1 : Nat) (K : vM) (R : vQ), decode (mB M) pc = .ok (.invokestatic idx, 3) → vm_Mok K → vm_Lok (mO M) idx (mY K) → Cond.static (mY K) ∈ vm_G → av.length = mN K → (vm_sl av).length ≤ mL K → vm_cats st ≤ 8 → 1 ≤ d → c1 ≤ c → n1 ≤ n → X K (d - 1) c1 n1 0 (vm_ent (mL K) av) [] h R → (∀ r h', R r h' → X M d (c - c1) (n - n1) (pc + 3) ls (vm_end r ++ st) h' Q) → X M d c n pc ls (av.reverse ++ st) h Q
def vr_invI : Prop := ∀ (M : vM) (d c n pc : Nat) (ls : vL) (a : Nat) (av st : vT) (h : vH) (Q : vQ) (idx c1 n1 : Nat) (K : vM) (R : vQ), decode (mB M) pc = .ok (.invokespecial idx, 3) → vm_Mok K → mT K = none → (mY K).name = "<init>" → vm_Lok (mO M) idx (mY K) → Cond.instanceMethod (mY K) ∈ vm_G → av.length = mN K → (vm_sl (vR (some a) :: av)).length ≤ mL K → vm_cats st ≤ 8 → 1 ≤ d → c1 ≤ c → n1 ≤ n → X K (d - 1) c1 n1 0 (vm_ent (mL K) (vR (some a) :: av)) [] h R → (∀ r h', R r h' → X M d (c - c1) (n - n1) (pc + 3) ls (vm_end r ++ st) h' Q) → X M d c n pc ls (av.reverse ++ vR (some a) :: st) h Q
def vr_end : Prop := ∀ (M : vM) (d c n pc : Nat) (ls : vL) (h : vH) (Q : vQ) (ins : Instr) (v : Option vV), decode (mB M) pc = .ok (ins, 1) → vm_ret M ins v → Q v h → X M d c n pc ls (vm_end v) h Q
def vr_min : Prop := ∀ (M : vM) (d c n pc : Nat) (ls : vL) (x y : Int32) (st : vT) (h : vH) (Q : vQ) (idx : Nat), decode (mB M) pc = .ok (.invokestatic idx, 3) → Cond.methodLink (mO M) idx Lib.Math.min.name ∈ vm_G → vm_cats st ≤ 8 → 1 ≤ d → X M d c n (pc + 3) ls (vI (if y < x then y else x) :: st) h Q → X M d c n pc ls (vI y :: vI x :: st) h Q
def vm_X : Prop := vr_op X ∧ vr_div X ∧ vr_rem X ∧ vr_br X ∧ vr_goto X ∧ vr_tsw X ∧ vr_lsw X ∧ vr_ldc X ∧ vr_ldc2 X ∧ vr_get X ∧ vr_put X ∧ vr_ald X ∧ vr_lald X ∧ vr_aald X ∧ vr_ast X ∧ vr_last X ∧ vr_aast X ∧ vr_sld X ∧ vr_slen X ∧ vr_new X ∧ vr_newa X ∧ vr_anew X ∧ vr_oin X ∧ vr_inv X ∧ vr_invS X ∧ vr_invI X ∧ vr_end X ∧ vr_min X
end VMR
/-- the machine comes from here to an end with Q -/
def vm_E (M : vM) (d c n pc : Nat) (ls : vL) (st : vT) (h : vH) (Q : vQ) : Prop := ∀ X : vP, vm_X X → X M d c n pc ls st h Q
/-- a call -/
def vm_C (K : vM) (d c n : Nat) (av : vT) (h : vH) (Q : vQ) : Prop := vm_E K d c n 0 (vm_ent (mL K) av) [] h Q
theorem ve_op {M : vM} {d c n pc : Nat} {ls : vL} {st : vT} {h : vH} {Q : vQ} {ins : Instr} {len : Nat} {ls' : vL} {st' : vT} (p0 : decode (mB M) pc = .ok (ins, len)) (p1 : vm_opR ins len ls st = some (ls', st')) (p2 : vm_E M d c n (pc + len) ls' st' h Q) : vm_E M d c n pc ls st h Q := fun X hX => hX.1 _ _ _ _ _ _ _ _ _ _ _ _ _ p0 p1 (p2 X hX)
theorem ve_div {M : vM} {d c n pc : Nat} {ls : vL} {x y : Int32} {st : vT} {h : vH} {Q : vQ} (p0 : decode (mB M) pc = .ok (.idiv, 1)) (p1 : ¬ y = 0) (p2 : vm_E M d c n (pc + 1) ls (vI (x / y) :: st) h Q) : vm_E M d c n pc ls (vI y :: vI x :: st) h Q := fun X hX => hX.2.1 _ _ _ _ _ _ _ _ _ _ _ p0 p1 (p2 X hX)
theorem ve_rem {M : vM} {d c n pc : Nat} {ls : vL} {x y : Int32} {st : vT} {h : vH} {Q : vQ} (p0 : decode (mB M) pc = .ok (.irem, 1)) (p1 : ¬ y = 0) (p2 : vm_E M d c n (pc + 1) ls (vI (x - x / y * y) :: st) h Q) : vm_E M d c n pc ls (vI y :: vI x :: st) h Q := fun X hX => hX.2.2.1 _ _ _ _ _ _ _ _ _ _ _ p0 p1 (p2 X hX)
theorem ve_br {M : vM} {d c n pc : Nat} {ls : vL} {st : vT} {h : vH} {Q : vQ} {ins : Instr} {P : Prop} {o : Int} {r : vT} {tgt : Nat} (p0 : decode (mB M) pc = .ok (ins, 3)) (p1 : vm_br ins st = some (P, o, r)) (p2 : (pc : Int) + o = (tgt : Int)) (p3 : (P → vm_E M d c n tgt ls r h Q)) (p4 : (¬ P → vm_E M d c n (pc + 3) ls r h Q)) : vm_E M d c n pc ls st h Q := fun X hX => hX.2.2.2.1 _ _ _ _ _ _ _ _ _ _ _ _ _ _ p0 p1 p2 (fun hc => p3 hc X hX) (fun hc => p4 hc X hX)
theorem ve_goto {M : vM} {d c n pc : Nat} {ls : vL} {st : vT} {h : vH} {Q : vQ} {o : Int} {tgt : Nat} (p0 : decode (mB M) pc = .ok (.goto o, 3)) (p1 : (pc : Int) + o = (tgt : Int)) (p2 : vm_E M d c n tgt ls st h Q) : vm_E M d c n pc ls st h Q := fun X hX => hX.2.2.2.2.1 _ _ _ _ _ _ _ _ _ _ _ p0 p1 (p2 X hX)
theorem ve_tsw {M : vM} {d c n pc : Nat} {ls : vL} {x : Int32} {st : vT} {h : vH} {Q : vQ} {dflt lo hi : Int} {offs : Array Int} {len : Nat} {o : Int} {tgt : Nat} (p0 : decode (mB M) pc = .ok (.tableswitch dflt lo hi offs, len)) (p1 : vm_tsw x dflt lo hi offs = some o) (p2 : (pc : Int) + o = (tgt : Int)) (p3 : vm_E M d c n tgt ls st h Q) : vm_E M d c n pc ls (vI x :: st) h Q := fun X hX => hX.2.2.2.2.2.1 _ _ _ _ _ _ _ _ _ _ _ _ _ _ _ _ _ p0 p1 p2 (p3 X hX)
theorem ve_lsw {M : vM} {d c n pc : Nat} {ls : vL} {x : Int32} {st : vT} {h : vH} {Q : vQ} {dflt : Int} {ps : Array (Int × Int)} {len : Nat} {o : Int} {tgt : Nat} (p0 : decode (mB M) pc = .ok (.lookupswitch dflt ps, len)) (p1 : (ps.toList.zip (ps.toList.drop 1)).all (fun (a, next) => a.1 < next.1) = true) (p2 : Op.lookupswitch.offset ps.toList dflt x.toInt = o) (p3 : (pc : Int) + o = (tgt : Int)) (p4 : vm_E M d c n tgt ls st h Q) : vm_E M d c n pc ls (vI x :: st) h Q := fun X hX => hX.2.2.2.2.2.2.1 _ _ _ _ _ _ _ _ _ _ _ _ _ _ _ p0 p1 p2 p3 (p4 X hX)
theorem ve_ldc {M : vM} {d c n pc : Nat} {ls : vL} {st : vT} {h : vH} {Q : vQ} {idx : Nat} {v : Int32} (p0 : decode (mB M) pc = .ok (.ldc_w idx, 3)) (p1 : Cond.constant (mO M) idx v ∈ vm_G) (p2 : vm_E M d c n (pc + 3) ls (vI v :: st) h Q) : vm_E M d c n pc ls st h Q := fun X hX => hX.2.2.2.2.2.2.2.1 _ _ _ _ _ _ _ _ _ _ _ p0 p1 (p2 X hX)
theorem ve_ldc2 {M : vM} {d c n pc : Nat} {ls : vL} {st : vT} {h : vH} {Q : vQ} {idx : Nat} {v : Int64} (p0 : decode (mB M) pc = .ok (.ldc2_w idx, 3)) (p1 : Cond.constantLong (mO M) idx v ∈ vm_G) (p2 : vm_E M d c n (pc + 3) ls (vJ v :: st) h Q) : vm_E M d c n pc ls st h Q := fun X hX => hX.2.2.2.2.2.2.2.2.1 _ _ _ _ _ _ _ _ _ _ _ p0 p1 (p2 X hX)
theorem ve_get {M : vM} {d c n pc : Nat} {ls : vL} {a : Nat} {st : vT} {h : vH} {Q : vQ} {idx ci k : Nat} (p0 : decode (mB M) pc = .ok (.getfield idx, 3)) (p1 : vm_Fok (mO M) idx ci k) (p2 : (hK h)[a]? = some (ci, 0)) (p3 : vm_E M d c n (pc + 3) ls (vm_f h a k (vm_ft ci k) :: st) h Q) : vm_E M d c n pc ls (vR (some a) :: st) h Q := fun X hX => hX.2.2.2.2.2.2.2.2.2.1 _ _ _ _ _ _ _ _ _ _ _ _ _ p0 p1 p2 (p3 X hX)
theorem ve_put {M : vM} {d c n pc : Nat} {ls : vL} {v : vV} {a : Nat} {st : vT} {h : vH} {Q : vQ} {idx ci k : Nat} (p0 : decode (mB M) pc = .ok (.putfield idx, 3)) (p1 : vm_Fok (mO M) idx ci k) (p2 : vm_fin ci k = false ∨ (mY M).name = "<init>" ∧ (∃ q : vw_C, vCls[ci]? = some q ∧ q.1 = mO M) ∧ (∃ q : vw_C, vCls[ci]? = some q ∧ Cond.fieldLink (mO M) idx q.1 (q.2.1 k).2.1 (q.2.1 k).2.2.1 ∈ vm_G) ∧ vm_fin ci k = true) (p3 : (hK h)[a]? = some (ci, 0)) (p4 : vm_fit (vm_ft ci k) v) (p5 : vm_E M d c n (pc + 3) ls st (vm_pf h a k v) Q) : vm_E M d c n pc ls (v :: vR (some a) :: st) h Q := fun X hX => hX.2.2.2.2.2.2.2.2.2.2.1 _ _ _ _ _ _ _ _ _ _ _ _ _ _ p0 p1 p2 p3 p4 (p5 X hX)
theorem ve_ald {M : vM} {d c n pc : Nat} {ls : vL} {i : Int32} {a : Nat} {st : vT} {h : vH} {Q : vQ} {ins : Instr} {t len : Nat} (p0 : decode (mB M) pc = .ok (ins, 1)) (p1 : (ins = .iaload ∧ t = 20 ∨ ins = .baload ∧ t = 21 ∨ ins = .caload ∧ t = 22)) (p2 : (hK h)[a]? = some (t, len)) (p3 : vp_in i len) (p4 : vm_E M d c n (pc + 1) ls (vI (hI h a i.toNatClampNeg) :: st) h Q) : vm_E M d c n pc ls (vI i :: vR (some a) :: st) h Q := fun X hX => hX.2.2.2.2.2.2.2.2.2.2.2.1 _ _ _ _ _ _ _ _ _ _ _ _ _ _ p0 p1 p2 p3 (p4 X hX)
theorem ve_lald {M : vM} {d c n pc : Nat} {ls : vL} {i : Int32} {a : Nat} {st : vT} {h : vH} {Q : vQ} {len : Nat} (p0 : decode (mB M) pc = .ok (.laload, 1)) (p1 : (hK h)[a]? = some (23, len)) (p2 : vp_in i len) (p3 : vm_E M d c n (pc + 1) ls (vJ (hL h a i.toNatClampNeg) :: st) h Q) : vm_E M d c n pc ls (vI i :: vR (some a) :: st) h Q := fun X hX => hX.2.2.2.2.2.2.2.2.2.2.2.2.1 _ _ _ _ _ _ _ _ _ _ _ _ p0 p1 p2 (p3 X hX)
theorem ve_aald {M : vM} {d c n pc : Nat} {ls : vL} {i : Int32} {a : Nat} {st : vT} {h : vH} {Q : vQ} {t len : Nat} (p0 : decode (mB M) pc = .ok (.aaload, 1)) (p1 : t = 24 ∨ t = 25) (p2 : (hK h)[a]? = some (t, len)) (p3 : vp_in i len) (p4 : vm_E M d c n (pc + 1) ls (vR (hR h a i.toNatClampNeg) :: st) h Q) : vm_E M d c n pc ls (vI i :: vR (some a) :: st) h Q := fun X hX => hX.2.2.2.2.2.2.2.2.2.2.2.2.2.1 _ _ _ _ _ _ _ _ _ _ _ _ _ p0 p1 p2 p3 (p4 X hX)
theorem ve_ast {M : vM} {d c n pc : Nat} {ls : vL} {x i : Int32} {a : Nat} {st : vT} {h : vH} {Q : vQ} {ins : Instr} {t len : Nat} {x' : Int32} (p0 : decode (mB M) pc = .ok (ins, 1)) (p1 : (ins = .iastore ∧ t = 20 ∧ x' = x ∨ ins = .bastore ∧ t = 21 ∧ x' = vp_nar .boolean x ∨ ins = .castore ∧ t = 22 ∧ x' = vp_nar .char x)) (p2 : (hK h)[a]? = some (t, len)) (p3 : vp_in i len) (p4 : vm_E M d c n (pc + 1) ls st (uI h a i.toNatClampNeg x') Q) : vm_E M d c n pc ls (vI x :: vI i :: vR (some a) :: st) h Q := fun X hX => hX.2.2.2.2.2.2.2.2.2.2.2.2.2.2.1 _ _ _ _ _ _ _ _ _ _ _ _ _ _ _ _ p0 p1 p2 p3 (p4 X hX)
theorem ve_last {M : vM} {d c n pc : Nat} {ls : vL} {x : Int64} {i : Int32} {a : Nat} {st : vT} {h : vH} {Q : vQ} {len : Nat} (p0 : decode (mB M) pc = .ok (.lastore, 1)) (p1 : (hK h)[a]? = some (23, len)) (p2 : vp_in i len) (p3 : vm_E M d c n (pc + 1) ls st (uL h a i.toNatClampNeg x) Q) : vm_E M d c n pc ls (vJ x :: vI i :: vR (some a) :: st) h Q := fun X hX => hX.2.2.2.2.2.2.2.2.2.2.2.2.2.2.2.1 _ _ _ _ _ _ _ _ _ _ _ _ _ p0 p1 p2 (p3 X hX)
theorem ve_aast {M : vM} {d c n pc : Nat} {ls : vL} {b : Nat} {i : Int32} {a : Nat} {st : vT} {h : vH} {Q : vQ} {t ci len : Nat} (p0 : decode (mB M) pc = .ok (.aastore, 1)) (p1 : (t = 24 ∧ ci = 7 ∨ t = 25 ∧ ci = 5)) (p2 : (hK h)[a]? = some (t, len)) (p3 : vp_in i len) (p4 : (hK h)[b]? = some (ci, 0)) (p5 : vm_E M d c n (pc + 1) ls st (uR h a i.toNatClampNeg (some b)) Q) : vm_E M d c n pc ls (vR (some b) :: vI i :: vR (some a) :: st) h Q := fun X hX => hX.2.2.2.2.2.2.2.2.2.2.2.2.2.2.2.2.1 _ _ _ _ _ _ _ _ _ _ _ _ _ _ _ p0 p1 p2 p3 p4 (p5 X hX)
theorem ve_sld {M : vM} {d c n pc : Nat} {ls : vL} {i : Int32} {st : vT} {h : vH} {Q : vQ} (p0 : decode (mB M) pc = .ok (.iaload, 1)) (p1 : vp_in i (hX h).1) (p2 : vm_E M d c n (pc + 1) ls (vI ((hX h).2 i.toNatClampNeg) :: st) h Q) : vm_E M d c n pc ls (vI i :: vX :: st) h Q := fun X hX => hX.2.2.2.2.2.2.2.2.2.2.2.2.2.2.2.2.2.1 _ _ _ _ _ _ _ _ _ _ p0 p1 (p2 X hX)
theorem ve_slen {M : vM} {d c n pc : Nat} {ls : vL} {st : vT} {h : vH} {Q : vQ} (p0 : decode (mB M) pc = .ok (.arraylength, 1)) (p1 : vm_E M d c n (pc + 1) ls (vI (Int32.ofNat (hX h).1) :: st) h Q) : vm_E M d c n pc ls (vX :: st) h Q := fun X hX => hX.2.2.2.2.2.2.2.2.2.2.2.2.2.2.2.2.2.2.1 _ _ _ _ _ _ _ _ _ p0 (p1 X hX)
theorem ve_new {M : vM} {d c n pc : Nat} {ls : vL} {st : vT} {h : vH} {Q : vQ} {idx ci : Nat} {q : vw_C} (p0 : decode (mB M) pc = .ok (.new idx, 3)) (p1 : vCls[ci]? = some q) (p2 : Cond.classLink (mO M) idx q.1 ∈ vm_G) (p3 : Cond.instantiable q.1 q.2.2 ∈ vm_G) (p4 : Cond.initialized q.1 ∈ vm_G) (p5 : 1 ≤ c) (p6 : q.2.2 ≤ n) (p7 : vm_E M d (c - 1) (n - q.2.2) (pc + 3) ls (vR (some (hK h).length) :: st) (uN h (ci, 0)) Q) : vm_E M d c n pc ls st h Q := fun X hX => hX.2.2.2.2.2.2.2.2.2.2.2.2.2.2.2.2.2.2.2.1 _ _ _ _ _ _ _ _ _ _ _ _ p0 p1 p2 p3 p4 p5 p6 (p7 X hX)
theorem ve_newa {M : vM} {d c n pc : Nat} {ls : vL} {st : vT} {h : vH} {Q : vQ} {ty : ArrayType} {t N : Nat} {k : Int32} (p0 : decode (mB M) pc = .ok (.newarray ty, 2)) (p1 : (ty = .int ∧ t = 20 ∨ ty = .boolean ∧ t = 21 ∨ ty = .char ∧ t = 22 ∨ ty = .long ∧ t = 23)) (p2 : ¬ k < 0) (p3 : k.toNatClampNeg = N) (p4 : N ≤ 60000000) (p5 : 1 ≤ c) (p6 : N ≤ n) (p7 : vm_E M d (c - 1) (n - N) (pc + 2) ls (vR (some (hK h).length) :: st) (uN h (t, N)) Q) : vm_E M d c n pc ls (vI k :: st) h Q := fun X hX => hX.2.2.2.2.2.2.2.2.2.2.2.2.2.2.2.2.2.2.2.2.1 _ _ _ _ _ _ _ _ _ _ _ _ _ p0 p1 p2 p3 p4 p5 p6 (p7 X hX)
theorem ve_anew {M : vM} {d c n pc : Nat} {ls : vL} {st : vT} {h : vH} {Q : vQ} {idx t N : Nat} {C : String} {k : Int32} (p0 : decode (mB M) pc = .ok (.anewarray idx, 3)) (p1 : (C = RX7 ∧ t = 24 ∨ C = RX5 ∧ t = 25)) (p2 : Cond.classLink (mO M) idx C ∈ vm_G) (p3 : ¬ k < 0) (p4 : k.toNatClampNeg = N) (p5 : N ≤ 60000000) (p6 : 1 ≤ c) (p7 : N ≤ n) (p8 : vm_E M d (c - 1) (n - N) (pc + 3) ls (vR (some (hK h).length) :: st) (uN h (t, N)) Q) : vm_E M d c n pc ls (vI k :: st) h Q := fun X hX => hX.2.2.2.2.2.2.2.2.2.2.2.2.2.2.2.2.2.2.2.2.2.1 _ _ _ _ _ _ _ _ _ _ _ _ _ _ p0 p1 p2 p3 p4 p5 p6 p7 (p8 X hX)
theorem ve_oin {M : vM} {d c n pc : Nat} {ls : vL} {a : Nat} {st : vT} {h : vH} {Q : vQ} {idx : Nat} (p0 : decode (mB M) pc = .ok (.invokespecial idx, 3)) (p1 : Cond.methodLink (mO M) idx Lib.objectInit ∈ vm_G) (p2 : vm_cats st ≤ 8) (p3 : 1 ≤ d) (p4 : vm_E M d c n (pc + 3) ls st h Q) : vm_E M d c n pc ls (vR (some a) :: st) h Q := fun X hX => hX.2.2.2.2.2.2.2.2.2.2.2.2.2.2.2.2.2.2.2.2.2.2.1 _ _ _ _ _ _ _ _ _ _ _ p0 p1 p2 p3 (p4 X hX)
theorem ve_inv {M : vM} {d c n pc : Nat} {ls : vL} {a : Nat} {av st : vT} {h : vH} {Q : vQ} {idx ci c1 n1 : Nat} {K : vM} {R : vQ} (p0 : decode (mB M) pc = .ok (.invokevirtual idx, 3)) (p1 : vm_Mok K) (p2 : vm_Lok (mO M) idx (mY K)) (p3 : Cond.instanceMethod (mY K) ∈ vm_G) (p4 : Cond.selects (mY K).cls (mY K) (mY K) ∈ vm_G) (p5 : (∃ q : vw_C, vCls[ci]? = some q ∧ q.1 = (mY K).cls)) (p6 : (hK h)[a]? = some (ci, 0)) (p7 : av.length = mN K) (p8 : (vm_sl (vR (some a) :: av)).length ≤ mL K) (p9 : vm_cats st ≤ 8) (p10 : 1 ≤ d) (p11 : c1 ≤ c) (p12 : n1 ≤ n) (p13 : vm_E K (d - 1) c1 n1 0 (vm_ent (mL K) (vR (some a) :: av)) [] h R) (p14 : (∀ r h', R r h' → vm_E M d (c - c1) (n - n1) (pc + 3) ls (vm_end r ++ st) h' Q)) : vm_E M d c n pc ls (av.reverse ++ vR (some a) :: st) h Q := fun X hX => hX.2.2.2.2.2.2.2.2.2.2.2.2.2.2.2.2.2.2.2.2.2.2.2.1 _ _ _ _ _ _ _ _ _ _ _ _ _ _ _ _ _ p0 p1 p2 p3 p4 p5 p6 p7 p8 p9 p10 p11 p12 (p13 X hX) (fun r h' hr => p14 r h' hr X hX)
theorem ve_invS {M : vM} {d c n pc : Nat} {ls : vL} {av st : vT} {h : vH} {Q : vQ} {idx c1 n1 : Nat} {K : vM} {R : vQ} (p0 : decode (mB M) pc = .ok (.invokestatic idx, 3)) (p1 : vm_Mok K) (p2 : vm_Lok (mO M) idx (mY K)) (p3 : Cond.static (mY K) ∈ vm_G) (p4 : av.length = mN K) (p5 : (vm_sl av).length ≤ mL K) (p6 : vm_cats st ≤ 8) (p7 : 1 ≤ d) (p8 : c1 ≤ c) (p9 : n1 ≤ n) (p10 : vm_E K (d - 1) c1 n1 0 (vm_ent (mL K) av) [] h R) (p11 : (∀ r h', R r h' → vm_E M d (c - c1) (n - n1) (pc + 3) ls (vm_end r ++ st) h' Q)) : vm_E M d c n pc ls (av.reverse ++ st) h Q := fun X hX => hX.2.2.2.2.2.2.2.2.2.2.2.2.2.2.2.2.2.2.2.2.2.2.2.2.1 _ _ _ _ _ _ _ _ _ _ _ _ _ _ _ p0 p1 p2 p3 p4 p5 p6 p7 p8 p9 (p10 X hX) (fun r h' hr => p11 r h' hr X hX)
theorem ve_invI {M : vM} {d c n pc : Nat} {ls : vL} {a : Nat} {av st : vT} {h : vH} {Q : vQ} {idx c1 n1 : Nat} {K : vM} {R : vQ} (p0 : decode (mB M) pc = .ok (.invokespecial idx, 3)) (p1 : vm_Mok K) (p2 : mT K = none) (p3 : (mY K).name = "<init>") (p4 : vm_Lok (mO M) idx (mY K)) (p5 : Cond.instanceMethod (mY K) ∈ vm_G) (p6 : av.length = mN K) (p7 : (vm_sl (vR (some a) :: av)).length ≤ mL K) (p8 : vm_cats st ≤ 8) (p9 : 1 ≤ d) (p10 : c1 ≤ c) (p11 : n1 ≤ n) (p12 : vm_E K (d - 1) c1 n1 0 (vm_ent (mL K) (vR (some a) :: av)) [] h R) (p13 : (∀ r h', R r h' → vm_E M d (c - c1) (n - n1) (pc + 3) ls (vm_end r ++ st) h' Q)) : vm_E M d c n pc ls (av.reverse ++ vR (some a) :: st) h Q := fun X hX => hX.2.2.2.2.2.2.2.2.2.2.2.2.2.2.2.2.2.2.2.2.2.2.2.2.2.1 _ _ _ _ _ _ _ _ _ _ _ _ _ _ _ _ p0 p1 p2 p3 p4 p5 p6 p7 p8 p9 p10 p11 (p12 X hX) (fun r h' hr => p13 r h' hr X hX)
theorem ve_end {M : vM} {d c n pc : Nat} {ls : vL} {h : vH} {Q : vQ} {ins : Instr} {v : Option vV} (p0 : decode (mB M) pc = .ok (ins, 1)) (p1 : vm_ret M ins v) (p2 : Q v h) : vm_E M d c n pc ls (vm_end v) h Q := fun X hX => hX.2.2.2.2.2.2.2.2.2.2.2.2.2.2.2.2.2.2.2.2.2.2.2.2.2.2.1 _ _ _ _ _ _ _ _ _ _ p0 p1 p2
theorem ve_min {M : vM} {d c n pc : Nat} {ls : vL} {x y : Int32} {st : vT} {h : vH} {Q : vQ} {idx : Nat} (p0 : decode (mB M) pc = .ok (.invokestatic idx, 3)) (p1 : Cond.methodLink (mO M) idx Lib.Math.min.name ∈ vm_G) (p2 : vm_cats st ≤ 8) (p3 : 1 ≤ d) (p4 : vm_E M d c n (pc + 3) ls (vI (if y < x then y else x) :: st) h Q) : vm_E M d c n pc ls (vI y :: vI x :: st) h Q := fun X hX => hX.2.2.2.2.2.2.2.2.2.2.2.2.2.2.2.2.2.2.2.2.2.2.2.2.2.2.2 _ _ _ _ _ _ _ _ _ _ _ _ p0 p1 p2 p3 (p4 X hX)
