/-! ===== THE REAL MACHINE FOLLOWS THE VIRTUAL ONE: vm_S is closed under all rules ===== -/
def vm_sh (B b : Nat) (v : vV) : Value := match v with
  | .inl x => .int x
  | .inr (.inl y) => .long y
  | .inr (.inr (.inl r)) => va_rf (r.map (fun a => B + a))
  | .inr (.inr (.inr _)) => .ref b
theorem vm_sh_cat (B b : Nat) (v : vV) : (vm_sh B b v).category = bif vm_c2 v then 2 else 1 := by
  obtain x | y | (_ | r) | u := v <;> rfl
theorem vm_sh_c2 {B b : Nat} {v : vV} (h : vm_c2 v = true) : (vm_sh B b v).category = 2 := by rw [vm_sh_cat, h]; rfl
theorem vm_sh_c1 {B b : Nat} {v : vV} (h : vm_c2 v = false) : (vm_sh B b v).category = 1 := by rw [vm_sh_cat, h]; rfl
theorem vm_cats_eq (B b : Nat) : ∀ st : vT, ((st.map (vm_sh B b)).map fun v => v.category).sum = vm_cats st
  | [] => rfl
  | v :: r => by simp only [List.map_cons, List.sum_cons, vm_cats, vm_sh_cat, vm_cats_eq B b r]
def vm_cE (B b : Nat) (dT : Nat → ClassId) (h : vH) (a : Nat) (kd : Nat × Nat) : va_E :=
  if kd.1 < 20 then .inr (kd.1, (List.range (vm_n kd.1)).map (fun k => vm_sh B b (vm_f h a k (vm_ft kd.1 k))))
  else .inl (dT kd.1, kd.2, if kd.1 < 23 then .inl (hI h a) else if kd.1 = 23 then .inr (.inl (hL h a)) else .inr (.inr (.inr (.inr (fun j => (hR h a j).map (fun a => B + a))))))
def vm_W (B b : Nat) (dT : Nat → ClassId) (h : vH) : va_W := (hK h).zipIdx.map (fun q => (B + q.2, vm_cE B b dT h q.2 q.1))
theorem vm_W_get (B b : Nat) (dT : Nat → ClassId) (h : vH) (k : Nat) : (vm_W B b dT h)[k]? = (hK h)[k]?.map (fun kd => (B + k, vm_cE B b dT h k kd)) := by
  unfold vm_W
  rw [List.getElem?_map, List.getElem?_zipIdx, Option.map_map]
  simp [Function.comp_def]
theorem vm_W_at {B b : Nat} {dT : Nat → ClassId} {h : vH} {k : Nat} {kd : Nat × Nat} (hk : (hK h)[k]? = some kd) : (vm_W B b dT h)[k]? = some (B + k, vm_cE B b dT h k kd) := by
  rw [vm_W_get, hk]; rfl
theorem vm_W_set {B b : Nat} {dT : Nat → ClassId} {h h' : vH} {a : Nat} {kd : Nat × Nat} (hk : (hK h)[a]? = some kd) (he : hK h' = hK h) (ho : ∀ (q : Nat) (kq : Nat × Nat), q ≠ a → vm_cE B b dT h' q kq = vm_cE B b dT h q kq) : (vm_W B b dT h).set a (B + a, vm_cE B b dT h' a kd) = vm_W B b dT h' := by
  apply List.ext_getElem?
  intro i
  rw [vm_W_get, he]
  by_cases hi : i = a
  · subst hi
    have hl : i < (vm_W B b dT h).length := (List.getElem?_eq_some_iff.mp (vm_W_at (B := B) (b := b) (dT := dT) hk)).1
    rw [List.getElem?_set_self hl, hk]
    rfl
  · rw [List.getElem?_set_ne (Ne.symm hi), vm_W_get]
    cases (hK h)[i]? with
    | none => rfl
    | some kq => simp only [Option.map_some, ho i kq hi]
theorem vm_W_D (B b : Nat) (dT : Nat → ClassId) (h : vH) : va_D (fun q => B ≤ q) (vm_W B b dT h) := by
  refine ⟨fun i j p q hi hj hpq => ?_, fun k q hk => ?_⟩
  · rw [vm_W_get] at hi hj
    cases h1 : (hK h)[i]? with
    | none => rw [h1] at hi; cases hi
    | some k1 =>
      cases h2 : (hK h)[j]? with
      | none => rw [h2] at hj; cases hj
      | some k2 =>
        rw [h1] at hi; rw [h2] at hj
        cases hi; cases hj
        have h3 : B + i = B + j := hpq
        omega
  · rw [vm_W_get] at hk
    cases h1 : (hK h)[k]? with
    | none => rw [h1] at hk; cases hk
    | some k1 =>
      rw [h1] at hk
      cases hk
      exact Nat.le_add_right _ _
def vm_ty (dT : Nat → ClassId) : List (ClassId × FieldType) := [(dT 20, .int), (dT 21, .boolean), (dT 22, .char), (dT 23, .long), (dT 24, .object RX7), (dT 25, .object RX5)]
def vm_LR (B b nL : Nat) (ls : vL) (LS : Array Slot) : Prop := ls.length = nL ∧ LS.size = nL ∧ lv_wf LS ∧ ∀ (i : Nat) (v : vV), ls[i]? = some (some v) → LS[i]? = some (.val (vm_sh B b v))
def vm_pr (B b : Nat) (ls : vL) : List (Nat × Value) := ls.zipIdx.filterMap (fun q => q.1.map (fun v => (q.2, vm_sh B b v)))
theorem vm_pr_mem {B b : Nat} {ls : vL} {q : Nat × Value} : q ∈ vm_pr B b ls ↔ ∃ v, ls[q.1]? = some (some v) ∧ q.2 = vm_sh B b v := by
  unfold vm_pr
  rw [List.mem_filterMap]
  constructor
  · rintro ⟨⟨o, i⟩, hm, he⟩
    have hi := List.mem_zipIdx_iff_getElem?.mp hm
    cases o with
    | none => cases he
    | some v => cases he; exact ⟨v, hi, rfl⟩
  · rintro ⟨v, h1, h2⟩
    refine ⟨(some v, q.1), List.mem_zipIdx_iff_getElem?.mpr h1, ?_⟩
    show some (q.1, vm_sh B b v) = some q
    rw [← h2]
theorem vm_LR.has {B b nL : Nat} {ls : vL} {LS : Array Slot} (h : vm_LR B b nL ls LS) : lv_has LS nL (vm_pr B b ls) := by
  refine ⟨h.2.1, h.2.2.1, fun q hq => ?_⟩
  obtain ⟨v, h1, h2⟩ := vm_pr_mem.mp hq
  rw [h2]
  exact h.2.2.2 _ _ h1
theorem vm_kl_len (ls : vL) (i : Nat) : (vm_kl ls i).length = ls.length := by
  unfold vm_kl
  split
  · rfl
  · split
    · exact List.length_set
    · rfl
theorem vm_kl_get {ls : vL} {i j : Nat} {w : vV} (h : (vm_kl ls i)[j]? = some (some w)) : ls[j]? = some (some w) ∧ ¬ (j + 1 = i ∧ vm_c2 w = true) := by
  unfold vm_kl at h
  split at h
  · exact ⟨h, by omega⟩
  · rename_i k
    split at h
    · rename_i y hy
      by_cases hjk : j = k
      · subst hjk
        have hl := (List.getElem?_eq_some_iff.mp hy).1
        rw [List.getElem?_set_self hl] at h
        cases h
      · rw [List.getElem?_set_ne (fun e => hjk e.symm)] at h
        exact ⟨h, by omega⟩
    · rename_i hn
      refine ⟨h, fun hh => ?_⟩
      have e : j = k := by omega
      subst e
      obtain x | y | z := w
      · cases hh.2
      · exact hn y h
      · cases z <;> cases hh.2
theorem vm_LR.st1 {B b nL : Nat} {ls l : vL} {LS LS' : Array Slot} {i : Nat} {v : vV} (h : vm_LR B b nL ls LS) (hs : vm_s1 ls i v = some l)
    (h' : lv_has LS' nL ((i, vm_sh B b v) :: (vm_pr B b ls).filter (fun q => !(q.1 == i) && !(q.1 + 1 == i && q.2.category == 2)))) : vm_LR B b nL l LS' := by
  unfold vm_s1 at hs
  split at hs
  · rename_i o ho
    cases hs
    have hil := (List.getElem?_eq_some_iff.mp ho).1
    refine ⟨by rw [List.length_set, vm_kl_len]; exact h.1, h'.1, h'.2.1, fun j w hj => ?_⟩
    by_cases hji : j = i
    · subst hji
      rw [List.getElem?_set_self (by rw [vm_kl_len]; exact hil)] at hj
      cases hj
      exact h'.2.2 _ List.mem_cons_self
    · rw [List.getElem?_set_ne (fun e => hji e.symm)] at hj
      obtain ⟨h1, h2⟩ := vm_kl_get hj
      refine h'.2.2 (j, vm_sh B b w) (List.mem_cons_of_mem _ (List.mem_filter.mpr ⟨vm_pr_mem.mpr ⟨w, h1, rfl⟩, ?_⟩))
      have hc : ¬ (j + 1 = i ∧ (vm_sh B b w).category = 2) := fun hh => h2 ⟨hh.1, by
        cases hw : vm_c2 w with
        | true => rfl
        | false => have := vm_sh_c1 (B := B) (b := b) hw; omega⟩
      by_cases h5 : j + 1 = i
      · have h6 : ¬ (vm_sh B b w).category = 2 := fun e => hc ⟨h5, e⟩
        simp [hji, h6]
      · simp [hji, h5]
  · cases hs
theorem vm_LR.lt1 {B b nL : Nat} {ls l : vL} {LS : Array Slot} {i : Nat} {v : vV} (h : vm_LR B b nL ls LS) (hs : vm_s1 ls i v = some l) : i < nL := by
  unfold vm_s1 at hs
  split at hs
  · rename_i o ho
    rw [← h.1]; exact (List.getElem?_eq_some_iff.mp ho).1
  · cases hs
theorem vm_LR.lt2 {B b nL : Nat} {ls l : vL} {LS : Array Slot} {i : Nat} {v : vV} (h : vm_LR B b nL ls LS) (hs : vm_s2 ls i v = some l) : i + 1 < nL := by
  unfold vm_s2 at hs
  split at hs
  · rename_i o ho
    rw [← h.1]; exact (List.getElem?_eq_some_iff.mp ho).1
  · cases hs
theorem vm_LR.st2 {B b nL : Nat} {ls l : vL} {LS LS' : Array Slot} {i : Nat} {v : vV} (h : vm_LR B b nL ls LS) (hs : vm_s2 ls i v = some l)
    (h' : lv_has LS' nL ((i, vm_sh B b v) :: (vm_pr B b ls).filter (fun q => !(q.1 == i) && (!(q.1 == i + 1) && !(q.1 + 1 == i && q.2.category == 2))))) : vm_LR B b nL l LS' := by
  unfold vm_s2 at hs
  split at hs
  · rename_i o ho
    cases hs
    have hil := (List.getElem?_eq_some_iff.mp ho).1
    refine ⟨by rw [List.length_set, List.length_set, vm_kl_len]; exact h.1, h'.1, h'.2.1, fun j w hj => ?_⟩
    by_cases hj1 : j = i + 1
    · subst hj1
      rw [List.getElem?_set_self (by rw [List.length_set, vm_kl_len]; exact hil)] at hj
      cases hj
    rw [List.getElem?_set_ne (fun e => hj1 e.symm)] at hj
    by_cases hji : j = i
    · subst hji
      rw [List.getElem?_set_self (by rw [vm_kl_len]; omega)] at hj
      cases hj
      exact h'.2.2 _ List.mem_cons_self
    · rw [List.getElem?_set_ne (fun e => hji e.symm)] at hj
      obtain ⟨h1, h2⟩ := vm_kl_get hj
      refine h'.2.2 (j, vm_sh B b w) (List.mem_cons_of_mem _ (List.mem_filter.mpr ⟨vm_pr_mem.mpr ⟨w, h1, rfl⟩, ?_⟩))
      have hc : ¬ (j + 1 = i ∧ (vm_sh B b w).category = 2) := fun hh => h2 ⟨hh.1, by
        cases hw : vm_c2 w with
        | true => rfl
        | false => have := vm_sh_c1 (B := B) (b := b) hw; omega⟩
      by_cases h5 : j + 1 = i
      · have h6 : ¬ (vm_sh B b w).category = 2 := fun e => hc ⟨h5, e⟩
        simp [hji, hj1, h6]
      · simp [hji, hj1, h5]
  · cases hs
theorem vm_sl_args (B b : Nat) : ∀ (av : vT) (k : Nat) (i : Nat) (v : vV), (vm_sl av)[i]? = some (some v) → (k + i, vm_sh B b v) ∈ lv_args k (av.map (vm_sh B b))
  | [], _, _, _, h => by simp [vm_sl] at h
  | w :: r, k, i, v, h => by
    change (bif vm_c2 w then some w :: none :: vm_sl r else some w :: vm_sl r)[i]? = some (some v) at h
    show (k + i, vm_sh B b v) ∈ (k, vm_sh B b w) :: lv_args (if (vm_sh B b w).category = 2 then k + 2 else k + 1) (r.map (vm_sh B b))
    cases hc : vm_c2 w with
    | true =>
      rw [hc, cond_true] at h
      rw [vm_sh_c2 hc, if_pos rfl]
      match i, h with
      | 0, h => cases h; exact List.mem_cons_self
      | 1, h => cases h
      | j + 2, h =>
        have h1 := vm_sl_args B b r (k + 2) j v (by simpa using h)
        rw [show k + (j + 2) = k + 2 + j by omega]
        exact List.mem_cons_of_mem _ h1
    | false =>
      rw [hc, cond_false] at h
      rw [vm_sh_c1 hc, if_neg (by decide)]
      match i, h with
      | 0, h => cases h; exact List.mem_cons_self
      | j + 1, h =>
        have h1 := vm_sl_args B b r (k + 1) j v (by simpa using h)
        rw [show k + (j + 1) = k + 1 + j by omega]
        exact List.mem_cons_of_mem _ h1
theorem vm_sl_len (B b : Nat) : ∀ av : vT, (lg_sl (av.map (vm_sh B b))).length = (vm_sl av).length
  | [] => rfl
  | v :: r => by
    have h := vm_sl_len B b r
    unfold lg_sl at h ⊢
    rw [List.map_cons, List.flatMap_cons, List.length_append, h]
    show _ = (bif vm_c2 v then some v :: none :: vm_sl r else some v :: vm_sl r).length
    cases hc : vm_c2 v with
    | true =>
      rw [vm_sh_c2 hc, if_pos rfl, cond_true]
      simp only [List.length_cons, List.length_nil]; omega
    | false =>
      rw [vm_sh_c1 hc, if_neg (by decide), cond_false]
      simp only [List.length_cons, List.length_nil]; omega
theorem vm_LR.ent {B b nL : Nat} {av : vT} (hl : (vm_sl av).length ≤ nL) : vm_LR B b nL (vm_ent nL av) ((lg_sl (av.map (vm_sh B b)) ++ List.replicate (nL - (lg_sl (av.map (vm_sh B b))).length) Slot.unset).toArray) := by
  have h := lv_entry (av.map (vm_sh B b)) (n := nL) (by rw [vm_sl_len]; exact hl)
  refine ⟨by unfold vm_ent; simp; omega, h.1, h.2.1, fun i v hi => ?_⟩
  unfold vm_ent at hi
  by_cases hi2 : i < (vm_sl av).length
  · rw [List.getElem?_append_left hi2] at hi
    have h1 := vm_sl_args B b av 0 i v hi
    rw [Nat.zero_add] at h1
    exact h.2.2 _ h1
  · rw [List.getElem?_append_right (by omega), List.getElem?_replicate] at hi
    split at hi <;> cases hi
