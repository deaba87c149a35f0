/-! ===== the tests of both sides agree where what is known has objects ===== -/
def pr (n K k : Nat) : Prop := ∀ v, v < 3 → K.testBit v = true → inO n (ofv k v) = true
def eP (n K : Nat) (A B : Nat → Bool) : Prop := ∀ k, k < 512 → pr n K k → A k = B k
theorem lk_n {v pl K : Nat} (h : lk1 v pl K = none) : K.testBit v = true := by
  unfold lk1 at h
  split at h
  · assumption
  · cases h
theorem or2_i {a b : Option (Nat × Nat)} (h : or2 a b = none) : a = none ∧ b = none := by
  cases a with
  | none => exact ⟨rfl, h⟩
  | some z => cases h
theorem shn_i {s : Nat} {a : Option (Nat × Nat)} (h : shn s a = none) : a = none := by
  cases a with
  | none => rfl
  | some z => cases h
theorem tb_or {K v u : Nat} : (K ||| 2 ^ v).testBit u = (K.testBit u || decide (v = u)) := by
  rw [Nat.testBit_or, Nat.testBit_two_pow]
theorem ta_eq {W : wT} {kd nm K k : Nat} {v : Nat × Nat × Nat × Nat} (w : lfok kd nm v) (h1 : K.testBit v.2.2.1 = true) (h2 : K.testBit v.2.2.2 = true) (p : pr W.1 K k) : ta1 W kd nm v.2.2.1 v.2.2.2 k = ta2 W kd nm v.2.2.1 v.2.2.2 k := by
  obtain ⟨w1, w2, w3, w4, w5, w6, w7, w8⟩ := w
  have o1 := p _ w3 h1
  have o2 := p _ w4 h2
  unfold ta1 ta2
  by_cases hk : kd = 7 ∨ kd = 11
  · rw [if_pos hk, o1, Bool.true_and, (w8 (Or.inr hk)).2]
  · rw [if_neg hk, o1, o2]; simp
theorem bw_one (n : Nat) (X S : Nat → Bool) (k : Nat) : bw n [.inr X] S k = (S k && X k) := rfl
theorem ac_3 {n nm : Nat} {τ : Nat → Nat → Nat → Nat → Nat → Bool} {v : Nat × Nat × Nat × Nat} {l r : T} : (ac n τ (.inner 3 nm v l r)).1 = [.inr (ac n τ l).2.2.1] := rfl
theorem ac_4 {n nm : Nat} {τ : Nat → Nat → Nat → Nat → Nat → Bool} {v : Nat × Nat × Nat × Nat} {a b r : T} : (ac n τ (.inner 4 nm v (cc a (cc b .leaf)) r)).1 = [.inr (fun k => !bw n (ac n τ a).1 (fun j => !hasR n (ac n τ b).1 j) k)] := rfl
theorem ac_5 {n nm : Nat} {τ : Nat → Nat → Nat → Nat → Nat → Bool} {v : Nat × Nat × Nat × Nat} {a r : T} : (ac n τ (.inner 5 nm v (cc a .leaf) r)).1 = [.inr (fun k => !hasR n (ac n τ a).1 k)] := rfl
theorem ac_6 {n nm : Nat} {τ : Nat → Nat → Nat → Nat → Nat → Bool} {v : Nat × Nat × Nat × Nat} {l r : T} : (ac n τ (.inner 6 nm v l r)).1 = [.inl v.2.2.1] := rfl
theorem ac_7 {n kd nm : Nat} {τ : Nat → Nat → Nat → Nat → Nat → Bool} {v : Nat × Nat × Nat × Nat} {l r : T} (h : 7 ≤ kd) : (ac n τ (.inner kd nm v l r)).1 = [.inr (τ kd nm v.2.2.1 v.2.2.2)] := by
  show (if kd ≤ 2 then _ else if kd = 3 then _ else if kd = 4 then _ else if kd = 5 then _ else if kd = 6 then _ else _) = _
  rw [if_neg (by omega), if_neg (by omega), if_neg (by omega), if_neg (by omega), if_neg (by omega)]
theorem pr_st {n K k v o : Nat} (hv : v < 3) (hk : k < 512) (ho : o < 8) (p : pr n K k) (hi : inO n o = true) : pr n (K ||| 2 ^ v) (stv k v o) := fun u hu tu => by
  by_cases e : u = v
  · rw [e, (ofv_st v hv k hk o ho).2]; exact hi
  · rw [ofv_so hv hu e hk ho]
    rw [tb_or, decide_eq_false (fun z => e z.symm), Bool.or_false] at tu
    exact p u hu tu
def bN1 (W : wT) (t : T) : Prop := (wft t).1 → ∀ K, (un t).1 K = none → ∀ S S', eP W.1 ((kb t).1 K) S S' → eP W.1 K (bw W.1 (ac W.1 (ta1 W) t).1 S) (bw W.1 (ac W.1 (ta2 W) t).1 S')
def bHd (W : wT) : T → Prop
  | .leaf => True
  | .inner _ _ _ a r => bN1 W a ∧ bHd W r
theorem bw_agr0 (W : wT) : ∀ t : T, bN1 W t
    ∧ ((wft t).2 → (∀ K, (un t).2.1 K = none → ∀ S S', eP W.1 ((kb t).2 K) S S' → eP W.1 K (bw W.1 (ac W.1 (ta1 W) t).2.1 S) (bw W.1 (ac W.1 (ta2 W) t).2.1 S'))
      ∧ ∀ K, (un t).2.2 K = none → eP W.1 K (ac W.1 (ta1 W) t).2.2.1 (ac W.1 (ta2 W) t).2.2.1) ∧ bHd W t
  | .leaf => ⟨fun h => h.elim, fun _ => ⟨fun K _ S S' e => e, fun K _ k _ _ => rfl⟩, trivial⟩
  | .inner kd nm v l r => by
    have hl := bw_agr0 W l
    have hr := bw_agr0 W r
    refine ⟨fun ⟨w1, w2, w3, w4, w5⟩ K hu S S' e => ?_, fun ⟨w1, w2⟩ => ⟨fun K hu S S' e => ?_, fun K hu k hk p => ?_⟩, hl.1, hr.2.2⟩
    · have ihl := hl.2.1 w5
      by_cases h2 : kd ≤ 2
      · have u1 : (un l).2.1 K = none := (if_pos h2 : (if kd ≤ 2 then (un l).2.1 K else _) = _).symm.trans hu
        have e1 : ∀ τ, (ac W.1 τ (.inner kd nm v l r)).1 = (ac W.1 τ l).2.1 := fun τ => if_pos h2
        have e2 : (kb (.inner kd nm v l r)).1 K = (kb l).2 K := if_pos h2
        rw [e1, e1]
        rw [e2] at e
        exact ihl.1 K u1 S S' e
      · by_cases h6 : kd = 6
        · subst h6
          have hv : v.2.2.1 < 3 := (w2 (by decide)).2.2.1
          have e2 : (kb (.inner 6 nm v l r)).1 K = K ||| 2 ^ v.2.2.1 := rfl
          rw [e2] at e
          rw [ac_6, ac_6]
          intro k hk p
          refine ox_ext fun o ho => ?_
          cases hi : inO W.1 o
          · rfl
          · show (true && S (stv k v.2.2.1 o)) = (true && S' (stv k v.2.2.1 o))
            rw [e _ (ofv_st _ hv k hk o ho).1 (pr_st hv hk ho p hi)]
        · have e2 : (kb (.inner kd nm v l r)).1 K = K := by
            show (if kd ≤ 2 then (kb l).2 K else if kd = 6 then K ||| 2 ^ v.2.2.1 else K) = K
            rw [if_neg h2, if_neg h6]
          rw [e2] at e
          have hu : (if kd ≤ 2 then (un l).2.1 K else if kd = 4 then shn 1 ((un l).2.1 K) else if kd = 3 ∨ kd = 5 then shn 1 ((un l).2.2 K) else if kd = 6 then none else or2 (lk1 v.2.2.1 v.1 K) (lk1 v.2.2.2 v.2.1 K)) = none := hu
          rw [if_neg h2] at hu
          by_cases h4 : kd = 4
          · rw [if_pos h4] at hu
            obtain ⟨a, b, rfl⟩ := w3 h4
            subst h4
            rw [ac_4, ac_4]
            obtain ⟨ua, ub⟩ := or2_i (shn_i hu)
            obtain ⟨ub, -⟩ := or2_i ub
            have A := hl.2.2.1 w5.1 K ua
            have B := hl.2.2.2.1 w5.2.1 ((kb a).1 K) ub (fun _ => true) (fun _ => true) (fun _ _ _ => rfl)
            intro k hk p
            rw [bw_one, bw_one, e k hk p]
            rw [A (fun j => !hasR W.1 (ac W.1 (ta1 W) b).1 j) (fun j => !hasR W.1 (ac W.1 (ta2 W) b).1 j) (fun j hj pj => by
              show (!bw W.1 (ac W.1 (ta1 W) b).1 (fun _ => true) j) = (!bw W.1 (ac W.1 (ta2 W) b).1 (fun _ => true) j)
              rw [B j hj pj]) k hk p]
          · rw [if_neg h4] at hu
            by_cases h3 : kd = 3
            · rw [if_pos (Or.inl h3)] at hu
              subst h3
              rw [ac_3, ac_3]
              intro k hk p
              rw [bw_one, bw_one, e k hk p, ihl.2 K (shn_i hu) k hk p]
            · by_cases h5 : kd = 5
              · rw [if_pos (Or.inr h5)] at hu
                obtain ⟨a, rfl⟩ := w4 h5
                subst h5
                rw [ac_5, ac_5]
                have A := hl.2.2.1 w5.1 K (or2_i (shn_i hu)).1 (fun _ => true) (fun _ => true) (fun _ _ _ => rfl)
                intro k hk p
                rw [bw_one, bw_one, e k hk p]
                show (S' k && !bw W.1 (ac W.1 (ta1 W) a).1 (fun _ => true) k) = (S' k && !bw W.1 (ac W.1 (ta2 W) a).1 (fun _ => true) k)
                rw [A k hk p]
              · rw [if_neg (fun z => z.elim h3 h5), if_neg h6] at hu
                obtain ⟨u1, u2⟩ := or2_i hu
                rw [ac_7 (by omega), ac_7 (by omega)]
                intro k hk p
                rw [bw_one, bw_one, e k hk p, ta_eq (w2 (by omega)) (lk_n u1) (lk_n u2) p]
    · obtain ⟨u1, u2⟩ := or2_i hu
      have e1 : ∀ τ, (ac W.1 τ (.inner kd nm v l r)).2.1 = (ac W.1 τ l).1 ++ (ac W.1 τ r).2.1 := fun τ => rfl
      rw [e1, e1]
      intro k hk p
      rw [bw_app, bw_app]
      exact hl.1 w1 K u1 _ _ ((hr.2.1 w2).1 _ u2 S S' e) k hk p
    · obtain ⟨u1, u2⟩ := or2_i hu
      show (bw W.1 (ac W.1 (ta1 W) l).1 (fun _ => true) k || (ac W.1 (ta1 W) r).2.2.1 k) = (bw W.1 (ac W.1 (ta2 W) l).1 (fun _ => true) k || (ac W.1 (ta2 W) r).2.2.1 k)
      rw [hl.1 w1 K u1 (fun _ => true) (fun _ => true) (fun _ _ _ => rfl) k hk p, (hr.2.1 w2).2 K u2 k hk p]
theorem bw_agr (W : wT) (t : T) : bN1 W t ∧ ((wft t).2 → (∀ K, (un t).2.1 K = none → ∀ S S', eP W.1 ((kb t).2 K) S S' → eP W.1 K (bw W.1 (ac W.1 (ta1 W) t).2.1 S) (bw W.1 (ac W.1 (ta2 W) t).2.1 S'))) := ⟨(bw_agr0 W t).1, fun w => ((bw_agr0 W t).2.1 w).1⟩
/-! forth -/
def ex (n K k : Nat) : Prop := ∀ v, v < 3 → if K.testBit v = true then inO n (ofv k v) = true else ofv k v = 0
def cx (n K : Nat) (C : Nat → Bool) : Prop := ∀ k, k < 512 → C k = true → ex n K k
theorem ex.p {n K k : Nat} (x : ex n K k) : pr n K k := fun v hv tv => by have := x v hv; rw [if_pos tv] at this; exact this
theorem cx.e {n K : Nat} {C C' : Nat → Bool} (x : cx n K C) (e : eS C C') : cx n K C' := fun k hk h => x k hk (by rw [e k hk]; exact h)
theorem fw_one (n : Nat) (X C : Nat → Bool) (k : Nat) : fw n [.inr X] C k = (C k && X k) := rfl
theorem fw_tst {n K : Nat} {X1 X2 C : Nat → Bool} (c : cx n K C) (e : eP n K X1 X2) : eS (fw n [.inr X1] C) (fw n [.inr X2] C) ∧ cx n K (fw n [.inr X1] C) := by
  refine ⟨fun k hk => ?_, fun k hk h => ?_⟩
  · rw [fw_one, fw_one]
    cases hc : C k
    · rfl
    · rw [e k hk (c k hk hc).p]
  · rw [fw_one, Bool.and_eq_true] at h
    exact c k hk h.1
theorem sg_tst {kd : Nat} (h3 : ¬ kd ≤ 2) (h6 : ¬ kd = 6) {n nm : Nat} {τ : Nat → Nat → Nat → Nat → Nat → Bool} {v : Nat × Nat × Nat × Nat} {l r : T} : ∃ X, (ac n τ (.inner kd nm v l r)).1 = [.inr X] := by
  have e : (ac n τ (.inner kd nm v l r)).1 = (if kd ≤ 2 then (ac n τ l).2.1 else if kd = 3 then [.inr (ac n τ l).2.2.1] else if kd = 4 then [.inr (fun k => !bw n (ac n τ l).2.2.2.1 (fun j => !hasR n (ac n τ l).2.2.2.2 j) k)] else if kd = 5 then [.inr (fun k => !hasR n (ac n τ l).2.2.2.1 k)] else if kd = 6 then [.inl v.2.2.1] else [.inr (τ kd nm v.2.2.1 v.2.2.2)]) := rfl
  rw [e, if_neg h3]
  split
  · exact ⟨_, rfl⟩
  · split
    · exact ⟨_, rfl⟩
    · split
      · exact ⟨_, rfl⟩
      · exact ⟨_, rfl⟩
theorem fw_agr (W : wT) : ∀ t : T, ((wft t).1 → ∀ K C, (un t).1 K = none → cx W.1 K C → eS (fw W.1 (ac W.1 (ta1 W) t).1 C) (fw W.1 (ac W.1 (ta2 W) t).1 C) ∧ cx W.1 ((kb t).1 K) (fw W.1 (ac W.1 (ta1 W) t).1 C))
    ∧ ((wft t).2 → ∀ K C, (un t).2.1 K = none → cx W.1 K C → eS (fw W.1 (ac W.1 (ta1 W) t).2.1 C) (fw W.1 (ac W.1 (ta2 W) t).2.1 C) ∧ cx W.1 ((kb t).2 K) (fw W.1 (ac W.1 (ta1 W) t).2.1 C))
  | .leaf => ⟨fun h => h.elim, fun _ K C _ c => ⟨eS.rf, c⟩⟩
  | .inner kd nm v l r => by
    refine ⟨fun w K C hu c => ?_, fun ⟨w1, w2⟩ K C hu c => ?_⟩
    · by_cases h2 : kd ≤ 2
      · have u1 : (un l).2.1 K = none := (if_pos h2 : (if kd ≤ 2 then (un l).2.1 K else _) = _).symm.trans hu
        have e1 : ∀ τ, (ac W.1 τ (.inner kd nm v l r)).1 = (ac W.1 τ l).2.1 := fun τ => if_pos h2
        have e2 : (kb (.inner kd nm v l r)).1 K = (kb l).2 K := if_pos h2
        rw [e1, e1, e2]
        exact (fw_agr W l).2 w.2.2.2.2 K C u1 c
      · by_cases h6 : kd = 6
        · subst h6
          have hv : v.2.2.1 < 3 := (w.2.1 (by decide)).2.2.1
          have e2 : (kb (.inner 6 nm v l r)).1 K = K ||| 2 ^ v.2.2.1 := rfl
          rw [e2, ac_6, ac_6]
          refine ⟨eS.rf, fun k hk h => ?_⟩
          have h : (inO W.1 (ofv k v.2.2.1) && ox (fun o => C (stv k v.2.2.1 o)) 8) = true := h
          rw [Bool.and_eq_true] at h
          obtain ⟨o, ho, hc⟩ := ox_t.mp h.2
          have x := c _ (ofv_st _ hv k hk o ho).1 hc
          intro u hu2
          rw [tb_or]
          by_cases e : u = v.2.2.1
          · rw [decide_eq_true e.symm, Bool.or_true, if_pos rfl, e]; exact h.1
          · have xu := x u hu2
            rw [ofv_so hv hu2 e hk ho] at xu
            rw [decide_eq_false (fun z => e z.symm), Bool.or_false]
            exact xu
        · have e2 : (kb (.inner kd nm v l r)).1 K = K := by
            show (if kd ≤ 2 then (kb l).2 K else if kd = 6 then K ||| 2 ^ v.2.2.1 else K) = K
            rw [if_neg h2, if_neg h6]
          have B := (bw_agr W (.inner kd nm v l r)).1 w K hu (fun _ => true) (fun _ => true) (fun _ _ _ => rfl)
          obtain ⟨X1, x1⟩ := sg_tst (n := W.1) (nm := nm) (τ := ta1 W) (v := v) (l := l) (r := r) h2 h6
          obtain ⟨X2, x2⟩ := sg_tst (n := W.1) (nm := nm) (τ := ta2 W) (v := v) (l := l) (r := r) h2 h6
          rw [x1, x2] at B
          rw [e2, x1, x2]
          exact fw_tst c (fun k hk p => B k hk p)
    · obtain ⟨u1, u2⟩ := or2_i hu
      have e1 : ∀ τ, (ac W.1 τ (.inner kd nm v l r)).2.1 = (ac W.1 τ l).1 ++ (ac W.1 τ r).2.1 := fun τ => rfl
      have e2 : (kb (.inner kd nm v l r)).2 K = (kb r).2 ((kb l).1 K) := rfl
      rw [e1, e1, fw_app, fw_app, e2]
      have A := (fw_agr W l).1 w1 K C u1 c
      have B := (fw_agr W r).2 w2 _ _ u2 A.2
      exact ⟨B.1.tr (fw_ext ((ac_ok W.1 (ta2 W) r).2 w2).1 A.1), B.2⟩
theorem al_agr {C U V : Nat → Bool} (e : ∀ k, k < 512 → C k = true → U k = V k) : al C U = al C V := by
  unfold al
  rw [cn_ext (q := fun k => C k && !V k) (fun k hk => by
    cases hc : C k
    · rfl
    · rw [e k hk hc])]
/-- the two ways to accept come to the same -/
theorem acp_agr (W : wT) {on : Bool} : ∀ (r : T) (K i : Nat) (C : Nat → Bool) (m : Nat), (wft r).2 → (un r).2.1 K = none → cx W.1 K C → eR (acp W.1 (ta1 W) on r i C m) (acp W.1 (ta2 W) on r i C m) ∧ ∀ C' m', acp W.1 (ta1 W) on r i C m = .inr (C', m') → cx W.1 ((kb r).2 K) C'
  | .leaf, K, i, C, m, _, _, c => ⟨⟨eS.rf, rfl⟩, fun C' m' e => by
      have e : (.inr (C, m) : Nat ⊕ ((Nat → Bool) × Nat)) = .inr (C', m') := e
      injection e with e; injection e with e1 e2
      rw [← e1]; exact c⟩
  | .inner kd nm v a r, K, i, C, m, w, hu, c => by
    obtain ⟨u1, u2⟩ := or2_i hu
    have e1 : al C (hasR W.1 (ac W.1 (ta1 W) a).1) = al C (hasR W.1 (ac W.1 (ta2 W) a).1) := al_agr (fun k hk hc => (bw_agr W a).1 w.1 K u1 (fun _ => true) (fun _ => true) (fun _ _ _ => rfl) k hk (c k hk hc).p)
    obtain ⟨e2, c2⟩ := (fw_agr W a).1 w.1 K C u1 c
    unfold acp
    rw [← e1, ← emp_ext e2]
    by_cases hz : (kdT a = 1 ∧ al C (hasR W.1 (ac W.1 (ta1 W) a).1) = false) ∧ (on = false ∨ emp (fw W.1 (ac W.1 (ta1 W) a).1 C) = true)
    · rw [if_pos hz, if_pos hz]
      exact ⟨rfl, fun C' m' e => by cases e⟩
    · rw [if_neg hz, if_neg hz]
      have B := acp_agr W (on := on) r ((kb a).1 K) (i + 1) (fw W.1 (ac W.1 (ta1 W) a).1 C) (if kdT a = 1 ∧ al C (hasR W.1 (ac W.1 (ta1 W) a).1) = false then m ||| 2 ^ i else m) w.2 u2 c2
      refine ⟨?_, B.2⟩
      have E := acp_ext (n := W.1) (τ := ta2 W) (on := on) r (i + 1) _ _ (if kdT a = 1 ∧ al C (hasR W.1 (ac W.1 (ta1 W) a).1) = false then m ||| 2 ^ i else m) w.2 e2
      have B1 := B.1
      generalize acp W.1 (ta1 W) on r (i + 1) (fw W.1 (ac W.1 (ta1 W) a).1 C) (if kdT a = 1 ∧ al C (hasR W.1 (ac W.1 (ta1 W) a).1) = false then m ||| 2 ^ i else m) = x at B1 ⊢
      generalize acp W.1 (ta2 W) on r (i + 1) (fw W.1 (ac W.1 (ta1 W) a).1 C) (if kdT a = 1 ∧ al C (hasR W.1 (ac W.1 (ta1 W) a).1) = false then m ||| 2 ^ i else m) = y at B1 E
      generalize acp W.1 (ta2 W) on r (i + 1) (fw W.1 (ac W.1 (ta2 W) a).1 C) (if kdT a = 1 ∧ al C (hasR W.1 (ac W.1 (ta1 W) a).1) = false then m ||| 2 ^ i else m) = z at E ⊢
      match x, y, z, B1, E with
      | .inl x, .inl y, .inl z, B1, E => exact (show x = y from B1).trans (show y = z from E)
      | .inr x, .inr y, .inr z, B1, E => exact ⟨(show eS x.1 y.1 from B1.1).tr E.1, (show x.2 = y.2 from B1.2).trans E.2⟩
      | .inl x, .inr y, _, B1, E => exact B1.elim
      | .inr x, .inl y, _, B1, E => exact B1.elim
      | _, .inl y, .inr z, B1, E => exact E.elim
      | _, .inr y, .inl z, B1, E => exact E.elim
theorem acp_m {n : Nat} {τ : Nat → Nat → Nat → Nat → Nat → Bool} {on : Bool} : ∀ (r : T) (i : Nat) (C : Nat → Bool) (m : Nat) (C' : Nat → Bool) (m' : Nat), i + ln r ≤ 30 → m < 2 ^ 30 → acp n τ on r i C m = .inr (C', m') → m' < 2 ^ 30
  | .leaf, i, C, m, C', m', _, hm, e => by
    have e : (.inr (C, m) : Nat ⊕ ((Nat → Bool) × Nat)) = .inr (C', m') := e
    injection e with e; injection e with e1 e2
    rw [← e2]; exact hm
  | .inner _ _ _ a r, i, C, m, C', m', hi, hm, e => by
    have hi : i + (ln r + 1) ≤ 30 := hi
    unfold acp at e
    split at e
    · cases e
    · refine acp_m r _ _ _ C' m' (by omega) ?_ e
      split
      · exact Nat.or_lt_two_pow hm (Nat.pow_lt_pow_right (by decide) (by omega))
      · exact hm
theorem tkF_agr (W : wT) : ∀ (r : T) (K m : Nat) (C C2 : Nat → Bool), (wft r).2 → (un r).2.1 K = none → cx W.1 K C → eS C C2 → eS (tkF W.1 (ta1 W) r m C) (tkF W.1 (ta2 W) r m C2)
  | .leaf, _, _, _, _, _, _, _, e => e
  | .inner .., _, 0, _, _, _, _, _, e => e
  | .inner kd nm v a r, K, m + 1, C, C2, w, hu, c, e => by
    obtain ⟨u1, u2⟩ := or2_i hu
    obtain ⟨e2, c2⟩ := (fw_agr W a).1 w.1 K C u1 c
    exact tkF_agr W r _ m _ _ w.2 u2 c2 (e2.tr (fw_ext ((ac_ok W.1 (ta2 W) a).1 w.1) e))
