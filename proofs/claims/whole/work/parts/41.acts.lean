/-! ===== acts, their images back and forth; tests ===== -/
abbrev aT : Type := Nat ⊕ (Nat → Bool)
def vok : aT → Prop
  | .inl v => v < 3
  | .inr _ => True
/-- the same sets -/
def eS (A B : Nat → Bool) : Prop := ∀ k, k < 512 → A k = B k
theorem eS.rf {A : Nat → Bool} : eS A A := fun _ _ => rfl
theorem eS.tr {A B C : Nat → Bool} (x : eS A B) (y : eS B C) : eS A C := fun k hk => (x k hk).trans (y k hk)
theorem eS.sy {A B : Nat → Bool} (x : eS A B) : eS B A := fun k hk => (x k hk).symm
def inO (n o : Nat) : Bool := decide (1 ≤ o) && decide (o < 2 ^ n)
theorem inO_t {n o : Nat} : inO n o = true ↔ 1 ≤ o ∧ o < 2 ^ n := by unfold inO; rw [Bool.and_eq_true, decide_eq_true_iff, decide_eq_true_iff]
def bw1 (n : Nat) : aT → (Nat → Bool) → Nat → Bool
  | .inl v, S => fun k => ox (fun o => inO n o && S (stv k v o)) 8
  | .inr X, S => fun k => S k && X k
def fw1 (n : Nat) : aT → (Nat → Bool) → Nat → Bool
  | .inl v, S => fun k => inO n (ofv k v) && ox (fun o => S (stv k v o)) 8
  | .inr X, S => fun k => S k && X k
def bw (n : Nat) : List aT → (Nat → Bool) → Nat → Bool
  | [], S => S
  | a :: r, S => bw1 n a (bw n r S)
def fw (n : Nat) : List aT → (Nat → Bool) → Nat → Bool
  | [], S => S
  | a :: r, S => fw n r (fw1 n a S)
def hasR (n : Nat) (A : List aT) : Nat → Bool := bw n A (fun _ => true)
theorem bw_app (n : Nat) : ∀ (A B : List aT) (S : Nat → Bool), bw n (A ++ B) S = bw n A (bw n B S)
  | [], _, _ => rfl
  | a :: r, B, S => by show bw1 n a (bw n (r ++ B) S) = bw1 n a (bw n r (bw n B S)); rw [bw_app n r B S]
theorem fw_app (n : Nat) : ∀ (A B : List aT) (S : Nat → Bool), fw n (A ++ B) S = fw n B (fw n A S)
  | [], _, _ => rfl
  | a :: r, B, S => by show fw n (r ++ B) (fw1 n a S) = fw n B (fw n r (fw1 n a S)); rw [fw_app n r B _]
theorem bw1_ext {n : Nat} {a : aT} (va : vok a) {S S' : Nat → Bool} (e : eS S S') : eS (bw1 n a S) (bw1 n a S') := by
  intro k hk
  cases a with
  | inl v => exact ox_ext fun i hi => by rw [e _ (ofv_st v va k hk i hi).1]
  | inr X => show (S k && X k) = (S' k && X k); rw [e k hk]
theorem fw1_ext {n : Nat} {a : aT} (va : vok a) {S S' : Nat → Bool} (e : eS S S') : eS (fw1 n a S) (fw1 n a S') := by
  intro k hk
  cases a with
  | inl v =>
    show (inO n (ofv k v) && ox (fun o => S (stv k v o)) 8) = (inO n (ofv k v) && ox (fun o => S' (stv k v o)) 8)
    rw [ox_ext (fun i hi => e _ (ofv_st v va k hk i hi).1)]
  | inr X => show (S k && X k) = (S' k && X k); rw [e k hk]
def voks (A : List aT) : Prop := ∀ a, a ∈ A → vok a
theorem voks.h {a : aT} {r : List aT} (x : voks (a :: r)) : vok a ∧ voks r := ⟨x a (List.mem_cons_self ..), fun b hb => x b (List.mem_cons_of_mem _ hb)⟩
theorem voks.app {A B : List aT} (x : voks A) (y : voks B) : voks (A ++ B) := fun a ha => (List.mem_append.mp ha).elim (x a) (y a)
theorem voks.one {a : aT} (x : vok a) : voks [a] := fun b hb => by rw [List.mem_singleton.mp hb]; exact x
theorem voks.nil : voks [] := fun _ hb => nomatch hb
theorem bw_ext {n : Nat} : ∀ {A : List aT} (_ : voks A) {S S' : Nat → Bool} (_ : eS S S'), eS (bw n A S) (bw n A S')
  | [], _, _, _, e => e
  | _ :: _, v, _, _, e => bw1_ext v.h.1 (bw_ext v.h.2 e)
theorem fw_ext {n : Nat} : ∀ {A : List aT} (_ : voks A) {S S' : Nat → Bool} (_ : eS S S'), eS (fw n A S) (fw n A S')
  | [], _, _, _, e => e
  | _ :: _, v, _, _, e => fw_ext v.h.2 (fw1_ext v.h.1 e)
/-- the acts of a tree, by what its tests let pass: of a node, of a chain; where one of a chain has results; of a chain's first, of its last -/
def ac (n : Nat) (τ : Nat → Nat → Nat → Nat → Nat → Bool) : T → List aT × List aT × (Nat → Bool) × List aT × List aT
  | .leaf => ([], [], fun _ => false, [], [])
  | .inner kd nm v l r => (if kd ≤ 2 then (ac n τ l).2.1 else if kd = 3 then [.inr (ac n τ l).2.2.1] else if kd = 4 then [.inr (fun k => !bw n (ac n τ l).2.2.2.1 (fun j => !hasR n (ac n τ l).2.2.2.2 j) k)] else if kd = 5 then [.inr (fun k => !hasR n (ac n τ l).2.2.2.1 k)] else if kd = 6 then [.inl v.2.2.1] else [.inr (τ kd nm v.2.2.1 v.2.2.2)],
      (ac n τ l).1 ++ (ac n τ r).2.1, (fun k => hasR n (ac n τ l).1 k || (ac n τ r).2.2.1 k), (ac n τ l).1, (match r with
        | .leaf => (ac n τ l).1
        | .inner .. => (ac n τ r).2.2.2.2))
theorem ac_ok (n : Nat) (τ : Nat → Nat → Nat → Nat → Nat → Bool) : ∀ t : T, ((wft t).1 → voks (ac n τ t).1) ∧ ((wft t).2 → voks (ac n τ t).2.1 ∧ voks (ac n τ t).2.2.2.1 ∧ voks (ac n τ t).2.2.2.2)
  | .leaf => ⟨fun h => h.elim, fun _ => ⟨voks.nil, voks.nil, voks.nil⟩⟩
  | .inner kd nm v l r => by
    refine ⟨fun ⟨w1, w2, w3, w4, w5⟩ => ?_, fun ⟨w1, w2⟩ => ⟨voks.app ((ac_ok n τ l).1 w1) ((ac_ok n τ r).2 w2).1, (ac_ok n τ l).1 w1, ?_⟩⟩
    · have q := (ac_ok n τ l).2 w5
      show voks (if kd ≤ 2 then (ac n τ l).2.1 else if kd = 3 then [.inr (ac n τ l).2.2.1] else if kd = 4 then [.inr (fun k => !bw n (ac n τ l).2.2.2.1 (fun j => !hasR n (ac n τ l).2.2.2.2 j) k)] else if kd = 5 then [.inr (fun k => !hasR n (ac n τ l).2.2.2.1 k)] else if kd = 6 then [.inl v.2.2.1] else [.inr (τ kd nm v.2.2.1 v.2.2.2)])
      split
      · exact q.1
      · split
        · exact voks.one trivial
        · split
          · exact voks.one trivial
          · split
            · exact voks.one trivial
            · split
              · exact voks.one (w2 (by omega)).2.2.1
              · exact voks.one trivial
    · have q := (ac_ok n τ r).2 w2
      cases r with
      | leaf => exact (ac_ok n τ l).1 w1
      | inner k2 n2 v2 l2 r2 => exact q.2.2
/-- a world: how many, predicates, relations -/
abbrev wT : Type := Nat × (Nat → Nat) × (Nat → Nat)
def hld (W : wT) (kd nm o e : Nat) : Bool :=
  if kd = 7 then decide (o &&& W.2.1 nm = o) else if kd = 8 then relN (W.2.2 nm) o e else if kd = 9 then decide (o = e) else if kd = 10 then decide (o &&& e = o) else decide (cn (fun i => o.testBit i) 3 = nm)
/-- the class's tests -/
def ta1 (W : wT) (kd nm v u k : Nat) : Bool := if kd = 7 ∨ kd = 11 then inO W.1 (ofv k v) && hld W kd nm (ofv k v) (ofv k v) else !inO W.1 (ofv k v) || (inO W.1 (ofv k u) && hld W kd nm (ofv k v) (ofv k u))
/-- the reference's tests -/
def ta2 (W : wT) (kd nm v u k : Nat) : Bool := hld W kd nm (ofv k v) (ofv k u)
/-- what an object Meaning at am, with its world at wa, stands for -/
def mw (h : vH) (am wa : Nat) (W : wT) : Prop := (hK h)[am]? = some (4, 0) ∧ hR h am 0 = some wa ∧ isW h wa ∧ hI h wa 0 = nI W.1 ∧ W.1 < 4 ∧ (∀ i, i < 3 → hI h (wa + 1) i = nI (W.2.1 i) ∧ W.2.1 i < 8) ∧ ∀ i, i < 2 → hI h (wa + 2) i = nI (W.2.2 i) ∧ W.2.2 i < 512
/-- sets alone are written -/
def fz (A : Nat → Prop) (h h' : vH) : Prop := h'.1 = h.1 ∧ h'.2.2 = h.2.2 ∧ ∀ r, ¬ A r → hL h' r = hL h r
theorem fz.rf {A : Nat → Prop} {h : vH} : fz A h h := ⟨rfl, rfl, fun _ _ => rfl⟩
theorem fz.tr {A : Nat → Prop} {h h' h2 : vH} (x : fz A h h') (y : fz A h' h2) : fz A h h2 := ⟨y.1.trans x.1, y.2.1.trans x.2.1, fun r hr => (y.2.2 r hr).trans (x.2.2 r hr)⟩
theorem fz.mono {A B : Nat → Prop} {h h' : vH} (x : fz A h h') (m : ∀ r, A r → B r) : fz B h h' := ⟨x.1, x.2.1, fun r hr => x.2.2 r (fun z => hr (m r z))⟩
theorem fz.I {A : Nat → Prop} {h h' : vH} (x : fz A h h') : hI h' = hI h := x.1
theorem fz.R {A : Nat → Prop} {h h' : vH} (x : fz A h h') : hR h' = hR h := congrArg (fun q => q.1) x.2.1
theorem fz.K {A : Nat → Prop} {h h' : vH} (x : fz A h h') : hK h' = hK h := congrArg (fun q => q.2.1) x.2.1
theorem fz.S {A : Nat → Prop} {h h' : vH} (x : fz A h h') {w : Nat} (hw : ¬ A w) : sA h' w = sA h w := by funext k; unfold sA; rw [x.2.2 w hw]
theorem fz.f {A : Nat → Prop} {h h' : vH} (x : fz A h h') : fr A h h' := ⟨x.2.1, fun r hr => ⟨by rw [x.I], x.2.2 r hr⟩⟩
theorem fz_uS (h : vH) (w : Nat) (S : Nat → Bool) : fz (fun r => r = w) h (uS h w S) := ⟨rfl, rfl, fun r hr => hL_pLn h 8 _ hr⟩
theorem eS_uS (h : vH) (w : Nat) (S : Nat → Bool) : eS (sA (uS h w S) w) S := fun k hk => sA_uS h w S hk
theorem fz.w {A : Nat → Prop} {h h' : vH} (x : fz A h h') {am wa : Nat} {W : wT} (m : mw h am wa W) : mw h' am wa W := by
  unfold mw at *; rw [x.K, x.R, x.I]
  exact ⟨m.1, m.2.1, m.2.2.1.fr x.f, m.2.2.2⟩
def nk (h : vH) : Prop := ∀ i, i < 62 → isN h i
theorem fz.n {A : Nat → Prop} {h h' : vH} (x : fz A h h') (m : nk h) : nk h' := fun i hi => (m i hi).fr x.f
theorem fz.nd {A : Nat → Prop} {h h' : vH} (x : fz A h h') (t : T) : (∀ lo hi b, nd h t lo hi b → nd h' t lo hi b) ∧ ∀ lo hi y p f l, hi ≤ 62 → cd h t lo hi y p f l → cd h' t lo hi y p f l :=
  nd_same (fun i _ => by rw [x.I]) (fun i _ => by rw [x.R]) t
/-! numbers of bits -/
def bc1 (x : Int32) : Int32 := x - ((UInt32.toInt32 (Int32.toUInt32 x >>> (Int32.toUInt32 1 &&& Int32.toUInt32 31))) &&& 1431655765)
def bc2 (x : Int32) : Int32 := (x &&& 858993459) + ((UInt32.toInt32 (Int32.toUInt32 x >>> (Int32.toUInt32 2 &&& Int32.toUInt32 31))) &&& 858993459)
def bc3 (x : Int32) : Int32 := (x + (UInt32.toInt32 (Int32.toUInt32 x >>> (Int32.toUInt32 4 &&& Int32.toUInt32 31)))) &&& 252645135
def bc4 (x : Int32) : Int32 := x + (UInt32.toInt32 (Int32.toUInt32 x >>> (Int32.toUInt32 8 &&& Int32.toUInt32 31)))
def bc5 (x : Int32) : Int32 := x + (UInt32.toInt32 (Int32.toUInt32 x >>> (Int32.toUInt32 16 &&& Int32.toUInt32 31)))
theorem bc_t : ∀ o, o < 8 → bc5 (bc4 (bc3 (bc2 (bc1 (nI o))))) &&& 63 = nI (cn (fun i => o.testBit i) 3) := by decide +kernel
theorem c_bitI {d cx n o : Nat} {h : vH} {Q : vQ} (ho : o < 8) (k : Q (some (vI (nI (cn (fun i => o.testBit i) 3)))) h) : vm_C mJ6_bitCount_0f7a4 d cx n [vI (nI o)] h Q := by
  rw [← bc_t o ho] at k
  exact bJ6_bitCount_0f7a4_0 (bJ6_bitCount_0f7a4_10 (x0 := bc1 (nI o)) (bJ6_bitCount_0f7a4_24 (x0 := bc2 (bc1 (nI o))) (bJ6_bitCount_0f7a4_34 (x0 := bc3 (bc2 (bc1 (nI o)))) (bJ6_bitCount_0f7a4_41 (x0 := bc4 (bc3 (bc2 (bc1 (nI o))))) (bJ6_bitCount_0f7a4_48 (x0 := bc5 (bc4 (bc3 (bc2 (bc1 (nI o)))))) k)))))
theorem hsw : ∀ kd, 7 ≤ kd → kd < 12 → vm_tsw (nI kd) 116 7 11 #[36, 60, 74, 85, 99] = some (if kd = 7 then 36 else if kd = 8 then 60 else if kd = 9 then 74 else if kd = 10 then 85 else 99) := by
  have : ∀ kd, kd < 12 → 7 ≤ kd → vm_tsw (nI kd) 116 7 11 #[36, 60, 74, 85, 99] = some (if kd = 7 then 36 else if kd = 8 then 60 else if kd = 9 then 74 else if kd = 10 then 85 else 99) := by decide +kernel
  exact fun kd h1 h2 => this kd h2 h1
theorem andn : ∀ o, o < 8 → ∀ p, p < 8 → ((nI o &&& (nI p ^^^ (-1)) = 0) ↔ (o &&& p = o)) := by decide +kernel
theorem c_holds {d cx n am wa b kd nm o e : Nat} {h : vH} {W : wT} {v : Nat × Nat × Nat × Nat} {Q : vQ} (hd : 2 ≤ d) (m : mw h am wa W) (g : (hK h)[nA b]? = some (5, 0)) (f : fd h kd nm v b) (hk : 7 ≤ kd ∧ kd ≤ 11) (w : lfok kd nm v) (ho : o < 8) (he : e < 8) (k : Q (some (vI (bN (hld W kd nm o e)))) h) : vm_C mX4_holds d cx n [vR (some am), vR (some (nA b)), vI (nI o), vI (nI e)] h Q := by
  obtain ⟨m1, m2, m3, m4, m5, m6, m7⟩ := m
  have sw := hsw kd hk.1 (by omega)
  rw [← f.1] at sw
  have f1 := (f.2.1 (by omega)).1
  obtain ⟨-, -, -, -, w5, w6, w7, -⟩ := w
  unfold hld at k
  by_cases h7 : kd = 7
  · rw [if_pos h7] at k sw
    have q := m6 nm (w5 h7)
    refine bX4_holds_0 (tgt := 40) g sw (by decide) (bX4_holds_40 (b3 := wa) (R := fun r h' => r = some (vI (nI (W.2.1 nm))) ∧ h = h') m1 m2 g m3.1 (by omega) (by rw [f1]; exact c_setOf (by omega) m3 (w5 h7) ⟨by rw [q.1], rfl⟩) ?_)
    rintro r h' ⟨rfl, rfl⟩
    refine bX4_holds_52 (fun hz => bX4_holds_62 (bX4_holds_63 rfl ?_)) (fun hz => bX4_holds_58 (bX4_holds_63 rfl ?_))
    · rw [andn o ho _ q.2] at hz
      rw [decide_eq_false hz] at k; exact k
    · have hz := Classical.byContradiction hz
      rw [andn o ho _ q.2] at hz
      rw [decide_eq_true hz] at k; exact k
  rw [if_neg h7] at k sw
  by_cases h8 : kd = 8
  · rw [if_pos h8] at k sw
    have q := m7 nm (w6 h8)
    refine bX4_holds_0 (tgt := 64) g sw (by decide) (bX4_holds_64 (b3 := wa) (R := fun r h' => r = some (vI (if relN (W.2.2 nm) o e then 1 else 0)) ∧ h = h') m1 m2 g m3.1 (by omega) (by rw [f1]; exact c_relates (by omega) m3 (w6 h8) q.1 q.2 ho he ⟨rfl, rfl⟩) ?_)
    rintro r h' ⟨rfl, rfl⟩
    refine bX4_holds_77 ?_ k
    split <;> rfl
  rw [if_neg h8] at k sw
  by_cases h9 : kd = 9
  · rw [if_pos h9] at k sw
    refine bX4_holds_0 (tgt := 78) g sw (by decide) (bX4_holds_78 (fun hz => bX4_holds_87 (bX4_holds_88 rfl ?_)) (fun hz => bX4_holds_83 (bX4_holds_88 rfl ?_)))
    · rw [decide_eq_false (fun z => hz (by rw [z]))] at k; exact k
    · rw [decide_eq_true ((nI_eq (by omega) (by omega)).mp (Classical.byContradiction hz))] at k; exact k
  rw [if_neg h9] at k sw
  by_cases h10 : kd = 10
  · rw [if_pos h10] at k sw
    refine bX4_holds_0 (tgt := 89) g sw (by decide) (bX4_holds_89 (fun hz => bX4_holds_101 (bX4_holds_102 rfl ?_)) (fun hz => bX4_holds_97 (bX4_holds_102 rfl ?_)))
    · rw [andn o ho _ he] at hz
      rw [decide_eq_false hz] at k; exact k
    · have hz := Classical.byContradiction hz
      rw [andn o ho _ he] at hz
      rw [decide_eq_true hz] at k; exact k
  · rw [if_neg h10] at k sw
    have hc := cn_le (fun i => o.testBit i) 3
    have hnm := w7 (by omega)
    refine bX4_holds_0 (tgt := 103) g sw (by decide) (bX4_holds_103 (R := fun r h' => r = some (vI (nI (cn (fun i => o.testBit i) 3))) ∧ h = h') (by omega) (c_bitI ho ⟨rfl, rfl⟩) ?_)
    rintro r h' ⟨rfl, rfl⟩
    refine bX4_holds_107 g (fun hz => bX4_holds_118 (bX4_holds_119 rfl ?_)) (fun hz => bX4_holds_114 (bX4_holds_119 rfl ?_))
    · rw [f1] at hz
      rw [decide_eq_false (fun z => hz (by rw [z]))] at k; exact k
    · have hz := Classical.byContradiction hz
      rw [f1] at hz
      rw [decide_eq_true ((nI_eq (by omega) (by omega)).mp hz)] at k; exact k
/-! objects as bits -/
theorem mk_or {g : Nat → Bool} {i : Nat} (h1 : 1 ≤ i) (h2 : i < 8) : nI (mkN g i) ||| nI (2 ^ i) = nI (mkN g i + 2 ^ i) := by
  have := or_pow (i - 1) (by omega) (mkN g i) (by rw [show i - 1 + 1 = i by omega]; exact mkN_lt g i)
  rw [show i - 1 + 1 = i by omega] at this
  exact this
theorem mk_even {g : Nat → Bool} (h0 : g 0 = false) {n : Nat} : mkN g n % 2 = 0 := by
  have := mkN_bit g n 0
  rw [h0, Bool.and_false, Nat.testBit_zero] at this
  have := of_decide_eq_false this
  omega
theorem two8 {n i : Nat} (hn : n < 4) (hi : i ≤ 2 ^ n) : i ≤ 8 := Nat.le_trans hi ((by decide : ∀ n, n < 4 → 2 ^ n ≤ 8) n hn)
theorem c_keepByOne {d cx n am wa b kd nm a w : Nat} {h : vH} {W : wT} {v : Nat × Nat × Nat × Nat} {Q : vQ} (hd : 3 ≤ d) (m : mw h am wa W) (g : (hK h)[nA b]? = some (5, 0)) (f : fd h kd nm v b) (hk : kd = 7 ∨ kd = 11) (wf : lfok kd nm v) (ha : isA h a w)
    (k : ∀ h', fz (fun r => r = w) h h' → eS (sA h' w) (fun k => sA h w k && ta1 W kd nm v.2.2.1 v.2.2.2 k) → Q none h') : vm_C mX4_keepByOne d cx n [vR (some am), vR (some (nA b)), vR (some a)] h Q := by
  have m' := m
  obtain ⟨m1, m2, m3, m4, m5, m6, m7⟩ := m
  have hp : 1 ≤ 2 ^ W.1 ∧ 2 ^ W.1 ≤ 8 := (by decide : ∀ m, m < 4 → 1 ≤ 2 ^ m ∧ 2 ^ m ≤ 8) _ m5
  obtain ⟨w1, w2, w3, w4, -⟩ := id wf
  refine bX4_keepByOne_0 (b4 := wa) (R := fun r h' => r = some (vI (nI (2 ^ W.1 - 1))) ∧ h = h') m1 m2 m3.1 (by omega) (c_everybody m3 m5 m4 ⟨rfl, rfl⟩) ?_
  rintro r h' ⟨rfl, rfl⟩
  refine bX4_keepByOne_9 ?_
  let q : Nat → Bool := fun o => decide (1 ≤ o) && hld W kd nm o o
  have q0 : q 0 = false := rfl
  refine vl_from (2 ^ W.1) 1 hp.1 (fun i => vm_E mX4_keepByOne d cx n 14 [some (vR (some am)), some (vR (some (nA b))), some (vR (some a)), some (vI (nI (mkN q i))), some (vI (nI (2 ^ W.1 - 1))), some (vI (nI i))] [] h Q) ?_ (fun i h1 h2 ih => ?_)
  · refine bX4_keepByOne_14 (fun _ => ?_) (fun hz => absurd (nI_lt (by omega) (by omega)) hz)
    have hlt : mkN q (2 ^ W.1) < 256 := Nat.lt_of_lt_of_le (mkN_lt q _) (Nat.le_trans (Nat.pow_le_pow_right (by decide) hp.2) (by decide))
    refine bX4_keepByOne_50 (R := fun r h' => r = none ∧ uS h w (fun k => sA h w k && (mkN q (2 ^ W.1)).testBit (ofv k v.2.2.1)) = h') g ha.1 (by omega) (by rw [(f.2.1 (by omega)).2.2.1]; exact c_keepValues (by omega) ha w3 hlt (fun _ => mk_even q0) ⟨rfl, rfl⟩) ?_
    rintro r h' ⟨rfl, rfl⟩
    refine bX4_keepByOne_59 (k _ (fz_uS _ _ _) ((eS_uS _ _ _).tr (fun j hj => ?_)))
    show (sA h w j && (mkN q (2 ^ W.1)).testBit (ofv j v.2.2.1)) = (sA h w j && ta1 W kd nm v.2.2.1 v.2.2.2 j)
    rw [mkN_bit]
    unfold ta1
    rw [if_pos hk]
    show (sA h w j && (decide (ofv j v.2.2.1 < 2 ^ W.1) && (decide (1 ≤ ofv j v.2.2.1) && hld W kd nm (ofv j v.2.2.1) (ofv j v.2.2.1)))) = (sA h w j && ((decide (1 ≤ ofv j v.2.2.1) && decide (ofv j v.2.2.1 < 2 ^ W.1)) && hld W kd nm (ofv j v.2.2.1) (ofv j v.2.2.1)))
    rw [← Bool.and_assoc (decide (ofv j v.2.2.1 < 2 ^ W.1)), Bool.and_comm (decide (ofv j v.2.2.1 < 2 ^ W.1))]
  · refine bX4_keepByOne_14 (fun hz => absurd hz (nI_nlt (by omega) (by omega))) (fun _ => ?_)
    refine bX4_keepByOne_21 (R := fun r h' => r = some (vI (bN (hld W kd nm i i))) ∧ h = h') m1 (by omega) (c_holds (by omega) m' g f (by omega) wf (by omega) (by omega) ⟨rfl, rfl⟩) ?_
    rintro r h' ⟨rfl, rfl⟩
    have es : mkN q (i + 1) = mkN q i + (if q i then 2 ^ i else 0) := rfl
    have eq : q i = hld W kd nm i i := by show (decide (1 ≤ i) && hld W kd nm i i) = _; rw [decide_eq_true h1]; rfl
    rw [eq] at es
    cases hb : hld W kd nm i i
    · rw [hb, if_neg (by decide)] at es
      refine bX4_keepByOne_31 (fun _ => bX4_keepByOne_41 (bX4_keepByOne_42 ?_)) (fun hz => absurd rfl hz)
      rw [nI_1, show (0 : Int32) = nI 0 from rfl, nI_or, Nat.or_zero, ← (show mkN q (i + 1) = mkN q i from es)]; exact ih
    · rw [hb, if_pos rfl] at es
      refine bX4_keepByOne_31 (fun hz => absurd hz (by decide +kernel)) (fun _ => bX4_keepByOne_34 (bX4_keepByOne_42 ?_))
      rw [nI_1, shl1 i (by omega), mk_or h1 (by omega), ← es]; exact ih
theorem c_keepByTwo {d cx n am wa b kd nm a w : Nat} {h : vH} {W : wT} {v : Nat × Nat × Nat × Nat} {Q : vQ} (hd : 3 ≤ d) (m : mw h am wa W) (g : (hK h)[nA b]? = some (5, 0)) (f : fd h kd nm v b) (hk : kd = 8 ∨ kd = 9 ∨ kd = 10) (wf : lfok kd nm v) (ha : isA h a w)
    (k : ∀ h', fz (fun r => r = w) h h' → eS (sA h' w) (fun k => sA h w k && ta1 W kd nm v.2.2.1 v.2.2.2 k) → Q none h') : vm_C mX4_keepByTwo d cx n [vR (some am), vR (some (nA b)), vR (some a)] h Q := by
  have m' := m
  obtain ⟨m1, m2, m3, m4, m5, m6, m7⟩ := m
  have hp : 1 ≤ 2 ^ W.1 ∧ 2 ^ W.1 ≤ 8 := (by decide : ∀ m, m < 4 → 1 ≤ 2 ^ m ∧ 2 ^ m ≤ 8) _ m5
  obtain ⟨w1, w2, w3, w4, -⟩ := id wf
  refine bX4_keepByTwo_0 (b4 := wa) (R := fun r h' => r = some (vI (nI (2 ^ W.1 - 1))) ∧ h = h') m1 m2 m3.1 (by omega) (c_everybody m3 m5 m4 ⟨rfl, rfl⟩) ?_
  rintro r h' ⟨rfl, rfl⟩
  refine bX4_keepByTwo_7 ?_
  let pt : Nat → Nat → Bool := fun i k => sA h w k && (!(decide (1 ≤ ofv k v.2.2.1) && decide (ofv k v.2.2.1 < i)) || (inO W.1 (ofv k v.2.2.2) && hld W kd nm (ofv k v.2.2.1) (ofv k v.2.2.2)))
  have main : ∀ (g0 : vH) (o5 o6 : Option vV), fz (fun r => r = w) h g0 → eS (sA g0 w) (pt 1) → vm_E mX4_keepByTwo d cx n 11 [some (vR (some am)), some (vR (some (nA b))), some (vR (some a)), some (vI (nI (2 ^ W.1 - 1))), some (vI (nI 1)), o5, o6] [] g0 Q := by
    refine vl_from (2 ^ W.1) 1 hp.1 (fun i => ∀ (g0 : vH) (o5 o6 : Option vV), fz (fun r => r = w) h g0 → eS (sA g0 w) (pt i) → vm_E mX4_keepByTwo d cx n 11 [some (vR (some am)), some (vR (some (nA b))), some (vR (some a)), some (vI (nI (2 ^ W.1 - 1))), some (vI (nI i)), o5, o6] [] g0 Q) (fun g0 o5 o6 f0 e0 => ?_) (fun i h1 h2 ih g0 o5 o6 f0 e0 => ?_)
    · refine bX4_keepByTwo_11 (fun _ => bX4_keepByTwo_82 (k g0 f0 (e0.tr (fun j hj => ?_)))) (fun hz => absurd (nI_lt (by omega) (by omega)) hz)
      show pt (2 ^ W.1) j = (sA h w j && ta1 W kd nm v.2.2.1 v.2.2.2 j)
      unfold ta1
      rw [if_neg (by omega)]
      rfl
    · refine bX4_keepByTwo_11 (fun hz => absurd hz (nI_nlt (by omega) (by omega))) (fun _ => bX4_keepByTwo_17 ?_)
      let q : Nat → Bool := fun o => decide (1 ≤ o) && hld W kd nm i o
      have q0 : q 0 = false := rfl
      have m0 := f0.w m'
      have g1 : (hK g0)[nA b]? = some (5, 0) := by rw [f0.K]; exact g
      have f1 : fd g0 kd nm v b := by unfold fd at f ⊢; rw [f0.I]; exact f
      have a0 : isA g0 a w := ha.fr f0.f
      refine vl_from (2 ^ W.1) 1 hp.1 (fun j => vm_E mX4_keepByTwo d cx n 23 [some (vR (some am)), some (vR (some (nA b))), some (vR (some a)), some (vI (nI (2 ^ W.1 - 1))), some (vI (nI i)), some (vI (nI (mkN q j))), some (vI (nI j))] [] g0 Q) ?_ (fun j h3 h4 jh => ?_)
      · refine bX4_keepByTwo_23 (fun _ => ?_) (fun hz => absurd (nI_lt (by omega) (by omega)) hz)
        have hlt : mkN q (2 ^ W.1) < 256 := Nat.lt_of_lt_of_le (mkN_lt q _) (Nat.le_trans (Nat.pow_le_pow_right (by decide) hp.2) (by decide))
        refine bX4_keepByTwo_60 (R := fun r h' => r = none ∧ uS g0 w (fun k => sA g0 w k && (!decide (ofv k v.2.2.1 = i) || (mkN q (2 ^ W.1)).testBit (ofv k v.2.2.2))) = h') g1 a0.1 (by omega) (by rw [(f1.2.1 (by omega)).2.2.1, (f1.2.1 (by omega)).2.2.2]; exact c_keepPartners (by omega) a0 w3 w4 (by omega) hlt (mk_even q0) ⟨rfl, rfl⟩) ?_
        rintro r h' ⟨rfl, rfl⟩
        refine bX4_keepByTwo_76 ?_
        rw [nI_1]
        refine ih _ _ _ (f0.tr (fz_uS _ _ _)) ((eS_uS _ _ _).tr (fun x hx => ?_))
        show (sA g0 w x && (!decide (ofv x v.2.2.1 = i) || (mkN q (2 ^ W.1)).testBit (ofv x v.2.2.2))) = pt (i + 1) x
        rw [e0 x hx, mkN_bit]
        show (sA h w x && (!(decide (1 ≤ ofv x v.2.2.1) && decide (ofv x v.2.2.1 < i)) || (inO W.1 (ofv x v.2.2.2) && hld W kd nm (ofv x v.2.2.1) (ofv x v.2.2.2))) && (!decide (ofv x v.2.2.1 = i) || (decide (ofv x v.2.2.2 < 2 ^ W.1) && (decide (1 ≤ ofv x v.2.2.2) && hld W kd nm i (ofv x v.2.2.2))))) = (sA h w x && (!(decide (1 ≤ ofv x v.2.2.1) && decide (ofv x v.2.2.1 < i + 1)) || (inO W.1 (ofv x v.2.2.2) && hld W kd nm (ofv x v.2.2.1) (ofv x v.2.2.2))))
        by_cases he : ofv x v.2.2.1 = i
        · rw [he, decide_eq_true rfl, decide_eq_true h1, decide_eq_false (show ¬ i < i by omega), decide_eq_true (show i < i + 1 by omega)]
          unfold inO
          rw [← Bool.and_assoc (decide (ofv x v.2.2.2 < 2 ^ W.1)), Bool.and_comm (decide (ofv x v.2.2.2 < 2 ^ W.1))]
          simp
        · rw [decide_eq_false he, show decide (ofv x v.2.2.1 < i + 1) = decide (ofv x v.2.2.1 < i) from by congr 1; apply propext; omega]
          simp
      · refine bX4_keepByTwo_23 (fun hz => absurd hz (nI_nlt (by omega) (by omega))) (fun _ => ?_)
        refine bX4_keepByTwo_29 (R := fun r h' => r = some (vI (bN (hld W kd nm i j))) ∧ g0 = h') m0.1 (by omega) (c_holds (by omega) m0 g1 f1 (by omega) wf (by omega) (by omega) ⟨rfl, rfl⟩) ?_
        rintro r h' ⟨rfl, rfl⟩
        have es : mkN q (j + 1) = mkN q j + (if q j then 2 ^ j else 0) := rfl
        have eq : q j = hld W kd nm i j := by show (decide (1 ≤ j) && hld W kd nm i j) = _; rw [decide_eq_true h3]; rfl
        rw [eq] at es
        cases hb : hld W kd nm i j
        · rw [hb, if_neg (by decide)] at es
          refine bX4_keepByTwo_40 (fun _ => bX4_keepByTwo_50 (bX4_keepByTwo_51 ?_)) (fun hz => absurd rfl hz)
          rw [nI_1, show (0 : Int32) = nI 0 from rfl, nI_or, Nat.or_zero, ← (show mkN q (j + 1) = mkN q j from es)]; exact jh
        · rw [hb, if_pos rfl] at es
          refine bX4_keepByTwo_40 (fun hz => absurd hz (by decide +kernel)) (fun _ => bX4_keepByTwo_43 (bX4_keepByTwo_51 ?_))
          rw [nI_1, shl1 j (by omega), mk_or h3 (by omega), ← es]; exact jh
  refine main h _ _ fz.rf (fun x hx => ?_)
  show sA h w x = (sA h w x && (!(decide (1 ≤ ofv x v.2.2.1) && decide (ofv x v.2.2.1 < 1)) || (inO W.1 (ofv x v.2.2.2) && hld W kd nm (ofv x v.2.2.1) (ofv x v.2.2.2))))
  have : (decide (1 ≤ ofv x v.2.2.1) && decide (ofv x v.2.2.1 < 1)) = false := by
    by_cases h0 : 1 ≤ ofv x v.2.2.1
    · rw [decide_eq_false (show ¬ ofv x v.2.2.1 < 1 by omega), Bool.and_false]
    · rw [decide_eq_false h0]; rfl
  rw [this]; simp
theorem objs : ∀ n, n < 4 → ((1 : Int32) <<< ((nI (2 ^ n - 1) + 1) &&& (31 : Int32))) - 2 = nI (2 ^ (2 ^ n) - 2) := by decide +kernel
theorem objb : ∀ n, n < 4 → ∀ o, o < 8 → (2 ^ (2 ^ n) - 2).testBit o = (decide (1 ≤ o) && decide (o < 2 ^ n)) := by decide +kernel
theorem allb : ∀ o, o < 8 → (255 : Nat).testBit o = true := by decide +kernel
def dr (n : Nat) (b : Bool) (A : List aT) (S : Nat → Bool) : Nat → Bool := if b then bw n A S else fw n A S
theorem c_turnBySome {d cx n am wa b nm a w : Nat} {bk : Bool} {h : vH} {W : wT} {v : Nat × Nat × Nat × Nat} {Q : vQ} (hd : 3 ≤ d) (m : mw h am wa W) (g : (hK h)[nA b]? = some (5, 0)) (f : fd h 6 nm v b) (wf : lfok 6 nm v) (ha : isA h a w)
    (k : ∀ h', fz (fun r => r = w) h h' → eS (sA h' w) (dr W.1 bk [.inl v.2.2.1] (sA h w)) → Q none h') : vm_C mX4_turnBySome d cx n [vR (some am), vR (some (nA b)), vR (some a), vI (bN bk)] h Q := by
  obtain ⟨m1, m2, m3, m4, m5, m6, m7⟩ := m
  obtain ⟨w1, w2, w3, w4, -⟩ := id wf
  refine bX4_turnBySome_0 (b4 := wa) (R := fun r h' => r = some (vI (nI (2 ^ W.1 - 1))) ∧ h = h') m1 m2 m3.1 (by omega) (c_everybody m3 m5 m4 ⟨rfl, rfl⟩) ?_
  rintro r h' ⟨rfl, rfl⟩
  have eo := objs W.1 m5
  have fin : ∀ (x4 : Int32) (F U : Nat), (∀ j, j < 512 → vary (sA h w) v.2.2.1 F U j = dr W.1 bk [.inl v.2.2.1] (sA h w) j) → ∀ o6, vm_E mX4_turnBySome d cx n 41 [some (vR (some am)), some (vR (some (nA b))), some (vR (some a)), some (vI (bN bk)), some (vI x4), some (vI (nI F)), o6] [vI (nI U)] h Q := fun x4 F U e o6 => by
    refine bX4_turnBySome_41 (R := fun r h' => r = none ∧ uS h w (vary (sA h w) v.2.2.1 F U) = h') g ha.1 (by omega) (by rw [(f.2.1 (by omega)).2.2.1]; exact c_vary (by omega) ha w3 ⟨rfl, rfl⟩) ?_
    rintro r h' ⟨rfl, rfl⟩
    exact bX4_turnBySome_55 (k _ (fz_uS _ _ _) ((eS_uS _ _ _).tr e))
  cases bk
  · refine bX4_turnBySome_8 (fun _ => bX4_turnBySome_24 (bX4_turnBySome_27 (fun _ => bX4_turnBySome_39 ?_) (fun hz => absurd rfl hz))) (fun hz => absurd rfl hz)
    rw [eo]
    refine fin _ 255 _ (fun j hj => ?_) _
    show ((2 ^ (2 ^ W.1) - 2).testBit (ofv j v.2.2.1) && ox (fun o => (255 : Nat).testBit o && sA h w (stv j v.2.2.1 o)) 8) = ((decide (1 ≤ ofv j v.2.2.1) && decide (ofv j v.2.2.1 < 2 ^ W.1)) && ox (fun o => sA h w (stv j v.2.2.1 o)) 8)
    rw [objb W.1 m5 _ (ofv_lt _ _), ox_ext (q := fun o => sA h w (stv j v.2.2.1 o)) (fun i hi => by rw [allb i hi, Bool.true_and])]
  · refine bX4_turnBySome_8 (fun hz => absurd hz (by decide +kernel)) (fun _ => bX4_turnBySome_19 (bX4_turnBySome_27 (fun hz => absurd hz (by decide +kernel)) (fun _ => bX4_turnBySome_33 ?_)))
    rw [eo]
    refine fin _ _ 255 (fun j hj => ?_) _
    show ((255 : Nat).testBit (ofv j v.2.2.1) && ox (fun o => (2 ^ (2 ^ W.1) - 2).testBit o && sA h w (stv j v.2.2.1 o)) 8) = ox (fun o => inO W.1 o && sA h w (stv j v.2.2.1 o)) 8
    rw [allb _ (ofv_lt _ _), Bool.true_and]
    exact ox_ext (fun i hi => by rw [objb W.1 m5 i hi]; rfl)
