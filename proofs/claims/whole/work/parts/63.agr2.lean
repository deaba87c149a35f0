/-! ===== the answers of both sides are the same ===== -/
theorem adj1 {n : Nat} {a : aT} (va : vok a) (C S : Nat → Bool) : ox (fun k => fw1 n a C k && S k) 512 = ox (fun k => C k && bw1 n a S k) 512 := by
  refine Bool.eq_iff_iff.mpr ?_
  rw [ox_t, ox_t]
  cases a with
  | inr X =>
    refine ⟨fun ⟨k, hk, q⟩ => ⟨k, hk, ?_⟩, fun ⟨k, hk, q⟩ => ⟨k, hk, ?_⟩⟩
    · have q : ((C k && X k) && S k) = true := q
      show (C k && (S k && X k)) = true
      rw [Bool.and_eq_true, Bool.and_eq_true] at q
      rw [q.1.1, q.1.2, q.2]; rfl
    · have q : (C k && (S k && X k)) = true := q
      show ((C k && X k) && S k) = true
      rw [Bool.and_eq_true, Bool.and_eq_true] at q
      rw [q.1, q.2.1, q.2.2]; rfl
  | inl v =>
    have hv : v < 3 := va
    refine ⟨fun ⟨k, hk, q⟩ => ?_, fun ⟨k, hk, q⟩ => ?_⟩
    · have q : ((inO n (ofv k v) && ox (fun o => C (stv k v o)) 8) && S k) = true := q
      rw [Bool.and_eq_true, Bool.and_eq_true] at q
      obtain ⟨o, ho, hc⟩ := ox_t.mp q.1.2
      refine ⟨stv k v o, (ofv_st v hv k hk o ho).1, ?_⟩
      show (C (stv k v o) && ox (fun o' => inO n o' && S (stv (stv k v o) v o')) 8) = true
      rw [hc, Bool.true_and]
      refine ox_t.mpr ⟨ofv k v, ofv_lt k v, ?_⟩
      rw [stv_st hv hk ho (ofv_lt k v), stv_id hv hk, q.1.1, q.2]; rfl
    · have q : (C k && ox (fun o => inO n o && S (stv k v o)) 8) = true := q
      rw [Bool.and_eq_true] at q
      obtain ⟨o, ho, hc⟩ := ox_t.mp q.2
      rw [Bool.and_eq_true] at hc
      refine ⟨stv k v o, (ofv_st v hv k hk o ho).1, ?_⟩
      show ((inO n (ofv (stv k v o) v) && ox (fun o' => C (stv (stv k v o) v o')) 8) && S (stv k v o)) = true
      rw [(ofv_st v hv k hk o ho).2, hc.1, hc.2, Bool.true_and, Bool.and_true]
      refine ox_t.mpr ⟨ofv k v, ofv_lt k v, ?_⟩
      rw [stv_st hv hk ho (ofv_lt k v), stv_id hv hk]; exact q.1
theorem adj {n : Nat} : ∀ (A : List aT), voks A → ∀ C S : Nat → Bool, ox (fun k => fw n A C k && S k) 512 = ox (fun k => C k && bw n A S k) 512
  | [], _, _, _ => rfl
  | a :: r, v, C, S => (adj r v.h.2 (fw1 n a C) S).trans (adj1 v.h.1 C (bw n r S))
theorem emp_ox (C : Nat → Bool) : (!emp C) = ox C 512 := by
  refine Bool.eq_iff_iff.mpr ?_
  rw [ox_t]
  cases e : emp C
  · refine ⟨fun _ => ?_, fun _ => rfl⟩
    refine Classical.byContradiction (fun z => ?_)
    have : emp C = true := emp_t.mpr (fun k hk => by
      cases hc : C k
      · rfl
      · exact absurd ⟨k, hk, hc⟩ z)
    rw [e] at this; cases this
  · refine ⟨fun z => (by cases z), fun ⟨k, hk, q⟩ => ?_⟩
    rw [emp_t.mp e k hk] at q; cases q
theorem first_fw {n : Nat} {A : List aT} (v : voks A) : (!emp (fw n A (fun k => decide (k = 0)))) = hasR n A 0 := by
  rw [emp_ox]
  have e : ox (fun k => fw n A (fun k => decide (k = 0)) k && (fun _ => true) k) 512 = ox (fun k => decide (k = 0) && bw n A (fun _ => true) k) 512 := adj A v _ _
  have e2 : ox (fun k => fw n A (fun k => decide (k = 0)) k && (fun _ => true) k) 512 = ox (fw n A (fun k => decide (k = 0))) 512 := ox_ext fun k _ => Bool.and_true _
  rw [e2] at e
  rw [e]
  refine Bool.eq_iff_iff.mpr ?_
  rw [ox_t]
  refine ⟨fun ⟨k, hk, q⟩ => ?_, fun q => ⟨0, by decide, ?_⟩⟩
  · rw [Bool.and_eq_true] at q
    rw [← of_decide_eq_true q.1]; exact q.2
  · rw [decide_eq_true rfl]; exact q
theorem al_first (U : Nat → Bool) : al (fun k => decide (k = 0)) U = U 0 := by
  refine Bool.eq_iff_iff.mpr ?_
  rw [al_t]
  refine ⟨fun h => h 0 (by decide) (decide_eq_true rfl), fun h k _ hk => ?_⟩
  rw [of_decide_eq_true hk]; exact h
theorem sm_add (f g : Nat → Nat) : ∀ n, sm (fun p => f p + g p) n = sm f n + sm g n
  | 0 => rfl
  | n + 1 => by
    show sm (fun p => f p + g p) n + (f n + g n) = (sm f n + f n) + (sm g n + g n)
    rw [sm_add f g n]; omega
theorem sm_cn (D : Nat → Bool) : ∀ n, sm (fun p => if D p then 1 else 0) n = cn D n
  | 0 => rfl
  | n + 1 => by
    show sm (fun p => if D p then 1 else 0) n + (if D n then 1 else 0) = cn D n + (if D n then 1 else 0)
    rw [sm_cn D n]
theorem sm_0 : ∀ n, sm (fun _ => 0) n = 0
  | 0 => rfl
  | n + 1 => sm_0 n
theorem sm_ext {f g : Nat → Nat} : ∀ {n : Nat}, (∀ p, p < n → f p = g p) → sm f n = sm g n
  | 0, _ => rfl
  | n + 1, e => by
    show sm f n + f n = sm g n + g n
    rw [sm_ext (fun p hp => e p (by omega)), e n (Nat.lt_succ_self n)]
theorem sm_grid (D : Nat → Nat → Bool) (N : Nat) (hN : 0 < N) : ∀ M, sm (fun p => cn (fun q => D p q) M) N = cn (fun w => D (w % N) (w / N)) (N * M)
  | 0 => sm_0 N
  | M + 1 => by
    rw [Nat.mul_succ, cn_add, ← sm_grid D N hN M]
    have e1 : cn (fun k => D ((N * M + k) % N) ((N * M + k) / N)) N = cn (fun p => D p M) N := cn_ext fun k hk => by
      rw [Nat.mul_add_mod, Nat.mod_eq_of_lt hk, Nat.mul_add_div hN, Nat.div_eq_of_lt hk, Nat.add_zero]
    rw [e1, ← sm_cn (fun p => D p M) N, ← sm_add]
    rfl
theorem worlds_eq {S : Nat → Int32} {t : Nat → Nat} {L : Nat} (hS : Sok S) (hT : Tok t L) : f_worldsTrue S (chAt t L) L = f_worlds2 S (chAt t L) L := by
  unfold f_worldsTrue f_worlds2
  cases e : dsc (chAt t L) L with
  | inl q => rfl
  | inr r =>
    show (if (un r).2.1 0 = none then _ else _) = (if (un r).2.1 0 = none then _ else _)
    by_cases hu : (un r).2.1 0 = none
    · rw [if_pos hu, if_pos hu]
      have w := (dsc_wf hT.k hT.1 e).2.1
      have key : ∀ p q, (!emp (fw (nS S) (ac (nS S) (ta1 (wP S p q)) r).2.1 (fun k => decide (k = 0)))) = al (fun k => decide (k = 0)) (hasR (nS S) (ac (nS S) (ta2 (wP S p q)) r).2.1) := fun p q => by
        rw [al_first, first_fw ((ac_ok (nS S) (ta1 (wP S p q)) r).2 w).1]
        exact ((bw_agr (wP S p q) r).2 w) 0 hu (fun _ => true) (fun _ => true) (fun _ _ _ => rfl) 0 (by decide) (fun v _ tv => by rw [Nat.zero_testBit] at tv; cases tv)
      have e2 : 2 ^ (2 * nS S) = 2 ^ nS S * 2 ^ nS S := by rw [← Nat.pow_add, show 2 * nS S = nS S + nS S by omega]
      rw [e2]
      have g := sm_grid (fun p q => al (fun k => decide (k = 0)) (hasR (nS S) (ac (nS S) (ta2 (wP S p q)) r).2.1)) (2 ^ nS S) (Nat.two_pow_pos _) (2 ^ nS S)
      have g2 : sm (fun p => cn (fun q => !emp (fw (nS S) (ac (nS S) (ta1 (wP S p q)) r).2.1 (fun k => decide (k = 0)))) (2 ^ nS S)) (2 ^ nS S) = cn (wC S r) (2 ^ nS S * 2 ^ nS S) := by
        rw [show cn (wC S r) (2 ^ nS S * 2 ^ nS S) = cn (fun w => al (fun k => decide (k = 0)) (hasR (nS S) (ac (nS S) (ta2 (wP S (w % 2 ^ nS S) (w / 2 ^ nS S))) r).2.1)) (2 ^ nS S * 2 ^ nS S) from rfl, ← g]
        exact sm_ext fun p _ => cn_ext fun q _ => key p q
      rw [g2]
    · rw [if_neg hu, if_neg hu]
/-! states stay sound -/
theorem Sok.c {S : Nat → Int32} (hS : Sok S) : cx (nS S) (kS S) (ctx S) := fun k hk hc v hv => by
  have := hS.2.2.2.2.2.2 k hk hc v hv
  by_cases tv : (kS S).testBit v = true
  · rw [if_pos tv] at this ⊢
    exact inO_t.mpr this
  · rw [if_neg tv] at this ⊢
    exact this
theorem cx.s {n K : Nat} {C : Nat → Bool} (x : cx n K C) : ∀ a, a < 512 → C a = true → ∀ v, v < 3 → if K.testBit v then 1 ≤ ofv a v ∧ ofv a v < 2 ^ n else ofv a v = 0 := fun a ha hc v hv => by
  have := x a ha hc v hv
  by_cases tv : K.testBit v = true
  · rw [if_pos tv] at this ⊢
    exact inO_t.mp this
  · rw [if_neg tv] at this ⊢
    exact this
def tE : tR → tR → Prop
  | .inl a, .inl b => a = b
  | .inr (.inl a), .inr (.inl b) => a = b
  | .inr (.inr a), .inr (.inr b) => eS a.1 b.1 ∧ a.2 = b.2
  | _, _ => False
theorem fT_1 {τ : Nat → Nat → Nat → Nat → Nat → Bool} {S : Nat → Int32} {c : Nat → Nat} {L : Nat} {r : T} (e : dsc c L = .inr r) (hu : (un r).2.1 (kS S) = none) : fT τ S c L = (match acp (nS S) τ (decide (¬ S 6 = 0)) r 0 (ctx S) 0 with
      | .inl p => .inr (.inl p)
      | .inr q => .inr (.inr (q.1, q.2, (kb r).2 (kS S)))) := by unfold fT; rw [e]; exact if_pos hu
theorem fT_2 {τ : Nat → Nat → Nat → Nat → Nat → Bool} {S : Nat → Int32} {c : Nat → Nat} {L : Nat} {r : T} (e : dsc c L = .inr r) (hu : ¬ (un r).2.1 (kS S) = none) : fT τ S c L = .inl 3 := by unfold fT; rw [e]; exact if_neg hu
theorem fT_3 {τ : Nat → Nat → Nat → Nat → Nat → Bool} {S : Nat → Int32} {c : Nat → Nat} {L q : Nat} (e : dsc c L = .inl q) : fT τ S c L = .inl 2 := by unfold fT; rw [e]
theorem fT_agr {S : Nat → Int32} {t : Nat → Nat} {L : Nat} (hS : Sok S) (hT : Tok t L) : tE (fT (ta1 (wS S)) S (chAt t L) L) (fT (ta2 (wS S)) S (chAt t L) L) ∧ ∀ C m K, fT (ta1 (wS S)) S (chAt t L) L = .inr (.inr (C, m, K)) → cx (nS S) K C ∧ m < 1073741824 ∧ K < 8 := by
  cases e : dsc (chAt t L) L with
  | inl q =>
    rw [fT_3 e, fT_3 e]
    exact ⟨rfl, fun C m K z => (by cases z)⟩
  | inr r =>
    obtain ⟨w1, w, w3, w4, w5, w6⟩ := dsc_wf hT.k hT.1 e
    have hL := hT.1
    by_cases hu : (un r).2.1 (kS S) = none
    · rw [fT_1 e hu, fT_1 e hu]
      have A := acp_agr (wS S) (on := decide (¬ S 6 = 0)) r (kS S) 0 (ctx S) 0 w hu hS.c
      have M := acp_m (n := nS S) (τ := ta1 (wS S)) (on := decide (¬ S 6 = 0)) r 0 (ctx S) 0
      have A1 : eR (acp (nS S) (ta1 (wS S)) (decide (¬ S 6 = 0)) r 0 (ctx S) 0) (acp (nS S) (ta2 (wS S)) (decide (¬ S 6 = 0)) r 0 (ctx S) 0) := A.1
      have A2 : ∀ C' m', acp (nS S) (ta1 (wS S)) (decide (¬ S 6 = 0)) r 0 (ctx S) 0 = .inr (C', m') → cx (nS S) ((kb r).2 (kS S)) C' := A.2
      have hK := (kb_lt r).2 w (kS S) hS.k.2
      generalize acp (nS S) (ta1 (wS S)) (decide (¬ S 6 = 0)) r 0 (ctx S) 0 = x at A1 A2 M ⊢
      generalize acp (nS S) (ta2 (wS S)) (decide (¬ S 6 = 0)) r 0 (ctx S) 0 = y at A1 ⊢
      match x, y, A1, A2, M with
      | .inl a, .inl b, A1, A2, M => exact ⟨A1, fun C m K z => by injection z with z; cases z⟩
      | .inr a, .inr b, A1, A2, M =>
        refine ⟨⟨A1.1, by show (a.2, (kb r).2 (kS S)) = (b.2, (kb r).2 (kS S)); rw [show a.2 = b.2 from A1.2]⟩, fun C m K z => ?_⟩
        injection z with z; injection z with z; injection z with z1 z; injection z with z2 z3
        rw [← z1, ← z2, ← z3]
        exact ⟨A2 a.1 a.2 rfl, M a.1 a.2 (by omega) (by decide) rfl, hK⟩
      | .inl a, .inr b, A1, _, _ => exact A1.elim
      | .inr a, .inl b, A1, _, _ => exact A1.elim
    · rw [fT_2 e hu, fT_2 e hu]
      exact ⟨rfl, fun C m K z => (by cases z)⟩
theorem tE_ans {x y : tR} (h : tE x y) : ansT x = ansT y := by
  match x, y, h with
  | .inl a, .inl b, h => rw [show a = b from h]
  | .inr (.inl a), .inr (.inl b), h => rfl
  | .inr (.inr a), .inr (.inr b), h =>
    show nI (cn a.1 512) = nI (cn b.1 512)
    rw [cn_ext h.1]
theorem tE_fail {x y : tR} (h : tE x y) : f_failingAt x = f_failingAt y := by
  match x, y, h with
  | .inl a, .inl b, h => rw [show a = b from h]
  | .inr (.inl a), .inr (.inl b), h => rw [show a = b from h]
  | .inr (.inr a), .inr (.inr b), h => rfl
theorem tE_acc {x y : tR} (h : tE x y) (S : Nat → Int32) (H : List (Nat → Int32)) : f_accept x S H = f_accept y S H := by
  match x, y, h with
  | .inl a, .inl b, h => rw [show a = b from h]
  | .inr (.inl a), .inr (.inl b), h => rw [show a = b from h]
  | .inr (.inr a), .inr (.inr b), h =>
    show (nI (cn a.1 512), accV S a.1 a.2.1 a.2.2, push5 H S) = (nI (cn b.1 512), accV S b.1 b.2.1 b.2.2, push5 H S)
    rw [cn_ext h.1, h.2, accV_ext h.1]
theorem supports_eq {S : Nat → Int32} {t : Nat → Nat} {L : Nat} (hS : Sok S) (hT : Tok t L) : f_supports (ta1 (wS S)) S (chAt t L) L = f_supports (ta2 (wS S)) S (chAt t L) L := by
  unfold f_supports
  cases e : dsc (chAt t L) L with
  | inl q => rfl
  | inr r =>
    have w := (dsc_wf hT.k hT.1 e).2.1
    show (if (un r).2.1 (kS S) = none then _ else _) = (if (un r).2.1 (kS S) = none then _ else _)
    by_cases hu : (un r).2.1 (kS S) = none
    · rw [if_pos hu, if_pos hu]
      have : al (ctx S) (hasR (nS S) (ac (nS S) (ta1 (wS S)) r).2.1) = al (ctx S) (hasR (nS S) (ac (nS S) (ta2 (wS S)) r).2.1) := al_agr (fun k hk hc => (bw_agr (wS S) r).2 w (kS S) hu (fun _ => true) (fun _ => true) (fun _ _ _ => rfl) k hk (hS.c k hk hc).p)
      rw [this]
    · rw [if_neg hu, if_neg hu]
theorem size_eq {x : Int32} {S : Nat → Int32} {t : Nat → Nat} {L : Nat} (hS : Sok S) (hT : Tok t L) : f_sizeBehind (ta1 (wS S)) x S (chAt t L) L = f_sizeBehind (ta2 (wS S)) x S (chAt t L) L := by
  unfold f_sizeBehind
  cases e : dsc (chAt t L) L with
  | inl q => rfl
  | inr r =>
    have w := (dsc_wf hT.k hT.1 e).2.1
    show cif (x < 0) (-1) (if (un r).2.1 (kS S) = none then _ else _) = cif (x < 0) (-1) (if (un r).2.1 (kS S) = none then _ else _)
    by_cases hu : (un r).2.1 (kS S) = none
    · rw [if_pos hu, if_pos hu]
      have : cn (tkF (nS S) (ta1 (wS S)) r x.toNatClampNeg (ctx S)) 512 = cn (tkF (nS S) (ta2 (wS S)) r x.toNatClampNeg (ctx S)) 512 := cn_ext (tkF_agr (wS S) r (kS S) x.toNatClampNeg (ctx S) (ctx S) w hu hS.c eS.rf)
      rw [this]
    · rw [if_neg hu, if_neg hu]
