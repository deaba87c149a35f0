/-! ===== states stay sound; what holds between two actions ===== -/
theorem Sok_acc {S : Nat → Int32} {C : Nat → Bool} {m K : Nat} (hS : Sok S) (c : cx (nS S) K C) (hm : m < 1073741824) (hK : K < 8) : Sok (accV S C m K) := by
  obtain ⟨s0, s1, s4, s6, -, -, -⟩ := id hS
  have eK : kS (accV S C m K) = K := by
    show (nI K).toNatClampNeg = K
    exact cs (by omega)
  refine ⟨s0, fun i hi => ?_, fun i hi => ?_, s6, ⟨K, rfl, hK⟩, ⟨m, rfl, hm⟩, fun a ha hc => ?_⟩
  · have e : accV S C m K (1 + i) = S (1 + i) := by unfold accV; rw [if_neg (by omega), if_neg (by omega), if_neg (by omega)]
    rw [e]; exact s1 i hi
  · have e : accV S C m K (4 + i) = S (4 + i) := by unfold accV; rw [if_neg (by omega), if_neg (by omega), if_neg (by omega)]
    rw [e]; exact s4 i hi
  · rw [ctx_acc ha] at hc
    rw [eK]
    exact c.s a ha hc
theorem ctx_fst (S : Nat → Int32) {a : Nat} (h : a < 512) : ctx (fstV S) a = decide (a = 0) := by
  unfold ctx fstV
  rw [if_neg (by omega), if_pos (by omega)]
  by_cases h0 : a / 32 = 0
  · rw [if_pos (by omega), bI_1 _ (by omega)]
    exact decide_eq_decide.mpr ⟨fun z => by omega, fun z => by omega⟩
  · rw [if_neg (by omega), bI_0]
    exact (decide_eq_false (by omega)).symm
theorem ofv_0 (v : Nat) : ofv 0 v = 0 := by unfold ofv; rw [Nat.zero_div]
theorem Sok_fst0 {S : Nat → Int32} (s0 : ∃ n, S 0 = nI n ∧ 1 ≤ n ∧ n ≤ 3) (s1 : ∀ i, i < 3 → ∃ p, S (1 + i) = nI p ∧ p < 2 ^ nS S) (s4 : ∀ i, i < 2 → ∃ r, S (4 + i) = nI r ∧ r < 512) (s6 : S 6 = 0 ∨ S 6 = 1) (s8 : ∃ m, S 8 = nI m ∧ m < 1073741824) : Sok (fstV S) := by
  have e : ∀ i, ¬ i = 7 → i < 9 → fstV S i = S i := fun i h7 h9 => by unfold fstV; rw [if_neg h7, if_neg (by omega)]
  have eK : kS (fstV S) = 0 := rfl
  refine ⟨s0, fun i hi => by rw [e (1 + i) (by omega) (by omega)]; exact s1 i hi, fun i hi => by rw [e (4 + i) (by omega) (by omega)]; exact s4 i hi, s6, ⟨0, rfl, by decide⟩, s8, fun a ha hc v hv => ?_⟩
  rw [ctx_fst S ha] at hc
  rw [of_decide_eq_true hc, eK, Nat.zero_testBit, if_neg (by decide)]
  exact ofv_0 v
theorem Sok_fst {S : Nat → Int32} (hS : Sok S) : Sok (fstV S) := by
  obtain ⟨s0, s1, s4, s6, -, s8, -⟩ := id hS
  exact Sok_fst0 s0 s1 s4 s6 s8
theorem Sok_setN {S : Nat → Int32} {m : Nat} (hS : Sok S) (h1 : 1 ≤ m) (h3 : m ≤ 3) : Sok (setN S (nI m)) := by
  obtain ⟨s0, s1, s4, s6, -, s8, -⟩ := id hS
  have z : ∀ i, 1 ≤ i → i < 6 → (fun j => if j = 0 then nI m else if j < 6 then (0 : Int32) else S j) i = nI 0 := fun i i1 i6 => by
    show (if i = 0 then nI m else if i < 6 then (0 : Int32) else S i) = nI 0
    rw [if_neg (by omega), if_pos i6]; rfl
  exact Sok_fst0 ⟨m, rfl, h1, h3⟩ (fun i hi => ⟨0, z _ (by omega) (by omega), Nat.two_pow_pos _⟩) (fun i hi => ⟨0, z _ (by omega) (by omega), by decide⟩) s6 s8
theorem Sok_put {S : Nat → Int32} {i : Nat} {y : Int32} (hS : Sok S) (h : (1 ≤ i ∧ i < 4 ∧ ∃ p, y = nI p ∧ p < 2 ^ nS S) ∨ (4 ≤ i ∧ i < 6 ∧ ∃ r, y = nI r ∧ r < 512) ∨ i = 6 ∧ (y = 0 ∨ y = 1)) : Sok (putV S i y) := by
  obtain ⟨s0, s1, s4, s6, s7, s8, sc⟩ := id hS
  have e : ∀ j, ¬ j = i → putV S i y j = S j := fun j hj => if_neg hj
  have ei : putV S i y i = y := if_pos rfl
  have e0 : putV S i y 0 = S 0 := e 0 (by omega)
  have e7 : putV S i y 7 = S 7 := e 7 (by omega)
  have en : nS (putV S i y) = nS S := by unfold nS; rw [e0]
  have ek : kS (putV S i y) = kS S := by unfold kS; rw [e7]
  refine ⟨by rw [e0]; exact s0, fun j hj => ?_, fun j hj => ?_, ?_, by rw [e7]; exact s7, by rw [e 8 (by omega)]; exact s8, fun a ha hc => ?_⟩
  · rw [en]
    by_cases hj2 : 1 + j = i
    · rw [hj2, ei]
      rcases h with ⟨_, _, z⟩ | ⟨_, _, z⟩ | ⟨_, z⟩
      · exact z
      · omega
      · omega
    · rw [e _ hj2]; exact s1 j hj
  · by_cases hj2 : 4 + j = i
    · rw [hj2, ei]
      rcases h with ⟨_, _, z⟩ | ⟨_, _, z⟩ | ⟨_, z⟩
      · omega
      · exact z
      · omega
    · rw [e _ hj2]; exact s4 j hj
  · by_cases h6 : 6 = i
    · rw [h6, ei]
      rcases h with ⟨_, _, z⟩ | ⟨_, _, z⟩ | ⟨_, z⟩
      · omega
      · omega
      · exact z
    · rw [e _ h6]; exact s6
  · have ec : ctx (putV S i y) a = ctx S a := by unfold ctx; rw [e _ (by omega)]
    rw [ec] at hc
    rw [ek, en]
    exact sc a ha hc
def Hok (H : List (Nat → Int32)) : Prop := ∀ T, T ∈ H → Sok T
theorem Hok_push {S : Nat → Int32} {H : List (Nat → Int32)} (hH : Hok H) (hS : Sok S) : Hok (push5 H S) := fun T hT => by
  unfold push5 at hT
  rcases List.mem_append.mp hT with z | z
  · split at z
    · exact hH T (List.mem_of_mem_drop z)
    · exact hH T z
  · rw [List.mem_singleton.mp z]; exact hS
def aO (r : aR) : Prop := Sok r.2.1 ∧ Hok r.2.2
section
variable {S : Nat → Int32} {H : List (Nat → Int32)}
theorem o_setIndividuals (x : Int32) (hS : Sok S) (hH : Hok H) : aO (f_setIndividuals x S H) := by
  unfold f_setIndividuals
  by_cases h : ∃ m, 1 ≤ m ∧ m ≤ 3 ∧ x = nI m
  · rw [cif_t h]
    obtain ⟨m, h1, h3, rfl⟩ := h
    exact ⟨Sok_setN hS h1 h3, Hok_push hH hS⟩
  · rw [cif_f h]; exact ⟨hS, hH⟩
theorem o_setPredicate (x y : Int32) (hS : Sok S) (hH : Hok H) : aO (f_setPredicate x y S H) := by
  unfold f_setPredicate
  by_cases h : ix x 3 ∧ ix y (2 ^ nS S)
  · rw [cif_t h]
    obtain ⟨⟨i, hi, rfl⟩, ⟨p, hp, rfl⟩⟩ := h
    rw [cs (by omega)]
    exact ⟨Sok_put hS (Or.inl ⟨by omega, by omega, p, rfl, hp⟩), Hok_push hH hS⟩
  · rw [cif_f h]; exact ⟨hS, hH⟩
theorem o_setPair (x a b z : Int32) (hS : Sok S) (hH : Hok H) : aO (f_setPair x a b z S H) := by
  unfold f_setPair
  by_cases h : ix x 2 ∧ ix a (nS S) ∧ ix b (nS S) ∧ ix z 2
  · rw [cif_t h]
    obtain ⟨⟨i, hi, rfl⟩, -⟩ := h
    refine ⟨?_, Hok_push hH hS⟩
    show Sok (prV S (nI i) a b z)
    unfold prV
    rw [cs (by omega)]
    exact Sok_put hS (Or.inr (Or.inl ⟨by omega, by omega, _, rfl, mkN_lt _ 9⟩))
  · rw [cif_f h]; exact ⟨hS, hH⟩
theorem o_resetContext (hS : Sok S) (hH : Hok H) : aO (f_resetContext S H) := ⟨Sok_fst hS, Hok_push hH hS⟩
theorem o_setAccommodation (x : Int32) (hS : Sok S) (hH : Hok H) : aO (f_setAccommodation x S H) := by
  unfold f_setAccommodation
  by_cases h : ix x 2
  · rw [cif_t h]
    obtain ⟨i, hi, rfl⟩ := h
    refine ⟨Sok_put hS (Or.inr (Or.inr ⟨rfl, ?_⟩)), Hok_push hH hS⟩
    have : i = 0 ∨ i = 1 := by omega
    rcases this with rfl | rfl
    · exact Or.inl rfl
    · exact Or.inr rfl
  · rw [cif_f h]; exact ⟨hS, hH⟩
theorem o_accept {t : Nat → Nat} {L : Nat} (hS : Sok S) (hH : Hok H) (hT : Tok t L) : aO (f_accept (fT (ta1 (wS S)) S (chAt t L) L) S H) := by
  have A := (fT_agr hS hT).2
  generalize fT (ta1 (wS S)) S (chAt t L) L = X at A
  match X, A with
  | .inl e, _ => exact ⟨hS, hH⟩
  | .inr (.inl p), _ => exact ⟨hS, hH⟩
  | .inr (.inr (C, m, K)), A =>
    obtain ⟨a1, a2, a3⟩ := A C m K rfl
    exact ⟨Sok_acc hS a1 a2 a3, Hok_push hH hS⟩
end
/-- what holds between two actions -/
def Inv (h : vH) (S : Nat → Int32) (H : List (Nat → Int32)) (t : Nat → Nat) (L : Nat) : Prop := cR h S H t L ∧ mR h S H t L ∧ Sok S ∧ Hok H ∧ Tok t L
theorem mR_c {h h' : vH} {S : Nat → Int32} {H : List (Nat → Int32)} {t : Nat → Nat} {L : Nat} (x : mR h S H t L) (f : cF h h') : mR h' S H t L := by
  obtain ⟨x1, x2, x3, x4⟩ := x
  obtain ⟨fK, fX, fq⟩ := f
  refine ⟨?_, fun i hi => by rw [(fq 367 (by omega)).1]; exact x2 i hi, ?_, ?_⟩
  · unfold LM
    rw [fK, (fq 366 (by omega)).2.2]; exact x1
  · unfold mh
    rw [(fq 366 (by omega)).1, (fq 368 (by omega)).1]; exact x3
  · unfold mtx
    rw [(fq 366 (by omega)).1, (fq 369 (by omega)).1]; exact x4
theorem cR_m {h h' : vH} {S : Nat → Int32} {H : List (Nat → Int32)} {t : Nat → Nat} {L : Nat} (x : cR h S H t L) (f : mF h h') : cR h' S H t L := x.fr f (fun r hr => by omega)
def rC (h : vH) (v : Int32) (S : Nat → Int32) (H : List (Nat → Int32)) (t : Nat → Nat) (L : Nat) : vQ := fun r h' => r = some (vI v) ∧ cF h h' ∧ cR h' S H t L
def rM (h : vH) (v : Int32) (S : Nat → Int32) (H : List (Nat → Int32)) (t : Nat → Nat) (L : Nat) : vQ := fun r h' => r = some (vI v) ∧ mF h h' ∧ mR h' S H t L
theorem fr40 {h h' : vH} (f : fr (fun r => r ≤ 40) h h') : cF h h' := f.c (fun r hr => by omega)
theorem mF_rf (h : vH) : mF h h := fb.rf.m
theorem mF_X {h h' : vH} (f : mF h h') : hX h' = hX h := f.x
