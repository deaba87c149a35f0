/-! ===== the reference's reader: units, rows, choices, formulas, by induction ===== -/
theorem udf_cons (u : Option Nat) (d : Nat) (f : fR) (r : List fR) (x : Option (Nat × Nat)) : ∃ f1 : fR, (udf u d (f :: r) x).2.2 = f1 :: (udf u d r (shn (ct f) x)).2.2 ∧ (udf u d (f :: r) x).1 = (udf u d r (shn (ct f) x)).1 ∧ (udf u d (f :: r) x).2.1 = (udf u d r (shn (ct f) x)).2.1 ∧ (f1 = f ∧ (u = none → x = none) ∨ f1 = mkF f ∧ u = none ∧ ¬ x = none) := by
  cases u with
  | some q => exact ⟨f, rfl, rfl, rfl, Or.inl ⟨rfl, fun z => (by cases z)⟩⟩
  | none => cases x with
    | none => exact ⟨f, rfl, rfl, rfl, Or.inl ⟨rfl, fun _ => rfl⟩⟩
    | some y =>
      refine ⟨mkF f, rfl, rfl, ?_, Or.inr ⟨rfl, rfl, nofun⟩⟩
      show d + y.2 + (sct r + ct f) = d + (y.2 + ct f) + sct r
      omega
theorem udf_none {u : Option Nat} {d : Nat} {F : List fR} {x : Option (Nat × Nat)} : (udf u d F x).1 = none ↔ u = none ∧ x = none := by
  cases u with
  | some q => exact ⟨fun z => (by cases z), fun z => (by cases z.1)⟩
  | none => cases x with
    | none => exact ⟨fun _ => ⟨rfl, rfl⟩, fun _ => rfl⟩
    | some y => exact ⟨fun z => (by cases z), fun z => (by cases z.2)⟩
theorem shn_none {s : Nat} {x : Option (Nat × Nat)} : shn s x = none ↔ x = none := by cases x with
  | none => exact ⟨fun _ => rfl, fun _ => rfl⟩
  | some y => exact ⟨fun z => (by cases z), fun z => (by cases z)⟩
theorem or2_none {x y : Option (Nat × Nat)} : or2 x y = none ↔ x = none ∧ y = none := by cases x with
  | none => exact ⟨fun z => ⟨rfl, z⟩, fun z => z.2⟩
  | some q => exact ⟨fun z => (by cases z), fun z => (by cases z.1)⟩
def b01 (b : Bool) : Nat := if b then 1 else 0
theorem bN_n (b : Bool) : bN b = nI (b01 b) := by cases b <;> rfl
/-- an arrow's mark counted -/
theorem udf_am (u : Option Nat) (d : Nat) (r : List fR) (x : Option (Nat × Nat)) : (udf u d r (shn 1 x)).1 = (udf u d r x).1 ∧ (udf u d r (shn 1 x)).2.1 = (udf u d r x).2.1 + b01 (decide (u = none ∧ ¬ (udf u d r x).1 = none)) ∧ (udf u d r (shn 1 x)).2.2 = (udf u d r x).2.2 := by
  cases u with
  | some q => exact ⟨rfl, by rw [decide_eq_false (fun z => by cases z.1)]; rfl, rfl⟩
  | none => cases x with
    | none => exact ⟨rfl, by rw [decide_eq_false (fun z => z.2 rfl)]; rfl, rfl⟩
    | some y =>
      refine ⟨rfl, ?_, rfl⟩
      rw [decide_eq_true ⟨rfl, nofun⟩]
      show d + (y.2 + 1) + sct r = d + y.2 + sct r + 1
      omega
theorem udf_kinds (u : Option Nat) (d : Nat) (F : List fR) (x : Option (Nat × Nat)) : (udf u d F x).2.2.map Prod.fst = F.map Prod.fst := by
  cases u with
  | some q => rfl
  | none => cases x with
    | none => rfl
    | some y =>
      show (F.map mkF).map Prod.fst = F.map Prod.fst
      rw [List.map_map]; rfl
theorem und_k : ∀ F G : List fR, F.map Prod.fst = G.map Prod.fst → und F = und G
  | [], [], _ => rfl
  | [], _ :: _, h => by cases h
  | _ :: _, [], h => by cases h
  | f :: r, g :: s, h => by
    injection h with h1 h2
    show (if f.1 = 3 then und r else f.1) = (if g.1 = 3 then und s else g.1)
    rw [h1, und_k r s h2]
theorem okB_k {F G : List fR} (h : F.map Prod.fst = G.map Prod.fst) (x : okB F) : okB G := by
  obtain ⟨f, hf, hn⟩ := x
  have : f.1 ∈ G.map Prod.fst := by rw [← h]; exact List.mem_map_of_mem hf
  obtain ⟨g, hg, e⟩ := List.mem_map.mp this
  exact ⟨g, hg, by rw [e]; exact hn⟩
/-! trees of rows and choices -/
def sing : T → Bool
  | .inner _ _ _ _ .leaf => true
  | _ => false
theorem wr2_kb : ∀ (x : T) (K : Nat), (kb (wr 2 x)).1 K = (kb x).2 K
  | .leaf, _ => rfl
  | .inner _ _ _ _ .leaf, _ => rfl
  | .inner _ _ _ _ (.inner ..), _ => rfl
theorem wr2_un : ∀ (x : T) (K : Nat), (un (wr 2 x)).1 K = (un x).2.1 K
  | .leaf, _ => rfl
  | .inner _ _ _ a .leaf, K => by show (un a).1 K = or2 ((un a).1 K) none; rw [or2_n]
  | .inner _ _ _ _ (.inner ..), _ => rfl
theorem wr2_ac (n : Nat) (τ : Nat → Nat → Nat → Nat → Nat → Bool) : ∀ x : T, (ac n τ (wr 2 x)).1 = (ac n τ x).2.1
  | .leaf => rfl
  | .inner _ _ _ a .leaf => by show (ac n τ a).1 = (ac n τ a).1 ++ []; rw [List.append_nil]
  | .inner _ _ _ _ (.inner ..) => rfl
def chU (i : Nat) (x : T) (K : Nat) : Option (Nat × Nat) := if i = 0 ∧ sing x = true then (un x).2.2 K else shn 1 ((un x).2.2 K)
def chK (i : Nat) (x : T) (K : Nat) : Nat := if i = 0 ∧ sing x = true then (kb x).2 K else K
def chA (W : wT) (i : Nat) (U : Nat → Bool) (x : T) : List aT := if i = 0 ∧ sing x = true then (ac W.1 (ta2 W) x).2.1 else [.inr (fun k => (decide (0 < i) && U k) || (ac W.1 (ta2 W) x).2.2.1 k)]
theorem wr3_kb (K : Nat) (a r : T) : (kb (wr 3 (cc a r))).1 K = chK 0 (cc a r) K := by
  cases r with
  | leaf => rfl
  | inner k2 n2 v2 l2 r2 => rfl
theorem wr3_un (K : Nat) (a r : T) : (un (wr 3 (cc a r))).1 K = chU 0 (cc a r) K := by
  cases r with
  | leaf => show (un a).1 K = or2 ((un a).1 K) none; rw [or2_n]
  | inner k2 n2 v2 l2 r2 => rfl
theorem wr3_ac (W : wT) (U : Nat → Bool) (a r : T) : (ac W.1 (ta2 W) (wr 3 (cc a r))).1 = chA W 0 U (cc a r) := by
  cases r with
  | leaf => show (ac W.1 (ta2 W) a).1 = (ac W.1 (ta2 W) a).1 ++ []; rw [List.append_nil]
  | inner k2 n2 v2 l2 r2 => rfl
/-! the loop -/
def LH (d cx n : Nat) (Q : vQ) (w : Int32) (h : vH) : Prop := ∀ o2, vm_E mX11_readsFormula d cx n 2 [some (vR (some 366)), some (vI w), o2] [] h Q
def EU (d cx n : Nat) (Q : vQ) : vQ := fun r h2 => r = none ∧ LH d cx n Q 0 h2
def FE (d cx n : Nat) (Q : vQ) (ud c : Nat) (h : vH) : Prop := (ud = 0 → ∀ o1, vm_E mX11_endsFormula (d - 1) 0 0 4 [some (vR (some 366)), o1] [] h (fun r h2 => r = none ∧ Q (some (vI 1)) h2)) ∧ (¬ ud = 0 → c = 41 → ∀ o1, vm_E mX11_endsFormula (d - 1) 0 0 4 [some (vR (some 366)), o1] [] h (fun r h2 => r = none ∧ ∀ o2 : Int32, vm_E mX11_readsFormula d cx n 269 [some (vR (some 366)), some (vI 0), some (vI o2)] [] h2 Q))
def rb (h : vH) (e : Bool) (W : wT) (t : Nat → Nat) (L p K : Nat) (u : Option Nat) (dp : Nat) (F : List fR) (A : List aT) (d o : Nat) : Prop := mE h e W t L ∧ mpc h e p K u dp F A ∧ 20 ≤ d ∧ p ≤ L ∧ K < 8 ∧ F.length = o + 1 ∧ o ≤ 8
/-- a unit's reading, with what follows it -/
def gR0 (m : Nat) : Prop := ∀ (d cx n : Nat) (h : vH) (e : Bool) (W : wT) (t : Nat → Nat) (L p K : Nat) (u : Option Nat) (dp : Nat) (F : List fR) (A : List aT) (o : Nat) (Q : vQ), rb h e W t L p K u dp F A d o → 4 * (L - p) < m →
  (∀ q, pz (chAt t L) m 0 o p = .inl q → ∀ h', fa h h' → hI h' 366 12 = nI q → Q (some (vI 0)) h') →
  (∀ t1 p', pz (chAt t L) m 0 o p = .inr (t1, p') → ∀ h', fa h h' → mpc h' e p' ((kb t1).1 K) (udf u dp F ((un t1).1 K)).1 (udf u dp F ((un t1).1 K)).2.1 (udf u dp F ((un t1).1 K)).2.2 (A ++ (ac W.1 (ta2 W) t1).1) → vm_C mX11_endsUnit (d - 1) 0 0 [vR (some 366)] h' (EU d cx n Q)) → LH d cx n Q 1 h
def gR1 (m : Nat) : Prop := ∀ (d cx n : Nat) (h : vH) (e : Bool) (W : wT) (t : Nat → Nat) (L p K : Nat) (u : Option Nat) (dp : Nat) (f : fR) (r : List fR) (A : List aT) (o : Nat) (Q : vQ), rb h e W t L p K u dp (f :: r) A d o → 4 * (L - p) + 1 < m → ¬ f.1 = 2 →
  (∀ q, pz (chAt t L) m 1 o p = .inl q → ∀ h', fa h h' → hI h' 366 12 = nI q → Q (some (vI 0)) h') →
  (∀ x p', pz (chAt t L) m 1 o p = .inr (x, p') → ¬ chAt t L p' = 38 → ∀ h', fa h h' → mpc h' e p' ((kb x).2 K) (udf u dp (f :: r) ((un x).2.1 K)).1 (udf u dp (f :: r) ((un x).2.1 K)).2.1 (udf u dp (f :: r) ((un x).2.1 K)).2.2 (A ++ (ac W.1 (ta2 W) x).2.1) → LH d cx n Q 0 h') → LH d cx n Q 1 h
/-- what stands ahead of a choice's end -/
def CH (W : wT) (i : Nat) (f : fR) (x : T) (K : Nat) (u : Option Nat) (dp : Nat) (r : List fR) (p' K' : Nat) (u' : Option Nat) (d' : Nat) (f' : fR) (r' : List fR) (A2 : List aT) : Prop :=
  f'.1 = f.1 ∧ f'.2.1 = f.2.1 ∧ f'.2.2.1 = f.2.2.1 ∧ f'.2.2.2.2.2.2.1 = false ∧ f'.2.2.2.2.2.1 = (f.2.2.2.2.2.1 || decide (u = none ∧ ¬ u' = none)) ∧ f'.2.2.2.1 + 1 ≤ p' ∧
  (if f'.2.2.2.1 = 0 then K' else K) = chK i x K ∧ (if f'.2.2.2.1 = 0 then A2 else [.inr (fun a => hasR W.1 A2 a || f'.2.2.2.2.2.2.2 a)]) = chA W i f.2.2.2.2.2.2.2 x ∧ u' = (udf u dp r (chU i x K)).1 ∧ d' = (udf u dp r (chU i x K)).2.1 ∧ r' = (udf u dp r (chU i x K)).2.2
def gR2 (m : Nat) : Prop := ∀ (d cx n : Nat) (h : vH) (e : Bool) (W : wT) (t : Nat → Nat) (L p K : Nat) (u : Option Nat) (dp : Nat) (f : fR) (r : List fR) (A : List aT) (o : Nat) (Q : vQ), rb h e W t L p K u dp (f :: r) A d o → 4 * (L - p) + 2 < m → ¬ f.1 = 2 → f.2.1 = A.length → f.2.2.1 = K → f.2.2.2.2.1 = false → f.2.2.2.2.2.2.1 = false →
  (∀ q, pz (chAt t L) m 2 o p = .inl q → ∀ h', fa h h' → hI h' 366 12 = nI q → Q (some (vI 0)) h') →
  (∀ x p', pz (chAt t L) m 2 o p = .inr (x, p') → ¬ chAt t L p' = 38 → ¬ chAt t L p' = 124 → ∀ h' K' u' d' f' r' A2, fa h h' → mpc h' e p' K' u' d' (f' :: r') (A ++ A2) → CH W f.2.2.2.1 f x K u dp r p' K' u' d' f' r' A2 → LH d cx n Q 0 h') → LH d cx n Q 1 h
def gR3 (m : Nat) : Prop := ∀ (d cx n : Nat) (h : vH) (e : Bool) (W : wT) (t : Nat → Nat) (L p K : Nat) (u : Option Nat) (dp : Nat) (f : fR) (r : List fR) (A : List aT) (o : Nat) (Q : vQ), rb h e W t L p K u dp (f :: r) A d o → 4 * (L - p) + 3 < m → ¬ f.1 = 2 → f.2.1 = A.length → f.2.2.1 = K → f.2.2.2.1 = 0 → f.2.2.2.2.1 = false → f.2.2.2.2.2.1 = false → f.2.2.2.2.2.2.1 = false → okB (f :: r) →
  (∀ q, pz (chAt t L) m 3 o p = .inl q → ∀ h', fa h h' → hI h' 366 12 = nI q → Q (some (vI 0)) h') →
  (∀ t1 p', pz (chAt t L) m 3 o p = .inr (t1, p') → ¬ und (f :: r) = 0 → ¬ chAt t L p' = 41 → ∀ h', fa h h' → hI h' 366 12 = nI p' → Q (some (vI 0)) h') →
  (∀ t1 p', pz (chAt t L) m 3 o p = .inr (t1, p') → ∀ h' f', fa h h' → f'.1 = f.1 → f'.2.1 = f.2.1 → f'.2.2.1 = f.2.2.1 → mpc h' e p' ((kb t1).1 K) (udf u dp r ((un t1).1 K)).1 (udf u dp r ((un t1).1 K)).2.1 (f' :: (udf u dp r ((un t1).1 K)).2.2) (A ++ (ac W.1 (ta2 W) t1).1) → FE d cx n Q (und (f :: r)) (chAt t L p') h') → LH d cx n Q 1 h
theorem Tok.k {t : Nat → Nat} {L : Nat} (_ : Tok t L) : cOk (chAt t L) L := fun i hi => by unfold chAt; rw [if_neg (by omega)]
theorem x38 {c : Nat → Nat} {p : Nat} (hc : c p < 127) (s : Nat) (hs : 0 < s ∧ s < 127) : (nx c p = nI s) ↔ c p = s := nx_v hc hs
/-- the loop's head, nothing wanted: to where the sign is looked at -/
theorem lh0 {d cx n p : Nat} {h : vH} {e : Bool} {W : wT} {t : Nat → Nat} {L : Nat} {Q : vQ} (hd : 1 ≤ d) (x : mE h e W t L) (hp : hI h 366 12 = nI p) (hp2 : p < 1000) (k : vm_E mX11_readsFormula d cx n 84 [some (vR (some 366)), some (vI 0), some (vI (nx (chAt t L) p))] [] h Q) : LH d cx n Q 0 h := fun o2 => by
  refine bX11_readsFormula_2 (R := fun r h' => r = some (vI (nx (chAt t L) p)) ∧ h = h') x.1.1 hd (m_next x hp hp2 ⟨rfl, rfl⟩) ?_
  rintro r h' ⟨rfl, rfl⟩
  exact bX11_readsFormula_6 (fun _ => bX11_readsFormula_62 (fun _ => k) (fun hz => absurd rfl hz)) (fun hz => absurd rfl hz)
theorem lh1 {d cx n p : Nat} {h : vH} {e : Bool} {W : wT} {t : Nat → Nat} {L : Nat} {Q : vQ} (hd : 1 ≤ d) (x : mE h e W t L) (hp : hI h 366 12 = nI p) (hp2 : p < 1000) (k : vm_E mX11_readsFormula d cx n 11 [some (vR (some 366)), some (vI 1), some (vI (nx (chAt t L) p))] [] h Q) : LH d cx n Q 1 h := fun o2 => by
  refine bX11_readsFormula_2 (R := fun r h' => r = some (vI (nx (chAt t L) p)) ∧ h = h') x.1.1 hd (m_next x hp hp2 ⟨rfl, rfl⟩) ?_
  rintro r h' ⟨rfl, rfl⟩
  exact bX11_readsFormula_6 (fun hz => absurd hz (by decide +kernel)) (fun _ => k)
theorem fa_12 {h : vH} {q : Nat} : fa h (uI h 366 12 (nI q)) := fa_uI (Or.inr ⟨by decide, by decide⟩)
theorem rb.len {h : vH} {e : Bool} {W : wT} {t : Nat → Nat} {L p K : Nat} {u : Option Nat} {dp : Nat} {F : List fR} {A : List aT} {d o : Nat} (x : rb h e W t L p K u dp F A d o) : L ≤ 60 := x.1.2.2.2.1.1
theorem g_0 {m : Nat} (i0 : gR0 m) (i3 : gR3 m) : gR0 (m + 1) := by
  intro d cx n h e W t L p K u dp F A o Q B hf kf kk
  obtain ⟨x, y, hd, hp, hK, hF, ho⟩ := id B
  have hL := B.len
  have hc := x.c127 p
  have hcok := x.2.2.2.1.k
  have hM := x.1
  rw [pz_0] at kf kk
  have e16 : hI h 366 16 = nI o := by have := y.2.2.2.2.2.1; rw [hF, nI_pred] at this; exact this
  have i16 : hI h 366 16 = 8 ↔ o = 8 := by rw [e16]; exact nI_eq (a := o) (b := 8) (by omega) (by decide)
  refine lh1 (by omega) x y.2.1 (by omega) ?_
  by_cases h33 : chAt t L p = 33
  · have pL := hcok.lt (p := p) (by omega)
    have enx : nx (chAt t L) p = nI 33 := (nx_v hc (by decide)).mpr h33
    rw [if_pos h33] at kf kk
    refine bX11_readsFormula_11 (fun _ => bX11_readsFormula_23 hM.1 (fun hz => ?_) (fun hz => ?_)) (fun hz => absurd enx hz)
    · rw [i16] at hz
      rw [if_neg (by omega)] at kf kk
      refine bX11_readsFormula_34 (fun hz => absurd enx hz) (fun _ => bX11_readsFormula_41 ?_)
      refine bX11_readsFormula_46 (R := fun r h' => r = none ∧ fa h h' ∧ mpc h' e p K u dp ((2, A.length, K, 0, false, false, false, fun _ => false) :: F) A) hM.1 (by omega) (m_opens (its := 2) hM y (by omega) (by decide) (fun h' f q => ⟨rfl, f, q⟩)) ?_
      rintro r h1 ⟨rfl, f1, y1⟩
      have x1 := x.fa f1
      refine bX11_readsFormula_49 x1.1.1 (bX11_readsFormula_293 ?_)
      rw [y1.2.1, nI_1]
      refine i0 d cx n _ e W t L (p + 1) K u dp _ A (o + 1) Q ⟨x1.fa fa_12, y1.at (by omega), hd, by omega, hK, by rw [List.length_cons, hF], by omega⟩ (by omega) (fun q eq h' f' e4 => kf q (by rw [eq]; rfl) h' ((f1.tr fa_12).tr f') e4) (fun t1 p1 eq h' f' y' => ?_) _
      have x' := (x1.fa fa_12).fa f'
      have hp1 := pz_p1 hcok eq
      obtain ⟨N1, g1, g2, g3, g4⟩ := udf_cons u dp (2, A.length, K, 0, false, false, false, fun _ => false) F ((un t1).1 K)
      rw [show ct (2, A.length, K, 0, false, false, false, fun _ => false) = 1 from rfl] at g1 g2 g3
      rw [g1, g2, g3] at y'
      have n1 : N1.1 = 2 ∧ N1.2.1 = A.length ∧ N1.2.2.1 = K := by
        rcases g4 with ⟨rfl, _⟩ | ⟨rfl, _⟩ <;> exact ⟨rfl, rfl, rfl⟩
      have hlen : (udf u dp F (shn 1 ((un t1).1 K))).2.2.length = F.length := udf_len _ _ _ _
      have hl2 := y.2.2.2.2.2.2.2.2.1
      refine eu_step (by omega) x' y' (by omega) (by omega) n1.1 n1.2.1 (by omega) (fun h2 f2 y2 => ?_)
      rw [n1.2.2] at y2
      exact kk (no 5 0 (cc t1 .leaf)) p1 (by rw [eq]; rfl) h2 (((f1.tr fa_12).tr f').tr f2) (by
        have eu : (un (no 5 0 (cc t1 .leaf))).1 K = shn 1 ((un t1).1 K) := by
          show shn 1 (or2 ((un t1).1 K) none) = _
          rw [or2_n]
        have ek : (kb (no 5 0 (cc t1 .leaf))).1 K = K := rfl
        have ea : (ac W.1 (ta2 W) (no 5 0 (cc t1 .leaf))).1 = [.inr (fun j => !hasR W.1 (ac W.1 (ta2 W) t1).1 j)] := rfl
        rw [eu, ek, ea]; exact y2)
    · rw [Classical.not_not, i16] at hz
      rw [if_pos (by omega)] at kf
      exact bX11_readsFormula_32 (kf p rfl h fa.rf y.2.1)
  · rw [if_neg h33] at kf kk
    have n33 : ¬ nx (chAt t L) p = 33 := fun z => h33 ((nx_v hc (s := 33) (by decide)).mp z)
    refine bX11_readsFormula_11 (fun hz => absurd hz n33) (fun _ => ?_)
    by_cases h40 : chAt t L p = 40
    · have pL := hcok.lt (p := p) (by omega)
      have enx : nx (chAt t L) p = nI 40 := (nx_v hc (by decide)).mpr h40
      rw [if_pos h40] at kf kk
      refine bX11_readsFormula_17 (fun hz => absurd enx hz) (fun _ => bX11_readsFormula_23 hM.1 (fun hz => ?_) (fun hz => ?_))
      · rw [i16] at hz
        rw [if_neg (by omega)] at kf kk
        refine bX11_readsFormula_34 (fun _ => bX11_readsFormula_45 ?_) (fun hz => absurd n33 hz)
        refine bX11_readsFormula_46 (R := fun r h' => r = none ∧ fa h h' ∧ mpc h' e p K u dp ((1, A.length, K, 0, false, false, false, fun _ => false) :: F) A) hM.1 (by omega) (m_opens (its := 1) hM y (by omega) (by decide) (fun h' f q => ⟨rfl, f, q⟩)) ?_
        rintro r h1 ⟨rfl, f1, y1⟩
        have x1 := x.fa f1
        refine bX11_readsFormula_49 x1.1.1 (bX11_readsFormula_293 ?_)
        rw [y1.2.1, nI_1]
        refine i3 d cx n _ e W t L (p + 1) K u dp _ F A (o + 1) Q ⟨x1.fa fa_12, y1.at (by omega), hd, by omega, hK, by rw [List.length_cons, hF], by omega⟩ (by omega) (show ¬ (1 : Nat) = 2 by decide) rfl rfl rfl rfl rfl rfl ⟨_, List.mem_cons_self .., show ¬ (1 : Nat) = 3 by decide⟩ (fun q eq h' f' e4 => kf q (by rw [eq]; rfl) h' ((f1.tr fa_12).tr f') e4) (fun t1 p1 eq _ h41 h' f' e4 => kf p1 (by rw [eq]; exact if_neg h41) h' ((f1.tr fa_12).tr f') e4) (fun t1 p1 eq h' f'' f' q1 q2 q3 y' => ?_) _
        have x' := (x1.fa fa_12).fa f'
        have hp1 := pz_p1 hcok eq
        have hlen : (udf u dp F ((un t1).1 K)).2.2.length = F.length := udf_len _ _ _ _
        refine ⟨fun hz => absurd (show (1 : Nat) = 0 from hz) (by decide), fun _ h41 o1 => ef_stop x'.1 y' (by omega) (by rw [q1]; exact (show ¬ (1 : Nat) = 3 by decide)) ⟨rfl, fun o2 => ?_⟩⟩
        have p1L := hcok.lt (p := p1) (by omega)
        have et : hI h' 366 16 = nI F.length := by have := y'.t1; rw [hlen] at this; exact this
        have f3 : fm (fun r j => r = 366 ∧ (j = 12 ∨ j = 16)) h' (uI (uI h' 366 16 (nI F.length - 1)) 366 12 (nI (p1 + 1))) := ((fm_uI _ 366 16 _).mono (fun r j z => ⟨z.1, Or.inr z.2⟩)).tr ((fm_uI _ 366 12 _).mono (fun r j z => ⟨z.1, Or.inl z.2⟩))
        have f3a : fa h' (uI (uI h' 366 16 (nI F.length - 1)) 366 12 (nI (p1 + 1))) := f3.mono (fun r j z => by unfold pA; omega)
        refine bX11_readsFormula_269 (R := EU d cx n Q) x'.1.1 (by omega) ?_ ?_
        · rw [et, hI_uIk _ _ _ (by decide), y'.2.1, nI_1]
          obtain ⟨z1, z2, z3, z4, z5, z6, z7, z8, z9, z10, z11, z12⟩ := y'
          refine kk t1 (p1 + 1) (by rw [eq]; exact if_pos h41) _ (((f1.tr fa_12).tr f').tr f3a) ⟨?_, hI_uIs _ _ _ _, ?_, ?_, ?_, ?_, ?_, ?_, by omega, z10, z11, fun b hb => (z12.le (Nat.le_succ p1)) b (List.mem_cons_of_mem _ hb)⟩
          · rw [f3.2 366 7 (by omega)]; exact z1
          · rw [f3.2 366 13 (by omega)]; exact z3
          · rw [f3.2 366 14 (by omega)]; exact z4
          · rw [f3.2 366 15 (by omega)]; exact z5
          · rw [hI_uIk _ _ _ (by decide), hI_uIs, hlen]
          · exact fxs_eq (fun r j h1 h2 h3 => f3.2 r j (by omega)) (fun _ j _ => f3.2 382 j (by omega)) z7.2
          · exact axs_eq (fun k _ => f3.2 370 k (by omega)) (fun _ j _ => f3.2 371 j (by omega)) z8
        · rintro r h4 ⟨rfl, q⟩
          exact bX11_readsFormula_293 (q _)
      · rw [Classical.not_not, i16] at hz
        rw [if_pos (by omega)] at kf
        exact bX11_readsFormula_32 (kf p rfl h fa.rf y.2.1)
    · rw [if_neg h40] at kf kk
      have n40 : ¬ nx (chAt t L) p = 40 := fun z => h40 ((nx_v hc (s := 40) (by decide)).mp z)
      refine bX11_readsFormula_17 (fun _ => bX11_readsFormula_62 (fun hz => absurd hz (by decide +kernel)) (fun _ => ?_)) (fun hz => absurd n40 hz)
      refine bX11_readsFormula_66 (R := fun r h' => (r = some (vI 0) ∧ Q (some (vI 0)) h') ∨ (r = some (vI 1) ∧ vm_C mX11_endsUnit (d - 1) 0 0 [vR (some 366)] h' (EU d cx n Q) ∧ LM h')) hM.1 (by omega) (m_readsUnit (by omega) x y (by omega) hp hK (fun q eq h' f e4 => Or.inl ⟨rfl, kf q eq h' f e4⟩) (fun t1 p1 eq h' f y' => Or.inr ⟨rfl, kk t1 p1 eq h' f y', (x.fa f).1⟩)) ?_
      rintro r h' (⟨rfl, q⟩ | ⟨rfl, q, q2⟩)
      · exact bX11_readsFormula_70 (fun hz => absurd rfl hz) (fun _ => bX11_readsFormula_73 q)
      · refine bX11_readsFormula_70 (fun _ => bX11_readsFormula_75 (R := EU d cx n Q) q2.1 (by omega) q ?_) (fun hz => absurd (by decide +kernel) hz)
        rintro r h2 ⟨rfl, q3⟩
        exact bX11_readsFormula_79 (bX11_readsFormula_293 (q3 _))
theorem g_1 {m : Nat} (i0 : gR0 m) (i1 : gR1 m) : gR1 (m + 1) := by
  intro d cx n h e W t L p K u dp f r A o Q B hf hk2 kf kk
  obtain ⟨x, y, hd, hp, hK, hF, ho⟩ := id B
  have hL := B.len
  have hcok := x.2.2.2.1.k
  rw [pz_1] at kf kk
  refine i0 d cx n h e W t L p K u dp (f :: r) A o Q B (by omega) (fun q eq h' f' e4 => kf q (by rw [eq]; rfl) h' f' e4) (fun t1 p1 eq h1 f1 y1 => ?_)
  have x1 := x.fa f1
  have hp1 := pz_p1 hcok eq
  have wf1 := (pz_wf hcok hL m).1 _ _ _ _ eq
  have hc1 := x.c127 p1
  rw [eq] at kf kk
  have kf : ∀ q, mp t1 (rst (chAt t L) 38 1 m o p1) = .inl q → ∀ h', fa h h' → hI h' 366 12 = nI q → Q (some (vI 0)) h' := kf
  have hlen : (udf u dp (f :: r) ((un t1).1 K)).2.2.length = (f :: r).length := udf_len _ _ _ _
  obtain ⟨N1, g1, g2, g3, g4⟩ := udf_cons u dp f r ((un t1).1 K)
  have n1 : ¬ N1.1 = 2 := by
    rcases g4 with ⟨rfl, _⟩ | ⟨rfl, _⟩
    · exact hk2
    · exact hk2
  have hF2 : r.length = o := by rw [List.length_cons] at hF; omega
  have y1' := y1
  rw [g1] at y1'
  have hlr : (udf u dp r (shn (ct f) ((un t1).1 K))).2.2.length = r.length := udf_len _ _ _ _
  refine eu_stop x1.1 y1' (by omega) n1 ⟨rfl, ?_⟩
  by_cases h38 : chAt t L p1 = 38
  · have p1L := hcok.lt (p := p1) (by omega)
    have enx : nx (chAt t L) p1 = nI 38 := (nx_v hc1 (by decide)).mpr h38
    have er : rst (chAt t L) 38 1 m o p1 = pz (chAt t L) m 1 o (p1 + 1) := if_pos h38
    refine lh0 (by omega) x1 y1.2.1 (by omega) (bX11_readsFormula_84 (fun _ => bX11_readsFormula_96 (fun _ => bX11_readsFormula_142 x1.1.1 (bX11_readsFormula_293 ?_)) (fun hz => absurd (Classical.byContradiction hz) (by rw [enx]; decide +kernel))) (fun hz => absurd enx hz))
    rw [y1.2.1, nI_1]
    have y2 := y1.at (p' := p1 + 1) (by omega)
    rw [g1] at y2
    refine i1 d cx n _ e W t L (p1 + 1) ((kb t1).1 K) _ _ N1 _ _ o Q ⟨x1.fa fa_12, y2, hd, by omega, (kb_lt t1).1 wf1 K hK, by rw [List.length_cons, hlr, hF2], ho⟩ (by omega) n1 (fun q eq2 h' f' e4 => kf q (by rw [er, eq2]; rfl) h' ((f1.tr fa_12).tr f') e4) (fun x2 p2 eq2 hn h' f' y' => ?_) _
    refine kk (cc t1 x2) p2 (by show mp t1 (rst (chAt t L) 38 1 m o p1) = _; rw [er, eq2]; rfl) hn h' ((f1.tr fa_12).tr f') ?_
    rw [← g1, udf_or, List.append_assoc] at y'
    exact y'
  · have er : rst (chAt t L) 38 1 m o p1 = .inr (.leaf, p1) := if_neg h38
    refine kk (cc t1 .leaf) p1 (by show mp t1 (rst (chAt t L) 38 1 m o p1) = _; rw [er]; rfl) h38 h1 f1 ?_
    have eu : (un (cc t1 .leaf)).2.1 K = (un t1).1 K := by show or2 ((un t1).1 K) none = _; rw [or2_n]
    have ea : (ac W.1 (ta2 W) (cc t1 .leaf)).2.1 = (ac W.1 (ta2 W) t1).1 := by show (ac W.1 (ta2 W) t1).1 ++ [] = _; rw [List.append_nil]
    rw [eu, ea]; exact y1
