/-! whole parts of a fraction, as both sides lay them out -/
theorem nI_dv {a b : Nat} (ha : a < 2 ^ 31) (hb : b < 2 ^ 31) : nI a / nI b = nI (a / b) := by
  have h := Nat.div_le_self a b
  refine Int32.toInt_inj.mp ?_
  rw [Int32.toInt_div, nI_toInt ha, nI_toInt hb, nI_toInt (by omega), ← Int.ofNat_tdiv]
  generalize a / b = c at h ⊢
  exact Int.bmod_eq_of_le (by omega) (by omega)
theorem nI_mo {a b : Nat} (ha : a < 2 ^ 31) (hb : b < 2 ^ 31) : nI a % nI b = nI (a % b) := by
  have h := Nat.mod_le a b
  refine Int32.toInt_inj.mp ?_
  rw [Int32.toInt_mod, nI_toInt ha, nI_toInt hb, nI_toInt (by omega), ← Int.ofNat_tmod]
def eparts (p q : Nat) : List Nat := if h : q = 0 then [] else p / q :: eparts q (p % q)
termination_by q
decreasing_by exact Nat.mod_lt _ (Nat.pos_of_ne_zero h)
theorem eparts_0 (p : Nat) : eparts p 0 = [] := by
  rw [eparts, dif_pos rfl]
theorem eparts_s {p q : Nat} (h : q ≠ 0) : eparts p q = p / q :: eparts q (p % q) := by
  rw [eparts, dif_neg h]
theorem e_len : ∀ (k p q : Nat), q < 2 ^ k → (eparts p q).length ≤ 2 * k := by
  intro k
  induction k with
  | zero =>
    intro p q h
    rw [show q = 0 by simpa using h, eparts_0]
    exact Nat.zero_le _
  | succ k ih =>
    intro p q h
    rw [Nat.pow_succ] at h
    by_cases c : q = 0
    · rw [c, eparts_0]
      exact Nat.zero_le _
    · rw [eparts_s c]
      by_cases c2 : p % q = 0
      · rw [c2, eparts_0]
        show 1 ≤ _
        omega
      · rw [eparts_s c2]
        have h1 : p % q < q := Nat.mod_lt _ (by omega)
        have h2 : q % (p % q) < p % q := Nat.mod_lt _ (by omega)
        have h3 := Nat.div_add_mod q (p % q)
        have h4 : 1 ≤ q / (p % q) := Nat.div_pos (by omega) (by omega)
        have h5 : p % q ≤ (p % q) * (q / (p % q)) := Nat.le_mul_of_pos_right _ h4
        have := ih (p % q) (q % (p % q)) (by omega)
        show (eparts (p % q) (q % (p % q))).length + 1 + 1 ≤ _
        omega
theorem l_crossed {t : Nat} (ht : SC[t]? = some (.inl 6)) {b : Bool} {w : Wd} (hR : w.2.2 = RTab b) {Q : Option Value → Wd → Prop} : ∀ (q p c : Nat) (l3 : Int32), p < 2 ^ 31 → q < 2 ^ 31 → c + (eparts p q).length ≤ 1000 → Q (some (.int (l3 + nI (eparts p q).sum))) w → Go SC mX7_crossed 18 [(0, .ref t), (1, .int (nI p)), (2, .int (nI q)), (3, .int l3), (4, .int (nI c))] [] w Q := by
  intro q
  induction q using Nat.strongRecOn with
  | _ q ih =>
    intro p c l3 hp hq hc hk
    refine BX7_crossed_18 t ht _ _ _ _ w b hR Q ⟨fun z => ?_, fun _ => ⟨fun z => ?_, fun z => ?_⟩⟩
    · have := (nI_leI (a := 1000000) (b := c) (by decide) (by omega)).mp z
      omega
    · have h0 : q = 0 := by
        by_cases c : q = 0
        · exact c
        · exact absurd z (nI_nle (by omega) hq)
      subst h0
      rw [eparts_0] at hk
      rw [show l3 = l3 + nI ([] : List Nat).sum by rw [show nI ([] : List Nat).sum = 0 from rfl, Int32.add_zero]]
      exact hk
    · have h0 : q ≠ 0 := fun e => z (by rw [e]; decide)
      have hz : ¬ nI q = 0 := nI_ne0 (by omega) hq
      have hm : p % q < q := Nat.mod_lt _ (by omega)
      refine ⟨hz, hz, ?_⟩
      rw [nI_mo hp hq, nI_dv hp hq, nI_1]
      rw [eparts_s h0] at hc hk
      refine ih (p % q) hm q (c + 1) _ hq (by omega) (by rw [List.length_cons] at hc; omega) ?_
      rw [List.sum_cons, ← nI_add, ← Int32.add_assoc] at hk
      exact hk
theorem away_nat {x : Int32} (h : -2000000000 ≤ x.toInt ∧ x.toInt ≤ 2000000000) : vXX11_away x = nI x.toInt.natAbs := by
  refine Int32.toInt_inj.mp ?_
  rw [nI_toInt (by omega)]
  unfold vXX11_away
  by_cases c : 0 ≤ x
  · rw [if_pos c]
    have := Int32.le_iff_toInt_le.mp c
    rw [Int32.toInt_zero] at this
    omega
  · rw [if_neg c]
    have c2 : ¬ (0 : Int) ≤ x.toInt := fun h => c (Int32.le_iff_toInt_le.mpr h)
    rw [Int32.toInt_neg, Int.bmod_eq_of_le (by omega) (by omega)]
    omega
theorem nn_nat {x : Int32} (h : 0 ≤ x.toInt) : x = nI x.toInt.toNat := by
  have h2 := x.toInt_lt
  refine Int32.toInt_inj.mp ?_
  rw [nI_toInt (by omega)]
  omega
/-- a fraction's parts -/
def fparts (o u : Int32) : List Nat := eparts o.toInt.natAbs u.toInt.toNat
def Sm (o u : Int32) : Prop := -500000 ≤ o.toInt ∧ o.toInt ≤ 500000 ∧ 0 ≤ u.toInt ∧ u.toInt ≤ 500000
theorem Sm.len {o u : Int32} (h : Sm o u) : (fparts o u).length ≤ 38 := e_len 19 _ _ (by have := h.2.2.2; have := h.2.2.1; omega)
theorem Frac.sm {o u : Int32} (h : Frac o u) : Sm o u := ⟨by have := h.1; omega, by have := h.2.1; omega, h.2.2.1, by have := h.2.2.2.1; omega⟩
theorem z_crossed {t : Nat} (ht : SC[t]? = some (.inl 6)) {b : Bool} {w : Wd} (hR : w.2.2 = RTab b) (h : Sm (wi w t 0) (wi w t 1)) {Q : Int32 → Wd → Prop} (k : Q (nI (fparts (wi w t 0) (wi w t 1)).sum) w) : ClI SC mX7_crossed [.ref t] w (fun x w2 => w2.2.2 = RTab b ∧ Q x w2) := by
  have hl := h.len
  refine TX7_crossed t ht w b hR _ ?_
  rw [absAway, away_nat ⟨by have := h.1; omega, by have := h.2.1; omega⟩]
  rw [show wi w t 1 = nI (wi w t 1).toInt.toNat from nn_nat h.2.2.1, ← nI_0]
  have h1 := h.1
  have h2 := h.2
  refine l_crossed ht hR _ _ 0 _ (by omega) (by omega) (by unfold fparts at hl; omega) ⟨_, rfl, hR, ?_⟩
  rw [nI_0, Int32.zero_add]
  exact k
theorem l_whole {t : Nat} (ht : SC[t]? = some (.inl 6)) {b : Bool} {w : Wd} (hR : w.2.2 = RTab b) {Q : Option Value → Wd → Prop} : ∀ (q p c : Nat), p < 2 ^ 31 → q < 2 ^ 31 → c + (eparts p q).length ≤ 1000 → Q (some (.int (nI (c + (eparts p q).length)))) w → Go SC mX7_wholeParts 15 [(0, .ref t), (1, .int (nI p)), (2, .int (nI q)), (3, .int (nI c))] [] w Q := by
  intro q
  induction q using Nat.strongRecOn with
  | _ q ih =>
    intro p c hp hq hc hk
    refine BX7_wholeParts_15 t ht _ _ _ w b hR Q ⟨fun z => ?_, fun _ => ⟨fun z => ?_, fun z => ?_⟩⟩
    · have := (nI_leI (a := 1000000) (b := c) (by decide) (by omega)).mp z
      omega
    · have h0 : q = 0 := by
        by_cases c : q = 0
        · exact c
        · exact absurd z (nI_nle (by omega) hq)
      subst h0
      rw [eparts_0] at hk
      exact hk
    · have h0 : q ≠ 0 := fun e => z (by rw [e]; decide)
      have hz : ¬ nI q = 0 := nI_ne0 (by omega) hq
      have hm : p % q < q := Nat.mod_lt _ (by omega)
      refine ⟨hz, ?_⟩
      rw [nI_mo hp hq, nI_1]
      rw [eparts_s h0, List.length_cons] at hc hk
      refine ih (p % q) hm q (c + 1) hq (by omega) (by omega) ?_
      rw [show c + 1 + (eparts q (p % q)).length = c + ((eparts q (p % q)).length + 1) by omega]
      exact hk
theorem z_whole {t : Nat} (ht : SC[t]? = some (.inl 6)) {b : Bool} {w : Wd} (hR : w.2.2 = RTab b) (h : Sm (wi w t 0) (wi w t 1)) {Q : Int32 → Wd → Prop} (k : Q (nI (fparts (wi w t 0) (wi w t 1)).length) w) : ClI SC mX7_wholeParts [.ref t] w (fun x w2 => w2.2.2 = RTab b ∧ Q x w2) := by
  have hl := h.len
  refine TX7_wholeParts t ht w b hR _ ?_
  rw [absAway, away_nat ⟨by have := h.1; omega, by have := h.2.1; omega⟩]
  rw [show wi w t 1 = nI (wi w t 1).toInt.toNat from nn_nat h.2.2.1, ← nI_0]
  have h1 := h.1
  have h2 := h.2
  refine l_whole ht hR _ _ 0 (by omega) (by omega) (by unfold fparts at hl; omega) ⟨_, rfl, hR, ?_⟩
  rw [Nat.zero_add]
  exact k
/-- the reference's row of parts -/
def LPs (w w' : Wd) : Prop := w'.2.2 = w.2.2 ∧ ∀ a i, a ≠ 8 → ¬ (a = 0 ∧ i = 26) → wi w' a i = wi w a i
theorem LPs.rf (w : Wd) : LPs w w := ⟨rfl, fun _ _ _ _ => rfl⟩
theorem LPs.tr {w w' w'' : Wd} (h1 : LPs w w') (h2 : LPs w' w'') : LPs w w'' := ⟨h2.1.trans h1.1, fun a i h h' => (h2.2 a i h h').trans (h1.2 a i h h')⟩
theorem LPs.si8 {w w' : Wd} {i : Nat} {v : Int32} (h : LPs w w') : LPs w (si w' 8 i v) := ⟨h.1, fun a j h1 h2 => (wi_ne (Or.inl h1)).trans (h.2 a j h1 h2)⟩
theorem LPs.s26 {w w' : Wd} {v : Int32} (h : LPs w w') : LPs w (si w' 0 26 v) := ⟨h.1, fun a j h1 h2 => (wi_ne (by omega)).trans (h.2 a j h1 h2)⟩
theorem LPs.same {w w' : Wd} (h : LPs w w') : SameR w w' := ⟨h.1, fun a i hr => h.2 a i (fun e => by unfold relR at hr; omega) (fun e => by unfold relR at hr; omega)⟩
theorem l_lay {Q : Option Value → Wd → Prop} : ∀ (q p c : Nat) (l3 : Int32) (w : Wd), w.2.2 = RM → p < 2 ^ 31 → q < 2 ^ 31 → c + (eparts p q).length ≤ 40 → wi w 0 26 = nI c → (∀ w', LPs w w' → wi w' 0 26 = nI (c + (eparts p q).length) → (∀ j, j < c → wi w' 8 j = wi w 8 j) → (∀ j, j < (eparts p q).length → wi w' 8 (c + j) = nI ((eparts p q).getD j 0)) → Q (some (.int (l3 + nI (eparts p q).sum))) w') → Go SR mX11_layParts 20 [(0, .ref 0), (1, .int (nI p)), (2, .int (nI q)), (3, .int l3)] [] w Q := by
  intro q
  induction q using Nat.strongRecOn with
  | _ q ih =>
    intro p c l3 w hR hp hq hc h26 hk
    refine BX11_layParts_20 _ _ _ w hR Q ⟨fun z => ?_, fun z => ?_⟩
    · have h0 : q = 0 := by
        by_cases c : q = 0
        · exact c
        · exact absurd z (nI_nle (by omega) hq)
      subst h0
      have hk := hk w (LPs.rf w)
      rw [eparts_0] at hk
      rw [show l3 = l3 + nI ([] : List Nat).sum by rw [show nI ([] : List Nat).sum = 0 from rfl, Int32.add_zero]]
      exact hk h26 (fun _ _ => rfl) (fun j hj => absurd hj (Nat.not_lt_zero j))
    · have h0 : q ≠ 0 := fun e => z (by rw [e]; decide)
      have hz : ¬ nI q = 0 := nI_ne0 (by omega) hq
      have hm : p % q < q := Nat.mod_lt _ (by omega)
      rw [eparts_s h0] at hc hk
      rw [List.length_cons] at hc
      refine ⟨hz, by rw [h26]; exact nI_in (by omega) (by decide), hz, hz, ?_⟩
      rw [nI_mo hp hq, nI_dv hp hq, h26, nI_clamp (by omega)]
      have e26 : wi (si w 8 c (nI (p / q))) 0 26 = nI c := (wi_ne (Or.inl (by decide))).trans h26
      rw [e26, nI_1]
      refine ih (p % q) hm q (c + 1) _ _ hR hq (by omega) (by omega) (wi_self _ _ _ _) (fun w' g1 g2 g3 g4 => ?_)
      have f : Q (some (.int (l3 + nI ((p / q) :: eparts q (p % q)).sum))) w' := by
        refine hk w' ?_ ?_ ?_ ?_
        · exact LPs.tr (LPs.rf w).si8.s26 g1
        · rw [g2, List.length_cons]
          congr 1
          omega
        · intro j hj
          rw [g3 j (by omega), wi_ne (Or.inl (by decide)), wi_ne (Or.inr (by omega))]
        · intro j hj
          match j with
          | 0 =>
            rw [g3 (c + 0) (by omega), wi_ne (Or.inl (by decide))]
            exact wi_self _ _ _ _
          | j + 1 =>
            have := g4 j (by rw [List.length_cons] at hj; omega)
            rw [show c + (j + 1) = c + 1 + j by omega, this]
            rfl
      rw [List.sum_cons, ← nI_add, ← Int32.add_assoc] at f
      exact f
theorem z_lay {w : Wd} (hR : w.2.2 = RM) (h : Sm (wi w 0 23) (wi w 0 24)) {Q : Int32 → Wd → Prop} (k : ∀ w', LPs w w' → wi w' 0 26 = nI (fparts (wi w 0 23) (wi w 0 24)).length → (∀ j, j < (fparts (wi w 0 23) (wi w 0 24)).length → wi w' 8 j = nI ((fparts (wi w 0 23) (wi w 0 24)).getD j 0)) → Q (nI (fparts (wi w 0 23) (wi w 0 24)).sum) w') : ClI SR mX11_layParts [.ref 0] w (fun x w2 => w2.2.2 = RM ∧ Q x w2) := by
  have hl := h.len
  refine TX11_layParts w hR _ ?_
  rw [away_nat ⟨by have := h.1; omega, by have := h.2.1; omega⟩]
  rw [show (Value.int (wi w 0 24)) = .int (nI (wi w 0 24).toInt.toNat) from congrArg Value.int (nn_nat h.2.2.1)]
  have h1 := h.1
  have h2 := h.2
  refine l_lay _ _ 0 _ _ hR (by omega) (by omega) (by unfold fparts at hl; omega) (wi_self _ _ _ _) (fun w' g1 g2 g3 g4 => ⟨_, rfl, g1.1.trans hR, ?_⟩)
  rw [Int32.zero_add]
  refine k w' ?_ ?_ ?_
  · exact LPs.tr (LPs.rf w).s26 g1
  · rw [g2, Nat.zero_add]
    rfl
  · intro j hj
    have := g4 j hj
    rw [Nat.zero_add] at this
    exact this
