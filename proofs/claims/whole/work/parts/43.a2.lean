/-! the reference's look at a dance, ahead of all else -/
def lk (wr : Wd) (d : Nat) : Wd := si (si (wXX11_anew wr) 0 23 (wi (wXX11_anew wr) 5 d)) 0 24 (wi (wXX11_anew wr) 5 (5 + d))
theorem lk_R {wr : Wd} (d : Nat) (h : wr.2.2 = RM) : (lk wr d).2.2 = RM := h
theorem lk_23 (wr : Wd) (d : Nat) : wi (lk wr d) 0 23 = wi wr 5 d := (wi_ne (Or.inr (by decide))).trans ((wi_self _ _ _ _).trans (an_ne (Or.inl (by decide))))
theorem lk_24 (wr : Wd) (d : Nat) : wi (lk wr d) 0 24 = wi wr 5 (5 + d) := (wi_self _ _ _ _).trans (an_ne (Or.inl (by decide)))
theorem lk_11 (wr : Wd) (d : Nat) : wi (lk wr d) 0 11 = 0 := (wi_ne (Or.inr (by decide))).trans ((wi_ne (Or.inr (by decide))).trans (an_11 wr))
theorem lk_same (wr : Wd) (d : Nat) : SameR wr (lk wr d) := ((an_same _).si (nrR (by decide))).si (nrR (by decide))
theorem lookA {d : Nat} {wr : Wd} (hd : d < 5) (hR : wr.2.2 = RM) {Q : Wd → Prop} (k : Q (lk wr d)) : ClV SR mX11_look [.ref 0, .int (nI d)] (wXX11_anew wr) (fun w3 => w3.2.2 = RM ∧ Q w3) := lookd hd (an_R hR) k
theorem in_no0 (a : Int32) : vXX11_in a 0 (nI 0 - 1) = 0 := by
  rw [v_in]
  by_cases c : a < 0
  · rw [if_pos c]
  · rw [if_neg c, if_pos]
    rw [Int32.lt_iff_toInt_lt] at c ⊢
    rw [Int32.toInt_zero] at c
    rw [show (nI 0 - 1).toInt = -1 by decide]
    omega
theorem in_noL {m : Nat} {a : Int32} (hm : m < 2 ^ 31) (h : ¬ (0 ≤ a ∧ a < nI m)) : vXX11_in a 0 (nI m - 1) = 0 := by
  by_cases c : m = 0
  · rw [c]
    exact in_no0 a
  · exact in_no (by omega) hm h
theorem l_part {t : Nat} (ht : SC[t]? = some (.inl 6)) {b : Bool} {w : Wd} (hR : w.2.2 = RTab b) {Q : Option Value → Wd → Prop} {i : Nat} (hi : i < 1000) : ∀ (q p c : Nat), p < 2 ^ 31 → q < 2 ^ 31 → c ≤ i → i - c < (eparts p q).length → Q (some (.int (nI ((eparts p q).getD (i - c) 0)))) w → Go SC mX7_wholePart 16 [(0, .ref t), (1, .int (nI i)), (2, .int (nI p)), (3, .int (nI q)), (4, .int (nI c))] [] w Q := by
  intro q
  induction q using Nat.strongRecOn with
  | _ q ih =>
    intro p c hp hq hc hlt hk
    have h0 : q ≠ 0 := by
      rintro rfl
      rw [eparts_0] at hlt
      exact absurd hlt (Nat.not_lt_zero _)
    have hz : ¬ nI q = 0 := nI_ne0 (by omega) hq
    have hz2 : ¬ nI q ≤ 0 := nI_nle (by omega) hq
    have hm : p % q < q := Nat.mod_lt _ (by omega)
    rw [eparts_s h0] at hlt hk
    refine BX7_wholePart_16 t ht _ _ _ _ w b hR Q ⟨fun z => ⟨fun z2 => absurd z2 hz2, fun _ => ⟨hz, ?_⟩⟩, fun z => ⟨fun z2 => absurd z2 hz2, fun _ => ⟨hz, ?_⟩⟩⟩
    · have := (nI_leI (by omega) (by omega)).mp z
      rw [nI_dv hp hq]
      rw [show i - c = 0 by omega] at hk
      exact hk
    · have : ¬ i ≤ c := fun h => z ((nI_leI (by omega) (by omega)).mpr h)
      rw [nI_mo hp hq, nI_1]
      rw [show i - c = (i - (c + 1)) + 1 by omega] at hk hlt
      exact ih _ hm q (c + 1) hq (by omega) (by omega) (by rw [List.length_cons] at hlt; omega) hk
theorem z_part {t : Nat} (ht : SC[t]? = some (.inl 6)) {b : Bool} {w : Wd} (hR : w.2.2 = RTab b) (h : Sm (wi w t 0) (wi w t 1)) {i : Nat} (hi : i < (fparts (wi w t 0) (wi w t 1)).length) {Q : Int32 → Wd → Prop} (k : Q (nI ((fparts (wi w t 0) (wi w t 1)).getD i 0)) w) : ClI SC mX7_wholePart [.ref t, .int (nI i)] w (fun x w2 => w2.2.2 = RTab b ∧ Q x w2) := by
  have hl := h.len
  refine TX7_wholePart t ht _ w b hR _ ?_
  rw [absAway, away_nat ⟨by have := h.1; omega, by have := h.2.1; omega⟩]
  rw [show wi w t 1 = nI (wi w t 1).toInt.toNat from nn_nat h.2.2.1, ← nI_0]
  have h1 := h.1
  have h2 := h.2
  exact l_part ht hR (by omega) _ _ 0 (by omega) (by omega) (by omega) hi ⟨_, rfl, hR, k⟩
/-! a row danced: the tangle behind its first k figures -/
def fo (f : Int32) (x : Int32 × Int32) : Int32 × Int32 := (vXX7_overBy f x.1 x.2, vXX7_underBy f x.1 x.2)
def run (F : Nat → Int32) (sk : Nat → Bool) : Nat → Int32 × Int32
  | 0 => (0, 1)
  | k + 1 => if sk k then run F sk k else fo (F k) (run F sk k)
def Bd (k : Nat) (x : Int32 × Int32) : Prop := -(2 ^ k : Nat) ≤ x.1.toInt ∧ x.1.toInt ≤ (2 ^ k : Nat) ∧ 0 ≤ x.2.toInt ∧ x.2.toInt ≤ (2 ^ k : Nat)
theorem i_add {x y : Int32} {A : Int} (hx : -A ≤ x.toInt ∧ x.toInt ≤ A) (hy : -A ≤ y.toInt ∧ y.toInt ≤ A) (hA : A ≤ 1000000000) : (x + y).toInt = x.toInt + y.toInt := by
  rw [Int32.toInt_add, Int.bmod_eq_of_le (by omega) (by omega)]
theorem i_sub {x y : Int32} {A : Int} (hx : -A ≤ x.toInt ∧ x.toInt ≤ A) (hy : -A ≤ y.toInt ∧ y.toInt ≤ A) (hA : A ≤ 1000000000) : (x - y).toInt = x.toInt - y.toInt := by
  rw [Int32.toInt_sub, Int.bmod_eq_of_le (by omega) (by omega)]
theorem i_neg {x : Int32} {A : Int} (hx : -A ≤ x.toInt ∧ x.toInt ≤ A) (hA : A ≤ 1000000000) : (-x).toInt = -x.toInt := by
  rw [Int32.toInt_neg, Int.bmod_eq_of_le (by omega) (by omega)]
theorem i_away {x : Int32} {A : Int} (hx : -A ≤ x.toInt ∧ x.toInt ≤ A) (hA : A ≤ 1000000000) : (vXX11_away x).toInt = x.toInt.natAbs := by
  rw [away_nat ⟨by omega, by omega⟩, nI_toInt (by omega)]
theorem fo_bd {k : Nat} (hk : k < 28) {f : Int32} (hf : Fig f) {x : Int32 × Int32} (h : Bd k x) : Bd (k + 1) (fo f x) := by
  obtain ⟨h1, h2, h3, h4⟩ := h
  have hp : 2 ^ (k + 1) = 2 * 2 ^ k := by rw [Nat.pow_succ, Nat.mul_comm]
  have hp2 : 2 ^ k ≤ 2 ^ 27 := Nat.pow_le_pow_right (by decide) (by omega)
  have hp1 : 0 < 2 ^ k := Nat.pow_pos (by decide)
  unfold Bd
  rw [hp]
  generalize 2 ^ k = P at h1 h2 h3 h4 hp2 hp1
  have hP : (P : Int) ≤ 134217728 := by omega
  rcases hf with rfl | rfl | rfl
  · show -_ ≤ (x.1 + x.2).toInt ∧ (x.1 + x.2).toInt ≤ _ ∧ 0 ≤ x.2.toInt ∧ x.2.toInt ≤ _
    rw [i_add (A := P) ⟨h1, h2⟩ ⟨by omega, h4⟩ (by omega)]
    omega
  · show -_ ≤ (x.1 - x.2).toInt ∧ (x.1 - x.2).toInt ≤ _ ∧ 0 ≤ x.2.toInt ∧ x.2.toInt ≤ _
    rw [i_sub (A := P) ⟨h1, h2⟩ ⟨by omega, h4⟩ (by omega)]
    omega
  · show -_ ≤ (if x.1 = 0 then 1 else if x.1 ≤ 0 then x.2 else -x.2 : Int32).toInt ∧ (if x.1 = 0 then 1 else if x.1 ≤ 0 then x.2 else -x.2 : Int32).toInt ≤ _ ∧ 0 ≤ (vXX11_away x.1).toInt ∧ (vXX11_away x.1).toInt ≤ _
    rw [i_away (A := P) ⟨h1, h2⟩ (by omega)]
    by_cases c1 : x.1 = 0
    · rw [if_pos c1, c1]
      have e0 : (0 : Int32).toInt = 0 := rfl
      have e1 : (1 : Int32).toInt = 1 := rfl
      have : x.1.toInt = 0 := by rw [c1]; rfl
      rw [e0, e1]
      omega
    · rw [if_neg c1]
      by_cases c2 : x.1 ≤ 0
      · rw [if_pos c2]
        omega
      · rw [if_neg c2, i_neg (A := P) ⟨by omega, h4⟩ (by omega)]
        omega
theorem run_bd {F : Nat → Int32} {sk : Nat → Bool} : ∀ k : Nat, k ≤ 28 → (∀ i, i < k → Fig (F i)) → Bd k (run F sk k) := by
  intro k
  induction k with
  | zero =>
    intro _ _
    have h : Bd 0 ((0 : Int32), (1 : Int32)) := ⟨by decide, by decide, by decide, by decide⟩
    exact h
  | succ k ih =>
    intro hk hf
    have h := ih (by omega) (fun i hi => hf i (by omega))
    unfold run
    cases sk k
    · exact fo_bd (by omega) (hf k (by omega)) h
    · rw [if_pos rfl]
      obtain ⟨h1, h2, h3, h4⟩ := h
      have hp : 2 ^ (k + 1) = 2 * 2 ^ k := by rw [Nat.pow_succ, Nat.mul_comm]
      unfold Bd
      rw [hp]
      omega
theorem Bd.sm {k : Nat} {x : Int32 × Int32} (h : Bd k x) (hk : k ≤ 18) : Sm x.1 x.2 := by
  obtain ⟨h1, h2, h3, h4⟩ := h
  have hp2 : 2 ^ k ≤ 2 ^ 18 := Nat.pow_le_pow_right (by decide) hk
  generalize 2 ^ k = P at *
  exact ⟨by omega, by omega, by omega, by omega⟩
