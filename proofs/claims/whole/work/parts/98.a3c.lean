/-! on -/
/-- whether one of the first t unsure ones, of those in L, is this figure -/
def uo (w : Wd) (L : Int32) (d j : Nat) : Nat → Bool
  | 0 => false
  | t + 1 => uo w L d j t || (decide (¬ vXX11_hasBit L (nI t) = 0) && decide (wi w 3 (69 + 2 * t) = nI d) && decide (wi w 3 (70 + 2 * t) = nI j))
def skR (w : Wd) (L M : Int32) (d u j : Nat) : Bool := decide (¬ vXX11_hasBit M (nI j) = 0) || uo w L d j u
theorem n69 (t : Nat) : 69 + 2 * nI t = nI (69 + 2 * t) := by
  rw [show (2 : Int32) = nI 2 from rfl, nmul, show (69 : Int32) = nI 69 from rfl, nI_add]
theorem uo_ext {w w' : Wd} {L : Int32} {d j : Nat} (h : ∀ i, wi w' 3 i = wi w 3 i) : ∀ t, uo w' L d j t = uo w L d j t := by
  intro t
  induction t with
  | zero => rfl
  | succ t ih => simp only [uo, ih, h]
theorem l_inner {d n j u : Nat} (hd : d < 5) (hj : j < 12) (hu : u ≤ 4) {L M : Int32} {w : Wd} (hR : w.2.2 = RM) (h2 : wi w 3 2 = nI u) {Q : Option Value → Wd → Prop}
    (kn : skR w L M d u j = true → Go SR mX11_dance 13 [(0, .ref 0), (1, .int (nI d)), (2, .int (nI n)), (3, .int L), (4, .int M), (5, .int (nI (j + 1)))] [] w Q)
    (ky : skR w L M d u j = false → ClV SR mX11_figureOn [.ref 0, .int (wi w 3 (9 + 12 * d + j))] w (fun w2 => w2.2.2 = RM ∧ Go SR mX11_dance 13 [(0, .ref 0), (1, .int (nI d)), (2, .int (nI n)), (3, .int L), (4, .int M), (5, .int (nI (j + 1)))] [] w2 Q)) :
    ∀ (r t : Nat) (x : Int32), t + r = u → (x = if (decide (¬ vXX11_hasBit M (nI j) = 0) || uo w L d j t) then 0 else 1) → Go SR mX11_dance 39 [(0, .ref 0), (1, .int (nI d)), (2, .int (nI n)), (3, .int L), (4, .int M), (5, .int (nI j)), (6, .int x), (7, .int (nI t))] [] w Q := by
  intro r
  induction r with
  | zero =>
    intro t x ht hx
    have : t = u := by omega
    subst this
    refine BX11_dance_39 _ _ _ _ _ _ _ w hR Q ⟨fun _ => ⟨fun z => ?_, fun z => ⟨by rw [n9]; exact nI_in (by omega) (by decide), ?_⟩⟩, fun z => absurd (by rw [h2]; exact nI_le (Nat.le_refl t) (by omega)) z⟩
    · rw [nI_1]
      refine kn ?_
      unfold skR
      revert hx
      cases (decide (¬ vXX11_hasBit M (nI j) = 0) || uo w L d j t)
      · intro hx
        rw [z] at hx
        exact absurd hx (by decide)
      · exact fun _ => rfl
    · rw [nI_1, n9, nI_clamp (by omega)]
      refine ky ?_
      unfold skR
      revert hx
      cases (decide (¬ vXX11_hasBit M (nI j) = 0) || uo w L d j t)
      · exact fun _ => rfl
      · exact fun hx => absurd hx z
  | succ r ih =>
    intro t x ht hx
    refine BX11_dance_39 _ _ _ _ _ _ _ w hR Q ⟨fun z => absurd z (by rw [h2]; exact nI_ge (by omega) (by omega)), fun _ => ⟨fun z => ?_, fun z => ?_⟩⟩
    · rw [nI_1]
      refine ih (t + 1) 0 (by omega) ?_
      have : (decide (¬ vXX11_hasBit M (nI j) = 0) || uo w L d j t) = true := by
        revert hx
        cases (decide (¬ vXX11_hasBit M (nI j) = 0) || uo w L d j t)
        · intro hx
          rw [z] at hx
          exact absurd hx (by decide)
        · exact fun _ => rfl
      rw [uo, ← Bool.or_assoc, this, Bool.true_or, if_pos rfl]
    · have h0 : (decide (¬ vXX11_hasBit M (nI j) = 0) || uo w L d j t) = false := by
        revert hx
        cases (decide (¬ vXX11_hasBit M (nI j) = 0) || uo w L d j t)
        · exact fun _ => rfl
        · exact fun hx => absurd hx z
      have key : ∀ y : Int32, (y = if (decide (¬ vXX11_hasBit L (nI t) = 0) && decide (wi w 3 (69 + 2 * t) = nI d) && decide (wi w 3 (70 + 2 * t) = nI j)) then 0 else 1) → (y = if (decide (¬ vXX11_hasBit M (nI j) = 0) || uo w L d j (t + 1)) then 0 else 1) := by
        intro y hy
        rw [uo, ← Bool.or_assoc, h0, Bool.false_or]
        exact hy
      rw [n69, nI_clamp (by omega), nI_1, nI_1, nI_clamp (by omega)]
      refine ⟨fun z1 => ih (t + 1) 1 (by omega) (key _ ?_), fun z1 => ⟨nI_in (by omega) (by decide), fun z2 => ⟨nI_in (by omega) (by decide), ih (t + 1) _ (by omega) (key _ ?_)⟩, fun z2 => ih (t + 1) 1 (by omega) (key _ ?_)⟩⟩
      · rw [decide_eq_false (fun h => h z1), Bool.false_and, Bool.false_and, if_neg (by decide)]
      · rw [decide_eq_true z1, decide_eq_true z2, Bool.true_and, Bool.true_and, show 69 + 2 * t + 1 = 70 + 2 * t by omega]
        by_cases c : wi w 3 (70 + 2 * t) = nI j
        · rw [if_pos c, decide_eq_true c, if_pos rfl]
        · rw [if_neg c, decide_eq_false c, if_neg (by decide)]
      · rw [decide_eq_false z2, Bool.and_false, Bool.false_and, if_neg (by decide)]
