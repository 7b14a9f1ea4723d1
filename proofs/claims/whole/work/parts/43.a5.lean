/-! the reference's copying of a piece of a row -/
def CP (w w' : Wd) (a1 s a3 t L : Nat) : Prop := w'.2.2 = w.2.2 ∧ (∀ i, i < L → wi w' a3 (t + i) = wi w a1 (s + i)) ∧ ∀ a i, (a ≠ a3 ∨ i < t ∨ t + L ≤ i) → wi w' a i = wi w a i
theorem CP.rf (w : Wd) (a1 s a3 t : Nat) : CP w w a1 s a3 t 0 := ⟨rfl, fun i h => absurd h (Nat.not_lt_zero i), fun _ _ _ => rfl⟩
theorem CP.step {w0 w : Wd} {a1 s a3 t j : Nat} (hne : a1 ≠ a3) (h : CP w0 w a1 s a3 t j) : CP w0 (si w a3 (t + j) (wi w a1 (s + j))) a1 s a3 t (j + 1) := by
  refine ⟨h.1, fun i hi => ?_, fun a i hi => ?_⟩
  · by_cases c : i = j
    · subst c
      rw [wi_self]
      exact h.2.2 _ _ (Or.inl hne)
    · rw [wi_ne (Or.inr (by omega))]
      exact h.2.1 i (by omega)
  · rw [wi_ne (by omega)]
    exact h.2.2 a i (by omega)
theorem l_copy {a1 na1 : Nat} (ha1 : SR[a1]? = some (.inr (0, na1))) {a3 na3 : Nat} (ha3 : SR[a3]? = some (.inr (0, na3))) (hne : a1 ≠ a3) {s t L : Nat} (h1 : s + L ≤ na1) (h3 : t + L ≤ na3) (hn1 : na1 < 2 ^ 30) (hn3 : na3 < 2 ^ 30) {w0 : Wd} (hR : w0.2.2 = RM) {Q : Option Value → Wd → Prop} (kk : ∀ w', CP w0 w' a1 s a3 t L → Q none w') : ∀ (r j : Nat) (w : Wd), j + r = L → CP w0 w a1 s a3 t j → Go SR mX11_copy 3 [(0, .ref a1), (1, .int (nI s)), (2, .ref a3), (3, .int (nI t)), (4, .int (nI L)), (5, .int (nI j))] [] w Q := by
  intro r
  induction r with
  | zero =>
    intro j w hj hC
    have e : j = L := by omega
    rw [e] at hC ⊢
    exact BX11_copy_3 a1 na1 ha1 a3 na3 ha3 _ _ _ _ w (hC.1.trans hR) Q ⟨fun _ => kk w hC, fun z => absurd (nI_le (Nat.le_refl L) (by omega)) z⟩
  | succ r ih =>
    intro j w hj hC
    refine BX11_copy_3 a1 na1 ha1 a3 na3 ha3 _ _ _ _ w (hC.1.trans hR) Q ⟨fun z => absurd z (nI_ge (by omega) (by omega)), fun _ => ?_⟩
    rw [nI_add, nI_add, nI_1, nI_clamp (by omega), nI_clamp (by omega)]
    exact ⟨nI_in (by omega) (by omega), nI_in (by omega) (by omega), ih (j + 1) _ (by omega) (hC.step hne)⟩
theorem z_copy {a1 na1 : Nat} (ha1 : SR[a1]? = some (.inr (0, na1))) {a3 na3 : Nat} (ha3 : SR[a3]? = some (.inr (0, na3))) (hne : a1 ≠ a3) {s t L : Nat} (h1 : s + L ≤ na1) (h3 : t + L ≤ na3) (hn1 : na1 < 2 ^ 30) (hn3 : na3 < 2 ^ 30) {w : Wd} (hR : w.2.2 = RM) {Q : Wd → Prop} (kk : ∀ w', CP w w' a1 s a3 t L → Q w') : ClV SR mX11_copy [.ref a1, .int (nI s), .ref a3, .int (nI t), .int (nI L)] w (fun w2 => w2.2.2 = RM ∧ Q w2) := by
  refine TX11_copy a1 na1 ha1 _ a3 na3 ha3 _ _ w hR _ ?_
  rw [← nI_0]
  exact l_copy ha1 ha3 hne h1 h3 hn1 hn3 hR (fun w' h => ⟨rfl, h.1.trans hR, kk w' h⟩) L 0 w (by omega) (CP.rf w a1 s a3 t)
