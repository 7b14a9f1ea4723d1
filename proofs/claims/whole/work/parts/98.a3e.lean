/-! on -/
theorem run_ext {F G : Nat → Int32} {s t : Nat → Bool} : ∀ n, (∀ i, i < n → F i = G i ∧ s i = t i) → run F s n = run G t n := by
  intro n
  induction n with
  | zero => exact fun _ => rfl
  | succ n ih =>
    intro h
    rw [run, run, ih (fun i hi => h i (by omega)), (h n (by omega)).1, (h n (by omega)).2]
theorem hb0 : ∀ j, j < 12 → vXX11_hasBit 0 (nI j) = 0 := by decide +kernel
theorem ib0 : ∀ j, j < 12 → vXX10_isIn 0 (nI j) = 0 := by decide +kernel
theorem uo0 {w : Wd} {d j : Nat} : ∀ t, t ≤ 4 → uo w 0 d j t = false := by
  intro t
  induction t with
  | zero => exact fun _ => rfl
  | succ t ih =>
    intro h
    rw [uo, ih (by omega), hb0 t (by omega)]
    rfl
theorem skR0 {w : Wd} {d u j : Nat} (hu : u ≤ 4) (hj : j < 12) : skR w 0 0 d u j = false := by
  unfold skR
  rw [uo0 u hu, hb0 j hj]
  rfl
theorem skC0 {j : Nat} (hj : j < 12) : skC 0 j = false := by
  unfold skC
  rw [ib0 j hj]
  rfl
/-- both sides' rows, plain -/
theorem run_pair {b : Bool} {wc wr : Wd} {d m n u : Nat} (hd : d < 5) (hnm : n ≤ m) (hm : m ≤ 12) (hu : u ≤ 4) (h : ∀ i : Nat, i < m → wi wc (dA (hA b) d + 1) i = wi wr 3 (9 + 12 * d + i) ∧ Fig (wi wr 3 (9 + 12 * d + i))) : run (fun i => wi wc (dA (hA b) d + 1) i) (skC 0) n = run (fun i => wi wr 3 (9 + 12 * d + i)) (skR wr 0 0 d u) n :=
  run_ext n fun i hi => ⟨(h i (by omega)).1, (skC0 (by omega)).trans (skR0 hu (by omega)).symm⟩
