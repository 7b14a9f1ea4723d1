/-! the relation again, where dances' tangles and the past have changed -/
def RelN (b : Bool) (wc wr : Wd) (n : Nat) : Prop := wc.2.2 = RTab b ∧ wr.2.2 = RM ∧ wi wc 0 10 = wi wr 0 11 ∧ wi wc 1 9 = wi wr 0 9 ∧ (wi wr 0 11 = 4 → wi wc 1 10 = wi wr 0 10) ∧ TapeRel wc wr ∧ HallRel b wc wr n ∧ PastRel wc wr n
theorem relN_of {b : Bool} {wc wr : Wd} (h : Rel b wc wr) : ∃ n, RelN b wc wr n := by
  obtain ⟨g1, g2, g3, g4, g5, g6, n, g7, g8⟩ := h
  exact ⟨n, g1, g2, g3, g4, g5, g6, g7, g8⟩
theorem RelN.rel {b : Bool} {wc wr : Wd} {n : Nat} (h : RelN b wc wr n) : Rel b wc wr := ⟨h.1, h.2.1, h.2.2.1, h.2.2.2.1, h.2.2.2.2.1, h.2.2.2.2.2.1, n, h.2.2.2.2.2.2⟩
theorem dA_ne (b : Bool) {d k : Nat} (hd : d < 5) (hk : k < 2) : ∀ e, e < 5 → dA (hA b) d + k ≠ dA (hA b) e + 2 := by
  intro e he
  unfold dA
  omega
theorem hA_ne (b : Bool) {k : Nat} (hk : k < 2 ∨ 17 ≤ k) : ∀ e, e < 5 → hA b + k ≠ dA (hA b) e + 2 := by
  intro e he
  unfold dA
  omega
theorem rel_past {b : Bool} {wc wr wc' wr' : Wd} {n : Nat} (h : RelN b wc wr n) (hc0 : wc'.2.2 = wc.2.2) (hc : ∀ a i, 1 ≤ a → a < 49 → (∀ e, e < 5 → a ≠ dA (hA b) e + 2) → wi wc' a i = wi wc a i) (hr0 : wr'.2.2 = wr.2.2) (r2 : wi wr' 0 2 = wi wr 0 2) (r9 : wi wr' 0 9 = wi wr 0 9) (r10 : wi wr' 0 10 = wi wr 0 10) (r15 : wi wr' 0 15 = wi wr 0 15) (s1 : ∀ i, wi wr' 1 i = wi wr 1 i) (s3 : ∀ i, wi wr' 3 i = wi wr 3 i) (ht : wi wc' 0 10 = wi wr' 0 11) (h4 : wi wr' 0 11 = 4 → wi wc 1 10 = wi wr 0 10)
    (hT : ∀ d, d < n → wi wc' (dA (hA b) d + 2) 0 = wi wr' 5 d ∧ wi wc' (dA (hA b) d + 2) 1 = wi wr' 5 (5 + d) ∧ Frac (wi wr' 5 d) (wi wr' 5 (5 + d))) (hP : PastRel wc' wr' n) : Rel b wc' wr' := by
  have hb : hA b = 3 ∨ hA b = 26 := by cases b; exact Or.inl rfl; exact Or.inr rfl
  obtain ⟨g1, g2, g3, g4, g5, g6, g7, g8⟩ := h
  have o1 : ∀ e, e < 5 → 1 ≠ dA (hA b) e + 2 := fun e he => by unfold dA; omega
  have o2 : ∀ e, e < 5 → 2 ≠ dA (hA b) e + 2 := fun e he => by unfold dA; omega
  have e1 : ∀ i, wi wc' 1 i = wi wc 1 i := fun i => hc 1 i (by decide) (by decide) o1
  have e2 : ∀ i, wi wc' 2 i = wi wc 2 i := fun i => hc 2 i (by decide) (by decide) o2
  have eh : ∀ i, wi wc' (hA b) i = wi wc (hA b) i := fun i => hc _ i (by omega) (by omega) (hA_ne b (k := 0) (Or.inl (by decide)))
  have h17 : ∀ i, wi wc' (hA b + 17) i = wi wc (hA b + 17) i := fun i => hc _ i (by omega) (by omega) (hA_ne b (Or.inr (by decide)))
  have h18 : ∀ i, wi wc' (hA b + 18) i = wi wc (hA b + 18) i := fun i => hc _ i (by omega) (by omega) (hA_ne b (Or.inr (by decide)))
  have h19 : ∀ i, wi wc' (hA b + 19) i = wi wc (hA b + 19) i := fun i => hc _ i (by omega) (by omega) (hA_ne b (Or.inr (by decide)))
  have h20 : ∀ i, wi wc' (hA b + 20) i = wi wc (hA b + 20) i := fun i => hc _ i (by omega) (by omega) (hA_ne b (Or.inr (by decide)))
  have h21 : ∀ i, wi wc' (hA b + 21) i = wi wc (hA b + 21) i := fun i => hc _ i (by omega) (by omega) (hA_ne b (Or.inr (by decide)))
  have h22 : ∀ i, wi wc' (hA b + 22) i = wi wc (hA b + 22) i := fun i => hc _ i (by omega) (by omega) (hA_ne b (Or.inr (by decide)))
  refine ⟨hc0.trans g1, hr0.trans g2, ht, by rw [e1, r9]; exact g4, fun q => by rw [e1, r10]; exact h4 q, ?_, n, ?_, hP⟩
  · unfold TapeRel at g6 ⊢
    simp only [e1, e2, r2, s1]
    exact g6
  · obtain ⟨u, e, f1, f2, f3, f4, f5, f6, f7, f8, f9, f10, f11, f12, f13, f14, f15, f16, f17⟩ := g7
    refine ⟨u, e, f1, f2, f3, by rw [eh]; exact f4, by rw [s3]; exact f5, by rw [r15]; exact f6, by rw [eh, s3]; exact f7, by rw [s3]; exact f8, by rw [s3]; exact f9, by rw [eh]; exact f10, by rw [s3]; exact f11, by rw [eh]; exact f12, by rw [s3]; exact f13, by rw [s3]; exact f14, fun d hd => ?_, fun i hi => ?_, fun i hi => ?_⟩
    · have hd5 : d < 5 := Nat.lt_of_lt_of_le hd f1
      have hlt := dA_lt b hd5
      have hge : 1 ≤ dA (hA b) d := by unfold dA; omega
      have d0 : ∀ i, wi wc' (dA (hA b) d) i = wi wc (dA (hA b) d) i := fun i => hc _ i hge (by unfold dA; omega) (dA_ne b (k := 0) hd5 (by decide))
      have d1 : ∀ i, wi wc' (dA (hA b) d + 1) i = wi wc (dA (hA b) d + 1) i := fun i => hc _ i (by omega) (by unfold dA; omega) (dA_ne b hd5 (by decide))
      obtain ⟨m, m1, m2, m3, m4, m5, -⟩ := f15 d hd
      refine ⟨m, m1, m2, by rw [d0]; exact m3, by rw [s3]; exact m4, fun i hi => by rw [d1, s3]; exact m5 i hi, hT d hd⟩
    · have := f16 i hi
      unfold UnsRel at this ⊢
      simp only [h17, h18, s3]
      exact this
    · have := f17 i hi
      unfold SeenRel at this ⊢
      simp only [h19, h20, h21, h22, s3]
      exact this
