/-! how the class's world and the reference's are tied together -/
def Fig (x : Int32) : Prop := x = 0 ∨ x = 1 ∨ x = 2
def Frac (o u : Int32) : Prop := -9999 ≤ o.toInt ∧ o.toInt ≤ 9999 ∧ 0 ≤ u.toInt ∧ u.toInt ≤ 9999 ∧ Int.gcd o.toInt u.toInt = 1 ∧ (u = 0 → o = 1)
def TapeRel (wc wr : Wd) : Prop := ∃ h : Nat, h ≤ 600 ∧ wi wc 1 1 = nI h ∧ wi wr 0 2 = nI h ∧ ∀ k : Nat, k < h → wi wc 2 k = wi wr 1 k ∧ 0 ≤ (wi wr 1 k).toInt ∧ (wi wr 1 k).toInt ≤ 255
def DanceRel (b : Bool) (wc wr : Wd) (d : Nat) : Prop := ∃ m : Nat, 1 ≤ m ∧ m ≤ 12 ∧ wi wc (dA (hA b) d) 1 = nI m ∧ wi wr 3 (4 + d) = nI m ∧ (∀ i : Nat, i < m → wi wc (dA (hA b) d + 1) i = wi wr 3 (9 + 12 * d + i) ∧ Fig (wi wr 3 (9 + 12 * d + i))) ∧
  wi wc (dA (hA b) d + 2) 0 = wi wr 5 d ∧ wi wc (dA (hA b) d + 2) 1 = wi wr 5 (5 + d) ∧ Frac (wi wr 5 d) (wi wr 5 (5 + d))
def UnsRel (b : Bool) (wc wr : Wd) (n i : Nat) : Prop := ∃ d p m : Nat, d < n ∧ p < m ∧ m ≤ 12 ∧ wi wr 3 (4 + d) = nI m ∧ wi wc (hA b + 17) i = nI d ∧ wi wr 3 (69 + 2 * i) = nI d ∧ wi wc (hA b + 18) i = nI p ∧ wi wr 3 (70 + 2 * i) = nI p
def SeenRel (b : Bool) (wc wr : Wd) (n i : Nat) : Prop := ∃ d q m f t : Nat, d < n ∧ q ≤ m ∧ m ≤ 12 ∧ f < 4 ∧ t < 4 ∧ f ≠ t ∧ wi wr 3 (4 + d) = nI m ∧ wi wc (hA b + 19) i = nI d ∧ wi wr 3 (77 + 4 * i) = nI d ∧ wi wc (hA b + 20) i = nI q ∧ wi wr 3 (78 + 4 * i) = nI q ∧ wi wc (hA b + 21) i = nI f ∧ wi wr 3 (79 + 4 * i) = nI f ∧ wi wc (hA b + 22) i = nI t ∧ wi wr 3 (80 + 4 * i) = nI t
def HallRel (b : Bool) (wc wr : Wd) (n : Nat) : Prop := ∃ u e : Nat, n ≤ 5 ∧ u ≤ 4 ∧ e ≤ 6 ∧ wi wc (hA b) 2 = nI n ∧ wi wr 3 1 = nI n ∧ wi wr 0 15 = (if n = 0 then 0 else 1) ∧ wi wc (hA b) 0 = wi wr 3 0 ∧ 0 ≤ (wi wr 3 0).toInt ∧ (wi wr 3 0).toInt ≤ 100 ∧
  wi wc (hA b) 5 = nI u ∧ wi wr 3 2 = nI u ∧ wi wc (hA b) 10 = nI e ∧ wi wr 3 3 = nI e ∧ (n = 0 → u = 0 ∧ e = 0 ∧ wi wr 3 0 = 0) ∧ (∀ d : Nat, d < n → DanceRel b wc wr d) ∧ (∀ i : Nat, i < u → UnsRel b wc wr n i) ∧ ∀ i : Nat, i < e → SeenRel b wc wr n i
/-- how it was ahead of the j-th act: the reference keeps all, the class the one that changed -/
def ActRel (wc wr : Wd) (n a j : Nat) : Prop := ∃ d : Nat, d < n ∧ wi wc 50 j = nI d ∧ ∀ k : Nat, k < n → Frac (wi wr 6 (10 * j + k)) (wi wr 6 (10 * j + 5 + k)) ∧
  wi wr 6 (10 * j + k) = (if k = d then wi wc 51 j else if j + 1 < a then wi wr 6 (10 * (j + 1) + k) else wi wr 5 k) ∧ wi wr 6 (10 * j + 5 + k) = (if k = d then wi wc 52 j else if j + 1 < a then wi wr 6 (10 * (j + 1) + 5 + k) else wi wr 5 (5 + k))
def ImgRel (wc wr : Wd) (n j : Nat) : Prop := ∀ k : Nat, k < n → wi wc 53 (5 * j + k) = wi wr 7 (10 * j + k) ∧ wi wc 54 (5 * j + k) = wi wr 7 (10 * j + 5 + k) ∧ Frac (wi wr 7 (10 * j + k)) (wi wr 7 (10 * j + 5 + k))
def PastRel (wc wr : Wd) (n : Nat) : Prop := ∃ a g : Nat, a ≤ 16 ∧ g ≤ 3 ∧ wi wc 49 3 = nI a ∧ wi wr 0 21 = nI a ∧ wi wc 49 6 = nI g ∧ wi wr 0 22 = nI g ∧ (n = 0 → a = 0 ∧ g = 0) ∧ (∀ j : Nat, j < a → ActRel wc wr n a j) ∧ ∀ j : Nat, j < g → ImgRel wc wr n j
def Rel (b : Bool) (wc wr : Wd) : Prop := wc.2.2 = RTab b ∧ wr.2.2 = RM ∧ wi wc 0 10 = wi wr 0 11 ∧ wi wc 1 9 = wi wr 0 9 ∧ (wi wr 0 11 = 4 → wi wc 1 10 = wi wr 0 10) ∧ TapeRel wc wr ∧ ∃ n : Nat, HallRel b wc wr n ∧ PastRel wc wr n
def RelE (wc wr : Wd) : Prop := ∃ b, Rel b wc wr
/-- the cells that matter -/
def relC (a : Nat) : Prop := 1 ≤ a ∧ a < 55
def relR (a i : Nat) : Prop := (a = 0 ∧ (i = 2 ∨ i = 9 ∨ i = 10 ∨ i = 15 ∨ i = 21 ∨ i = 22)) ∨ a = 1 ∨ a = 3 ∨ a = 5 ∨ a = 6 ∨ a = 7
def SameC (wc wc' : Wd) : Prop := wc'.2.2 = wc.2.2 ∧ ∀ a i, relC a → wi wc' a i = wi wc a i
def SameR (wr wr' : Wd) : Prop := wr'.2.2 = wr.2.2 ∧ ∀ a i, relR a i → wi wr' a i = wi wr a i
theorem SameC.rf (w : Wd) : SameC w w := ⟨rfl, fun _ _ _ => rfl⟩
theorem SameR.rf (w : Wd) : SameR w w := ⟨rfl, fun _ _ _ => rfl⟩
theorem SameC.tr {w w' w'' : Wd} (h1 : SameC w w') (h2 : SameC w' w'') : SameC w w'' := ⟨h2.1.trans h1.1, fun a i h => (h2.2 a i h).trans (h1.2 a i h)⟩
theorem SameR.tr {w w' w'' : Wd} (h1 : SameR w w') (h2 : SameR w' w'') : SameR w w'' := ⟨h2.1.trans h1.1, fun a i h => (h2.2 a i h).trans (h1.2 a i h)⟩
theorem wi_si (w : Wd) (a i : Nat) (v : Int32) (b j : Nat) : wi (si w a i v) b j = if b = a ∧ j = i then v else wi w b j := rfl
theorem wi_self (w : Wd) (a i : Nat) (v : Int32) : wi (si w a i v) a i = v := by rw [wi_si, if_pos ⟨rfl, rfl⟩]
theorem wi_ne {w : Wd} {a i : Nat} {v : Int32} {b j : Nat} (h : b ≠ a ∨ j ≠ i) : wi (si w a i v) b j = wi w b j := by
  rw [wi_si, if_neg (fun q => by rcases h with h | h; exact h q.1; exact h q.2)]
theorem SameC.si {w w' : Wd} (h : SameC w w') {a i : Nat} {v : Int32} (ha : ¬ relC a) : SameC w (si w' a i v) := ⟨h.1, fun b j hb => (wi_ne (Or.inl fun (e : b = a) => ha (by rw [← e]; exact hb))).trans (h.2 b j hb)⟩
theorem SameR.si {w w' : Wd} (h : SameR w w') {a i : Nat} {v : Int32} (ha : ¬ relR a i) : SameR w (si w' a i v) := ⟨h.1, fun b j hb => (wi_ne (by
  by_cases e : b = a
  · by_cases e2 : j = i
    · subst e; subst e2; exact absurd hb ha
    · exact Or.inr e2
  · exact Or.inl e)).trans (h.2 b j hb)⟩
theorem hA_rel (b : Bool) {k : Nat} (h : k < 23) : relC (hA b + k) := by
  cases b
  · exact ⟨by show 1 ≤ 3 + k; omega, by show 3 + k < 55; omega⟩
  · exact ⟨by show 1 ≤ 26 + k; omega, by show 26 + k < 55; omega⟩
theorem dA_rel (b : Bool) {d k : Nat} (hd : d < 5) (h : k < 3) : relC (dA (hA b) d + k) := by
  have := hA_rel b (k := 2 + 3 * d + k) (by omega)
  unfold dA
  rw [show hA b + 2 + 3 * d + k = hA b + (2 + 3 * d + k) by omega]
  exact this
theorem rel_scr {b : Bool} {wc wr wc' wr' : Wd} (h : Rel b wc wr) (hc : SameC wc wc') (hr : SameR wr wr') (ht : wi wc' 0 10 = wi wr' 0 11) (h4 : wi wr' 0 11 = 4 → wi wc 1 10 = wi wr 0 10) : Rel b wc' wr' := by
  obtain ⟨hc0, hc⟩ := hc
  obtain ⟨hr0, hr⟩ := hr
  have e1 : ∀ i, wi wc' 1 i = wi wc 1 i := fun i => hc 1 i ⟨by decide, by decide⟩
  have e2 : ∀ i, wi wc' 2 i = wi wc 2 i := fun i => hc 2 i ⟨by decide, by decide⟩
  have e3 : ∀ i, wi wc' 49 i = wi wc 49 i := fun i => hc 49 i ⟨by decide, by decide⟩
  have e4 : ∀ i, wi wc' 50 i = wi wc 50 i := fun i => hc 50 i ⟨by decide, by decide⟩
  have e5 : ∀ i, wi wc' 51 i = wi wc 51 i := fun i => hc 51 i ⟨by decide, by decide⟩
  have e6 : ∀ i, wi wc' 52 i = wi wc 52 i := fun i => hc 52 i ⟨by decide, by decide⟩
  have e7 : ∀ i, wi wc' 53 i = wi wc 53 i := fun i => hc 53 i ⟨by decide, by decide⟩
  have e8 : ∀ i, wi wc' 54 i = wi wc 54 i := fun i => hc 54 i ⟨by decide, by decide⟩
  have eh : ∀ i, wi wc' (hA b) i = wi wc (hA b) i := fun i => hc _ i (hA_rel b (k := 0) (by decide))
  have h17 : ∀ i, wi wc' (hA b + 17) i = wi wc (hA b + 17) i := fun i => hc _ i (hA_rel b (by decide))
  have h18 : ∀ i, wi wc' (hA b + 18) i = wi wc (hA b + 18) i := fun i => hc _ i (hA_rel b (by decide))
  have h19 : ∀ i, wi wc' (hA b + 19) i = wi wc (hA b + 19) i := fun i => hc _ i (hA_rel b (by decide))
  have h20 : ∀ i, wi wc' (hA b + 20) i = wi wc (hA b + 20) i := fun i => hc _ i (hA_rel b (by decide))
  have h21 : ∀ i, wi wc' (hA b + 21) i = wi wc (hA b + 21) i := fun i => hc _ i (hA_rel b (by decide))
  have h22 : ∀ i, wi wc' (hA b + 22) i = wi wc (hA b + 22) i := fun i => hc _ i (hA_rel b (by decide))
  have r2 : wi wr' 0 2 = wi wr 0 2 := hr _ _ (Or.inl ⟨rfl, by decide⟩)
  have r9 : wi wr' 0 9 = wi wr 0 9 := hr _ _ (Or.inl ⟨rfl, by decide⟩)
  have r10 : wi wr' 0 10 = wi wr 0 10 := hr _ _ (Or.inl ⟨rfl, by decide⟩)
  have r15 : wi wr' 0 15 = wi wr 0 15 := hr _ _ (Or.inl ⟨rfl, by decide⟩)
  have r21 : wi wr' 0 21 = wi wr 0 21 := hr _ _ (Or.inl ⟨rfl, by decide⟩)
  have r22 : wi wr' 0 22 = wi wr 0 22 := hr _ _ (Or.inl ⟨rfl, by decide⟩)
  have s1 : ∀ i, wi wr' 1 i = wi wr 1 i := fun i => hr _ _ (Or.inr (by decide))
  have s3 : ∀ i, wi wr' 3 i = wi wr 3 i := fun i => hr _ _ (Or.inr (by decide))
  have s5 : ∀ i, wi wr' 5 i = wi wr 5 i := fun i => hr _ _ (Or.inr (by decide))
  have s6 : ∀ i, wi wr' 6 i = wi wr 6 i := fun i => hr _ _ (Or.inr (by decide))
  have s7 : ∀ i, wi wr' 7 i = wi wr 7 i := fun i => hr _ _ (Or.inr (by decide))
  obtain ⟨g1, g2, g3, g4, g5, g6, n, g7, g8⟩ := h
  refine ⟨hc0.trans g1, hr0.trans g2, ht, by rw [e1, r9]; exact g4, fun q => by rw [e1, r10]; exact h4 q, ?_, n, ?_, ?_⟩
  · unfold TapeRel at g6 ⊢
    simp only [e1, e2, r2, s1]
    exact g6
  · obtain ⟨u, e, f1, f2, f3, f4, f5, f6, f7, f8, f9, f10, f11, f12, f13, f14, f15, f16, f17⟩ := g7
    refine ⟨u, e, f1, f2, f3, by rw [eh]; exact f4, by rw [s3]; exact f5, by rw [r15]; exact f6, by rw [eh, s3]; exact f7, by rw [s3]; exact f8, by rw [s3]; exact f9, by rw [eh]; exact f10, by rw [s3]; exact f11, by rw [eh]; exact f12, by rw [s3]; exact f13, by rw [s3]; exact f14, fun d hd => ?_, fun i hi => ?_, fun i hi => ?_⟩
    · have hd5 : d < 5 := Nat.lt_of_lt_of_le hd f1
      have d0 : ∀ i, wi wc' (dA (hA b) d) i = wi wc (dA (hA b) d) i := fun i => hc _ i (dA_rel b (k := 0) hd5 (by decide))
      have d1 : ∀ i, wi wc' (dA (hA b) d + 1) i = wi wc (dA (hA b) d + 1) i := fun i => hc _ i (dA_rel b hd5 (by decide))
      have d2 : ∀ i, wi wc' (dA (hA b) d + 2) i = wi wc (dA (hA b) d + 2) i := fun i => hc _ i (dA_rel b hd5 (by decide))
      have := f15 d hd
      unfold DanceRel at this ⊢
      simp only [d0, d1, d2, s3, s5]
      exact this
    · have := f16 i hi
      unfold UnsRel at this ⊢
      simp only [h17, h18, s3]
      exact this
    · have := f17 i hi
      unfold SeenRel at this ⊢
      simp only [h19, h20, h21, h22, s3]
      exact this
  · unfold PastRel ActRel ImgRel at g8 ⊢
    simp only [e3, e4, e5, e6, e7, e8, s5, s6, s7, r21, r22]
    exact g8
