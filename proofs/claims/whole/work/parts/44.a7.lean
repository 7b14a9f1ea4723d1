/-! fractions under a figure: lowest terms stay; when one is too great -/
def FrB (A : Int) (x : Int32 × Int32) : Prop := -A ≤ x.1.toInt ∧ x.1.toInt ≤ A ∧ 0 ≤ x.2.toInt ∧ x.2.toInt ≤ A ∧ Int.gcd x.1.toInt x.2.toInt = 1 ∧ (x.2 = 0 → x.1 = 1)
theorem FrB.frac {x : Int32 × Int32} (h : FrB 9999 x) : Frac x.1 x.2 := h
theorem Frac.frB {o u : Int32} (h : Frac o u) : FrB 9999 (o, u) := h
theorem FrB.mono {A B : Int} {x : Int32 × Int32} (h : FrB A x) (hAB : A ≤ B) : FrB B x := ⟨by have := h.1; omega, by have := h.2.1; omega, h.2.2.1, by have := h.2.2.2.1; omega, h.2.2.2.2⟩
theorem FrB.sm {x : Int32 × Int32} (h : FrB 500000 x) : Sm x.1 x.2 := ⟨h.1, h.2.1, h.2.2.1, h.2.2.2.1⟩
theorem t0i : (0 : Int32).toInt = 0 := rfl
theorem t1i : (1 : Int32).toInt = 1 := rfl
theorem tz {x : Int32} : x = 0 ↔ x.toInt = 0 := by
  rw [← Int32.toInt_inj, t0i]
theorem fo_fr {A : Int} (hA : 1 ≤ A) (hA2 : A ≤ 500000000) {f : Int32} (hf : Fig f) {x : Int32 × Int32} (h : FrB A x) : FrB (2 * A) (fo f x) := by
  obtain ⟨h1, h2, h3, h4, h5, h6⟩ := h
  rcases hf with rfl | rfl | rfl
  · show _ ≤ (x.1 + x.2).toInt ∧ (x.1 + x.2).toInt ≤ _ ∧ 0 ≤ x.2.toInt ∧ x.2.toInt ≤ _ ∧ Int.gcd (x.1 + x.2).toInt x.2.toInt = 1 ∧ (x.2 = 0 → x.1 + x.2 = 1)
    rw [i_add (A := A) ⟨h1, h2⟩ ⟨by omega, h4⟩ (by omega)]
    refine ⟨by omega, by omega, h3, by omega, by rw [Int.gcd_add_self_left]; exact h5, fun z => ?_⟩
    rw [h6 z, z]
    rfl
  · show _ ≤ (x.1 - x.2).toInt ∧ (x.1 - x.2).toInt ≤ _ ∧ 0 ≤ x.2.toInt ∧ x.2.toInt ≤ _ ∧ Int.gcd (x.1 - x.2).toInt x.2.toInt = 1 ∧ (x.2 = 0 → x.1 - x.2 = 1)
    rw [i_sub (A := A) ⟨h1, h2⟩ ⟨by omega, h4⟩ (by omega)]
    refine ⟨by omega, by omega, h3, by omega, by rw [Int.gcd_sub_self_left]; exact h5, fun z => ?_⟩
    rw [h6 z, z]
    rfl
  · show _ ≤ (if x.1 = 0 then 1 else if x.1 ≤ 0 then x.2 else -x.2 : Int32).toInt ∧ (if x.1 = 0 then 1 else if x.1 ≤ 0 then x.2 else -x.2 : Int32).toInt ≤ _ ∧ 0 ≤ (vXX11_away x.1).toInt ∧ (vXX11_away x.1).toInt ≤ _ ∧ Int.gcd (if x.1 = 0 then 1 else if x.1 ≤ 0 then x.2 else -x.2 : Int32).toInt (vXX11_away x.1).toInt = 1 ∧ (vXX11_away x.1 = 0 → (if x.1 = 0 then 1 else if x.1 ≤ 0 then x.2 else -x.2 : Int32) = 1)
    rw [i_away (A := A) ⟨h1, h2⟩ (by omega), away0]
    by_cases c1 : x.1 = 0
    · have e0 : x.1.toInt = 0 := tz.mp c1
      rw [if_pos c1, e0, t1i]
      exact ⟨by omega, by omega, by decide, by omega, by decide, fun _ => rfl⟩
    · have e0 : x.1.toInt ≠ 0 := fun z => c1 (tz.mpr z)
      have eg : Int.gcd x.2.toInt (x.1.toInt.natAbs : Int) = 1 := by
        rw [Int.gcd_comm] at h5
        rw [Int.gcd_eq_natAbs_gcd_natAbs] at h5 ⊢
        rw [Int.natAbs_natCast]
        exact h5
      rw [if_neg c1]
      by_cases c2 : x.1 ≤ 0
      · rw [if_pos c2]
        exact ⟨by omega, by omega, by omega, by omega, eg, fun z => absurd z c1⟩
      · rw [if_neg c2, i_neg (A := A) ⟨by omega, h4⟩ (by omega)]
        exact ⟨by omega, by omega, by omega, by omega, by rw [Int.neg_gcd]; exact eg, fun z => absurd z c1⟩
theorem g9 : (9999 : Int32).toInt = 9999 := by decide
theorem gN9 : (-9999 : Int32).toInt = -9999 := by decide
theorem great_c {A : Int} {x : Int32 × Int32} (h : FrB A x) : vXX7_isTooGreat x.1 x.2 = 0 ↔ Frac x.1 x.2 := by
  obtain ⟨h1, h2, h3, h4, h5, h6⟩ := h
  unfold vXX7_isTooGreat
  simp only [Int32.lt_iff_toInt_lt, Int32.le_iff_toInt_le, g9, gN9]
  constructor
  · intro h
    split at h
    · exact absurd h (by decide)
    · split at h
      · exact absurd h (by decide)
      · split at h
        · exact ⟨by omega, by omega, h3, by omega, h5, h6⟩
        · exact absurd h (by decide)
  · intro h
    have := h.1
    have := h.2.1
    have := h.2.2.2.1
    rw [if_neg (by omega), if_neg (by omega), if_pos (by omega)]
theorem high_c {w : Wd} (h : -1000000000 ≤ (wi w 0 23).toInt ∧ (wi w 0 23).toInt ≤ 1000000000) : vXX11_isHigh w = vXX7_isTooGreat (wi w 0 23) (wi w 0 24) := by
  unfold vXX11_isHigh vXX7_isTooGreat
  simp only [Int32.lt_iff_toInt_lt, Int32.le_iff_toInt_le, g9, gN9]
  rw [i_away (A := 1000000000) h (by decide)]
  by_cases c : (9999 : Int) < (wi w 0 23).toInt
  · rw [if_pos c, if_pos (by omega)]
  · rw [if_neg c]
    by_cases c2 : (wi w 0 23).toInt < -9999
    · rw [if_pos c2, if_pos (by omega)]
    · rw [if_neg c2, if_neg (by omega)]
/-- the reference's call of a figure -/
theorem z_calls {f : Int32} (hf : Fig f) {w : Wd} (hR : w.2.2 = RM) {x : Int32 × Int32} (e1 : wi w 0 23 = x.1) (e2 : wi w 0 24 = x.2) (hF : Frac x.1 x.2) {Q : Int32 → Wd → Prop} (k1 : Frac (fo f x).1 (fo f x).2 → ∀ w', TR w w' (fo f x) → Q 1 w') (k0 : ¬ Frac (fo f x).1 (fo f x).2 → ∀ w', TR w w' x → Q 0 w') : ClI SR mX11_calls [.ref 0, .int f] w (fun y w2 => w2.2.2 = RM ∧ Q y w2) := by
  have hfr : FrB 19998 (fo f x) := fo_fr (A := 9999) (by decide) (by decide) hf hF
  have ex : (wi w 0 23, wi w 0 24) = x := by rw [e1, e2]
  refine TX11_calls f w hR _ (z_figOn hf hR (by rw [e2]; exact hF.2.2.1) fun w' h => ?_)
  rw [ex] at h
  have hb := hfr.1
  have hb2 := hfr.2.1
  rw [high_c (by rw [h.2.2.1]; exact ⟨by omega, by omega⟩), h.2.2.1, h.2.2.2]
  refine ⟨fun z => ⟨_, rfl, h.1.trans hR, k1 ((great_c hfr).mp z) w' h⟩, fun z => ⟨_, rfl, h.1.trans hR, k0 (fun y => z ((great_c hfr).mpr y)) _ ?_⟩⟩
  have := h.tr (TR.put w' (wi w 0 23) (wi w 0 24))
  rw [ex] at this
  exact this
theorem dA_lq (b : Bool) {d : Nat} (hd : d < 5) : dA (hA b) d + 2 < 45 := by
  cases b
  · show 3 + 2 + 3 * d + 2 < 45
    omega
  · show 26 + 2 + 3 * d + 2 < 45
    omega
theorem dA_ge (b : Bool) (d : Nat) : 5 ≤ dA (hA b) d := by
  cases b
  · show 5 ≤ 3 + 2 + 3 * d
    omega
  · show 5 ≤ 26 + 2 + 3 * d
    omega
theorem pf_in {w : Wd} {a n j : Nat} {v : Int32} (h : j < n) (hn : n < 2 ^ 31) : pf w a n (nI j) v = si w a j v := by
  unfold pf
  rw [if_pos ⟨nI_pos' (by omega), nI_lt h hn⟩, nI_clamp (by omega)]
theorem fig_of {f : Int32} (h1 : ¬ f < 0) (h2 : f ≤ 2) : Fig f := by
  obtain ⟨j, hj, rfl⟩ := nI_of h1
  have := (nI_leI (b := 2) hj (by decide)).mp h2
  rcases (show j = 0 ∨ j = 1 ∨ j = 2 by omega) with rfl | rfl | rfl
  · exact Or.inl rfl
  · exact Or.inr (Or.inl rfl)
  · exact Or.inr (Or.inr rfl)
theorem z_crossedX {t : Nat} (ht : SC[t]? = some (.inl 6)) {b : Bool} {w : Wd} (hR : w.2.2 = RTab b) {x : Int32 × Int32} (e1 : wi w t 0 = x.1) (e2 : wi w t 1 = x.2) (h : Sm x.1 x.2) {Q : Int32 → Wd → Prop} (k : Q (nI (fparts x.1 x.2).sum) w) : ClI SC mX7_crossed [.ref t] w (fun x w2 => w2.2.2 = RTab b ∧ Q x w2) := by
  rw [← e1, ← e2] at h k
  exact z_crossed ht hR h k
