/-! what all the pairs stand on -/
theorem n5 (d : Nat) : 5 + nI d = nI (5 + d) := nI_add 5 d
theorem n4 (d : Nat) : 4 + nI d = nI (4 + d) := nI_add 4 d
theorem nmul (a b : Nat) : nI a * nI b = nI (a * b) := (Int32.ofNat_mul a b).symm
theorem n9 (d i : Nat) : 9 + 12 * nI d + nI i = nI (9 + 12 * d + i) := by
  rw [show (12 : Int32) = nI 12 from rfl, nmul, show (9 : Int32) = nI 9 from rfl, nI_add, nI_add]
theorem nlt5 {d : Nat} (h : d < 5) : nI d < 5 := nI_lt (a := d) (b := 5) h (by decide)
theorem din_c {n : Nat} (hn : n ≤ 5) {a c : Int32} (h : c = nI n) : (0 ≤ a ∧ a < c ∧ a < 5) ↔ ∃ d : Nat, d < n ∧ a = nI d := by
  subst h
  constructor
  · rintro ⟨h0, h1, h2⟩
    obtain ⟨j, hj, rfl⟩ := nI_of (Int32.not_lt.mpr h0)
    exact ⟨j, (nI_ltI hj (by omega)).mp h1, rfl⟩
  · rintro ⟨d, hd, rfl⟩
    exact ⟨nI_pos' (by omega), nI_lt hd (by omega), nlt5 (by omega)⟩
/-- a dance of the hall, as both sides have it -/
def DanceAt (b : Bool) (wc wr : Wd) (d : Nat) : Prop := DanceRel b wc wr d
theorem cx {b : Bool} {wc wr : Wd} (hR : Rel b wc wr) : ∃ n : Nat, n ≤ 5 ∧ wi wc (hA b) 2 = nI n ∧ wi wr 3 1 = nI n ∧ wi wr 0 15 = (if n = 0 then 0 else 1) ∧ ∀ d : Nat, d < n → DanceRel b wc wr d := by
  obtain ⟨g1, g2, g3, g4, g5, g6, n, ⟨u, e, f1, f2, f3, f4, f5, f6, f7, f8, f9, f10, f11, f12, f13, f14, f15, f16, f17⟩, g8⟩ := hR
  exact ⟨n, f1, f4, f5, f6, f15⟩
theorem v_in (a n : Int32) : vXX11_in a 0 n = if a < 0 then 0 else if n < a then 0 else 1 := rfl
theorem an_ne {w : Wd} {a i : Nat} (h : a ≠ 0 ∨ (i ≠ 0 ∧ i ≠ 11)) : wi (wXX11_anew w) a i = wi w a i := by
  unfold wXX11_anew
  rw [wi_ne (by rcases h with h | h; exact Or.inl h; exact Or.inr h.2), wi_ne (by rcases h with h | h; exact Or.inl h; exact Or.inr h.1)]
theorem an_11 (w : Wd) : wi (wXX11_anew w) 0 11 = 0 := wi_self _ _ _ _
theorem an_R {w : Wd} (h : w.2.2 = RM) : (wXX11_anew w).2.2 = RM := h
theorem nrR {i : Nat} (h : i ≠ 2 ∧ i ≠ 9 ∧ i ≠ 10 ∧ i ≠ 15 ∧ i ≠ 21 ∧ i ≠ 22) : ¬ relR 0 i := by
  unfold relR
  omega
theorem an_same (w : Wd) : SameR w (wXX11_anew w) := ((SameR.rf w).si (nrR (by decide))).si (nrR (by decide))
theorem nrC0 : ¬ relC 0 := fun h => absurd h.1 (by decide)
theorem isd {n : Nat} {w : Wd} (hR : w.2.2 = RM) (hn : n ≤ 5) (h1 : wi w 3 1 = nI n) (h15 : wi w 0 15 = if n = 0 then 0 else 1) {a : Int32} {Q : Int32 → Wd → Prop} (kt : (∃ d : Nat, d < n ∧ a = nI d) → Q 1 w) (kf : ¬ (∃ d : Nat, d < n ∧ a = nI d) → Q 0 w) : ClI SR mX11_isDance [.ref 0, .int a] w (fun x w1 => w1.2.2 = RM ∧ Q x w1) := by
  refine TX11_isDance a w hR _ ⟨fun q => ⟨_, rfl, hR, kf ?_⟩, fun q => ⟨_, rfl, hR, ?_⟩⟩
  · rintro ⟨d, hd, -⟩
    rw [h15, if_neg (by omega)] at q
    exact absurd q (by decide)
  · have hn0 : n ≠ 0 := fun h => q (by rw [h15, if_pos h])
    obtain ⟨k, rfl⟩ : ∃ k, n = k + 1 := ⟨n - 1, by omega⟩
    rw [h1, nI_pred, v_in]
    by_cases c1 : a < 0
    · rw [if_pos c1, if_pos rfl]
      refine kf ?_
      rintro ⟨d, hd, rfl⟩
      exact nI_pos (by omega) c1
    · rw [if_neg c1]
      obtain ⟨j, hj, rfl⟩ := nI_of c1
      by_cases c2 : nI k < nI j
      · rw [if_pos c2, if_pos rfl]
        refine kf ?_
        rintro ⟨d, hd, e⟩
        have := (nI_eq hj (by omega)).mp e
        have := (nI_ltI (by omega) hj).mp c2
        omega
      · rw [if_neg c2, if_neg (by decide)]
        refine kt ⟨j, ?_, rfl⟩
        have : ¬ k < j := fun h => c2 ((nI_ltI (by omega) hj).mpr h)
        omega
theorem isdA {n : Nat} {w : Wd} (hR : w.2.2 = RM) (hn : n ≤ 5) (h1 : wi w 3 1 = nI n) (h15 : wi w 0 15 = if n = 0 then 0 else 1) {a : Int32} {Q : Int32 → Wd → Prop} (kt : (∃ d : Nat, d < n ∧ a = nI d) → Q 1 (wXX11_anew w)) (kf : ¬ (∃ d : Nat, d < n ∧ a = nI d) → Q 0 (wXX11_anew w)) : ClI SR mX11_isDance [.ref 0, .int a] (wXX11_anew w) (fun x w1 => w1.2.2 = RM ∧ Q x w1) :=
  isd (an_R hR) hn ((an_ne (Or.inl (by decide))).trans h1) ((an_ne (Or.inr (by decide))).trans h15) kt kf
/-- the ends: all well, or refused -/
theorem fin_ok {b : Bool} {wc wr wc' wr' : Wd} {x : Int32} (hR : Rel b wc wr) (hc : SameC wc wc') (hr : SameR wr wr') (h0 : wi wr' 0 11 = 0) : RelE (wXX10_accept x wc') wr' :=
  ⟨b, rel_scr hR (hc.si nrC0) hr ((wi_self _ _ _ _).trans h0.symm) (fun q => by rw [h0] at q; exact absurd q (by decide))⟩
theorem fin_no {b : Bool} {wc wr wc' wr' : Wd} {t v : Int32} (hR : Rel b wc wr) (hc : SameC wc wc') (hr : SameR wr wr') (ht : t ≠ 4) : RelE (wXX10_refuse t v wc') (si wr' 0 11 t) :=
  ⟨b, rel_scr hR (hc.si nrC0) (hr.si (nrR (by decide))) ((wi_self _ _ _ _).trans (wi_self _ _ _ _).symm) (fun q => by rw [wi_self] at q; exact absurd q ht)⟩
theorem fin_noA {b : Bool} {wc wr : Wd} {t v : Int32} (hR : Rel b wc wr) (ht : t ≠ 4) : RelE (wXX10_refuse t v wc) (si (wXX11_anew wr) 0 11 t) := fin_no hR (SameC.rf _) (an_same _) ht
theorem fin_okA {b : Bool} {wc wr : Wd} {x : Int32} (hR : Rel b wc wr) : RelE (wXX10_accept x wc) (wXX11_anew wr) := fin_ok hR (SameC.rf _) (an_same _) (an_11 _)
theorem fin_deny {b : Bool} {wc wr : Wd} {t : Int32} (hR : Rel b wc wr) (ht : t ≠ 4) : RelE (wXX10_deny t wc) (si (wXX11_anew wr) 0 11 t) := fin_no (v := 0) hR (SameC.rf _) (an_same _) ht
theorem no10 : ¬ (1 : Int32) = 0 := by decide
theorem d_clamp {n d : Nat} (hn : n ≤ 5) (h : d < n) : (nI d).toNatClampNeg = d := nI_clamp (by omega)
theorem in_yes {m : Nat} {a : Int32} (h : 0 ≤ a) (h2 : a < nI m) (hm : m < 2 ^ 31) : vXX11_in a 0 (nI m - 1) = 1 := by
  obtain ⟨j, hj, rfl⟩ := nI_of (Int32.not_lt.mpr h)
  have hlt := (nI_ltI hj hm).mp h2
  obtain ⟨k, rfl⟩ : ∃ k, m = k + 1 := ⟨m - 1, by omega⟩
  rw [nI_pred, v_in, if_neg (Int32.not_lt.mpr h), if_neg (fun c => by have := (nI_ltI (by omega) hj).mp c; omega)]
theorem in_no {m : Nat} {a : Int32} (hm0 : 1 ≤ m) (hm : m < 2 ^ 31) (h : ¬ (0 ≤ a ∧ a < nI m)) : vXX11_in a 0 (nI m - 1) = 0 := by
  obtain ⟨k, rfl⟩ : ∃ k, m = k + 1 := ⟨m - 1, by omega⟩
  rw [nI_pred, v_in]
  by_cases c : a < 0
  · rw [if_pos c]
  · rw [if_neg c, if_pos]
    obtain ⟨j, hj, rfl⟩ := nI_of c
    refine (nI_ltI (by omega) hj).mpr ?_
    have : ¬ j < k + 1 := fun q => h ⟨Int32.not_lt.mp c, (nI_ltI hj hm).mpr q⟩
    omega
theorem corner_in (a : Int32) : vXX10_isCorner a = vXX11_in a 0 3 := by
  unfold vXX10_isCorner
  rw [v_in]
  by_cases c : a < 0
  · rw [if_pos c, if_pos c]
  · rw [if_neg c, if_neg c]
    have e : (4 ≤ a) = (3 < a) := by
      rw [Int32.le_iff_toInt_le, Int32.lt_iff_toInt_lt, show (4 : Int32).toInt = 4 by decide, show (3 : Int32).toInt = 3 by decide]
      exact propext ⟨fun h => by omega, fun h => by omega⟩
    simp only [e]
theorem lookd {d : Nat} {w : Wd} (hd : d < 5) (hR : w.2.2 = RM) {Q : Wd → Prop} (k : Q (si (si w 0 23 (wi w 5 d)) 0 24 (wi w 5 (5 + d)))) : ClV SR mX11_look [.ref 0, .int (nI d)] w (fun w3 => w3.2.2 = RM ∧ Q w3) := by
  refine TX11_look _ w hR _ ⟨nI_in (by omega) (by decide), by rw [n5]; exact nI_in (by omega) (by decide), rfl, hR, ?_⟩
  rw [n5, nI_clamp (by omega), nI_clamp (by omega), wi_ne (Or.inl (by decide))]
  exact k
theorem hall_n {n : Nat} {b : Bool} {wc : Wd} (hn : n ≤ 5) (h : wi wc (hA b) 2 = nI n) : vXX10_hasHall wc b = if n = 0 then 0 else 1 := by
  unfold vXX10_hasHall
  rw [h]
  by_cases c : n = 0
  · subst c
    rfl
  · rw [if_neg c, if_neg (nI_nle (by omega) (by omega))]
theorem numT {b : Bool} {wc wr : Wd} (hR : Rel b wc wr) (a lo hi : Int32) : vXX10_numberTrouble a lo hi wc b = vXX11_why (wi (wXX11_anew wr) 0 15) (vXX11_in a lo hi) := by
  obtain ⟨n, hn, f4, f5, f6, fD⟩ := cx hR
  have e15 : wi (wXX11_anew wr) 0 15 = if n = 0 then 0 else 1 := (an_ne (Or.inr (by decide))).trans f6
  unfold vXX10_numberTrouble vXX11_why vXX11_in
  rw [hall_n hn f4, e15]
  by_cases c : n = 0
  · rw [if_pos c, if_pos rfl, if_pos rfl]
  · rw [if_neg c, if_neg no10, if_neg no10]
    by_cases c1 : a < lo
    · rw [if_pos c1, if_pos c1, if_pos rfl]
    · rw [if_neg c1, if_neg c1]
      by_cases c2 : a ≤ hi
      · rw [if_pos c2, if_neg (Int32.not_lt.mpr c2), if_neg no10]
      · rw [if_neg c2, if_pos (Int32.not_le.mp c2), if_pos rfl]
theorem why4 (x y : Int32) : vXX11_why x y ≠ 4 := by
  unfold vXX11_why
  split
  · decide
  · split <;> decide
theorem absAway (x : Int32) : vXJ9_abs_0f7a4 x = vXX11_away x := rfl
theorem payBows (a1 a2 a3 : Int32) : vXX10_pay a1 a2 a3 = vXX11_bowsOf a1 a2 a3 := rfl
theorem mod2 (x : Int32) (h : 0 ≤ x.toInt) : x % 2 = 0 ∨ x % 2 = 1 := by
  have e : (x % 2).toInt = x.toInt.tmod 2 := Int32.toInt_mod x 2
  rw [Int.tmod_eq_emod_of_nonneg h] at e
  rcases Int.emod_two_eq x.toInt with h | h
  · exact Or.inl (Int32.toInt_inj.mp (by rw [e, h]; rfl))
  · exact Or.inr (Int32.toInt_inj.mp (by rw [e, h]; rfl))
theorem ring2 (x : Int32) (h : 0 ≤ x.toInt) : (if x % 2 = 0 then 2 else 1 : Int32) = 2 - x % 2 := by
  rcases mod2 x h with h | h <;> rw [h] <;> rfl
theorem away_nn {x : Int32} (h : -9999 ≤ x.toInt ∧ x.toInt ≤ 9999) : 0 ≤ (vXX11_away x).toInt := by
  unfold vXX11_away
  by_cases c : 0 ≤ x
  · rw [if_pos c]
    exact Int32.le_iff_toInt_le.mp c
  · rw [if_neg c]
    have c2 : ¬ (0 : Int) ≤ x.toInt := fun h => c (Int32.le_iff_toInt_le.mpr h)
    rw [Int32.toInt_neg, Int.bmod_eq_of_le (by omega) (by omega)]
    omega
