/-! RUNGS: the row of fractions from 0 by 1 to 1 by 1 -/
def FI (n i a b c d : Nat) : Prop := 0 < b ∧ b ≤ n ∧ 0 < d ∧ d ≤ n ∧ n < b + d ∧ c * b = a * d + 1 ∧ i * b ≤ a * (n * n)
theorem fi_step {n i a b c d : Nat} (h : FI n i a b c d) : a + ((n + b) / d * c - a) = (n + b) / d * c ∧ b + ((n + b) / d * d - b) = (n + b) / d * d ∧ FI n (i + 1) c d ((n + b) / d * c - a) ((n + b) / d * d - b) := by
  obtain ⟨h1, h2, h3, h4, h5, h6, h7⟩ := h
  have k1 := Nat.div_add_mod (n + b) d
  have k2 := Nat.mod_lt (n + b) h3
  rw [Nat.mul_comm] at k1
  generalize (n + b) / d = k at *
  generalize (n + b) % d = m at *
  have hb : b ≤ k * d := by omega
  have ha : a ≤ k * c := by
    refine Nat.le_of_mul_le_mul_right (c := b) ?_ h1
    rw [Nat.mul_assoc, h6, Nat.mul_add, Nat.mul_one]
    have e1 : a * b ≤ a * (k * d) := Nat.mul_le_mul_left a hb
    have e2 : a * (k * d) = k * (a * d) := Nat.mul_left_comm a k d
    omega
  have ea : a + (k * c - a) = k * c := by omega
  have eb : b + (k * d - b) = k * d := by omega
  refine ⟨ea, eb, h3, h4, by omega, by omega, by omega, ?_, ?_⟩
  · generalize k * c - a = e at *
    generalize k * d - b = f at *
    have q1 : (a + e) * d = c * (b + f) := by rw [ea, eb, Nat.mul_comm k c, Nat.mul_assoc]
    rw [Nat.add_mul, Nat.mul_add, h6] at q1
    omega
  · refine Nat.le_of_mul_le_mul_right (c := b) ?_ h1
    have q1 : d * b ≤ n * n := Nat.mul_le_mul h4 h2
    have q2 : i * b * d ≤ a * (n * n) * d := Nat.mul_le_mul_right d h7
    have q3 : (i + 1) * d * b = i * b * d + d * b := by rw [Nat.add_mul, Nat.one_mul, Nat.add_mul, Nat.mul_right_comm]
    have q4 : c * (n * n) * b = a * (n * n) * d + n * n := by rw [Nat.mul_right_comm, h6, Nat.add_mul, Nat.one_mul, Nat.mul_right_comm]
    omega
def fsq (n : Nat) : Nat → Nat × Nat × Nat × Nat
  | 0 => (0, 1, 1, n)
  | i + 1 => ((fsq n i).2.2.1, (fsq n i).2.2.2, (n + (fsq n i).2.1) / (fsq n i).2.2.2 * (fsq n i).2.2.1 - (fsq n i).1, (n + (fsq n i).2.1) / (fsq n i).2.2.2 * (fsq n i).2.2.2 - (fsq n i).2.1)
theorem fsq_fi {n : Nat} (hn : 1 ≤ n) : ∀ i, FI n i (fsq n i).1 (fsq n i).2.1 (fsq n i).2.2.1 (fsq n i).2.2.2 := by
  intro i
  induction i with
  | zero =>
    show FI n 0 0 1 1 n
    exact ⟨by decide, hn, by omega, Nat.le_refl n, by omega, by rw [Nat.zero_mul], by rw [Nat.zero_mul, Nat.zero_mul]; exact Nat.le_refl 0⟩
  | succ i ih => exact (fi_step ih).2.2
/-- where 1 by 1 is -/
theorem fsq_end {n : Nat} (hn : 1 ≤ n) (hn2 : n ≤ 200) : ∃ L : Nat, L ≤ 40000 ∧ (∀ i, i < L → (fsq n i).1 < (fsq n i).2.1) ∧ (∀ i, i ≤ L → (fsq n i).1 ≤ (fsq n i).2.1) ∧ (fsq n L).2.1 ≤ (fsq n L).1 ∧ (fsq n (L + 1)).2.1 < (fsq n (L + 1)).1 := by
  have hN : n * n ≤ 40000 := Nat.mul_le_mul hn2 hn2
  have small : ∀ i, (fsq n i).1 < (fsq n i).2.1 → i < n * n := fun i h => by
    obtain ⟨h1, h2, h3, h4, h5, h6, h7⟩ := fsq_fi hn i
    have q : (fsq n i).1 * (n * n) < (fsq n i).2.1 * (n * n) := Nat.mul_lt_mul_of_pos_right h (Nat.mul_pos hn hn)
    have q2 : i * (fsq n i).2.1 < n * n * (fsq n i).2.1 := by
      rw [Nat.mul_comm (n * n)]
      omega
    exact Nat.lt_of_mul_lt_mul_right q2
  obtain ⟨L, hL, hl⟩ := pk_least (fun i => ¬ (fsq n i).1 < (fsq n i).2.1) ⟨n * n, fun h => by have := small _ h; omega⟩
  have hlt : ∀ i, i < L → (fsq n i).1 < (fsq n i).2.1 := fun i hi => by
    by_cases c : (fsq n i).1 < (fsq n i).2.1
    · exact c
    · exact absurd c (hl i hi)
  have hL0 : L ≠ 0 := fun e => by
    rw [e] at hL
    exact hL (show (0 : Nat) < 1 by decide)
  obtain ⟨K, rfl⟩ : ∃ K, L = K + 1 := ⟨L - 1, by omega⟩
  have hK := hlt K (by omega)
  have hKN := small K hK
  have hle : (fsq n (K + 1)).1 ≤ (fsq n (K + 1)).2.1 := by
    obtain ⟨h1, h2, h3, h4, h5, h6, h7⟩ := fsq_fi hn K
    show (fsq n K).2.2.1 ≤ (fsq n K).2.2.2
    generalize fsq n K = s at *
    refine Nat.le_of_mul_le_mul_right (c := s.2.1) ?_ h1
    have q : (s.1 + 1) * s.2.2.2 ≤ s.2.1 * s.2.2.2 := Nat.mul_le_mul_right _ hK
    rw [Nat.add_mul, Nat.one_mul] at q
    rw [h6, Nat.mul_comm s.2.2.2]
    omega
  refine ⟨K + 1, by omega, hlt, fun i hi => ?_, by omega, ?_⟩
  · by_cases c : i = K + 1
    · rw [c]
      exact hle
    · have := hlt i (by omega)
      omega
  · obtain ⟨h1, h2, h3, h4, h5, h6, h7⟩ := fsq_fi hn (K + 1)
    show (fsq n (K + 1)).2.2.2 < (fsq n (K + 1)).2.2.1
    generalize fsq n (K + 1) = s at *
    have e : s.1 = s.2.1 := by omega
    rw [e] at h6
    rcases Nat.lt_or_ge s.2.2.2 s.2.2.1 with y | y
    · exact y
    · have q : s.2.2.1 * s.2.1 ≤ s.2.2.2 * s.2.1 := Nat.mul_le_mul_right _ y
      rw [Nat.mul_comm s.2.2.2] at q
      omega
theorem fsq_bd {n i : Nat} (hn : 1 ≤ n) (hn2 : n ≤ 200) (h : (fsq n i).1 ≤ (fsq n i).2.1) : (fsq n i).1 ≤ 200 ∧ (fsq n i).2.1 ≤ 200 ∧ (fsq n i).2.2.1 ≤ 201 ∧ (fsq n i).2.2.2 ≤ 200 ∧ 0 < (fsq n i).2.2.2 ∧ 0 < (fsq n i).2.1 := by
  obtain ⟨h1, h2, h3, h4, h5, h6, h7⟩ := fsq_fi hn i
  generalize fsq n i = s at *
  refine ⟨by omega, by omega, ?_, by omega, h3, h1⟩
  have q : s.1 * s.2.2.2 ≤ s.2.1 * s.2.2.2 := Nat.mul_le_mul_right _ h
  have q2 : s.2.2.1 * s.2.1 ≤ (s.2.2.2 + 1) * s.2.1 := by
    rw [h6, Nat.add_mul, Nat.one_mul, Nat.mul_comm s.2.2.2]
    omega
  have := Nat.le_of_mul_le_mul_right q2 h1
  omega
/-- a step of it in ints -/
theorem fsq_I {n i : Nat} (hn : 1 ≤ n) (hn2 : n ≤ 200) (h : (fsq n i).1 ≤ (fsq n i).2.1) : ((nI n + nI (fsq n i).2.1) / nI (fsq n i).2.2.2) * nI (fsq n i).2.2.1 - nI (fsq n i).1 = nI (fsq n (i + 1)).2.2.1 ∧ ((nI n + nI (fsq n i).2.1) / nI (fsq n i).2.2.2) * nI (fsq n i).2.2.2 - nI (fsq n i).2.1 = nI (fsq n (i + 1)).2.2.2 := by
  obtain ⟨b1, b2, b3, b4, b5, b6⟩ := fsq_bd hn hn2 h
  obtain ⟨e1, e2, -⟩ := fi_step (fsq_fi hn i)
  rw [nI_add, nI_dv (by omega) (by omega), nmul, nmul, pk_sub (by omega), pk_sub (by omega)]
  exact ⟨rfl, rfl⟩
/-! the class's climb -/
def LW (n : Nat) (w0 w : Wd) (i : Nat) : Prop := SameC w0 w ∧ wi w 61 0 = nI (fsq n i).1 ∧ wi w 61 1 = nI (fsq n i).2.1
theorem nr61 : ¬ relC 61 := fun h => absurd h.2 (by decide)
theorem LW.next {n i : Nat} {w0 w : Wd} (h : LW n w0 w i) (x y : Nat) (hx : x = (fsq n (i + 1)).1) (hy : y = (fsq n (i + 1)).2.1) : LW n w0 (si (si w 61 0 (nI x)) 61 1 (nI y)) (i + 1) := by
  subst hx hy
  exact ⟨(h.1.si nr61).si nr61, (wi_ne (Or.inr (by decide))).trans (wi_self _ _ _ _), wi_self _ _ _ _⟩
theorem z_climbC {b : Bool} {n L c : Nat} (hn : 1 ≤ n) (hn2 : n ≤ 200) (hL4 : L ≤ 40000) (hlt : ∀ i, i < L → (fsq n i).1 < (fsq n i).2.1) (hle : ∀ i, i ≤ L → (fsq n i).1 ≤ (fsq n i).2.1) (hend : (fsq n L).2.1 ≤ (fsq n L).1) (hc : c < 2 ^ 31) {w : Wd} (hR : w.2.2 = RTab b) {Q : Int32 → Wd → Prop} (kk : ∀ w', LW n w w' (min L c) → Q (nI (min L c)) w') : ClI SC mX3_climb [.ref 61, .int (nI n), .int (nI c)] w (fun v w2 => w2.2.2 = RTab b ∧ Q v w2) := by
  have loop : ∀ (r i : Nat) (w1 : Wd), i + r = min L c → LW n w w1 i → Go SC mX3_climb 18 [(0, .ref 61), (1, .int (nI n)), (2, .int (nI c)), (3, .int (nI (fsq n i).2.2.1)), (4, .int (nI (fsq n i).2.2.2)), (5, .int (nI i))] [] w1 (fun r w' => ∃ v, r = some (.int v) ∧ w'.2.2 = RTab b ∧ Q v w') := by
    intro r
    induction r with
    | zero =>
      intro i w1 hi h
      have e : i = min L c := by omega
      have hw : w1.2.2 = RTab b := h.1.1.trans hR
      have k := kk w1 (by rw [← e]; exact h)
      rw [← e] at k
      obtain ⟨b1, b2, b3, b4, b5, b6⟩ := fsq_bd hn hn2 (hle i (by omega))
      refine BX3_climb_18 _ _ _ _ _ w1 b hw _ ⟨fun _ => ⟨_, rfl, hw, k⟩, fun _ => ⟨fun _ => ⟨_, rfl, hw, k⟩, fun z => ⟨fun _ => ⟨_, rfl, hw, k⟩, fun z2 => absurd ?_ z2⟩⟩⟩
      have hic : i < c := by
        rcases Nat.lt_or_ge i c with y | y
        · exact y
        · exact absurd (nI_le y (by omega)) z
      have hiL : i = L := by omega
      rw [h.2.1, h.2.2, hiL]
      exact nI_le hend (by rw [← hiL]; omega)
    | succ r ih =>
      intro i w1 hi h
      have hw : w1.2.2 = RTab b := h.1.1.trans hR
      obtain ⟨b1, b2, b3, b4, b5, b6⟩ := fsq_bd hn hn2 (hle i (by omega))
      have h1 := hlt i (by omega)
      obtain ⟨s1, s2⟩ := fsq_I hn hn2 (hle i (by omega))
      refine BX3_climb_18 _ _ _ _ _ w1 b hw _ ⟨fun z => absurd z (nI_ge (b := 1000000) (by omega) (by decide)), fun _ => ⟨fun z => absurd z (nI_ge (by omega) hc), fun _ => ⟨fun z => absurd z (by rw [h.2.1, h.2.2]; exact nI_ge h1 (by omega)), fun _ => ⟨fun z => absurd z (nI_nle b5 (by omega)), fun _ => ⟨nI_ne0 b5 (by omega), ?_⟩⟩⟩⟩⟩
      rw [h.2.1, h.2.2, s1, s2, nI_1]
      exact ih (i + 1) _ (by omega) (h.next _ _ rfl rfl)
  refine TX3_climb _ _ w b hR _ ?_
  exact loop (min L c) 0 _ (by omega) ⟨((SameC.rf w).si nr61).si nr61, (wi_ne (Or.inr (by decide))).trans (wi_self _ _ _ _), wi_self _ _ _ _⟩
/-! the reference's -/
theorem z_climbR {n L : Nat} {t : Int32} (hn : 1 ≤ n) (hn2 : n ≤ 200) (hL4 : L ≤ 40000) (hle : ∀ i, i ≤ L → (fsq n i).1 ≤ (fsq n i).2.1) (hend : (fsq n (L + 1)).2.1 < (fsq n (L + 1)).1) {w : Wd} (hR : w.2.2 = RM) {Q : Int32 → Wd → Prop} (k1 : ∀ i, i ≤ L → t = nI i → Q (-1) (si (si w 0 38 (nI (fsq n i).1)) 0 39 (nI (fsq n i).2.1))) (k0 : (∀ i, i ≤ L → ¬ t = nI i) → Q (nI (L + 1)) w) : ClI SR mX11_climb [.ref 0, .int (nI n), .int t] w (fun v w2 => w2.2.2 = RM ∧ Q v w2) := by
  have loop : ∀ (r i : Nat), i + r = L + 1 → (∀ j, j < i → ¬ t = nI j) → Go SR mX11_climb 14 [(0, .ref 0), (1, .int (nI n)), (2, .int t), (3, .int (nI (fsq n i).1)), (4, .int (nI (fsq n i).2.1)), (5, .int (nI (fsq n i).2.2.1)), (6, .int (nI (fsq n i).2.2.2)), (7, .int (nI i))] [] w (fun r w' => ∃ v, r = some (.int v) ∧ w'.2.2 = RM ∧ Q v w') := by
    intro r
    induction r with
    | zero =>
      intro i hi hno
      have e : i = L + 1 := by omega
      subst e
      obtain ⟨b1, b2, b3, b4, b5, b6⟩ := fsq_bd hn hn2 (hle L (Nat.le_refl L))
      refine BX11_climb_14 _ _ _ _ _ _ _ w hR _ ⟨fun _ => ⟨_, rfl, hR, k0 fun j hj => hno j (by omega)⟩, fun z => absurd ?_ z⟩
      have e1 : (fsq n (L + 1)).1 = (fsq n L).2.2.1 := rfl
      exact nI_lt hend (by omega)
    | succ r ih =>
      intro i hi hno
      obtain ⟨b1, b2, b3, b4, b5, b6⟩ := fsq_bd hn hn2 (hle i (by omega))
      obtain ⟨s1, s2⟩ := fsq_I hn hn2 (hle i (by omega))
      refine BX11_climb_14 _ _ _ _ _ _ _ w hR _ ⟨fun z => absurd z (nI_nlt (hle i (by omega)) (by omega)), fun _ => ⟨fun z => ⟨_, rfl, hR, k1 i (by omega) z.symm⟩, fun z => ⟨nI_ne0 b5 (by omega), ?_⟩⟩⟩
      rw [s1, s2, nI_1]
      refine ih (i + 1) (by omega) fun j hj => ?_
      by_cases c : j = i
      · rw [c]
        exact fun y => z y.symm
      · exact hno j (by omega)
  exact TX11_climb _ _ w hR _ (loop (L + 1) 0 (by omega) (fun j hj => absurd hj (Nat.not_lt_zero j)))
theorem rW_eq {b : Bool} {wc wr : Wd} (hR : Rel b wc wr) (a : Int32) : vXX10_numberTrouble a 1 200 wc b = vXX11_rungWhy a (wXX11_anew wr) := numT hR a 1 200
theorem rW_why {a : Int32} {w : Wd} : vXX11_rungWhy a w = vXX11_why (wi w 0 15) (vXX11_in a 1 200) := rfl
theorem pr_rungs {wc wr : Wd} (h : RelE wc wr) (a1 : Int32)  : PairI mX10_rungs mX11_rungs [a1] wc wr := by
  obtain ⟨b, hR⟩ := h
  have g2 := hR.2.1
  refine TX10_rungs _ wc b hR.1 _ ?_
  rw [rW_eq hR]
  refine ⟨fun q => ?_, fun q => ⟨_, rfl, TX11_rungs _ wr g2 _ ⟨fun z => absurd z q, fun _ => ⟨_, rfl, rfl, fin_noA hR (by rw [rW_why]; exact why4 _ _)⟩⟩⟩⟩
  obtain ⟨n, hn, hn2, rfl⟩ := in_1 (x := a1) (m := 200) (by decide) (why_z (show vXX11_why (wi (wXX11_anew wr) 0 15) (vXX11_in a1 1 (nI 200)) = 0 from q)).2
  obtain ⟨L, l1, l2, l3, l4, l5⟩ := fsq_end hn hn2
  refine z_climbC (c := 1000000) hn hn2 l1 l2 l3 l4 (by decide) hR.1 (fun w' hL => ⟨_, rfl, TX11_rungs _ wr g2 _ ⟨fun _ => z_climbR hn hn2 l1 l3 l5 (an_R g2) (fun i hi e => absurd e ?_) (fun _ => ⟨_, rfl, ?_, fin_ok hR hL.1 (an_same wr) (an_11 wr)⟩), fun z => absurd q z⟩⟩)
  · intro y
    have := congrArg Int32.toInt y
    rw [nI_toInt (by omega), show (-1 : Int32).toInt = -1 by decide] at this
    omega
  · rw [show min L 1000000 = L by omega, nI_1]
    rfl
/-- both sides' way to a rung -/
theorem rgC {b : Bool} {wc wr : Wd} (hR : Rel b wc wr) (a1 a2 : Int32) {K : Int32 → Wd → Prop}
    (k6 : ∀ t : Int32, t ≠ 0 → t ≠ 4 → ∀ w', SameC wc w' → (∀ (a3 : Int32) (K' : Int32 → Wd → Prop), (∀ w'', SameR wr w'' → K' (-1) (si w'' 0 11 t)) → ClI SR mX11_rung [.ref 0, .int a1, .int a2, .int a3] (wXX11_anew wr) (fun y w => w.2.2 = RM ∧ K' y w)) → K t w')
    (k0 : ∀ o u : Int32, ∀ w', SameC wc w' → wi w' 61 0 = o → wi w' 61 1 = u → (∀ (a3 : Int32) (K' : Int32 → Wd → Prop), (∀ w'', SameR wr w'' → wi w'' 0 11 = 0 → K' (if a3 = 0 then o else u) w'') → ClI SR mX11_rung [.ref 0, .int a1, .int a2, .int a3] (wXX11_anew wr) (fun y w => w.2.2 = RM ∧ K' y w)) → K 0 w') :
    ClI SC mX10_rungTrouble [.ref 0, .int a1, .int a2] wc (fun x w => w.2.2 = RTab b ∧ K x w) := by
  have g1 := hR.1
  have g2 := hR.2.1
  refine TX10_rungTrouble _ _ wc b g1 _ ?_
  rw [rW_eq hR]
  refine ⟨fun q => ?_, fun q => ⟨_, rfl, g1, k6 _ q (by rw [rW_why]; exact why4 _ _) wc (SameC.rf wc) fun a3 K' hk => TX11_rung _ _ _ _ (an_R g2) _ ⟨fun z => absurd z q, fun _ => ⟨fun z => absurd z q, fun _ => ⟨_, rfl, an_R g2, hk _ (an_same wr)⟩⟩⟩⟩⟩
  obtain ⟨n, hn, hn2, rfl⟩ := in_1 (x := a1) (m := 200) (by decide) (why_z (show vXX11_why (wi (wXX11_anew wr) 0 15) (vXX11_in a1 1 (nI 200)) = 0 from q)).2
  obtain ⟨L, l1, l2, l3, l4, l5⟩ := fsq_end hn hn2
  refine ⟨fun z => ⟨_, rfl, g1, k6 6 (by decide) (by decide) wc (SameC.rf wc) fun a3 K' hk => TX11_rung _ _ _ _ (an_R g2) _ ⟨fun _ => ⟨fun _ => ⟨fun y => absurd y (by decide), fun _ => ⟨_, rfl, an_R g2, hk _ (an_same wr)⟩⟩, fun y => absurd z y⟩, fun y => absurd q y⟩⟩, fun z => ?_⟩
  obtain ⟨i, hi, rfl⟩ := nI_of z
  refine z_climbC (c := i) hn hn2 l1 l2 l3 l4 hi g1 (fun w' hL => ⟨_, rfl, hL.1.1.trans g1, ?_⟩)
  rcases Nat.lt_or_ge L i with y | y
  · rw [if_neg (nI_ge (show min L i < i by omega) hi)]
    refine k6 6 (by decide) (by decide) w' hL.1 fun a3 K' hk => TX11_rung _ _ _ _ (an_R g2) _ ⟨fun _ => ⟨fun x => absurd x z, fun _ => z_climbR hn hn2 l1 l3 l5 (an_R g2) (fun j hj e => absurd ((nI_eq hi (by omega)).mp e) (by omega)) (fun _ => ?_)⟩, fun x => absurd q x⟩
    rw [if_neg (nI_pos (by omega))]
    exact ⟨fun x => absurd x (by decide), fun _ => ⟨_, rfl, an_R g2, hk _ (an_same wr)⟩⟩
  · have e : min L i = i := by omega
    rw [e] at hL ⊢
    rw [if_pos (nI_le (Nat.le_refl i) hi)]
    refine k0 _ _ w' hL.1 hL.2.1 hL.2.2 fun a3 K' hk => TX11_rung _ _ _ _ (an_R g2) _ ⟨fun _ => ⟨fun x => absurd x z, fun _ => z_climbR hn hn2 l1 l3 l5 (an_R g2) (fun j hj ej => ?_) (fun hno => absurd rfl (hno i y))⟩, fun x => absurd q x⟩
    have ej2 := (nI_eq hi (by omega)).mp ej
    subst ej2
    rw [if_pos (show (-1 : Int32) < 0 by decide)]
    have h38 : wi (si (si (wXX11_anew wr) 0 38 (nI (fsq n i).1)) 0 39 (nI (fsq n i).2.1)) 0 38 = nI (fsq n i).1 := (wi_ne (Or.inr (by decide))).trans (wi_self _ _ _ _)
    have h39 : wi (si (si (wXX11_anew wr) 0 38 (nI (fsq n i).1)) 0 39 (nI (fsq n i).2.1)) 0 39 = nI (fsq n i).2.1 := wi_self _ _ _ _
    rw [h38, h39]
    refine ⟨fun _ => ⟨_, rfl, an_R g2, hk _ (((an_same wr).si (nrR (by decide))).si (nrR (by decide))) ((wi_ne (Or.inr (by decide))).trans ((wi_ne (Or.inr (by decide))).trans (an_11 wr)))⟩, fun x => absurd q x⟩
theorem pr_rungUpper {wc wr : Wd} (h : RelE wc wr) (a1 a2 : Int32)  : PairI mX10_rungUpper mX11_rungUpper [a1, a2] wc wr := by
  obtain ⟨b, hR⟩ := h
  have g2 := hR.2.1
  refine TX10_rungUpper _ _ wc b hR.1 _ (rgC hR a1 a2 (fun t t0 t4 w' hS hr => ⟨fun y => absurd y t0, fun _ => ⟨_, rfl, TX11_rungUpper _ _ wr g2 _ (hr 0 _ fun w'' hT => ⟨_, rfl, rfl, fin_no hR hS hT t4⟩)⟩⟩) (fun o u w' hS e1 e2 hr => ⟨fun _ => ⟨_, rfl, TX11_rungUpper _ _ wr g2 _ (hr 0 _ fun w'' hT h11 => ⟨_, rfl, ?_, fin_ok hR hS hT h11⟩)⟩, fun y => absurd rfl y⟩))
  exact e1
theorem pr_rungLower {wc wr : Wd} (h : RelE wc wr) (a1 a2 : Int32)  : PairI mX10_rungLower mX11_rungLower [a1, a2] wc wr := by
  obtain ⟨b, hR⟩ := h
  have g2 := hR.2.1
  refine TX10_rungLower _ _ wc b hR.1 _ (rgC hR a1 a2 (fun t t0 t4 w' hS hr => ⟨fun y => absurd y t0, fun _ => ⟨_, rfl, TX11_rungLower _ _ wr g2 _ (hr 1 _ fun w'' hT => ⟨_, rfl, rfl, fin_no hR hS hT t4⟩)⟩⟩) (fun o u w' hS e1 e2 hr => ⟨fun _ => ⟨_, rfl, TX11_rungLower _ _ wr g2 _ (hr 1 _ fun w'' hT h11 => ⟨_, rfl, ?_, fin_ok hR hS hT h11⟩)⟩, fun y => absurd rfl y⟩))
  exact e2
