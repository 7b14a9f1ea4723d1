/-! how many kinds there are by a number -/
theorem kd_sym (k a b : Int) : kd k a b = kd k b a := by
  have e1 : (k ∣ a - b) ↔ (k ∣ b - a) := by
    rw [← Int.dvd_neg, show -(a - b) = b - a by omega]
  unfold kd
  rw [decide_eq_decide.mpr e1, Int.mul_comm]
theorem kd_symN (k a b : Int) : kd k (-a) b = kd k (-b) a := by
  have e1 : -a - b = -b - a := by omega
  have e2 : -a * b = -b * a := by rw [Int.neg_mul, Int.neg_mul, Int.mul_comm]
  unfold kd
  rw [e1, e2]
theorem kd_co {k b : Int} {a c n : Nat} (hk : k = (n : Int)) (hb : b.natAbs = c) (h2 : ¬ k < 2) (hg : Nat.gcd a n = 1) (h : kd k b a = true) : Nat.gcd c n = 1 := by
  have g1 : ((Nat.gcd c n : Nat) : Int) ∣ b := by
    rw [← Int.dvd_natAbs, hb]
    exact Int.natCast_dvd_natCast.mpr (Nat.gcd_dvd_left c n)
  have g2 : ((Nat.gcd c n : Nat) : Int) ∣ k := by
    rw [hk]
    exact Int.natCast_dvd_natCast.mpr (Nat.gcd_dvd_right c n)
  unfold kd at h
  rw [decide_eq_false h2, Bool.false_or, Bool.or_eq_true] at h
  rcases h with h | h
  · have h3 := Int.dvd_sub g1 (Int.dvd_trans g2 (of_decide_eq_true h))
    rw [show b - (b - (a : Int)) = (a : Int) by omega] at h3
    have h4 := Nat.dvd_gcd (Int.natCast_dvd_natCast.mp h3) (Nat.gcd_dvd_right c n)
    rw [hg] at h4
    exact Nat.dvd_one.mp h4
  · have h3 := Int.dvd_sub (Int.dvd_trans g1 (Int.dvd_mul_right b (a : Int))) (Int.dvd_trans g2 (of_decide_eq_true h))
    rw [show b * (a : Int) - (b * (a : Int) - 1) = ((1 : Nat) : Int) by omega] at h3
    exact Nat.dvd_one.mp (Int.natCast_dvd_natCast.mp h3)
theorem andB_f {P : Nat → Bool} {j : Nat} (h : andB P j = false) : ∀ n, j ≤ n → andB P n = false := by
  intro n
  induction n with
  | zero =>
    intro hj
    rw [show j = 0 by omega] at h
    exact h
  | succ n ih =>
    intro hj
    by_cases c : j = n + 1
    · rw [← c]
      exact h
    · rw [andB, ih (by omega), Bool.false_and]
/-- whether the (j+1)-th lower one is none like a -/
def lsF (k : Nat) (m : Int32) (a j : Nat) : Bool := !(kd k ((j + 1 : Nat) : Int) (a : Int) || (decide (¬ m = 0) && kd k (-((j + 1 : Nat) : Int)) (a : Int)))
theorem tI {n : Nat} (h : n ≤ 1000) : (nI n).toInt = (n : Int) := nI_toInt (by omega)
theorem bI_1 {x : Bool} : ¬ bI x = 0 ↔ x = true := by cases x <;> decide
theorem l_least {b : Bool} {w : Wd} (hR : w.2.2 = RTab b) {k a : Nat} (hk : k ≤ 200) (ha : 1 ≤ a) (hak : a ≤ 201) {m : Int32} {Q : Option Value → Wd → Prop} (kk : Q (some (.int (bI (andB (lsF k m a) (a - 1))))) w) : ∀ (r j : Nat), j + r = a - 1 → andB (lsF k m a) j = true → Go SC mX6_isLeast 2 [(0, .int (nI a)), (1, .int (nI k)), (2, .int m), (3, .int (nI (j + 1)))] [] w Q := by
  intro r
  induction r with
  | zero =>
    intro j hj hA
    have e : a = j + 1 := by omega
    refine BX6_isLeast_2 _ _ _ _ w b hR Q ⟨fun _ => ?_, fun z => absurd (nI_le (show a ≤ j + 1 by omega) (by omega)) z⟩
    rw [show a - 1 = j by omega, hA] at kk
    exact kk
  | succ r ih =>
    intro j hj hA
    have hnext : andB (lsF k m a) (j + 1) = lsF k m a j := by rw [andB, hA, Bool.true_and]
    have bad : lsF k m a j = false → Q (some (.int 0)) w := fun z => by
      rw [andB_f (hnext.trans z) (a - 1) (by omega)] at kk
      exact kk
    have t1 := tI (n := j + 1) (by omega)
    have ta := tI (n := a) (by omega)
    have tk := tI (n := k) (by omega)
    refine BX6_isLeast_2 _ _ _ _ w b hR Q ⟨fun z => absurd z (nI_ge (by omega) (by omega)), fun _ => kd_C t1 ta (by omega) (by omega) (by omega) (by omega) hR ?_⟩
    rw [tk]
    refine ⟨fun z => ⟨fun zm => ?_, fun zm => kd_C (a := -((j + 1 : Nat) : Int)) (by rw [i_neg (A := 1000) (by omega) (by decide), t1]) ta (by omega) (by omega) (by omega) (by omega) hR ?_⟩, fun z => ?_⟩
    · rw [nI_1]
      refine ih (j + 1) (by omega) ?_
      rw [hnext]
      unfold lsF
      rw [bI_0.mp z, decide_eq_false (fun y => y zm)]
      rfl
    · rw [tk]
      refine ⟨fun z2 => ?_, fun z2 => bad ?_⟩
      · rw [nI_1]
        refine ih (j + 1) (by omega) ?_
        rw [hnext]
        unfold lsF
        rw [bI_0.mp z, bI_0.mp z2, Bool.and_false]
        rfl
      · unfold lsF
        rw [bI_1.mp z2, decide_eq_true zm, Bool.true_and, Bool.or_true]
        rfl
    · refine bad ?_
      unfold lsF
      rw [bI_1.mp z, Bool.true_or]
      rfl
theorem z_least {b : Bool} {w : Wd} (hR : w.2.2 = RTab b) {k a : Nat} (hk : k ≤ 200) (ha : 1 ≤ a) (hak : a ≤ 201) {m : Int32} {Q : Int32 → Wd → Prop} (kk : Q (bI (andB (lsF k m a) (a - 1))) w) : ClI SC mX6_isLeast [.int (nI a), .int (nI k), .int m] w (fun z w2 => w2.2.2 = RTab b ∧ Q z w2) :=
  TX6_isLeast _ _ _ w b hR _ (l_least hR hk ha hak ⟨_, rfl, hR, kk⟩ (a - 1) 0 (by omega) rfl)
def ctF (k : Nat) (m : Int32) : Nat → Int32
  | 0 => 0
  | a + 1 => if Nat.gcd (a + 1) k = 1 ∧ andB (lsF k m (a + 1)) a = true then ctF k m a + 1 else ctF k m a
theorem lN_1i {g : Nat} (h : g ≤ 1000) : lg_cmp (lN g) 1 = 0 ↔ g = 1 := by
  rw [lg_cmp_eq, show (1 : Int64) = lN 1 from rfl, pk_lEQ (by omega) (by decide)]
theorem gcd_le200 {a k : Nat} (h1 : 1 ≤ k) (h2 : k ≤ 200) : Nat.gcd a k ≤ 1000 := by
  have := Nat.gcd_le_right a (show 0 < k by omega)
  omega
theorem l_sorts {b : Bool} {w : Wd} (hR : w.2.2 = RTab b) {k : Nat} (hk1 : 1 ≤ k) (hk : k ≤ 200) {m : Int32} {Q : Option Value → Wd → Prop} (kk : Q (some (.int (ctF k m k))) w) : ∀ (r a : Nat), a + r = k → Go SC mX6_sorts 4 [(0, .int (nI k)), (1, .int m), (2, .int (ctF k m a)), (3, .int (nI (a + 1)))] [] w Q := by
  intro r
  induction r with
  | zero =>
    intro a ha
    have e : a = k := by omega
    subst e
    exact BX6_sorts_4 _ _ _ _ w b hR Q ⟨fun _ => kk, fun z => absurd (nI_lt (by omega) (by omega)) z⟩
  | succ r ih =>
    intro a ha
    have hg := gcd_le200 (a := a + 1) hk1 hk
    refine BX6_sorts_4 _ _ _ _ w b hR Q ⟨fun z => absurd z (nI_nlt (by omega) (by omega)), fun _ => z_shared (p := a + 1) (q := k) hR (i64_abs (nI_abs (by omega))) (i64_abs (nI_abs (by omega))) (by omega) (by omega) ⟨fun z => z_least hR hk (by omega) (by omega) ?_, fun z => ?_⟩⟩
    · have z1 := (lN_1i hg).mp z
      have e : (if bI (andB (lsF k m (a + 1)) (a + 1 - 1)) = 0 then ctF k m a else ctF k m a + 1 : Int32) = ctF k m (a + 1) := by
        rw [ctF, show a + 1 - 1 = a by omega]
        cases h : andB (lsF k m (a + 1)) a
        · rw [if_pos (show bI false = 0 by decide), if_neg (fun y => absurd y.2 (by decide))]
        · rw [if_neg (show ¬ bI true = 0 by decide), if_pos ⟨z1, rfl⟩]
      rw [e, nI_1]
      exact ih (a + 1) (by omega)
    · have z1 : ¬ Nat.gcd (a + 1) k = 1 := fun y => z ((lN_1i hg).mpr y)
      have := ih (a + 1) (by omega)
      rw [ctF, if_neg (fun y => z1 y.1)] at this
      rw [nI_1]
      exact this
theorem z_sorts {b : Bool} {w : Wd} (hR : w.2.2 = RTab b) {k : Nat} (hk1 : 1 ≤ k) (hk : k ≤ 200) {m : Int32} {Q : Int32 → Wd → Prop} (kk : Q (ctF k m k) w) : ClI SC mX6_sorts [.int (nI k), .int m] w (fun z w2 => w2.2.2 = RTab b ∧ Q z w2) :=
  TX6_sorts _ _ w b hR _ (l_sorts hR hk1 hk ⟨_, rfl, hR, kk⟩ k 0 (by omega))
/-! the reference's -/
theorem nI_is1 {g : Nat} (h : g ≤ 1000) : nI g = 1 ↔ g = 1 := nI_eq (b := 1) (by omega) (by decide)
theorem l_kinds {w : Wd} (hR : w.2.2 = RM) {k : Nat} (hk1 : 1 ≤ k) (hk : k ≤ 200) {m l3 : Int32} {Q : Option Value → Wd → Prop} (kk : Q (some (.int (ctF k m k))) w) : ∀ (r a : Nat), a + r = k → Go SR mX11_kinds 37 [(0, .ref 0), (1, .int (nI k)), (2, .int m), (3, .int l3), (4, .int (ctF k m a)), (5, .int (nI (a + 1)))] [] w Q := by
  intro r
  induction r with
  | zero =>
    intro a ha
    have e : a = k := by omega
    subst e
    exact BX11_kinds_37 _ _ _ _ _ w hR Q ⟨fun _ => kk, fun z => absurd (nI_lt (by omega) (by omega)) z⟩
  | succ r ih =>
    intro a ha
    have hg := gcd_le200 (a := a + 1) hk1 hk
    have tk := tI (n := k) (by omega)
    have ta := tI (n := a + 1) (by omega)
    refine BX11_kinds_37 _ _ _ _ _ w hR Q ⟨fun z => absurd z (nI_nlt (by omega) (by omega)), fun _ => z_common (p := a + 1) (q := k) hR (nI_abs (by omega)) (nI_abs (by omega)) (by omega) (by omega) ⟨fun z => ?_, fun z => ?_⟩⟩
    · have z1 := (nI_is1 hg).mp z
      have out : ∀ x : Bool, andB (lsF k m (a + 1)) a = x → Go SR mX11_kinds 37 [(0, .ref 0), (1, .int (nI k)), (2, .int m), (3, .int l3), (4, .int (ctF k m a + (if bI x = 0 then 0 else 1 : Int32))), (5, .int (nI (a + 1) + 1))] [] w Q := fun x hx => by
        have e : ctF k m a + (if bI x = 0 then 0 else 1 : Int32) = ctF k m (a + 1) := by
          rw [ctF, hx]
          cases x
          · rw [if_pos (show bI false = 0 by decide), if_neg (fun y => absurd y.2 (by decide)), Int32.add_zero]
          · rw [if_neg (show ¬ bI true = 0 by decide), if_pos ⟨z1, rfl⟩]
        rw [e, nI_1]
        exact ih (a + 1) (by omega)
      have inner : ∀ (s j : Nat), j + s = a → Go SR mX11_kinds 62 [(0, .ref 0), (1, .int (nI k)), (2, .int m), (3, .int l3), (4, .int (ctF k m a)), (5, .int (nI (a + 1))), (6, .int (bI (andB (lsF k m (a + 1)) j))), (7, .int (nI (j + 1)))] [] w Q := by
        intro s
        induction s with
        | zero =>
          intro j hj
          refine BX11_kinds_62 _ _ _ _ _ _ _ w hR Q ⟨fun _ => out _ ?_, fun z => absurd (nI_le (show a + 1 ≤ j + 1 by omega) (by omega)) z⟩
          rw [show j = a by omega]
        | succ s ihs =>
          intro j hj
          have hgj := gcd_le200 (a := j + 1) hk1 hk
          have tj := tI (n := j + 1) (by omega)
          refine BX11_kinds_62 _ _ _ _ _ _ _ w hR Q ⟨fun z => absurd z (nI_ge (by omega) (by omega)), fun _ => ⟨fun z2 => ?_, fun z2 => ?_⟩⟩
          · refine out _ ?_
            have h := bI_0.mp z2
            rw [h]
            exact andB_f h a (by omega)
          · have hA := bI_1.mp z2
            have go : ∀ x : Bool, lsF k m (a + 1) j = x → Go SR mX11_kinds 62 [(0, .ref 0), (1, .int (nI k)), (2, .int m), (3, .int l3), (4, .int (ctF k m a)), (5, .int (nI (a + 1))), (6, .int (bI x)), (7, .int (nI (j + 1) + 1))] [] w Q := fun x hx => by
              have := ihs (j + 1) (by omega)
              rw [andB, hA, Bool.true_and, hx] at this
              rw [nI_1]
              exact this
            have eL : lsF k m (a + 1) j = !(kd k ((a + 1 : Nat) : Int) ((j + 1 : Nat) : Int) || (decide (¬ m = 0) && kd k (-((a + 1 : Nat) : Int)) ((j + 1 : Nat) : Int))) := by
              unfold lsF
              rw [kd_sym, kd_symN]
            refine z_common (p := j + 1) (q := k) hR (nI_abs (by omega)) (nI_abs (by omega)) (by omega) (by omega) ⟨fun z3 => ?_, fun z3 => ?_⟩
            · refine kd_R (a := ((a + 1 : Nat) : Int)) (b := ((j + 1 : Nat) : Int)) (by rw [Int32.toInt_toInt64]; exact ta) (by rw [Int32.toInt_toInt64]; exact tj) (by omega) (by omega) (by omega) (by omega) hR ?_
              rw [tk]
              refine ⟨fun z4 => ⟨fun zm => go true ?_, fun zm => ?_⟩, fun z4 => go false ?_⟩
              · rw [eL, bI_0.mp z4, decide_eq_false (fun y => y zm)]
                rfl
              · refine kd_R (a := -((a + 1 : Nat) : Int)) (b := ((j + 1 : Nat) : Int)) (by rw [Int32.toInt_toInt64, i_neg (A := 1000) (by omega) (by decide), ta]) (by rw [Int32.toInt_toInt64]; exact tj) (by omega) (by omega) (by omega) (by omega) hR ?_
                rw [tk]
                have e : (if bI (kd k (-((a + 1 : Nat) : Int)) ((j + 1 : Nat) : Int)) = 0 then 1 else 0 : Int32) = bI (!(kd k (-((a + 1 : Nat) : Int)) ((j + 1 : Nat) : Int))) := by
                  cases kd k (-((a + 1 : Nat) : Int)) ((j + 1 : Nat) : Int) <;> rfl
                rw [e]
                refine go _ ?_
                rw [eL, bI_0.mp z4, decide_eq_true zm, Bool.false_or, Bool.true_and]
              · rw [eL, bI_1.mp z4, Bool.true_or]
                rfl
            · refine go true ?_
              have z4 : ¬ Nat.gcd (j + 1) k = 1 := fun y => z3 ((nI_is1 hgj).mpr y)
              have hk2 : ¬ ((k : Nat) : Int) < 2 := fun y => by
                have : k = 1 := by omega
                rw [this, Nat.gcd_one_right] at z4
                exact z4 rfl
              have f1 : kd k ((j + 1 : Nat) : Int) ((a + 1 : Nat) : Int) = false := by
                cases h : kd k ((j + 1 : Nat) : Int) ((a + 1 : Nat) : Int)
                · rfl
                · exact absurd (kd_co rfl (Int.natAbs_natCast _) hk2 z1 h) z4
              have f2 : kd k (-((j + 1 : Nat) : Int)) ((a + 1 : Nat) : Int) = false := by
                cases h : kd k (-((j + 1 : Nat) : Int)) ((a + 1 : Nat) : Int)
                · rfl
                · exact absurd (kd_co rfl (show (-((j + 1 : Nat) : Int)).natAbs = j + 1 by rw [Int.natAbs_neg]; exact Int.natAbs_natCast _) hk2 z1 h) z4
              unfold lsF
              rw [f1, f2, Bool.and_false]
              rfl
      exact inner a 0 (by omega)
    · have z1 : ¬ Nat.gcd (a + 1) k = 1 := fun y => z ((nI_is1 hg).mpr y)
      have := ih (a + 1) (by omega)
      rw [ctF, if_neg (fun y => z1 y.1)] at this
      rw [nI_1]
      exact this
theorem in_1 {x : Int32} {m : Nat} (hm : m < 2 ^ 30) (h : ¬ vXX11_in x 1 (nI m) = 0) : ∃ k : Nat, 1 ≤ k ∧ k ≤ m ∧ x = nI k := by
  unfold vXX11_in at h
  by_cases c : x < 1
  · rw [if_pos c] at h
    exact absurd rfl h
  · rw [if_neg c] at h
    by_cases c2 : nI m < x
    · rw [if_pos c2] at h
      exact absurd rfl h
    · rw [Int32.lt_iff_toInt_lt, t1i] at c
      obtain ⟨j, hj, e⟩ := nI_of (x := x) (by rw [Int32.lt_iff_toInt_lt, t0i]; omega)
      subst e
      rw [nI_toInt hj] at c
      have : ¬ m < j := fun y => c2 ((nI_ltI (a := m) (b := j) (by omega) hj).mpr y)
      exact ⟨j, by omega, by omega, rfl⟩
theorem why_z {x y : Int32} (h : vXX11_why x y = 0) : ¬ x = 0 ∧ ¬ y = 0 := by
  unfold vXX11_why at h
  refine ⟨fun c => ?_, fun c => ?_⟩
  · rw [if_pos c] at h
    exact absurd h (by decide)
  · by_cases c1 : x = 0
    · rw [if_pos c1] at h
      exact absurd h (by decide)
    · rw [if_neg c1, if_pos c] at h
      exact absurd h (by decide)
theorem pr_kinds {wc wr : Wd} (h : RelE wc wr) (a1 a2 : Int32) (h2 : a2 = 0 ∨ a2 = 1) : PairI mX10_kinds mX11_kinds [a1, a2] wc wr := by
  obtain ⟨b, hR⟩ := h
  refine TX10_kinds _ _ wc b hR.1 _ ?_
  rw [numT hR]
  refine ⟨fun q => ?_, fun q => ⟨_, rfl, TX11_kinds _ _ wr hR.2.1 _ ⟨fun z => absurd z q, fun _ => ⟨_, rfl, rfl, fin_noA hR (why4 _ _)⟩⟩⟩⟩
  obtain ⟨k, hk1, hk, rfl⟩ := in_1 (m := 200) (by decide) (why_z q).2
  refine z_sorts hR.1 hk1 hk ⟨_, rfl, TX11_kinds _ _ wr hR.2.1 _ ⟨fun _ => l_kinds (an_R hR.2.1) hk1 hk ⟨_, rfl, rfl, fin_okA hR⟩ k 0 (by omega), fun z => absurd q z⟩⟩
