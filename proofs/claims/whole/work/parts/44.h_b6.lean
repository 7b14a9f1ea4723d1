/-! the greatest number by which two can be parted, in ints and in longs -/
theorem gcd_st (p q : Nat) : Nat.gcd p q = Nat.gcd q (p % q) := by
  rw [Nat.gcd_comm p q, Nat.gcd_rec q p, Nat.gcd_comm]
theorem lN_mo {a b : Nat} (ha : a < 2 ^ 63) (hb : b < 2 ^ 63) : lN a % lN b = lN (a % b) := by
  have h := Nat.mod_le a b
  refine Int64.toInt_inj.mp ?_
  rw [Int64.toInt_mod, pk_lT ha, pk_lT hb, pk_lT (by omega), ← Int.ofNat_tmod]
theorem lN_0 : lN 0 = 0 := rfl
theorem lN_is0 {n : Nat} (h : n < 2 ^ 63) : lN n = 0 ↔ n = 0 := by
  rw [← lN_0, pk_lEQ h (by decide)]
theorem l_shared {b : Bool} {w : Wd} (hR : w.2.2 = RTab b) {l0 l2 : Int64} {Q : Option Value → Wd → Prop} : ∀ (q p c : Nat), p < 2 ^ 63 → q < 2 ^ 63 → c + (eparts p q).length ≤ 1000 → Q (some (.long (lN (Nat.gcd p q)))) w → Go SC mX10_shared 15 [(0, .long l0), (2, .long l2), (4, .long (lN p)), (6, .long (lN q)), (8, .int (nI c))] [] w Q := by
  intro q
  induction q using Nat.strongRecOn with
  | _ q ih =>
    intro p c hp hq hc hk
    refine BX10_shared_15 _ _ _ _ _ w b hR Q ⟨fun z => absurd z (nI_ge (b := 1000000) (by omega) (by decide)), fun _ => ⟨fun z => ?_, fun z => ?_⟩⟩
    · rw [lg_cmp_eq, lN_is0 hq] at z
      rw [z, Nat.gcd_zero_right] at hk
      exact hk
    · rw [lg_cmp_eq] at z
      have h0 : q ≠ 0 := fun e => z ((lN_is0 hq).mpr e)
      have hm : p % q < q := Nat.mod_lt _ (by omega)
      refine ⟨z, ?_⟩
      rw [lN_mo hp hq, nI_1]
      rw [eparts_s h0, List.length_cons] at hc
      rw [gcd_st] at hk
      exact ih (p % q) hm q (c + 1) hq (by omega) (by omega) hk
theorem i64n {x : Int64} (h : -2000000000 ≤ x.toInt ∧ x.toInt ≤ 2000000000) : (-x).toInt = -x.toInt := by
  rw [Int64.toInt_neg, Int.bmod_eq_of_le (by omega) (by omega)]
theorem abs64 {x : Int64} {n : Nat} (h : x.toInt.natAbs = n) (hn : n ≤ 2000000000) : vXJ9_abs_067f4 x = lN n := by
  refine Int64.toInt_inj.mp ?_
  rw [pk_lT (by omega)]
  unfold vXJ9_abs_067f4
  by_cases c : (0 : Int64) ≤ x
  · rw [if_pos ((lg_cmp_ge x 0).mpr c)]
    rw [Int64.le_iff_toInt_le] at c
    have : (0 : Int64).toInt = 0 := rfl
    omega
  · rw [if_neg (fun z => c ((lg_cmp_ge x 0).mp z)), i64n (by omega)]
    rw [Int64.le_iff_toInt_le] at c
    have : (0 : Int64).toInt = 0 := rfl
    omega
theorem z_shared {b : Bool} {w : Wd} (hR : w.2.2 = RTab b) {x y : Int64} {p q : Nat} (hx : x.toInt.natAbs = p) (hy : y.toInt.natAbs = q) (hp : p ≤ 2000000000) (hq : q ≤ 2000000000) {Q : Int64 → Wd → Prop} (k : Q (lN (Nat.gcd p q)) w) : ClL SC mX10_shared [.long x, .long y] w (fun z w2 => w2.2.2 = RTab b ∧ Q z w2) := by
  refine TX10_shared x y w b hR _ ?_
  rw [abs64 hx hp, abs64 hy hq, ← nI_0]
  have := e_len 31 p q (by omega)
  exact l_shared hR q p 0 (by omega) (by omega) (by omega) ⟨_, rfl, hR, k⟩
theorem l_common {w : Wd} (hR : w.2.2 = RM) {l0 l1 : Int32} {Q : Option Value → Wd → Prop} : ∀ (q p : Nat), p < 2 ^ 31 → q < 2 ^ 31 → Q (some (.int (nI (Nat.gcd p q)))) w → Go SR mX11_common 10 [(0, .int l0), (1, .int l1), (2, .int (nI p)), (3, .int (nI q))] [] w Q := by
  intro q
  induction q using Nat.strongRecOn with
  | _ q ih =>
    intro p hp hq hk
    refine BX11_common_10 _ _ _ _ w hR Q ⟨fun z => ?_, fun z => ⟨z, ?_⟩⟩
    · have h0 : q = 0 := by
        by_cases c : q = 0
        · exact c
        · exact absurd z (nI_ne0 (by omega) hq)
      rw [h0, Nat.gcd_zero_right] at hk
      exact hk
    · have h0 : q ≠ 0 := fun e => z (by rw [e]; rfl)
      have hm : p % q < q := Nat.mod_lt _ (by omega)
      rw [nI_mo hp hq]
      rw [gcd_st] at hk
      exact ih (p % q) hm q hq (by omega) hk
theorem z_common {w : Wd} (hR : w.2.2 = RM) {x y : Int32} {p q : Nat} (hx : x.toInt.natAbs = p) (hy : y.toInt.natAbs = q) (hp : p ≤ 2000000000) (hq : q ≤ 2000000000) {Q : Int32 → Wd → Prop} (k : Q (nI (Nat.gcd p q)) w) : ClI SR mX11_common [.int x, .int y] w (fun z w2 => w2.2.2 = RM ∧ Q z w2) := by
  refine TX11_common x y w hR _ ?_
  rw [away_nat (by omega), away_nat (by omega), hx, hy]
  exact l_common hR q p (by omega) (by omega) ⟨_, rfl, hR, k⟩
theorem nI_abs {n : Nat} (h : n < 2 ^ 31) : (nI n).toInt.natAbs = n := by
  rw [nI_toInt h]
  rfl
theorem i64_abs {x : Int32} {n : Nat} (h : x.toInt.natAbs = n) : x.toInt64.toInt.natAbs = n := by
  rw [Int32.toInt_toInt64]
  exact h
/-- of which number a dance's rings are -/
def kn (wr : Wd) (d : Nat) (f : Int32) : Nat := if f = 0 then (wi wr 5 d).toInt.natAbs else (wi wr 5 (5 + d)).toInt.toNat
theorem z_knot {d : Nat} (hd : d < 5) {wr w : Wd} (g2 : wr.2.2 = RM) (hS : SameR wr w) (hF : Frac (wi wr 5 d) (wi wr 5 (5 + d))) {f : Int32} {Q : Int32 → Wd → Prop} (k : Q (nI (kn wr d f)) w) : ClI SR mX11_knotOf [.ref 0, .int (nI d), .int f] w (fun z w2 => w2.2.2 = RM ∧ Q z w2) := by
  have s5 : ∀ i, wi w 5 i = wi wr 5 i := fun i => hS.2 5 i (Or.inr (by decide))
  refine TX11_knotOf _ f w (hS.1.trans g2) _ ⟨fun z => ⟨nI_in (by omega) (by decide), _, rfl, hS.1.trans g2, ?_⟩, fun z => ⟨by rw [n5]; exact nI_in (by omega) (by decide), _, rfl, hS.1.trans g2, ?_⟩⟩
  · rw [nI_clamp (by omega), s5, away_nat ⟨by have := hF.1; omega, by have := hF.2.1; omega⟩]
    unfold kn at k
    rw [if_pos z] at k
    exact k
  · rw [n5, nI_clamp (by omega), s5, nn_nat (x := wi wr 5 (5 + d)) hF.2.2.1]
    unfold kn at k
    rw [if_neg z] at k
    exact k
theorem kn_le {wr : Wd} {d : Nat} {f : Int32} (hF : Frac (wi wr 5 d) (wi wr 5 (5 + d))) : kn wr d f ≤ 9999 := by
  have := hF.1
  have := hF.2.1
  have := hF.2.2.2.1
  unfold kn
  split <;> omega
theorem knC {b : Bool} {wc wr : Wd} {d : Nat} {f : Int32} (m6 : wi wc (dA (hA b) d + 2) 0 = wi wr 5 d) (m7 : wi wc (dA (hA b) d + 2) 1 = wi wr 5 (5 + d)) (hF : Frac (wi wr 5 d) (wi wr 5 (5 + d))) : vXX6_numberOf (dA (hA b) d + 2) f wc = nI (kn wr d f) := by
  unfold vXX6_numberOf kn
  rw [m6, m7]
  by_cases z : f = 0
  · rw [if_pos z, if_pos z, absAway, away_nat ⟨by have := hF.1; omega, by have := hF.2.1; omega⟩]
  · rw [if_neg z, if_neg z]
    exact nn_nat hF.2.2.1
theorem pr_colours {wc wr : Wd} (h : RelE wc wr) (a1 a2 a3 : Int32) (h2 : a2 = 0 ∨ a2 = 1) : PairI mX10_colours mX11_colours [a1, a2, a3] wc wr := by
  obtain ⟨b, hR⟩ := h
  obtain ⟨n, hn, f4, f5, f6, fD⟩ := cx hR
  have g1 := hR.1
  have g2 := hR.2.1
  refine TX10_colours _ _ _ wc b g1 _ ⟨fun q => ?_, fun q => ⟨_, rfl, TX11_colours _ _ _ wr g2 _ (isdA g2 hn f5 f6 (fun z => absurd ((din_c hn f4).mpr z) q) fun _ => ⟨fun y => absurd y (by rw [why_0]; decide), fun _ => ⟨_, rfl, rfl, fin_noA hR (by decide)⟩⟩)⟩⟩
  obtain ⟨d, hd, rfl⟩ := (din_c hn f4).mp q
  obtain ⟨m, m1, m2, m3, m4, m5, m6, m7, m8⟩ := fD d hd
  have hd5 : d < 5 := by omega
  rw [d_clamp hn hd]
  have bad : (a3 < 2 ∨ (99 : Int32) < a3) → ∃ x, some (Value.int (vXX10_refuse 2 (-1))) = some (.int x) ∧ ClI SR mX11_colours [.ref 0, .int (nI d), .int a2, .int a3] wr (fun y wr' => x = y ∧ RelE (wXX10_refuse 2 (-1) wc) wr') := fun z => ⟨_, rfl, TX11_colours _ _ _ wr g2 _ (isdA g2 hn f5 f6 (fun _ => ⟨fun y => absurd y (by rw [why_1, in_no2 z]; decide), fun _ => ⟨_, rfl, rfl, by rw [why_1, in_no2 z]; exact fin_noA hR (by decide)⟩⟩) fun q => absurd ⟨d, hd, rfl⟩ q)⟩
  refine ⟨fun z => bad (Or.inl z), fun z1 => ⟨fun z2 => ?_, fun z2 => bad (Or.inr (Int32.not_le.mp z2))⟩⟩
  have hw : vXX11_why 1 (vXX11_in a3 2 99) = 0 := by rw [why_1, in_yes2 z1 (Int32.not_lt.mpr z2)]; decide
  obtain ⟨i, hi, rfl⟩ : ∃ i : Nat, i ≤ 99 ∧ a3 = nI i := by
    rw [Int32.lt_iff_toInt_lt, show (2 : Int32).toInt = 2 by decide] at z1
    obtain ⟨j, hj, e⟩ := nI_of (x := a3) (by rw [Int32.lt_iff_toInt_lt, t0i]; omega)
    subst e
    exact ⟨j, (nI_leI (b := 99) hj (by decide)).mp z2, rfl⟩
  have hkl := kn_le (f := a2) m8
  rw [knC m6 m7 m8]
  refine z_shared (p := i) (q := kn wr d a2) g1 (i64_abs (nI_abs (by omega))) (i64_abs (nI_abs (by omega))) (by omega) (by omega) ⟨_, rfl, ?_⟩
  refine TX11_colours _ _ _ wr g2 _ (isdA g2 hn f5 f6 (fun _ => ⟨fun _ => z_knot hd5 g2 (an_same wr) m8 (z_common (p := i) (q := kn wr d a2) (an_R g2) (nI_abs (by omega)) (nI_abs (by omega)) (by omega) (by omega) ⟨_, rfl, ?_, fin_okA hR⟩), fun y => absurd hw y⟩) fun q => absurd ⟨d, hd, rfl⟩ q)
  rw [lN_i]
  rfl
/-! whether two are alike by a number -/
def kd (k a b : Int) : Bool := decide (k < 2) || (decide (k ∣ a - b) || decide (k ∣ a * b - 1))
theorem m0_iff {x k : Int32} : x % k = 0 ↔ k.toInt ∣ x.toInt := by
  rw [tz, Int32.toInt_mod, Int.dvd_iff_tmod_eq_zero]
theorem mul_bd {a b A : Int} (h1 : -A ≤ a) (h2 : a ≤ A) (h3 : -A ≤ b) (h4 : b ≤ A) : -(A * A) ≤ a * b ∧ a * b ≤ A * A := by
  have hA : 0 ≤ A := by omega
  rcases Int.le_total 0 a with ha | ha
  · have q1 := Int.mul_le_mul_of_nonneg_left h4 ha
    have q2 := Int.mul_le_mul_of_nonneg_left h3 ha
    have q3 := Int.mul_le_mul_of_nonneg_right h2 hA
    rw [Int.mul_neg] at q2
    omega
  · have ha' : 0 ≤ -a := by omega
    have q1 := Int.mul_le_mul_of_nonneg_left h4 ha'
    have q2 := Int.mul_le_mul_of_nonneg_left h3 ha'
    have q3 := Int.mul_le_mul_of_nonneg_right (show -a ≤ A by omega) hA
    simp only [Int.mul_neg, Int.neg_mul, Int.neg_neg] at q1 q2 q3
    omega
theorem kd_C {k x y : Int32} {a b : Int} (hx : x.toInt = a) (hy : y.toInt = b) (h1 : -9999 ≤ a) (h2 : a ≤ 9999) (h3 : -9999 ≤ b) (h4 : b ≤ 9999) {bb : Bool} {w : Wd} (hR : w.2.2 = RTab bb) {Q : Int32 → Wd → Prop} (kk : Q (bI (kd k.toInt a b)) w) : ClI SC mX6_isAlikeBy [.int k, .int x, .int y] w (fun z w2 => w2.2.2 = RTab bb ∧ Q z w2) := by
  have hb := mul_bd h1 h2 h3 h4
  have em : (x * y).toInt = a * b := by rw [Int32.toInt_mul, hx, hy, Int.bmod_eq_of_le (by omega) (by omega)]
  have es : (x - y).toInt = a - b := by rw [i_sub (A := 9999) (by omega) (by omega) (by decide), hx, hy]
  have e1 : (x * y - 1).toInt = a * b - 1 := by rw [i_sub (A := 100000000) (by omega) (by rw [t1i]; omega) (by decide), em, t1i]
  have k2 : (2 ≤ k) ↔ ¬ k.toInt < 2 := by
    rw [Int32.le_iff_toInt_le, show (2 : Int32).toInt = 2 by decide]
    omega
  unfold kd at kk
  refine TX6_isAlikeBy k x y w bb hR _ ⟨fun z => ?_, fun z => ⟨_, rfl, hR, ?_⟩⟩
  · have hk : ¬ k = 0 := fun e => by
      rw [e] at z
      exact absurd z (by decide)
    rw [decide_eq_false (k2.mp z), Bool.false_or, ← es, ← e1] at kk
    refine ⟨hk, fun z2 => ⟨_, rfl, hR, ?_⟩, fun z2 => ⟨hk, _, rfl, hR, ?_⟩⟩
    · rw [decide_eq_true (m0_iff.mp z2), Bool.true_or] at kk
      exact kk
    · rw [decide_eq_false (fun y => z2 (m0_iff.mpr y)), Bool.false_or] at kk
      rw [bI_d, decide_eq_decide.mpr m0_iff]
      exact kk
  · rw [decide_eq_true (by
      by_cases c : k.toInt < 2
      · exact c
      · exact absurd (k2.mpr c) z), Bool.true_or] at kk
    exact kk
theorem l0i : (0 : Int64).toInt = 0 := rfl
theorem m0_iffL {x k : Int64} : lg_cmp (x % k) 0 = 0 ↔ k.toInt ∣ x.toInt := by
  rw [lg_cmp_eq, ← Int64.toInt_inj, Int64.toInt_mod, l0i, Int.dvd_iff_tmod_eq_zero]
theorem kd_R {k : Int32} {x y : Int64} {a b : Int} (hx : x.toInt = a) (hy : y.toInt = b) (h1 : -9999 ≤ a) (h2 : a ≤ 9999) (h3 : -9999 ≤ b) (h4 : b ≤ 9999) {w : Wd} (hR : w.2.2 = RM) {Q : Int32 → Wd → Prop} (kk : Q (bI (kd k.toInt a b)) w) : ClI SR mX11_isKind [.long x, .long y, .int k] w (fun z w2 => w2.2.2 = RM ∧ Q z w2) := by
  have hb := mul_bd h1 h2 h3 h4
  have em : (x * y).toInt = a * b := by rw [Int64.toInt_mul, hx, hy, Int.bmod_eq_of_le (by omega) (by omega)]
  have es : (x - y).toInt = a - b := by rw [Int64.toInt_sub, hx, hy, Int.bmod_eq_of_le (by omega) (by omega)]
  have e1 : (x * y - 1).toInt = a * b - 1 := by rw [Int64.toInt_sub, em, show (1 : Int64).toInt = 1 from rfl, Int.bmod_eq_of_le (by omega) (by omega)]
  have ek : k.toInt64.toInt = k.toInt := Int32.toInt_toInt64 k
  have k2 : (k < 2) ↔ k.toInt < 2 := by
    rw [Int32.lt_iff_toInt_lt, show (2 : Int32).toInt = 2 by decide]
  unfold kd at kk
  refine TX11_isKind x y k w hR _ ⟨fun z => ⟨_, rfl, hR, ?_⟩, fun z => ?_⟩
  · rw [decide_eq_true (k2.mp z), Bool.true_or] at kk
    exact kk
  · have hk : ¬ k.toInt64 = 0 := fun e => by
      rw [← Int64.toInt_inj, ek, l0i] at e
      exact z (k2.mpr (by omega))
    rw [decide_eq_false (fun y => z (k2.mpr y)), Bool.false_or, ← es, ← e1, ← ek] at kk
    refine ⟨hk, fun z2 => ⟨_, rfl, hR, ?_⟩, fun z2 => ⟨hk, _, rfl, hR, ?_⟩⟩
    · rw [decide_eq_true (m0_iffL.mp z2), Bool.true_or] at kk
      exact kk
    · rw [decide_eq_false (fun y => z2 (m0_iffL.mpr y)), Bool.false_or] at kk
      rw [bI_d, decide_eq_decide.mpr m0_iffL]
      exact kk
/-- a lower one with the upper one's sign -/
def sg (o u : Int32) : Int := if 0 ≤ o then u.toInt else -u.toInt
theorem sg_bd {o u : Int32} (h : Frac o u) : -9999 ≤ sg o u ∧ sg o u ≤ 9999 := by
  have := h.2.2.1
  have := h.2.2.2.1
  unfold sg
  split <;> omega
theorem bI_n {x : Bool} : (if bI x = 0 then 0 else 1 : Int32) = bI x := by cases x <;> rfl
def alk (wr : Wd) (d e : Nat) (s : Int) : Bool := decide (kn wr d 0 = kn wr e 0) && kd (kn wr d 0) (s * sg (wi wr 5 d) (wi wr 5 (5 + d))) (sg (wi wr 5 e) (wi wr 5 (5 + e)))
theorem al_C {b : Bool} {wc wr : Wd} {n d e : Nat} (g1 : wc.2.2 = RTab b) (hn : n ≤ 5) (hd : d < n) (he : e < n) (fD : ∀ d : Nat, d < n → DanceRel b wc wr d) {s : Int32} (hs : s.toInt = 1 ∨ s.toInt = -1) {Q : Int32 → Wd → Prop} (kk : Q (bI (alk wr d e s.toInt)) wc) : ClI SC mX6_areAlike [.ref (dA (hA b) d + 2), .ref (dA (hA b) e + 2), .int s] wc (fun z w2 => w2.2.2 = RTab b ∧ Q z w2) := by
  obtain ⟨m, m1, m2, m3, m4, m5, m6, m7, m8⟩ := fD d hd
  obtain ⟨k, k1, k2, k3, k4, k5, k6, k7, k8⟩ := fD e he
  have q1 := kn_le (f := 0) m8
  have q2 := kn_le (f := 0) k8
  have a1 : vXJ9_abs_0f7a4 (wi wc (dA (hA b) d + 2) 0) = nI (kn wr d 0) := knC (f := 0) m6 m7 m8
  have a2 : vXJ9_abs_0f7a4 (wi wc (dA (hA b) e + 2) 0) = nI (kn wr e 0) := knC (f := 0) k6 k7 k8
  have s1 := sg_bd m8
  have s2 := sg_bd k8
  have v1 : (vXX6_signed (dA (hA b) d + 2) wc).toInt = sg (wi wr 5 d) (wi wr 5 (5 + d)) := by
    unfold vXX6_signed sg
    rw [m6, m7]
    have := m8.2.2.1
    have := m8.2.2.2.1
    split
    · rfl
    · rw [i_neg (A := 9999) (by omega) (by decide)]
  have v2 : (vXX6_signed (dA (hA b) e + 2) wc).toInt = sg (wi wr 5 e) (wi wr 5 (5 + e)) := by
    unfold vXX6_signed sg
    rw [k6, k7]
    have := k8.2.2.1
    have := k8.2.2.2.1
    split
    · rfl
    · rw [i_neg (A := 9999) (by omega) (by decide)]
  have v3 : (s * vXX6_signed (dA (hA b) d + 2) wc).toInt = s.toInt * sg (wi wr 5 d) (wi wr 5 (5 + d)) := by
    rw [Int32.toInt_mul, v1]
    rcases hs with h | h <;> rw [h, Int.bmod_eq_of_le (by omega) (by omega)]
  have v4 : -9999 ≤ s.toInt * sg (wi wr 5 d) (wi wr 5 (5 + d)) ∧ s.toInt * sg (wi wr 5 d) (wi wr 5 (5 + d)) ≤ 9999 := by
    rcases hs with h | h <;> rw [h] <;> omega
  unfold alk at kk
  refine TX6_areAlike _ (sh_dn b (by omega)) _ (sh_dn b (by omega)) s wc b g1 _ ?_
  rw [a1, a2]
  refine ⟨fun z => ?_, fun z => ⟨_, rfl, g1, ?_⟩⟩
  · have z2 := (nI_eq (by omega) (by omega)).mp z
    rw [decide_eq_true z2, Bool.true_and] at kk
    refine kd_C v3 v2 v4.1 v4.2 s2.1 s2.2 g1 ⟨?_, _, rfl, g1, ?_⟩
    · cases (kd (nI (kn wr d 0)).toInt (s.toInt * sg (wi wr 5 d) (wi wr 5 (5 + d))) (sg (wi wr 5 e) (wi wr 5 (5 + e))))
      · exact Or.inl rfl
      · exact Or.inr rfl
    · rw [nI_toInt (by omega)]
      exact kk
  · rw [decide_eq_false (fun y => z (by rw [y])), Bool.false_and] at kk
    exact kk
theorem al_R {b : Bool} {wc wr w : Wd} {n d e : Nat} (g2 : wr.2.2 = RM) (hn : n ≤ 5) (hd : d < n) (he : e < n) (fD : ∀ d : Nat, d < n → DanceRel b wc wr d) (hS : SameR wr w) {f : Int32} {s : Int} (hf : (f = 0 ∧ s = 1) ∨ (f = 1 ∧ s = -1)) {Q : Int32 → Wd → Prop} (kk : Q (bI (alk wr d e s)) w) : ClI SR mX11_areAlike [.ref 0, .int (nI d), .int (nI e), .int f] w (fun z w2 => w2.2.2 = RM ∧ Q z w2) := by
  obtain ⟨m, m1, m2, m3, m4, m5, m6, m7, m8⟩ := fD d hd
  obtain ⟨k, k1, k2, k3, k4, k5, k6, k7, k8⟩ := fD e he
  have q1 := kn_le (f := 0) m8
  have q2 := kn_le (f := 0) k8
  have hw := hS.1.trans g2
  have s5 : ∀ i, wi w 5 i = wi wr 5 i := fun i => hS.2 5 i (Or.inr (by decide))
  have i1 : vp_in (nI d) 10 := nI_in (by omega) (by decide)
  have i2 : vp_in (nI e) 10 := nI_in (by omega) (by decide)
  have i3 : vp_in (5 + nI d) 10 := by rw [n5]; exact nI_in (by omega) (by decide)
  have i4 : vp_in (5 + nI e) 10 := by rw [n5]; exact nI_in (by omega) (by decide)
  have s1 := sg_bd m8
  have s2 := sg_bd k8
  have sL : ∀ x : Int64, x.toInt = sg (wi wr 5 d) (wi wr 5 (5 + d)) → (if f = 0 then x else -x : Int64).toInt = s * sg (wi wr 5 d) (wi wr 5 (5 + d)) := fun x hx => by
    rcases hf with ⟨h1, h2⟩ | ⟨h1, h2⟩
    · rw [if_pos h1, h2, hx]
      omega
    · rw [if_neg (by rw [h1]; decide), h2, i64n (by omega), hx]
      omega
  have v4 : -9999 ≤ s * sg (wi wr 5 d) (wi wr 5 (5 + d)) ∧ s * sg (wi wr 5 d) (wi wr 5 (5 + d)) ≤ 9999 := by
    rcases hf with ⟨-, h⟩ | ⟨-, h⟩ <;> rw [h] <;> omega
  have tail : ∀ (x y : Int64), x.toInt = sg (wi wr 5 d) (wi wr 5 (5 + d)) → y.toInt = sg (wi wr 5 e) (wi wr 5 (5 + e)) → ClI SR mX11_knotOf [.ref 0, .int (nI e), .int 0] w (fun x8 w7 => w7.2.2 = RM ∧ ((x8 = nI (kn wr d 0) → ClI SR mX11_isKind [.long (if f = 0 then x else -x : Int64), .long y, .int (nI (kn wr d 0))] w7 (fun x10 w9 => w9.2.2 = RM ∧ (∃ z, some (Value.int (if x10 = 0 then 0 else 1 : Int32)) = some (.int z) ∧ w9.2.2 = RM ∧ Q z w9))) ∧ (¬ (x8 = nI (kn wr d 0)) → ∃ z, some (Value.int 0) = some (.int z) ∧ w7.2.2 = RM ∧ Q z w7))) := fun x y hx hy => by
    unfold alk at kk
    refine z_knot (by omega) g2 hS k8 ⟨fun z => ?_, fun z => ⟨_, rfl, hw, ?_⟩⟩
    · have z2 := (nI_eq (by omega) (by omega)).mp z
      rw [decide_eq_true z2.symm, Bool.true_and] at kk
      refine kd_R (sL x hx) hy v4.1 v4.2 s2.1 s2.2 hw ⟨_, rfl, hw, ?_⟩
      rw [bI_n, nI_toInt (by omega)]
      exact kk
    · rw [decide_eq_false (fun y => z (by rw [y])), Bool.false_and] at kk
      exact kk
  have e1 : wi w 5 (nI d).toNatClampNeg = wi wr 5 d := by rw [nI_clamp (by omega), s5]
  have e2 : wi w 5 (nI e).toNatClampNeg = wi wr 5 e := by rw [nI_clamp (by omega), s5]
  have e3 : wi w 5 (5 + nI d).toNatClampNeg = wi wr 5 (5 + d) := by rw [n5, nI_clamp (by omega), s5]
  have e4 : wi w 5 (5 + nI e).toNatClampNeg = wi wr 5 (5 + e) := by rw [n5, nI_clamp (by omega), s5]
  have m83 := m8.2.2.1
  have m84 := m8.2.2.2.1
  have k83 := k8.2.2.1
  have k84 := k8.2.2.2.1
  have p1 : 0 ≤ wi wr 5 d → (wi wr 5 (5 + d)).toInt64.toInt = sg (wi wr 5 d) (wi wr 5 (5 + d)) := fun z => by
    unfold sg
    rw [if_pos z, Int32.toInt_toInt64]
  have p2 : ¬ 0 ≤ wi wr 5 d → (-(wi wr 5 (5 + d))).toInt64.toInt = sg (wi wr 5 d) (wi wr 5 (5 + d)) := fun z => by
    unfold sg
    rw [if_neg z, Int32.toInt_toInt64, i_neg (A := 9999) (by omega) (by decide)]
  have p3 : 0 ≤ wi wr 5 e → (wi wr 5 (5 + e)).toInt64.toInt = sg (wi wr 5 e) (wi wr 5 (5 + e)) := fun z => by
    unfold sg
    rw [if_pos z, Int32.toInt_toInt64]
  have p4 : ¬ 0 ≤ wi wr 5 e → (-(wi wr 5 (5 + e))).toInt64.toInt = sg (wi wr 5 e) (wi wr 5 (5 + e)) := fun z => by
    unfold sg
    rw [if_neg z, Int32.toInt_toInt64, i_neg (A := 9999) (by omega) (by decide)]
  refine TX11_areAlike _ _ f w hw _ (z_knot (by omega) g2 hS m8 ⟨i1, ?_⟩)
  rw [e1, e2, e3, e4]
  exact ⟨fun z => ⟨i3, i2, fun z2 => ⟨i4, tail _ _ (p1 z) (p3 z2)⟩, fun z2 => ⟨i4, tail _ _ (p1 z) (p4 z2)⟩⟩, fun z => ⟨i3, i2, fun z2 => ⟨i4, tail _ _ (p2 z) (p3 z2)⟩, fun z2 => ⟨i4, tail _ _ (p2 z) (p4 z2)⟩⟩⟩
theorem sI1 : (1 : Int32).toInt = 1 ∨ (1 : Int32).toInt = -1 := Or.inl (by decide)
theorem sI2 : (-1 : Int32).toInt = 1 ∨ (-1 : Int32).toInt = -1 := Or.inr (by decide)
theorem pr_alike {wc wr : Wd} (h : RelE wc wr) (a1 a2 : Int32)  : PairI mX10_alike mX11_alike [a1, a2] wc wr := by
  obtain ⟨b, hR⟩ := h
  obtain ⟨n, hn, f4, f5, f6, fD⟩ := cx hR
  have g1 := hR.1
  have g2 := hR.2.1
  have no1 : (¬ ∃ e : Nat, e < n ∧ a1 = nI e) → ClI SR mX11_alike [.ref 0, .int a1, .int a2] wr (fun y wr' => -1 = y ∧ RelE (wXX10_refuse 1 (-1) wc) wr') := fun z => TX11_alike _ _ wr g2 _ (isdA g2 hn f5 f6 (fun q => absurd q z) fun _ => ⟨fun _ => ⟨_, rfl, rfl, fin_noA hR (by decide)⟩, fun q => absurd rfl q⟩)
  have no2 : ∀ d : Nat, d < n → (¬ ∃ e : Nat, e < n ∧ a2 = nI e) → ClI SR mX11_alike [.ref 0, .int (nI d), .int a2] wr (fun y wr' => -1 = y ∧ RelE (wXX10_refuse 1 (-1) wc) wr') := fun d hd z => TX11_alike _ _ wr g2 _ (isdA g2 hn f5 f6 (fun _ => ⟨fun q => absurd q no10, fun _ => isdA g2 hn f5 f6 (fun q => absurd q z) fun _ => ⟨fun _ => ⟨_, rfl, rfl, fin_noA hR (by decide)⟩, fun q => absurd rfl q⟩⟩) fun q => absurd ⟨d, hd, rfl⟩ q)
  refine TX10_alike _ _ wc b g1 _ (TX10_compareRings _ _ _ wc b g1 _ ⟨fun q => ?_, fun q => ⟨fun _ => ⟨_, rfl, g1, _, rfl, no1 fun z => q ((din_c hn f4).mpr z)⟩, fun _ => ⟨_, rfl, g1, _, rfl, no1 fun z => q ((din_c hn f4).mpr z)⟩⟩⟩)
  obtain ⟨d, hd, rfl⟩ := (din_c hn f4).mp q
  refine ⟨fun q2 => ?_, fun q2 => ⟨_, rfl, g1, _, rfl, no2 d hd fun z => q2 ((din_c hn f4).mpr z)⟩⟩
  obtain ⟨e, he, rfl⟩ := (din_c hn f4).mp q2
  rw [d_clamp hn hd, d_clamp hn he]
  refine al_C g1 hn hd he fD sI1 ⟨_, rfl, g1, _, rfl, ?_⟩
  refine TX11_alike _ _ wr g2 _ (isdA g2 hn f5 f6 (fun _ => ⟨fun q => absurd q no10, fun _ => isdA g2 hn f5 f6 (fun _ => ⟨fun q => absurd q no10, fun _ => al_R g2 hn hd he fD (an_same wr) (Or.inl ⟨rfl, rfl⟩) ⟨_, rfl, rfl, fin_okA hR⟩⟩) fun q => absurd ⟨e, he, rfl⟩ q⟩) fun q => absurd ⟨d, hd, rfl⟩ q)
theorem pr_mirrored {wc wr : Wd} (h : RelE wc wr) (a1 a2 : Int32)  : PairI mX10_mirrored mX11_mirrored [a1, a2] wc wr := by
  obtain ⟨b, hR⟩ := h
  obtain ⟨n, hn, f4, f5, f6, fD⟩ := cx hR
  have g1 := hR.1
  have g2 := hR.2.1
  have no1 : (¬ ∃ e : Nat, e < n ∧ a1 = nI e) → ClI SR mX11_mirrored [.ref 0, .int a1, .int a2] wr (fun y wr' => -1 = y ∧ RelE (wXX10_refuse 1 (-1) wc) wr') := fun z => TX11_mirrored _ _ wr g2 _ (isdA g2 hn f5 f6 (fun q => absurd q z) fun _ => ⟨fun _ => ⟨_, rfl, rfl, fin_noA hR (by decide)⟩, fun q => absurd rfl q⟩)
  have no2 : ∀ d : Nat, d < n → (¬ ∃ e : Nat, e < n ∧ a2 = nI e) → ClI SR mX11_mirrored [.ref 0, .int (nI d), .int a2] wr (fun y wr' => -1 = y ∧ RelE (wXX10_refuse 1 (-1) wc) wr') := fun d hd z => TX11_mirrored _ _ wr g2 _ (isdA g2 hn f5 f6 (fun _ => ⟨fun q => absurd q no10, fun _ => isdA g2 hn f5 f6 (fun q => absurd q z) fun _ => ⟨fun _ => ⟨_, rfl, rfl, fin_noA hR (by decide)⟩, fun q => absurd rfl q⟩⟩) fun q => absurd ⟨d, hd, rfl⟩ q)
  refine TX10_mirrored _ _ wc b g1 _ (TX10_compareRings _ _ _ wc b g1 _ ⟨fun q => ?_, fun q => ⟨fun _ => ⟨_, rfl, g1, _, rfl, no1 fun z => q ((din_c hn f4).mpr z)⟩, fun _ => ⟨_, rfl, g1, _, rfl, no1 fun z => q ((din_c hn f4).mpr z)⟩⟩⟩)
  obtain ⟨d, hd, rfl⟩ := (din_c hn f4).mp q
  refine ⟨fun q2 => ?_, fun q2 => ⟨_, rfl, g1, _, rfl, no2 d hd fun z => q2 ((din_c hn f4).mpr z)⟩⟩
  obtain ⟨e, he, rfl⟩ := (din_c hn f4).mp q2
  rw [d_clamp hn hd, d_clamp hn he]
  refine al_C g1 hn hd he fD sI2 ⟨_, rfl, g1, _, rfl, ?_⟩
  refine TX11_mirrored _ _ wr g2 _ (isdA g2 hn f5 f6 (fun _ => ⟨fun q => absurd q no10, fun _ => isdA g2 hn f5 f6 (fun _ => ⟨fun q => absurd q no10, fun _ => al_R g2 hn hd he fD (an_same wr) (s := (-1 : Int32).toInt) (Or.inr ⟨rfl, by decide⟩) ⟨_, rfl, rfl, fin_okA hR⟩⟩) fun q => absurd ⟨e, he, rfl⟩ q⟩) fun q => absurd ⟨d, hd, rfl⟩ q)
