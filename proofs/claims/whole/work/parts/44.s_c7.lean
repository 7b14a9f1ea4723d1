/-! the fraction between two -/
theorem fr_inj {o1 u1 o2 u2 : Int} (h1 : 0 < u1) (h2 : 0 < u2) (g1 : Int.gcd o1 u1 = 1) (g2 : Int.gcd o2 u2 = 1) (h : o1 * u2 = o2 * u1) : o1 = o2 ∧ u1 = u2 := by
  have hn : o1.natAbs * u2.natAbs = o2.natAbs * u1.natAbs := by rw [← Int.natAbs_mul, ← Int.natAbs_mul, h]
  have g1' : Nat.gcd u1.natAbs o1.natAbs = 1 := by rw [Nat.gcd_comm]; exact g1
  have g2' : Nat.gcd u2.natAbs o2.natAbs = 1 := by rw [Nat.gcd_comm]; exact g2
  have d1 : u1.natAbs ∣ u2.natAbs := Nat.Coprime.dvd_of_dvd_mul_left g1' (by rw [hn]; exact Nat.dvd_mul_left _ _)
  have d2 : u2.natAbs ∣ u1.natAbs := Nat.Coprime.dvd_of_dvd_mul_left g2' (by rw [← hn]; exact Nat.dvd_mul_left _ _)
  have e := Nat.dvd_antisymm d1 d2
  have eu : u1 = u2 := by omega
  subst eu
  exact ⟨Int.eq_of_mul_eq_mul_right (by omega) h, rfl⟩
/-- division that rounds down, of ints and of longs -/
theorem neg_msb (x : Int32) : x.toBitVec.msb = decide (x.toInt < 0) := BitVec.msb_eq_toInt
theorem xor_neg (x y : Int32) : (0 ≤ x ^^^ y) ↔ ((x.toInt < 0) ↔ (y.toInt < 0)) := by
  have h1 : (x ^^^ y).toBitVec.msb = (x.toBitVec.msb ^^ y.toBitVec.msb) := by rw [Int32.toBitVec_xor, BitVec.msb_xor]
  rw [neg_msb, neg_msb, neg_msb] at h1
  rw [Int32.le_iff_toInt_le, t0i]
  by_cases a : x.toInt < 0 <;> by_cases c : y.toInt < 0
  · rw [decide_eq_true a, decide_eq_true c] at h1
    have : ¬ (x ^^^ y).toInt < 0 := of_decide_eq_false h1
    exact ⟨fun _ => ⟨fun _ => c, fun _ => a⟩, fun _ => by omega⟩
  · rw [decide_eq_true a, decide_eq_false c] at h1
    have : (x ^^^ y).toInt < 0 := of_decide_eq_true h1
    exact ⟨fun h => by omega, fun h => absurd (h.mp a) c⟩
  · rw [decide_eq_false a, decide_eq_true c] at h1
    have : (x ^^^ y).toInt < 0 := of_decide_eq_true h1
    exact ⟨fun h => by omega, fun h => absurd (h.mpr c) a⟩
  · rw [decide_eq_false a, decide_eq_false c] at h1
    have : ¬ (x ^^^ y).toInt < 0 := of_decide_eq_false h1
    exact ⟨fun _ => ⟨fun h => absurd h a, fun h => absurd h c⟩, fun _ => by omega⟩
theorem dv_bd {a u : Int} (hu : 0 < u) {A : Int} (hA : 0 ≤ A) (h1 : -A ≤ a) (h2 : a ≤ A) : -A ≤ a / u ∧ a / u ≤ A := by
  constructor
  · rw [Int.le_ediv_iff_mul_le hu]
    have : A * 1 ≤ A * u := Int.mul_le_mul_of_nonneg_left (by omega) hA
    rw [Int.neg_mul]
    omega
  · have h3 := Int.ediv_mul_le a (show u ≠ 0 by omega)
    rcases Int.lt_or_le (a / u) 0 with c | c
    · omega
    · have : a / u * 1 ≤ a / u * u := Int.mul_le_mul_of_nonneg_left (by omega) c
      omega
theorem td_eq {a u : Int} (hu : 0 < u) (h : 0 ≤ a ∨ u ∣ a) : a.tdiv u = a / u := by
  rw [Int.tdiv_eq_ediv, if_pos h, Int.add_zero]
theorem td_ne {a u : Int} (hu : 0 < u) (h : ¬ (0 ≤ a ∨ u ∣ a)) : a.tdiv u = a / u + 1 := by
  rw [Int.tdiv_eq_ediv, if_neg h, Int.sign_eq_one_of_pos hu]
theorem z_floorDiv {b : Bool} {x y : Int32} {a u : Int} (hx : x.toInt = a) (hy : y.toInt = u) (hu : 0 < u) (h1 : -900000000 ≤ a) (h2 : a ≤ 900000000) {w : Wd} (hR : w.2.2 = RTab b) {Q : Int32 → Wd → Prop} (k : Q (Int32.ofInt (a / u)) w) : ClI SC mJ9_floorDiv_7cf53 [.int x, .int y] w (fun v w2 => w2.2.2 = RTab b ∧ Q v w2) := by
  have hy0 : ¬ y = 0 := fun e => by
    rw [e, t0i] at hy
    omega
  have hb := dv_bd hu (A := 900000000) (by decide) h1 h2
  have hr : (x / y).toInt = a.tdiv u := by
    rw [Int32.toInt_div, hx, hy]
    by_cases c : 0 ≤ a ∨ u ∣ a
    · rw [td_eq hu c, Int.bmod_eq_of_le (by omega) (by omega)]
    · rw [td_ne hu c, Int.bmod_eq_of_le (by omega) (by omega)]
  refine cl_ofF (by decide +kernel) (Nat.le_of_ble_eq_true rfl) ?_
  show Go SC mJ9_floorDiv_7cf53 0 [(0, .int x), (1, .int y)] [] w _
  refine g_iload_n (pc := 0) dJ9_floorDiv_7cf53_0 rfl 0 rfl ?_
  refine g_iload_n (pc := 1) dJ9_floorDiv_7cf53_1 rfl 1 rfl ?_
  refine g_idiv (pc := 2) dJ9_floorDiv_7cf53_2 hy0 ?_
  refine g_istore_n (pc := 3) (lv2 := [(0, .int x), (1, .int y), (2, .int (x / y))]) dJ9_floorDiv_7cf53_3 rfl (Nat.le_of_ble_eq_true rfl) rfl ?_
  refine g_iload_n (pc := 4) dJ9_floorDiv_7cf53_4 rfl 0 rfl ?_
  refine g_iload_n (pc := 5) dJ9_floorDiv_7cf53_5 rfl 1 rfl ?_
  refine g_ixor (pc := 6) dJ9_floorDiv_7cf53_6 ?_
  have same : (0 ≤ a ∨ u ∣ a) → Go SC mJ9_floorDiv_7cf53 21 [(0, .int x), (1, .int y), (2, .int (x / y))] [] w (fun r w' => ∃ v, r = some (.int v) ∧ w'.2.2 = RTab b ∧ Q v w') := fun c => by
    refine g_iload_n (pc := 21) dJ9_floorDiv_7cf53_21 rfl 2 rfl ?_
    refine g_iret (pc := 22) dJ9_floorDiv_7cf53_22 rfl ⟨_, rfl, hR, ?_⟩
    have e : x / y = Int32.ofInt (a / u) := by
      refine Int32.toInt_inj.mp ?_
      rw [hr, td_eq hu c, Int32.toInt_ofInt_of_le (by omega) (by omega)]
    rw [e]
    exact k
  refine g_if_ge (pc := 7) (tgt := 21) dJ9_floorDiv_7cf53_7 (by decide) (fun q => ?_) (fun q => ?_)
  · rw [xor_neg, hx, hy] at q
    exact same (Or.inl (by
      rcases Int.lt_or_le a 0 with c | c
      · have := q.mp c
        omega
      · exact c))
  · refine g_iload_n (pc := 10) dJ9_floorDiv_7cf53_10 rfl 2 rfl ?_
    refine g_iload_n (pc := 11) dJ9_floorDiv_7cf53_11 rfl 1 rfl ?_
    refine g_imul (pc := 12) dJ9_floorDiv_7cf53_12 ?_
    refine g_iload_n (pc := 13) dJ9_floorDiv_7cf53_13 rfl 0 rfl ?_
    have ha : a < 0 := by
      rcases Int.lt_or_le a 0 with c | c
      · exact c
      · exact absurd ((xor_neg x y).mpr (by rw [hx, hy]; exact ⟨fun h => by omega, fun h => by omega⟩)) q
    have hm : (x / y * y).toInt = a.tdiv u * u := by
      have h3 := Int.ediv_mul_le a (show u ≠ 0 by omega)
      have h4 := Int.lt_ediv_add_one_mul_self a hu
      rw [Int.add_mul, Int.one_mul] at h4
      rw [Int32.toInt_mul, hr, hy]
      by_cases c : 0 ≤ a ∨ u ∣ a
      · rw [Int.tdiv_mul_cancel (c.resolve_left (by omega)), Int.bmod_eq_of_le (by omega) (by omega)]
      · have hy31 := y.toInt_lt
        rw [hy] at hy31
        rw [td_ne hu c, Int.add_mul, Int.one_mul, Int.bmod_eq_of_le (by omega) (by omega)]
    refine g_icmp_eq (pc := 14) (tgt := 21) dJ9_floorDiv_7cf53_14 (by decide) (fun q2 => same (Or.inr ?_)) (fun q2 => ?_)
    · have e := congrArg Int32.toInt q2
      rw [hm, hx] at e
      exact ⟨a.tdiv u, by rw [Int.mul_comm]; exact e.symm⟩
    · have c : ¬ (0 ≤ a ∨ u ∣ a) := fun c => q2 (Int32.toInt_inj.mp (by
        rw [hm, hx, Int.tdiv_mul_cancel (c.resolve_left (by omega))]))
      refine g_iload_n (pc := 17) dJ9_floorDiv_7cf53_17 rfl 2 rfl ?_
      refine g_iconst (pc := 18) dJ9_floorDiv_7cf53_18 c_1 ?_
      refine g_isub (pc := 19) dJ9_floorDiv_7cf53_19 ?_
      refine g_iret (pc := 20) dJ9_floorDiv_7cf53_20 rfl ⟨_, rfl, hR, ?_⟩
      have e : x / y - 1 = Int32.ofInt (a / u) := by
        refine Int32.toInt_inj.mp ?_
        have hq := td_ne hu c
        rw [i_sub (A := 1000000000) (by rw [hr, hq]; omega) (by rw [t1i]; omega) (by decide), hr, hq, t1i, Int32.toInt_ofInt_of_le (by omega) (by omega)]
        omega
      rw [e]
      exact k
theorem z_floorOf {x y : Int64} {a u : Int} (hx : x.toInt = a) (hy : y.toInt = u) (hu : 0 < u) (h1 : -1000000000 ≤ a) (h2 : a ≤ 1000000000) {w : Wd} (hR : w.2.2 = RM) {Q : Int32 → Wd → Prop} (k : Q (Int32.ofInt (a / u)) w) : ClI SR mX11_floorOf [.long x, .long y] w (fun v w2 => w2.2.2 = RM ∧ Q v w2) := by
  have hy0 : ¬ y = 0 := fun e => by
    rw [e, l0i] at hy
    omega
  have hb := dv_bd hu (A := 1000000000) (by decide) h1 h2
  have hr : (x / y).toInt = a.tdiv u := by
    rw [Int64.toInt_div, hx, hy]
    by_cases c : 0 ≤ a ∨ u ∣ a
    · rw [td_eq hu c, Int.bmod_eq_of_le (by omega) (by omega)]
    · rw [td_ne hu c, Int.bmod_eq_of_le (by omega) (by omega)]
  have hmod : 0 ≤ lg_cmp (x % y) 0 ↔ (0 ≤ a ∨ u ∣ a) := by
    rw [lg_cmp_ge, Int64.le_iff_toInt_le, l0i, Int64.toInt_mod, hx, hy, Int.tmod_eq_emod]
    have e1 := Int.emod_nonneg a (show u ≠ 0 by omega)
    have e2 := Int.emod_lt_of_pos a hu
    by_cases c : 0 ≤ a ∨ u ∣ a
    · rw [if_pos c]
      exact ⟨fun _ => c, fun _ => by omega⟩
    · rw [if_neg c]
      exact ⟨fun h => by omega, fun h => absurd h c⟩
  refine TX11_floorOf x y w hR _ ⟨hy0, hy0, _, rfl, hR, ?_⟩
  have e : (if 0 ≤ lg_cmp (x % y) 0 then x / y else x / y - 1 : Int64).toInt32 = Int32.ofInt (a / u) := by
    refine Int32.toInt_inj.mp ?_
    rw [Int64.toInt_toInt32, Int32.toInt_ofInt_of_le (by omega) (by omega)]
    by_cases c : 0 ≤ a ∨ u ∣ a
    · rw [if_pos (hmod.mpr c), hr, td_eq hu c, Int.bmod_eq_of_le (by omega) (by omega)]
    · have hq := td_ne hu c
      have e1 : (x / y - 1).toInt = a / u := by
        rw [Int64.toInt_sub, hr, hq, show (1 : Int64).toInt = 1 from rfl, Int.bmod_eq_of_le (by omega) (by omega)]
        omega
      rw [if_neg (fun h => c (hmod.mp h)), e1, Int.bmod_eq_of_le (by omega) (by omega)]
  rw [e]
  exact k
/-! two tangles, the less and the more -/
def bf (o u : Int32) (n : Nat) : Int32 := Int32.ofInt ((o.toInt * (n : Int)) / u.toInt)
def bl (o u : Int32) (n : Nat) : Int32 := Int32.ofInt ((-o.toInt * (n : Int)) / u.toInt)
def bc (lo lu ho hu : Int32) (n : Nat) : Prop := -(bl ho hu n) - 1 < bf lo lu n + 1
theorem on_bd {o : Int} {n : Nat} (h1 : -9999 ≤ o) (h2 : o ≤ 9999) (hn : n ≤ 20000) : -200000000 ≤ o * (n : Int) ∧ o * (n : Int) ≤ 200000000 := by
  have q1 : o * (n : Int) ≤ 9999 * (n : Int) := Int.mul_le_mul_of_nonneg_right h2 (by omega)
  have q2 : -9999 * (n : Int) ≤ o * (n : Int) := Int.mul_le_mul_of_nonneg_right h1 (by omega)
  omega
theorem bf_t {o u : Int32} (hF : Frac o u) (hu : 0 < u.toInt) {n : Nat} (hn : n ≤ 20000) : (bf o u n).toInt = (o.toInt * (n : Int)) / u.toInt ∧ (bl o u n).toInt = (-o.toInt * (n : Int)) / u.toInt ∧ -200000000 ≤ (bf o u n).toInt ∧ (bf o u n).toInt ≤ 200000000 ∧ -200000000 ≤ (bl o u n).toInt ∧ (bl o u n).toInt ≤ 200000000 := by
  have h1 := on_bd hF.1 hF.2.1 hn
  have h2 : -200000000 ≤ -o.toInt * (n : Int) ∧ -o.toInt * (n : Int) ≤ 200000000 := on_bd (by have := hF.2.1; omega) (by have := hF.1; omega) hn
  have d1 := dv_bd hu (A := 200000000) (by decide) h1.1 h1.2
  have d2 := dv_bd hu (A := 200000000) (by decide) h2.1 h2.2
  have e1 : (bf o u n).toInt = (o.toInt * (n : Int)) / u.toInt := Int32.toInt_ofInt_of_le (by omega) (by omega)
  have e2 : (bl o u n).toInt = (-o.toInt * (n : Int)) / u.toInt := Int32.toInt_ofInt_of_le (by omega) (by omega)
  rw [e1, e2]
  exact ⟨rfl, rfl, d1.1, d1.2, d2.1, d2.2⟩
/-- there is one, its lower one at most both lower ones together -/
theorem bc_ex {lo lu ho hu : Int32} (hF : Frac lo lu) (hG : Frac ho hu) (h1 : 0 < lu.toInt) (h2 : 0 < hu.toInt) (h : lo.toInt * hu.toInt < ho.toInt * lu.toInt) : ∃ N : Nat, 1 ≤ N ∧ (N : Int) ≤ lu.toInt + hu.toInt ∧ ¬ bc lo lu ho hu N ∧ ∀ m : Nat, 1 ≤ m → m < N → bc lo lu ho hu m := by
  have b1 := hF.2.2.2.1
  have b2 := hG.2.2.2.1
  have key : ¬ bc lo lu ho hu (lu.toInt + hu.toInt).toNat := by
    have hn : (lu.toInt + hu.toInt).toNat ≤ 20000 := by omega
    obtain ⟨e1, -, e3, e4, -, -⟩ := bf_t hF h1 hn
    obtain ⟨-, e2, -, -, e5, e6⟩ := bf_t hG h2 hn
    have en : (((lu.toInt + hu.toInt).toNat : Nat) : Int) = lu.toInt + hu.toInt := by omega
    rw [en] at e1 e2
    have t1 : (-(bl ho hu (lu.toInt + hu.toInt).toNat) - 1).toInt = -(bl ho hu (lu.toInt + hu.toInt).toNat).toInt - 1 := by
      rw [i_sub (A := 300000000) (by rw [i_neg (A := 200000000) ⟨e5, e6⟩ (by decide)]; omega) (by rw [t1i]; omega) (by decide), i_neg (A := 200000000) ⟨e5, e6⟩ (by decide), t1i]
    have t2 : (bf lo lu (lu.toInt + hu.toInt).toNat + 1).toInt = (bf lo lu (lu.toInt + hu.toInt).toNat).toInt + 1 := by
      rw [i_add (A := 300000000) (by omega) (by rw [t1i]; omega) (by decide), t1i]
    unfold bc
    rw [Int32.lt_iff_toInt_lt, t1, t2, e1, e2]
    have q1 : lo.toInt * (lu.toInt + hu.toInt) / lu.toInt < lo.toInt + ho.toInt := by
      rw [Int.ediv_lt_iff_lt_mul h1, Int.mul_add, Int.add_mul]
      omega
    have q2 : -ho.toInt * (lu.toInt + hu.toInt) / hu.toInt < -(lo.toInt + ho.toInt) := by
      rw [Int.ediv_lt_iff_lt_mul h2, Int.mul_add, Int.neg_mul, Int.neg_mul, Int.neg_mul, Int.add_mul]
      omega
    omega
  obtain ⟨N, hN, hl⟩ := pk_least (fun k => 1 ≤ k ∧ ¬ bc lo lu ho hu k) ⟨_, by omega, key⟩
  refine ⟨N, hN.1, ?_, hN.2, fun m hm hlt => ?_⟩
  · rcases Int.lt_or_le (lu.toInt + hu.toInt) (N : Int) with c | c
    · exact absurd ⟨by omega, key⟩ (hl (lu.toInt + hu.toInt).toNat (by omega))
    · exact c
  · by_cases c : bc lo lu ho hu m
    · exact c
    · exact absurd ⟨hm, c⟩ (hl m hlt)
def nz (lo lu ho hu : Int32) (n : Nat) : Int32 := vXX3_nearestToZero (bf lo lu n + 1) (-(bl ho hu n) - 1)
theorem nI_mulT {o : Int32} {n : Nat} (h1 : -9999 ≤ o.toInt) (h2 : o.toInt ≤ 9999) (hn : n ≤ 20000) : (o * nI n).toInt = o.toInt * (n : Int) := by
  have := on_bd h1 h2 hn
  rw [Int32.toInt_mul, nI_toInt (by omega), Int.bmod_eq_of_le (by omega) (by omega)]
theorem z_betweenC {b : Bool} {ta tb : Nat} (ha : SC[ta]? = some (.inl 6)) (hb : SC[tb]? = some (.inl 6)) {lo lu ho hu : Int32} {w : Wd} (hR : w.2.2 = RTab b) (e1 : wi w ta 0 = lo) (e2 : wi w ta 1 = lu) (e3 : wi w tb 0 = ho) (e4 : wi w tb 1 = hu) (hF : Frac lo lu) (hG : Frac ho hu) (h1 : 0 < lu.toInt) (h2 : 0 < hu.toInt) {N : Nat} (n1 : 1 ≤ N) (n2 : (N : Int) ≤ lu.toInt + hu.toInt) (n3 : ¬ bc lo lu ho hu N) (n4 : ∀ m : Nat, 1 ≤ m → m < N → bc lo lu ho hu m) {Q : Wd → Prop} (kk : ∀ w', TW 55 w w' (nz lo lu ho hu N, nI N) → Q w') : ClV SC mX3_between [.ref ta, .ref tb, .ref 55] w (fun w2 => w2.2.2 = RTab b ∧ Q w2) := by
  have b1 := hF.2.2.2.1
  have b2 := hG.2.2.2.1
  have eS : (lu + hu).toInt = lu.toInt + hu.toInt := i_add (A := 9999) (by omega) (by omega) (by decide)
  have loop : ∀ (r m : Nat), 1 ≤ m → m + r = N → Go SC mX3_between 19 [(0, .ref ta), (1, .ref tb), (2, .ref 55), (3, .int (nI m))] [] w (fun r w' => r = none ∧ w'.2.2 = RTab b ∧ Q w') := by
    intro r
    induction r with
    | zero =>
      intro m hm1 hm
      have e : m = N := by omega
      subst e
      refine BX3_between_19 ta ha tb hb 55 rfl _ w b hR _ ?_
      rw [e1, e2, e4]
      refine ⟨fun z => ?_, fun _ => z_floorDiv (a := lo.toInt * (m : Int)) (nI_mulT hF.1 hF.2.1 (by omega)) rfl h1 (by have := on_bd hF.1 hF.2.1 (n := m) (by omega); omega) (by have := on_bd hF.1 hF.2.1 (n := m) (by omega); omega) hR ?_⟩
      · rw [Int32.lt_iff_toInt_lt, eS, nI_toInt (by omega)] at z
        omega
      · have en : (-ho).toInt = -ho.toInt := i_neg (A := 9999) ⟨hG.1, hG.2.1⟩ (by decide)
        have hn1 : -9999 ≤ (-ho).toInt := by have := hG.2.1; omega
        have hn2 : (-ho).toInt ≤ 9999 := by have := hG.1; omega
        have hbd := on_bd hn1 hn2 (n := m) (by omega)
        rw [en] at hbd
        rw [e3, e4]
        refine z_floorDiv (a := -ho.toInt * (m : Int)) (by rw [nI_mulT hn1 hn2 (by omega), en]) rfl h2 (by omega) (by omega) hR ⟨fun z => absurd z n3, fun _ => ⟨rfl, hR, kk _ (TW.put0 w _ _)⟩⟩
    | succ r ih =>
      intro m hm1 hm
      refine BX3_between_19 ta ha tb hb 55 rfl _ w b hR _ ?_
      rw [e1, e2, e4]
      refine ⟨fun z => ?_, fun _ => z_floorDiv (a := lo.toInt * (m : Int)) (nI_mulT hF.1 hF.2.1 (by omega)) rfl h1 (by have := on_bd hF.1 hF.2.1 (n := m) (by omega); omega) (by have := on_bd hF.1 hF.2.1 (n := m) (by omega); omega) hR ?_⟩
      · rw [Int32.lt_iff_toInt_lt, eS, nI_toInt (by omega)] at z
        omega
      · have en : (-ho).toInt = -ho.toInt := i_neg (A := 9999) ⟨hG.1, hG.2.1⟩ (by decide)
        have hn1 : -9999 ≤ (-ho).toInt := by have := hG.2.1; omega
        have hn2 : (-ho).toInt ≤ 9999 := by have := hG.1; omega
        have hbd := on_bd hn1 hn2 (n := m) (by omega)
        rw [en] at hbd
        rw [e3, e4]
        refine z_floorDiv (a := -ho.toInt * (m : Int)) (by rw [nI_mulT hn1 hn2 (by omega), en]) rfl h2 (by omega) (by omega) hR ⟨fun _ => ?_, fun z => absurd (n4 m hm1 (by omega)) z⟩
        rw [nI_1]
        exact ih (m + 1) (by omega) (by omega)
  have o1 : ∀ v : Int32, 0 < v.toInt → ¬ v < 1 ∧ 1 ≤ v := fun v hv => by
    rw [Int32.lt_iff_toInt_lt, Int32.le_iff_toInt_le, t1i]
    omega
  refine TX3_between ta ha tb hb 55 rfl w b hR _ ?_
  rw [e2, e4]
  exact ⟨fun z => absurd z (o1 lu h1).1, fun _ => ⟨fun _ => loop (N - 1) 1 (Nat.le_refl 1) (by omega), fun z => absurd (o1 hu h2).2 z⟩⟩
theorem nN64 {n : Nat} (h : n ≤ 20000) : (nI n).toInt64.toInt = (n : Int) := by rw [Int32.toInt_toInt64, nI_toInt (by omega)]
theorem l_seekB {d e : Nat} (hd : d < 5) (he : e < 5) {l1 l2 : Int32} {l3 : Int64} {w : Wd} (hR : w.2.2 = RM) {lo lu ho hu : Int32} (e1 : wi w 5 d = lo) (e2 : wi w 5 (5 + d) = lu) (e3 : wi w 5 e = ho) (e4 : wi w 5 (5 + e) = hu) (hF : Frac lo lu) (hG : Frac ho hu) (h1 : 0 < lu.toInt) (h2 : 0 < hu.toInt) {N : Nat} (n2 : (N : Int) ≤ lu.toInt + hu.toInt) (n3 : ¬ bc lo lu ho hu N) (n4 : ∀ m : Nat, 1 ≤ m → m < N → bc lo lu ho hu m) {Q : Option Value → Wd → Prop} (kk : Q (some (.int 0)) (si (si w 0 36 (nz lo lu ho hu N)) 0 37 (nI N))) : ∀ (r m : Nat), 1 ≤ m → m + r = N → Go SR mX11_seekBetween 120 [(0, .ref 0), (1, .int l1), (2, .int l2), (3, .long l3), (5, .int (nI d)), (6, .int (nI e)), (7, .int (nI m))] [] w Q := by
  have b1 := hF.2.2.2.1
  have b2 := hG.2.2.2.1
  have i1 : vp_in (nI d) 10 := nI_in (by omega) (by decide)
  have i2 : vp_in (5 + nI d) 10 := by rw [n5]; exact nI_in (by omega) (by decide)
  have i3 : vp_in (nI e) 10 := nI_in (by omega) (by decide)
  have i4 : vp_in (5 + nI e) 10 := by rw [n5]; exact nI_in (by omega) (by decide)
  have q1 : wi w 5 (nI d).toNatClampNeg = lo := by rw [nI_clamp (by omega)]; exact e1
  have q2 : wi w 5 (5 + nI d).toNatClampNeg = lu := by rw [n5, nI_clamp (by omega)]; exact e2
  have q3 : wi w 5 (nI e).toNatClampNeg = ho := by rw [nI_clamp (by omega)]; exact e3
  have q4 : wi w 5 (5 + nI e).toNatClampNeg = hu := by rw [n5, nI_clamp (by omega)]; exact e4
  have m1 : ∀ m : Nat, m ≤ 20000 → (lo.toInt64 * (nI m).toInt64).toInt = lo.toInt * (m : Int) ∧ (-ho.toInt64 * (nI m).toInt64).toInt = -ho.toInt * (m : Int) := fun m hm => by
    have p1 := on_bd hF.1 hF.2.1 hm
    have p2 : -200000000 ≤ -ho.toInt * (m : Int) ∧ -ho.toInt * (m : Int) ≤ 200000000 := on_bd (by have := hG.2.1; omega) (by have := hG.1; omega) hm
    have en : (-ho.toInt64).toInt = -ho.toInt := by
      rw [i64n (by rw [Int32.toInt_toInt64]; have := hG.1; have := hG.2.1; omega), Int32.toInt_toInt64]
    refine ⟨?_, ?_⟩
    · rw [Int64.toInt_mul, Int32.toInt_toInt64, nN64 hm, Int.bmod_eq_of_le (by omega) (by omega)]
    · rw [Int64.toInt_mul, en, nN64 hm, Int.bmod_eq_of_le (by omega) (by omega)]
  intro r
  induction r with
  | zero =>
    intro m hm1 hm
    have em : m = N := by omega
    subst em
    have p1 := on_bd hF.1 hF.2.1 (n := m) (by omega)
    have p2 : -200000000 ≤ -ho.toInt * (m : Int) ∧ -ho.toInt * (m : Int) ≤ 200000000 := on_bd (by have := hG.2.1; omega) (by have := hG.1; omega) (by omega)
    refine BX11_seekBetween_120 _ _ _ _ _ _ w hR Q ⟨i1, i2, ?_⟩
    rw [q1, q2]
    refine z_floorOf (a := lo.toInt * (m : Int)) (m1 m (by omega)).1 (Int32.toInt_toInt64 lu) h1 (by omega) (by omega) hR ⟨i3, i4, ?_⟩
    rw [q3, q4]
    refine z_floorOf (a := -ho.toInt * (m : Int)) (m1 m (by omega)).2 (Int32.toInt_toInt64 hu) h2 (by omega) (by omega) hR ⟨fun z => absurd z n3, fun _ => kk⟩
  | succ r ih =>
    intro m hm1 hm
    have p1 := on_bd hF.1 hF.2.1 (n := m) (by omega)
    have p2 : -200000000 ≤ -ho.toInt * (m : Int) ∧ -ho.toInt * (m : Int) ≤ 200000000 := on_bd (by have := hG.2.1; omega) (by have := hG.1; omega) (by omega)
    refine BX11_seekBetween_120 _ _ _ _ _ _ w hR Q ⟨i1, i2, ?_⟩
    rw [q1, q2]
    refine z_floorOf (a := lo.toInt * (m : Int)) (m1 m (by omega)).1 (Int32.toInt_toInt64 lu) h1 (by omega) (by omega) hR ⟨i3, i4, ?_⟩
    rw [q3, q4]
    refine z_floorOf (a := -ho.toInt * (m : Int)) (m1 m (by omega)).2 (Int32.toInt_toInt64 hu) h2 (by omega) (by omega) hR ⟨fun _ => ?_, fun z => absurd (n4 m hm1 (by omega)) z⟩
    rw [nI_1]
    exact ih (m + 1) (by omega) (by omega)
theorem mul32 {x y : Int32} (hx : -9999 ≤ x.toInt ∧ x.toInt ≤ 9999) (hy : -9999 ≤ y.toInt ∧ y.toInt ≤ 9999) : (x * y).toInt = x.toInt * y.toInt ∧ (x.toInt64 * y.toInt64).toInt = x.toInt * y.toInt ∧ -99980001 ≤ x.toInt * y.toInt ∧ x.toInt * y.toInt ≤ 99980001 := by
  have h := mul_bd hx.1 hx.2 hy.1 hy.2
  refine ⟨?_, ?_, by omega, by omega⟩
  · rw [Int32.toInt_mul, Int.bmod_eq_of_le (by omega) (by omega)]
  · rw [Int64.toInt_mul, Int32.toInt_toInt64, Int32.toInt_toInt64, Int.bmod_eq_of_le (by omega) (by omega)]
/-- both sides' way to it -/
theorem bT {b : Bool} {wc wr : Wd} (hR : Rel b wc wr) (a1 a2 : Int32) {K : Int32 → Wd → Prop}
    (k1 : ∀ t : Int32, t ≠ 0 → t ≠ 4 → (∀ K' : Int32 → Wd → Prop, K' t (wXX11_anew wr) → ClI SR mX11_seekBetween [.ref 0, .int a1, .int a2] (wXX11_anew wr) (fun y w => w.2.2 = RM ∧ K' y w)) → K t wc)
    (k0 : ∀ (x : Int32 × Int32) (w' : Wd), TW 55 wc w' x → (∀ K' : Int32 → Wd → Prop, (∀ w'', SameR wr w'' → wi w'' 0 11 = 0 → wi w'' 0 36 = x.1 → wi w'' 0 37 = x.2 → K' 0 w'') → ClI SR mX11_seekBetween [.ref 0, .int a1, .int a2] (wXX11_anew wr) (fun y w => w.2.2 = RM ∧ K' y w)) → K 0 w') :
    ClI SC mX10_betweenTrouble [.ref 0, .int a1, .int a2] wc (fun x w => w.2.2 = RTab b ∧ K x w) := by
  obtain ⟨n, hn, f4, f5, f6, fD⟩ := cx hR
  have g1 := hR.1
  have g2 := hR.2.1
  have no1 : (¬ ∃ e : Nat, e < n ∧ a1 = nI e) → K 1 wc := fun z => k1 1 (by decide) (by decide) fun K' hk => TX11_seekBetween _ _ _ (an_R g2) _ (isdA g2 hn f5 f6 (fun q => absurd q z) fun _ => ⟨fun _ => ⟨_, rfl, an_R g2, hk⟩, fun q => absurd rfl q⟩)
  refine TX10_betweenTrouble _ _ wc b g1 _ ⟨fun q => ?_, fun q => ⟨fun _ => ⟨_, rfl, g1, no1 fun z => q ((din_c hn f4).mpr z)⟩, fun _ => ⟨_, rfl, g1, no1 fun z => q ((din_c hn f4).mpr z)⟩⟩⟩
  obtain ⟨d, hd, rfl⟩ := (din_c hn f4).mp q
  refine ⟨fun q2 => ?_, fun q2 => ⟨_, rfl, g1, k1 1 (by decide) (by decide) fun K' hk => TX11_seekBetween _ _ _ (an_R g2) _ (isdA g2 hn f5 f6 (fun _ => ⟨fun q => absurd q no10, fun _ => isdA g2 hn f5 f6 (fun q => absurd ((din_c hn f4).mpr q) q2) fun _ => ⟨fun _ => ⟨_, rfl, an_R g2, hk⟩, fun q => absurd rfl q⟩⟩) fun q => absurd ⟨d, hd, rfl⟩ q)⟩⟩
  obtain ⟨e, he, rfl⟩ := (din_c hn f4).mp q2
  obtain ⟨m, m1, m2, m3, m4, m5, m6, m7, m8⟩ := fD d hd
  obtain ⟨k, k1', k2, k3, k4, k5, k6, k7, k8⟩ := fD e he
  have hd5 : d < 5 := by omega
  have he5 : e < 5 := by omega
  obtain ⟨i1, i2, r1, r2⟩ := ref5 (wr := wr) hd5
  obtain ⟨i3, i4, r3, r4⟩ := ref5 (wr := wr) he5
  have ref : ∀ (K' : Int32 → Wd → Prop), ((nI d = nI e → K' 1 (wXX11_anew wr)) ∧ (¬ nI d = nI e → ((wi wr 5 (5 + d) = 0 → K' 5 (wXX11_anew wr)) ∧ (¬ wi wr 5 (5 + d) = 0 → ((wi wr 5 (5 + e) = 0 → K' 5 (wXX11_anew wr)) ∧ (¬ wi wr 5 (5 + e) = 0 → ((lg_cmp ((wi wr 5 d).toInt64 * (wi wr 5 (5 + e)).toInt64 - (wi wr 5 e).toInt64 * (wi wr 5 (5 + d)).toInt64) 0 = 0 → K' 5 (wXX11_anew wr)) ∧ (¬ lg_cmp ((wi wr 5 d).toInt64 * (wi wr 5 (5 + e)).toInt64 - (wi wr 5 e).toInt64 * (wi wr 5 (5 + d)).toInt64) 0 = 0 → Go SR mX11_seekBetween 120 [(0, .ref 0), (1, .int (nI d)), (2, .int (nI e)), (3, .long ((wi wr 5 d).toInt64 * (wi wr 5 (5 + e)).toInt64 - (wi wr 5 e).toInt64 * (wi wr 5 (5 + d)).toInt64)), (5, .int (if 0 ≤ lg_cmp ((wi wr 5 d).toInt64 * (wi wr 5 (5 + e)).toInt64 - (wi wr 5 e).toInt64 * (wi wr 5 (5 + d)).toInt64) 0 then nI e else nI d : Int32)), (6, .int (if 0 ≤ lg_cmp ((wi wr 5 d).toInt64 * (wi wr 5 (5 + e)).toInt64 - (wi wr 5 e).toInt64 * (wi wr 5 (5 + d)).toInt64) 0 then nI d else nI e : Int32)), (7, .int 1)] [] (wXX11_anew wr) (fun r w' => ∃ v, r = some (.int v) ∧ w'.2.2 = RM ∧ K' v w'))))))))) → ClI SR mX11_seekBetween [.ref 0, .int (nI d), .int (nI e)] (wXX11_anew wr) (fun y w => w.2.2 = RM ∧ K' y w) := fun K' h => by
    refine TX11_seekBetween _ _ _ (an_R g2) _ (isdA g2 hn f5 f6 (fun _ => ⟨fun q => absurd q no10, fun _ => isdA g2 hn f5 f6 (fun _ => ⟨fun q => absurd q no10, fun _ => ⟨fun z => ⟨_, rfl, an_R g2, h.1 z⟩, fun z => ⟨i2, ?_⟩⟩⟩) fun q => absurd ⟨e, he, rfl⟩ q⟩) fun q => absurd ⟨d, hd, rfl⟩ q)
    have h := h.2 z
    rw [r1, r2, r3, r4]
    exact ⟨fun z => ⟨_, rfl, an_R g2, h.1 z⟩, fun z => ⟨i4, fun z2 => ⟨_, rfl, an_R g2, (h.2 z).1 z2⟩, fun z2 => ⟨i1, i4, i3, i2, fun z3 => ⟨_, rfl, an_R g2, ((h.2 z).2 z2).1 z3⟩, fun z3 => ((h.2 z).2 z2).2 z3⟩⟩⟩
  have pu : ∀ u : Int32, 0 ≤ u.toInt → ¬ u = 0 → 0 < u.toInt := fun u h1 h2 => by
    have : u.toInt ≠ 0 := fun y => h2 (tz.mpr y)
    omega
  have xe : vXX7_isLike (dA (hA b) d + 2) (dA (hA b) e + 2) wc = if wi wr 5 d = wi wr 5 e then (if wi wr 5 (5 + d) = wi wr 5 (5 + e) then 1 else 0 : Int32) else 0 := by
    unfold vXX7_isLike
    rw [m6, m7, k6, k7]
  rw [d_clamp hn hd, d_clamp hn he, xe, m6, m7, k6, k7]
  refine ⟨fun z => ⟨_, rfl, g1, k1 1 (by decide) (by decide) fun K' hk => ref K' ⟨fun _ => hk, fun y => absurd z y⟩⟩, fun z => ⟨fun z1 => ⟨_, rfl, g1, k1 5 (by decide) (by decide) fun K' hk => ref K' ⟨fun y => absurd y z, fun _ => ⟨fun _ => hk, fun y => absurd z1 y⟩⟩⟩, fun z1 => ⟨fun z2 => ⟨_, rfl, g1, k1 5 (by decide) (by decide) fun K' hk => ref K' ⟨fun y => absurd y z, fun _ => ⟨fun y => absurd y z1, fun _ => ⟨fun _ => hk, fun y => absurd z2 y⟩⟩⟩⟩, fun z2 => ?_⟩⟩⟩
  have p1 := pu _ m8.2.2.1 z1
  have p2 := pu _ k8.2.2.1 z2
  obtain ⟨a1, a2, a3, a4⟩ := mul32 (x := wi wr 5 d) (y := wi wr 5 (5 + e)) ⟨m8.1, m8.2.1⟩ ⟨by omega, k8.2.2.2.1⟩
  obtain ⟨c1, c2, c3, c4⟩ := mul32 (x := wi wr 5 e) (y := wi wr 5 (5 + d)) ⟨k8.1, k8.2.1⟩ ⟨by omega, m8.2.2.2.1⟩
  have ecr : ((wi wr 5 d).toInt64 * (wi wr 5 (5 + e)).toInt64 - (wi wr 5 e).toInt64 * (wi wr 5 (5 + d)).toInt64).toInt = (wi wr 5 d).toInt * (wi wr 5 (5 + e)).toInt - (wi wr 5 e).toInt * (wi wr 5 (5 + d)).toInt := by
    rw [Int64.toInt_sub, a2, c2, Int.bmod_eq_of_le (by omega) (by omega)]
  have cr0 : lg_cmp ((wi wr 5 d).toInt64 * (wi wr 5 (5 + e)).toInt64 - (wi wr 5 e).toInt64 * (wi wr 5 (5 + d)).toInt64) 0 = 0 ↔ (wi wr 5 d).toInt * (wi wr 5 (5 + e)).toInt = (wi wr 5 e).toInt * (wi wr 5 (5 + d)).toInt := by
    rw [lg_cmp_eq, ← Int64.toInt_inj, ecr, l0i]
    exact ⟨fun h => by omega, fun h => by omega⟩
  have crp : 0 ≤ lg_cmp ((wi wr 5 d).toInt64 * (wi wr 5 (5 + e)).toInt64 - (wi wr 5 e).toInt64 * (wi wr 5 (5 + d)).toInt64) 0 ↔ (wi wr 5 e).toInt * (wi wr 5 (5 + d)).toInt ≤ (wi wr 5 d).toInt * (wi wr 5 (5 + e)).toInt := by
    rw [lg_cmp_ge, Int64.le_iff_toInt_le, ecr, l0i]
    exact ⟨fun h => by omega, fun h => by omega⟩
  have cle : wi wr 5 e * wi wr 5 (5 + d) ≤ wi wr 5 d * wi wr 5 (5 + e) ↔ (wi wr 5 e).toInt * (wi wr 5 (5 + d)).toInt ≤ (wi wr 5 d).toInt * (wi wr 5 (5 + e)).toInt := by
    rw [Int32.le_iff_toInt_le, a1, c1]
  by_cases eq0 : (wi wr 5 d).toInt * (wi wr 5 (5 + e)).toInt = (wi wr 5 e).toInt * (wi wr 5 (5 + d)).toInt
  · obtain ⟨x1, x2⟩ := fr_inj p1 p2 m8.2.2.2.2.1 k8.2.2.2.2.1 eq0
    rw [if_pos (Int32.toInt_inj.mp x1), if_pos (Int32.toInt_inj.mp x2)]
    exact ⟨fun y => absurd y no10, fun _ => ⟨_, rfl, g1, k1 5 (by decide) (by decide) fun K' hk => ref K' ⟨fun y => absurd y z, fun _ => ⟨fun y => absurd y z1, fun _ => ⟨fun y => absurd y z2, fun _ => ⟨fun _ => hk, fun y => absurd (cr0.mpr eq0) y⟩⟩⟩⟩⟩⟩
  · have nl : (if wi wr 5 d = wi wr 5 e then (if wi wr 5 (5 + d) = wi wr 5 (5 + e) then 1 else 0 : Int32) else 0 : Int32) = 0 := by
      by_cases y1 : wi wr 5 d = wi wr 5 e
      · rw [if_pos y1]
        by_cases y2 : wi wr 5 (5 + d) = wi wr 5 (5 + e)
        · rw [y1, y2] at eq0
          exact absurd rfl eq0
        · rw [if_neg y2]
      · rw [if_neg y1]
    rw [nl]
    have fin : ∀ (lo hi : Nat) (x : Int32 × Int32), lo < 5 → hi < 5 → (0 ≤ lg_cmp ((wi wr 5 d).toInt64 * (wi wr 5 (5 + e)).toInt64 - (wi wr 5 e).toInt64 * (wi wr 5 (5 + d)).toInt64) 0 → lo = e ∧ hi = d) → (¬ 0 ≤ lg_cmp ((wi wr 5 d).toInt64 * (wi wr 5 (5 + e)).toInt64 - (wi wr 5 e).toInt64 * (wi wr 5 (5 + d)).toInt64) 0 → lo = d ∧ hi = e) → (∀ K' : Int32 → Wd → Prop, K' 0 (si (si (wXX11_anew wr) 0 36 x.1) 0 37 x.2) → ∀ l3 : Int64, Go SR mX11_seekBetween 120 [(0, .ref 0), (1, .int (nI d)), (2, .int (nI e)), (3, .long l3), (5, .int (nI lo)), (6, .int (nI hi)), (7, .int (nI 1))] [] (wXX11_anew wr) (fun r w' => ∃ v, r = some (.int v) ∧ w'.2.2 = RM ∧ K' v w')) → ∀ w', TW 55 wc w' x → K 0 w' := fun lo hi x _ _ h1 h2 hg w' hT => k0 x w' hT fun K' hk => ref K' ⟨fun y => absurd y z, fun _ => ⟨fun y => absurd y z1, fun _ => ⟨fun y => absurd y z2, fun _ => ⟨fun y => absurd (cr0.mp y) eq0, fun _ => by
      have hk' : K' 0 (si (si (wXX11_anew wr) 0 36 x.1) 0 37 x.2) := hk _ (((an_same wr).si (nrR (by decide))).si (nrR (by decide))) ((wi_ne (Or.inr (by decide))).trans ((wi_ne (Or.inr (by decide))).trans (an_11 wr))) ((wi_ne (Or.inr (by decide))).trans (wi_self _ _ _ _)) (wi_self _ _ _ _)
      by_cases y : 0 ≤ lg_cmp ((wi wr 5 d).toInt64 * (wi wr 5 (5 + e)).toInt64 - (wi wr 5 e).toInt64 * (wi wr 5 (5 + d)).toInt64) 0
      · obtain ⟨e1, e2⟩ := h1 y
        rw [if_pos y, if_pos y, ← e1, ← e2]
        rw [e1, e2]
        have := hg K' hk' ((wi wr 5 d).toInt64 * (wi wr 5 (5 + e)).toInt64 - (wi wr 5 e).toInt64 * (wi wr 5 (5 + d)).toInt64)
        rw [e1, e2] at this
        exact this
      · obtain ⟨e1, e2⟩ := h2 y
        rw [if_neg y, if_neg y]
        have := hg K' hk' ((wi wr 5 d).toInt64 * (wi wr 5 (5 + e)).toInt64 - (wi wr 5 e).toInt64 * (wi wr 5 (5 + d)).toInt64)
        rw [e1, e2] at this
        exact this⟩⟩⟩⟩
    refine ⟨fun _ => ⟨fun y => ?_, fun y => ?_⟩, fun y => absurd rfl y⟩
    · have hle := cle.mp y
      obtain ⟨N, n1, n2, n3, n4⟩ := bc_ex k8 m8 p2 p1 (by omega)
      refine z_betweenC (sh_dn b he5) (sh_dn b hd5) g1 k6 k7 m6 m7 k8 m8 p2 p1 n1 n2 n3 n4 (fun w' hT => ⟨_, rfl, hT.1.trans g1, fin e d _ he5 hd5 (fun _ => ⟨rfl, rfl⟩) (fun h => absurd (crp.mpr hle) h) (fun K' hk l3 => ?_) w' hT⟩)
      exact l_seekB he5 hd5 (an_R g2) (an_ne (Or.inl (by decide))) (an_ne (Or.inl (by decide))) (an_ne (Or.inl (by decide))) (an_ne (Or.inl (by decide))) k8 m8 p2 p1 n2 n3 n4 ⟨_, rfl, an_R g2, hk⟩ (N - 1) 1 (Nat.le_refl 1) (by omega)
    · have hle : ¬ (wi wr 5 e).toInt * (wi wr 5 (5 + d)).toInt ≤ (wi wr 5 d).toInt * (wi wr 5 (5 + e)).toInt := fun h => y (cle.mpr h)
      obtain ⟨N, n1, n2, n3, n4⟩ := bc_ex m8 k8 p1 p2 (by omega)
      refine z_betweenC (sh_dn b hd5) (sh_dn b he5) g1 m6 m7 k6 k7 m8 k8 p1 p2 n1 n2 n3 n4 (fun w' hT => ⟨_, rfl, hT.1.trans g1, fin d e _ hd5 he5 (fun h => absurd (crp.mp h) hle) (fun _ => ⟨rfl, rfl⟩) (fun K' hk l3 => ?_) w' hT⟩)
      exact l_seekB hd5 he5 (an_R g2) (an_ne (Or.inl (by decide))) (an_ne (Or.inl (by decide))) (an_ne (Or.inl (by decide))) (an_ne (Or.inl (by decide))) m8 k8 p1 p2 n2 n3 n4 ⟨_, rfl, an_R g2, hk⟩ (N - 1) 1 (Nat.le_refl 1) (by omega)
theorem pr_upperBetween {wc wr : Wd} (h : RelE wc wr) (a1 a2 : Int32)  : PairI mX10_upperBetween mX11_upperBetween [a1, a2] wc wr := by
  obtain ⟨b, hR⟩ := h
  have g2 := hR.2.1
  refine TX10_upperBetween _ _ wc b hR.1 _ (bT hR a1 a2 (fun t t0 t4 hr => ⟨fun q => absurd q t0, fun _ => ⟨_, rfl, TX11_upperBetween _ _ wr g2 _ (hr _ ⟨fun q => absurd q t0, fun _ => ⟨_, rfl, rfl, fin_noA hR t4⟩⟩)⟩⟩) (fun x w' hT hr => ⟨fun _ => ⟨_, rfl, TX11_upperBetween _ _ wr g2 _ (hr _ fun w'' hS h11 h36 h37 => ⟨fun _ => ⟨_, rfl, ?_, fin_ok hR (hT.same nr55) hS h11⟩, fun q => absurd rfl q⟩)⟩, fun q => absurd rfl q⟩))
  exact hT.2.2.1.trans h36.symm
theorem pr_lowerBetween {wc wr : Wd} (h : RelE wc wr) (a1 a2 : Int32)  : PairI mX10_lowerBetween mX11_lowerBetween [a1, a2] wc wr := by
  obtain ⟨b, hR⟩ := h
  have g2 := hR.2.1
  refine TX10_lowerBetween _ _ wc b hR.1 _ (bT hR a1 a2 (fun t t0 t4 hr => ⟨fun q => absurd q t0, fun _ => ⟨_, rfl, TX11_lowerBetween _ _ wr g2 _ (hr _ ⟨fun q => absurd q t0, fun _ => ⟨_, rfl, rfl, fin_noA hR t4⟩⟩)⟩⟩) (fun x w' hT hr => ⟨fun _ => ⟨_, rfl, TX11_lowerBetween _ _ wr g2 _ (hr _ fun w'' hS h11 h36 h37 => ⟨fun _ => ⟨_, rfl, ?_, fin_ok hR (hT.same nr55) hS h11⟩, fun q => absurd rfl q⟩)⟩, fun q => absurd rfl q⟩))
  exact hT.2.2.2.trans h37.symm
