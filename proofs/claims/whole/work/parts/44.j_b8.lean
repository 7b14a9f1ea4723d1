/-! numbers by their bits (the first rows began as kit/laws/BITS) -/
def bt (x : Int32) (i : Nat) : Bool := x.toBitVec.getLsbD i
theorem b_ext {x y : Int32} (h : ∀ i, i < 32 → bt x i = bt y i) : x = y := Int32.toBitVec_inj.mp (BitVec.eq_of_getLsbD_eq (fun i hi => h i hi))
theorem b_or (x y : Int32) (i : Nat) : bt (x ||| y) i = (bt x i || bt y i) := by unfold bt; rw [Int32.toBitVec_or, BitVec.getLsbD_or]
theorem b_and (x y : Int32) (i : Nat) : bt (x &&& y) i = (bt x i && bt y i) := by unfold bt; rw [Int32.toBitVec_and, BitVec.getLsbD_and]
theorem b_big {x : Int32} {i : Nat} (h : 32 ≤ i) : bt x i = false := BitVec.getLsbD_of_ge _ _ h
theorem b_0 (i : Nat) : bt 0 i = false := BitVec.getLsbD_zero
theorem s_l : ∀ n, n < 32 → ((nI n &&& 31).toBitVec.smod 32).toNat = n := by decide +kernel
theorem s_u : ∀ n, n < 32 → (((nI n).toUInt32 &&& Int32.toUInt32 31).toBitVec % 32).toNat = n := by decide +kernel
theorem b_shl (n : Nat) (hn : n < 32) (x : Int32) {i : Nat} (hi : i < 32) : bt (x <<< (nI n &&& 31)) i = (decide (n ≤ i) && bt x (i - n)) := by
  unfold bt
  rw [Int32.toBitVec_shiftLeft]
  show (x.toBitVec <<< ((nI n &&& 31).toBitVec.smod 32).toNat).getLsbD i = _
  rw [s_l n hn, BitVec.getLsbD_shiftLeft]
  rcases Nat.lt_or_ge i n with h | h
  · simp [h, Nat.not_le.mpr h]
  · simp [hi, h, Nat.not_lt.mpr h]
theorem b_sshr (n : Nat) (hn : n < 32) (x : Int32) {i : Nat} (hi : i < 32) : bt (x >>> (nI n &&& 31)) i = if n + i < 32 then bt x (n + i) else bt x 31 := by
  unfold bt
  rw [Int32.toBitVec_shiftRight]
  show (x.toBitVec.sshiftRight ((nI n &&& 31).toBitVec.smod 32).toNat).getLsbD i = _
  rw [s_l n hn, BitVec.getLsbD_sshiftRight, BitVec.msb_eq_getLsbD_last]
  simp [hi]
theorem nx_and (a b : Nat) : nI a &&& nI b = nI (a &&& b) := by
  apply Int32.toBitVec_inj.1
  show BitVec.ofNat 32 a &&& BitVec.ofNat 32 b = BitVec.ofNat 32 (a &&& b)
  apply BitVec.eq_of_getLsbD_eq
  intro i hi
  simp [hi]
theorem nx_orI (a b : Nat) : nI a ||| nI b = nI (a ||| b) := by
  apply Int32.toBitVec_inj.1
  show BitVec.ofNat 32 a ||| BitVec.ofNat 32 b = BitVec.ofNat 32 (a ||| b)
  apply BitVec.eq_of_getLsbD_eq
  intro i hi
  simp [hi]
theorem b_1 : ∀ i, i < 32 → bt 1 i = decide (i = 0) := by decide +kernel
theorem bit_at (x : Int32) {j : Nat} (hj : j < 32) : (x >>> (nI j &&& 31)) &&& 1 = bI (bt x j) := by
  refine b_ext fun i hi => ?_
  rw [b_and, b_1 i hi]
  by_cases c : i = 0
  · subst c
    rw [b_sshr j hj x hi, if_pos (by omega), Nat.add_zero, decide_eq_true rfl, Bool.and_true]
    cases bt x j
    · exact (b_0 0).symm
    · exact (b_1 0 (by decide)).symm
  · rw [decide_eq_false c, Bool.and_false]
    cases bt x j
    · exact (b_0 i).symm
    · show false = bt 1 i
      rw [b_1 i hi, decide_eq_false c]
theorem isIn_bt (x : Int32) {j : Nat} (hj : j < 32) : vXX10_isIn x (nI j) = bI (bt x j) := by
  unfold vXX10_isIn
  rw [bit_at x hj]
  cases bt x j <;> rfl
theorem hasBit_bt (x : Int32) {j : Nat} (hj : j < 32) : vXX11_hasBit x (nI j) = bI (bt x j) := isIn_bt x hj
theorem skC_bt (x : Int32) {j : Nat} (hj : j < 32) : skC x j = bt x j := by
  unfold skC
  rw [isIn_bt x hj]
  cases bt x j <;> rfl
theorem bt_set (x : Int32) {p j : Nat} (hp : p < 32) (hj : j < 32) : bt (x ||| (1 <<< (nI p &&& 31))) j = (bt x j || decide (p = j)) := by
  rw [b_or, b_shl p hp 1 hj]
  congr 1
  by_cases c : p ≤ j
  · rw [decide_eq_true c, Bool.true_and, b_1 _ (by omega)]
    by_cases c2 : p = j
    · rw [decide_eq_true c2, decide_eq_true (by omega)]
    · rw [decide_eq_false c2, decide_eq_false (by omega)]
  · rw [decide_eq_false c, Bool.false_and, decide_eq_false (by omega)]
theorem sh1 : ∀ p, p < 31 → (1 : Int32) <<< (nI p &&& 31) = nI (2 ^ p) := by decide +kernel
/-! how many bits are set, of numbers below 2 ^ 16 -/
def pA (x : Nat) : Nat := Nat.sub x (Nat.land (Nat.div x 2) 1431655765)
def pB (x : Nat) : Nat := Nat.add (Nat.land x 858993459) (Nat.land (Nat.div x 4) 858993459)
def pC (x : Nat) : Nat := Nat.land (Nat.add x (Nat.div x 16)) 252645135
def pD (x : Nat) : Nat := Nat.add x (Nat.div x 256)
def pE (x : Nat) : Nat := Nat.land (Nat.add x (Nat.div x 65536)) 63
def popN (x : Nat) : Nat := pE (pD (pC (pB (pA x))))
theorem ushr_c {n : Nat} (h : n < 2 ^ 31) : ((nI n).toUInt32 >>> ((1 : Int32).toUInt32 &&& Int32.toUInt32 31)).toInt32 = nI (n / 2) ∧ ((nI n).toUInt32 >>> ((2 : Int32).toUInt32 &&& Int32.toUInt32 31)).toInt32 = nI (n / 4) ∧ ((nI n).toUInt32 >>> ((4 : Int32).toUInt32 &&& Int32.toUInt32 31)).toInt32 = nI (n / 16) ∧ ((nI n).toUInt32 >>> ((8 : Int32).toUInt32 &&& Int32.toUInt32 31)).toInt32 = nI (n / 256) ∧ ((nI n).toUInt32 >>> ((16 : Int32).toUInt32 &&& Int32.toUInt32 31)).toInt32 = nI (n / 65536) :=
  ⟨pk_ushrN (by omega) 1 1 (by decide +kernel), pk_ushrN (by omega) 2 2 (by decide +kernel), pk_ushrN (by omega) 4 4 (by decide +kernel), pk_ushrN (by omega) 8 8 (by decide +kernel), pk_ushrN (by omega) 16 16 (by decide +kernel)⟩
theorem pop_I {x : Nat} (h : x < 65536) : vXJ6_bitCount_0f7a4 (nI x) = nI (popN x) := by
  have a1 : ∀ n m : Nat, n < 2 ^ 31 → nI n &&& nI m = nI (Nat.land n m) := fun n m _ => nx_and n m
  have l1 : Nat.land (x / 2) 1431655765 ≤ x / 2 := Nat.and_le_left
  have hA : pA x ≤ x := Nat.sub_le _ _
  have eA : nI x - (nI (x / 2) &&& 1431655765) = nI (pA x) := by
    rw [show (1431655765 : Int32) = nI 1431655765 from rfl, nx_and]
    exact pk_sub (show Nat.land (x / 2) 1431655765 ≤ x by omega)
  have hB : pB (pA x) ≤ 2 * x := by
    have h1 : Nat.land (pA x) 858993459 ≤ pA x := Nat.and_le_left
    have h2 : Nat.land (Nat.div (pA x) 4) 858993459 ≤ Nat.div (pA x) 4 := Nat.and_le_left
    have h3 : Nat.div (pA x) 4 ≤ pA x := Nat.div_le_self _ _
    show Nat.land (pA x) 858993459 + Nat.land (Nat.div (pA x) 4) 858993459 ≤ 2 * x
    omega
  have eB : (nI (pA x) &&& 858993459) + (nI (pA x / 4) &&& 858993459) = nI (pB (pA x)) := by
    rw [show (858993459 : Int32) = nI 858993459 from rfl, nx_and, nx_and, nI_add]
    rfl
  have hC : pC (pB (pA x)) ≤ 4 * x := by
    have h1 : Nat.land (Nat.add (pB (pA x)) (Nat.div (pB (pA x)) 16)) 252645135 ≤ Nat.add (pB (pA x)) (Nat.div (pB (pA x)) 16) := Nat.and_le_left
    have h2 : Nat.div (pB (pA x)) 16 ≤ pB (pA x) := Nat.div_le_self _ _
    have h3 : Nat.add (pB (pA x)) (Nat.div (pB (pA x)) 16) = pB (pA x) + Nat.div (pB (pA x)) 16 := rfl
    show Nat.land (Nat.add (pB (pA x)) (Nat.div (pB (pA x)) 16)) 252645135 ≤ 4 * x
    omega
  have eC : (nI (pB (pA x)) + nI (pB (pA x) / 16)) &&& 252645135 = nI (pC (pB (pA x))) := by
    rw [nI_add, show (252645135 : Int32) = nI 252645135 from rfl, nx_and]
    rfl
  have hD : pD (pC (pB (pA x))) ≤ 8 * x := by
    have h2 : Nat.div (pC (pB (pA x))) 256 ≤ pC (pB (pA x)) := Nat.div_le_self _ _
    show pC (pB (pA x)) + Nat.div (pC (pB (pA x))) 256 ≤ 8 * x
    omega
  have eD : nI (pC (pB (pA x))) + nI (pC (pB (pA x)) / 256) = nI (pD (pC (pB (pA x)))) := by
    rw [nI_add]
    rfl
  have eE : (nI (pD (pC (pB (pA x)))) + nI (pD (pC (pB (pA x))) / 65536)) &&& 63 = nI (popN x) := by
    rw [nI_add, show (63 : Int32) = nI 63 from rfl, nx_and]
    rfl
  unfold vXJ6_bitCount_0f7a4
  rw [(ushr_c (n := x) (by omega)).1, eA, (ushr_c (n := pA x) (by omega)).2.1, eB, (ushr_c (n := pB (pA x)) (by omega)).2.2.1, eC, (ushr_c (n := pC (pB (pA x))) (by omega)).2.2.2.1, eD, (ushr_c (n := pD (pC (pB (pA x)))) (by omega)).2.2.2.2, eE]
/-- all numbers below 2 ^ (S + r) that agree with x below 2 ^ S, c bits of which are set so far -/
def ck : Nat → Nat → Nat → Nat → Bool
  | 0, _, x, c => Nat.beq (popN x) c
  | r + 1, p, x, c => Nat.beq (popN x) c && (ck r (Nat.add p p) x c && ck r (Nat.add p p) (Nat.add x p) (Nat.succ c))
theorem ck_16 : ck 16 1 0 0 = true := by decide +kernel
/-- a row of bits as a number, and how many are set -/
def mkN (P : Nat → Bool) : Nat → Nat
  | 0 => 0
  | s + 1 => if P s then mkN P s + 2 ^ s else mkN P s
def cnN (P : Nat → Bool) : Nat → Nat
  | 0 => 0
  | s + 1 => if P s then cnN P s + 1 else cnN P s
theorem mkN_lt (P : Nat → Bool) : ∀ s, mkN P s < 2 ^ s := by
  intro s
  induction s with
  | zero => exact Nat.one_pos
  | succ s ih =>
    rw [mkN, Nat.pow_succ]
    split <;> omega
theorem cnN_le (P : Nat → Bool) : ∀ s, cnN P s ≤ s := by
  intro s
  induction s with
  | zero => exact Nat.le_refl 0
  | succ s ih =>
    rw [cnN]
    split <;> omega
theorem ck_at (P : Nat → Bool) : ∀ s, s ≤ 16 → ck (16 - s) (2 ^ s) (mkN P s) (cnN P s) = true := by
  intro s
  induction s with
  | zero => exact fun _ => ck_16
  | succ s ih =>
    intro hs
    have h := ih (by omega)
    rw [show 16 - s = (16 - (s + 1)) + 1 by omega, ck, Bool.and_eq_true, Bool.and_eq_true] at h
    have e : Nat.add (2 ^ s) (2 ^ s) = 2 ^ (s + 1) := by
      show 2 ^ s + 2 ^ s = _
      rw [Nat.pow_succ]
      omega
    rw [e] at h
    rw [mkN, cnN]
    cases P s
    · exact h.2.1
    · exact h.2.2
theorem pop_mk (P : Nat → Bool) {s : Nat} (hs : s ≤ 16) : popN (mkN P s) = cnN P s := by
  have h := ck_at P s hs
  cases hr : 16 - s with
  | zero =>
    rw [hr, ck] at h
    exact Nat.eq_of_beq_eq_true h
  | succ r =>
    rw [hr, ck, Bool.and_eq_true] at h
    exact Nat.eq_of_beq_eq_true h.1
theorem pop_c (P : Nat → Bool) {s : Nat} (hs : s ≤ 16) : vXJ6_bitCount_0f7a4 (nI (mkN P s)) = nI (cnN P s) := by
  have h1 := mkN_lt P s
  have h2 : 2 ^ s ≤ 2 ^ 16 := Nat.pow_le_pow_right (by decide) hs
  rw [pop_I (by omega), pop_mk P hs]
theorem mk_or (P : Nat → Bool) {s : Nat} (hs : s < 31) : nI (mkN P s) ||| (1 <<< (nI s &&& 31)) = nI (mkN P s + 2 ^ s) := by
  rw [sh1 s hs, nx_orI, Nat.or_comm]
  have := Nat.two_pow_add_eq_or_of_lt (mkN_lt P s) 1
  rw [Nat.mul_one] at this
  rw [← this, Nat.add_comm]
/-- a bit of such a number -/
theorem mk_bt (P : Nat → Bool) : ∀ s, s ≤ 31 → ∀ j, j < 32 → bt (nI (mkN P s)) j = (decide (j < s) && P j) := by
  intro s
  induction s with
  | zero =>
    intro _ j hj
    rw [decide_eq_false (by omega), Bool.false_and]
    exact b_0 j
  | succ s ih =>
    intro hs j hj
    have h := ih (by omega) j hj
    rw [mkN]
    cases hP : P s
    · rw [if_neg (by decide), h]
      by_cases c : j = s
      · subst c
        rw [hP, Bool.and_false, Bool.and_false]
      · by_cases c2 : j < s
        · rw [decide_eq_true c2, decide_eq_true (by omega)]
        · rw [decide_eq_false c2, decide_eq_false (by omega)]
    · rw [if_pos rfl, ← mk_or P (by omega), bt_set _ (by omega) hj, h]
      by_cases c : j = s
      · subst c
        rw [hP, decide_eq_true rfl, Bool.or_true, decide_eq_true (by omega), Bool.and_true]
      · rw [show decide (s = j) = false from decide_eq_false (fun e => c e.symm), Bool.or_false]
        by_cases c2 : j < s
        · rw [decide_eq_true c2, decide_eq_true (by omega)]
        · rw [decide_eq_false c2, decide_eq_false (by omega)]
