/-! a dance and a laying out that leave the longs as they are (rows of 43.a3 again, with one word more) -/
theorem z_figOn2 {f : Int32} (hf : Fig f) {w : Wd} (hR : w.2.2 = RM) (hu : 0 ≤ (wi w 0 24).toInt) {Q : Wd → Prop} (k : ∀ w', TR w w' (fo f (wi w 0 23, wi w 0 24)) → w'.2.1 = w.2.1 → Q w') : ClV SR mX11_figureOn [.ref 0, .int f] w (fun w2 => w2.2.2 = RM ∧ Q w2) := by
  refine TX11_figureOn f w hR _ ⟨fun q => ?_, fun q => ⟨fun z => ?_, fun z => ?_⟩⟩
  · subst q
    rw [fo2] at k
    rw [wi_self, away0]
    have hT := TR.put w (if 0 ≤ wi w 0 23 then -wi w 0 24 else wi w 0 24) (vXX11_away (wi w 0 23))
    refine ⟨fun z => ⟨rfl, hR, k _ ?_ rfl⟩, fun z => ⟨rfl, hR, k _ ?_ rfl⟩⟩
    · rw [if_pos z]
      have := hT.tr (TR.put23 _ 1)
      rw [wi_self] at this
      exact this
    · rw [if_neg z]
      have e : (if wi w 0 23 ≤ 0 then wi w 0 24 else -wi w 0 24 : Int32) = if 0 ≤ wi w 0 23 then -wi w 0 24 else wi w 0 24 := by
        by_cases c : wi w 0 23 ≤ 0
        · rw [if_pos c, if_neg (fun h => z (Int32.le_antisymm c h))]
        · rw [if_neg c, if_pos (Int32.le_of_lt (Int32.not_le.mp c))]
      rw [e]
      exact hT
  · have h0 : wi w 0 24 = 0 := by
      refine Int32.toInt_inj.mp ?_
      rw [Int32.le_iff_toInt_le] at z
      rw [Int32.toInt_zero] at z ⊢
      omega
    refine ⟨rfl, hR, k _ ?_ rfl⟩
    have := TR.rf w
    rcases hf with rfl | rfl | rfl
    · rw [fo0]
      rw [h0] at this ⊢
      rw [Int32.add_zero]
      exact this
    · rw [fo1]
      rw [h0] at this ⊢
      rw [Int32.sub_zero]
      exact this
    · exact absurd rfl q
  · refine ⟨rfl, hR, k _ ?_ rfl⟩
    rcases hf with rfl | rfl | rfl
    · rw [fo0, if_pos rfl]
      exact TR.put23 _ _
    · rw [fo1, if_neg (by decide), Int32.sub_eq_add_neg]
      exact TR.put23 _ _
    · exact absurd rfl q
theorem l_dance2 {d n u : Nat} (hd : d < 5) (hn : n ≤ 12) (hu : u ≤ 4) {L M : Int32} {w0 : Wd} (hR : w0.2.2 = RM) (h2 : wi w0 3 2 = nI u) (hF : ∀ i, i < n → Fig (wi w0 3 (9 + 12 * d + i))) {Q : Option Value → Wd → Prop}
    (kk : ∀ w', TR w0 w' (run (fun i => wi w0 3 (9 + 12 * d + i)) (skR w0 L M d u) n) → w'.2.1 = w0.2.1 → Q none w') : ∀ (r j : Nat) (w : Wd), j + r = n → TR w0 w (run (fun i => wi w0 3 (9 + 12 * d + i)) (skR w0 L M d u) j) → w.2.1 = w0.2.1 → Go SR mX11_dance 13 [(0, .ref 0), (1, .int (nI d)), (2, .int (nI n)), (3, .int L), (4, .int M), (5, .int (nI j))] [] w Q := by
  intro r
  induction r with
  | zero =>
    intro j w hj hT hL
    have : j = n := by omega
    subst this
    exact BX11_dance_13 _ _ _ _ _ w (hT.1.trans hR) Q ⟨fun _ => kk w hT hL, fun z => absurd (nI_le (Nat.le_refl j) (by omega)) z⟩
  | succ r ih =>
    intro j w hj hT hL
    have h3 : ∀ i, wi w 3 i = wi w0 3 i := fun i => hT.2.1 3 i (fun h => absurd h.1 (by decide))
    have es : skR w L M d u j = skR w0 L M d u j := by
      unfold skR
      rw [uo_ext h3]
    refine BX11_dance_13 _ _ _ _ _ w (hT.1.trans hR) Q ⟨fun z => absurd z (nI_ge (by omega) (by omega)), fun _ => ?_⟩
    rw [← nI_0]
    refine l_inner hd (by omega) hu (hT.1.trans hR) ((h3 2).trans h2) (fun z => ?_) (fun z => ?_) u 0 _ (by omega) ?_
    · refine ih (j + 1) w (by omega) ?_ hL
      rw [run, if_pos (es.symm.trans z)]
      exact hT
    · have hb := run_bd (F := fun i => wi w0 3 (9 + 12 * d + i)) (sk := skR w0 L M d u) j (by omega) (fun i hi => hF i (by omega))
      refine z_figOn2 (by rw [h3]; exact hF j (by omega)) (hT.1.trans hR) (by rw [hT.2.2.2]; exact hb.2.2.1) (fun w' h hl => ih (j + 1) w' (by omega) ?_ (hl.trans hL))
      rw [run, if_neg (by rw [← es, z]; decide)]
      rw [hT.2.2.1, hT.2.2.2, h3] at h
      exact hT.tr h
    · show (if vXX11_hasBit M (nI j) = nI 0 then 1 else nI 0 : Int32) = _
      rw [nI_0, uo, Bool.or_false]
      by_cases c : vXX11_hasBit M (nI j) = 0
      · rw [if_pos c, decide_eq_false (fun h => h c), if_neg (by decide)]
      · rw [if_neg c, decide_eq_true c, if_pos rfl]
theorem z_dance2 {d n u : Nat} (hd : d < 5) (hn : n ≤ 12) (hu : u ≤ 4) {L M : Int32} {w : Wd} (hR : w.2.2 = RM) (h2 : wi w 3 2 = nI u) (hF : ∀ i, i < n → Fig (wi w 3 (9 + 12 * d + i))) {Q : Wd → Prop} (kk : ∀ w', TR w w' (run (fun i => wi w 3 (9 + 12 * d + i)) (skR w L M d u) n) → w'.2.1 = w.2.1 → Q w') : ClV SR mX11_dance [.ref 0, .int (nI d), .int (nI n), .int L, .int M] w (fun w2 => w2.2.2 = RM ∧ Q w2) := by
  refine TX11_dance _ _ _ _ w hR _ ?_
  rw [← nI_0]
  exact l_dance2 hd hn hu hR h2 hF (fun w' h hl => ⟨rfl, h.1.trans hR, kk w' h hl⟩) n 0 _ (by omega) (TR.put w 0 1) rfl
theorem l_lay2 {Q : Option Value → Wd → Prop} : ∀ (q p c : Nat) (l3 : Int32) (w : Wd), w.2.2 = RM → p < 2 ^ 31 → q < 2 ^ 31 → c + (eparts p q).length ≤ 40 → wi w 0 26 = nI c → (∀ w', LPs w w' → w'.2.1 = w.2.1 → Q (some (.int (l3 + nI (eparts p q).sum))) w') → Go SR mX11_layParts 20 [(0, .ref 0), (1, .int (nI p)), (2, .int (nI q)), (3, .int l3)] [] w Q := by
  intro q
  induction q using Nat.strongRecOn with
  | _ q ih =>
    intro p c l3 w hR hp hq hc h26 hk
    refine BX11_layParts_20 _ _ _ w hR Q ⟨fun z => ?_, fun z => ?_⟩
    · have h0 : q = 0 := by
        by_cases c : q = 0
        · exact c
        · exact absurd z (nI_nle (by omega) hq)
      subst h0
      have hk := hk w (LPs.rf w) rfl
      rw [eparts_0] at hk
      rw [show l3 = l3 + nI ([] : List Nat).sum by rw [show nI ([] : List Nat).sum = 0 from rfl, Int32.add_zero]]
      exact hk
    · have h0 : q ≠ 0 := fun e => z (by rw [e]; decide)
      have hz : ¬ nI q = 0 := nI_ne0 (by omega) hq
      have hm : p % q < q := Nat.mod_lt _ (by omega)
      rw [eparts_s h0] at hc hk
      rw [List.length_cons] at hc
      refine ⟨hz, by rw [h26]; exact nI_in (by omega) (by decide), hz, hz, ?_⟩
      rw [nI_mo hp hq, nI_dv hp hq, h26, nI_clamp (by omega)]
      have e26 : wi (si w 8 c (nI (p / q))) 0 26 = nI c := (wi_ne (Or.inl (by decide))).trans h26
      rw [e26, nI_1]
      refine ih (p % q) hm q (c + 1) _ _ hR hq (by omega) (by omega) (wi_self _ _ _ _) (fun w' g1 gl => ?_)
      have f := hk w' (LPs.tr (LPs.rf w).si8.s26 g1) gl
      rw [List.sum_cons, ← nI_add, ← Int32.add_assoc] at f
      exact f
theorem z_lay2 {w : Wd} (hR : w.2.2 = RM) {x : Int32 × Int32} (e1 : wi w 0 23 = x.1) (e2 : wi w 0 24 = x.2) (h : Sm x.1 x.2) {Q : Int32 → Wd → Prop} (k : ∀ w', LPs w w' → w'.2.1 = w.2.1 → Q (nI (fparts x.1 x.2).sum) w') : ClI SR mX11_layParts [.ref 0] w (fun x w2 => w2.2.2 = RM ∧ Q x w2) := by
  have hl := h.len
  refine TX11_layParts w hR _ ?_
  rw [e1, e2, away_nat ⟨by have := h.1; omega, by have := h.2.1; omega⟩]
  rw [show (Value.int x.2) = .int (nI x.2.toInt.toNat) from congrArg Value.int (nn_nat h.2.2.1)]
  have h1 := h.1
  have h2 := h.2
  refine l_lay2 _ _ 0 _ _ hR (by omega) (by omega) (by unfold fparts at hl; omega) (wi_self _ _ _ _) (fun w' g1 gl => ⟨_, rfl, g1.1.trans hR, ?_⟩)
  rw [Int32.zero_add]
  exact k w' (LPs.tr (LPs.rf w).s26 g1) gl
theorem rDL {b : Bool} {wc wr : Wd} {n d m i u : Nat} (g2 : wr.2.2 = RM) (hc : Ctx b wc wr n d m) (hu : u ≤ 4) (h2 : wi wr 3 2 = nI u) (hi : i ≤ m) {M : Int32} {w : Wd} (hS : SameR wr w) {K : Wd → Prop} (k : ∀ w', TR w w' (run (fun j => wi wc (dA (hA b) d + 1) j) (skC M) i) → w'.2.1 = w.2.1 → K w') : ClV SR mX11_dance [.ref 0, .int (nI d), .int (nI i), .int 0, .int M] w (fun w2 => w2.2.2 = RM ∧ K w2) := by
  have hcc := hc
  have h3 : ∀ j, wi w 3 j = wi wr 3 j := fun j => hS.2 3 j (Or.inr (by decide))
  obtain ⟨hn, hd, m1, m2, f4, f5, f6, m3, m4, m5⟩ := hc
  refine z_dance2 (by omega) (by omega) hu (hS.1.trans g2) ((h3 2).trans h2) (fun j hj => by rw [h3]; exact (m5 j (by omega)).2) (fun w' h hl => k w' ?_ hl)
  rw [run_pairM hcc hu hi h3] at h
  exact h
/-! digits of a number -/
theorem dg_lo {B f n c k : Nat} (hB : 0 < B) (hk : k < n) : (f * B ^ n + c) / B ^ k % B = c / B ^ k % B := by
  obtain ⟨t, rfl⟩ : ∃ t, n = k + 1 + t := ⟨n - (k + 1), by omega⟩
  have e : f * B ^ (k + 1 + t) = B ^ k * (B * (f * B ^ t)) := by
    rw [Nat.pow_add, Nat.pow_succ]
    simp only [Nat.mul_comm, Nat.mul_left_comm, Nat.mul_assoc]
  rw [e, Nat.mul_add_div (Nat.pow_pos hB), Nat.mul_add_mod]
theorem dg_hi {B f n c : Nat} (hB : 0 < B) (hf : f < B) (hc : c < B ^ n) : (f * B ^ n + c) / B ^ n % B = f := by
  rw [Nat.mul_comm, Nat.mul_add_div (Nat.pow_pos hB), Nat.div_eq_of_lt hc, Nat.add_zero, Nat.mod_eq_of_lt hf]
/-! weights -/
def wtF (s X : Nat) : Nat → Nat
  | 0 => 1
  | k + 1 => wtF s X k * (if X / 2 ^ k % 2 = 1 then s else 100 - s)
def sumN (f : Nat → Nat) : Nat → Nat
  | 0 => 0
  | k + 1 => sumN f k + f k
theorem sumN_add (f : Nat → Nat) (a : Nat) : ∀ c, sumN f (a + c) = sumN f a + sumN (fun k => f (a + k)) c := by
  intro c
  induction c with
  | zero => rfl
  | succ c ih =>
    rw [← Nat.add_assoc, sumN, sumN, ih, Nat.add_assoc]
theorem sumN_congr {f g : Nat → Nat} : ∀ c, (∀ k, k < c → f k = g k) → sumN f c = sumN g c := by
  intro c
  induction c with
  | zero => exact fun _ => rfl
  | succ c ih =>
    intro h
    rw [sumN, sumN, ih (fun k hk => h k (by omega)), h c (by omega)]
theorem sumN_mul (f : Nat → Nat) (q : Nat) : ∀ c, sumN (fun k => f k * q) c = sumN f c * q := by
  intro c
  induction c with
  | zero => exact (Nat.zero_mul q).symm
  | succ c ih => rw [sumN, sumN, ih, Nat.add_mul]
theorem wt_lo (s : Nat) {n c f : Nat} : ∀ k, k ≤ n → wtF s (f * 2 ^ n + c) k = wtF s c k := by
  intro k
  induction k with
  | zero => exact fun _ => rfl
  | succ k ih =>
    intro hk
    rw [wtF, wtF, ih (by omega), dg_lo (by decide) (by omega)]
theorem wt_all {s : Nat} (hs : s ≤ 100) : ∀ n, sumN (fun X => wtF s X n) (2 ^ n) = 100 ^ n := by
  intro n
  induction n with
  | zero => rfl
  | succ n ih =>
    rw [Nat.pow_succ, Nat.mul_two, sumN_add]
    have e1 : sumN (fun X => wtF s X (n + 1)) (2 ^ n) = sumN (fun X => wtF s X n) (2 ^ n) * (100 - s) := by
      rw [← sumN_mul]
      refine sumN_congr _ fun X hX => ?_
      show wtF s X n * _ = _
      rw [Nat.div_eq_of_lt hX, if_neg (by decide)]
    have e2 : sumN (fun X => wtF s (2 ^ n + X) (n + 1)) (2 ^ n) = sumN (fun X => wtF s X n) (2 ^ n) * s := by
      rw [← sumN_mul]
      refine sumN_congr _ fun X hX => ?_
      have h1 := wt_lo s (n := n) (c := X) (f := 1) n (Nat.le_refl n)
      have h2 := dg_hi (B := 2) (f := 1) (n := n) (c := X) (by decide) (by decide) hX
      rw [Nat.one_mul] at h1 h2
      show wtF s (2 ^ n + X) n * _ = _
      rw [h1, h2, if_pos rfl]
    rw [e1, e2, ih, ← Nat.mul_add, Nat.pow_succ]
    congr 1
    omega
/-- how many of the first bits are set -/
def cnB (X : Nat) : Nat → Nat
  | 0 => 0
  | k + 1 => cnB X k + (if X / 2 ^ k % 2 = 1 then 1 else 0)
theorem cnB_le (X : Nat) : ∀ k, cnB X k ≤ k := by
  intro k
  induction k with
  | zero => exact Nat.le_refl 0
  | succ k ih =>
    rw [cnB]
    split <;> omega
theorem wt_pow (s X : Nat) : ∀ k, wtF s X k = s ^ cnB X k * (100 - s) ^ (k - cnB X k) := by
  intro k
  induction k with
  | zero => rfl
  | succ k ih =>
    have hl := cnB_le X k
    rw [wtF, cnB, ih]
    by_cases c : X / 2 ^ k % 2 = 1
    · rw [if_pos c, if_pos c, Nat.pow_succ, show k + 1 - (cnB X k + 1) = k - cnB X k by omega, Nat.mul_right_comm]
    · rw [if_neg c, if_neg c, Nat.add_zero, show k + 1 - cnB X k = (k - cnB X k) + 1 by omega, Nat.pow_succ, Nat.mul_assoc]
theorem pop_8 : ∀ n, n < 9 → ∀ X, X < 2 ^ n → popN X = cnB X n := by decide +kernel
theorem bt_8 : ∀ X, X < 256 → ∀ k, k < 8 → bt (nI X) k = decide (X / 2 ^ k % 2 = 1) := by decide +kernel
theorem sh_n {n : Nat} (h : n ≤ 8) : (1 : Int32) <<< (nI n &&& 31) = nI (2 ^ n) := sh1 n (by omega)
theorem p256 {n : Nat} (h : n ≤ 8) : 2 ^ n ≤ 256 := Nat.pow_le_pow_right (n := 2) (by decide) h
/-- what is asked: 0 an end, 1 untied, else crossings -/
def mN (k : Nat) (c t : Int32) (x : Int32 × Int32) : Nat := if k = 0 then (if goalF c x = t then 1 else 0) else (if k = 1 then (if x.1 = 0 then 1 else 0) else (fparts x.1 x.2).sum)
theorem sum_le : ∀ q p : Nat, (eparts p q).sum ≤ p + q := by
  intro q
  induction q using Nat.strongRecOn with
  | _ q ih =>
    intro p
    by_cases c : q = 0
    · subst c
      rw [eparts_0]
      exact Nat.zero_le _
    · rw [eparts_s c, List.sum_cons]
      have hm : p % q < q := Nat.mod_lt _ (by omega)
      have h := ih (p % q) hm q
      have hd := Nat.div_add_mod p q
      have hp : p / q ≤ q * (p / q) := Nat.le_mul_of_pos_left _ (by omega)
      omega
theorem m_le {k : Nat} {c t : Int32} {x : Int32 × Int32} {j : Nat} (h : Bd j x) (hj : j ≤ 8) : mN k c t x ≤ 512 := by
  have hp := p256 hj
  obtain ⟨h1, h2, h3, h4⟩ := h
  unfold mN
  split
  · split <;> omega
  · split
    · split <;> omega
    · have := sum_le x.2.toInt.toNat x.1.toInt.natAbs
      unfold fparts
      generalize 2 ^ j = P at *
      omega
theorem sum_bd {f g : Nat → Nat} {A : Nat} : ∀ c, (∀ k, k < c → g k ≤ A) → sumN (fun k => f k * g k) c ≤ sumN f c * A := by
  intro c
  induction c with
  | zero => exact fun _ => Nat.zero_le _
  | succ c ih =>
    intro h
    rw [sumN, sumN, Nat.add_mul]
    exact Nat.add_le_add (ih fun k hk => h k (by omega)) (Nat.mul_le_mul_left _ (h c (by omega)))
/-! powers, and what is measured: the class -/
theorem l_power {b : Bool} {w : Wd} (hR : w.2.2 = RTab b) {B t : Nat} (hB : B < 2 ^ 31) (ht : t < 100) {Q : Option Value → Wd → Prop} (kk : Q (some (.long (lN (B ^ t)))) w) : ∀ (r j : Nat), j + r = t → Go SC mX0_power 5 [(0, .int (nI B)), (1, .int (nI t)), (2, .long (lN (B ^ j))), (4, .int (nI j))] [] w Q := by
  intro r
  induction r with
  | zero =>
    intro j hj
    have e : j = t := by omega
    subst e
    exact BX0_power_5 _ _ _ _ w b hR Q ⟨fun _ => kk, fun z => absurd (nI_le (Nat.le_refl j) (by omega)) z⟩
  | succ r ih =>
    intro j hj
    refine BX0_power_5 _ _ _ _ w b hR Q ⟨fun z => absurd z (nI_ge (by omega) (by omega)), fun _ => ?_⟩
    rw [nI_l hB, lN_mul, ← Nat.pow_succ, nI_1]
    exact ih (j + 1) (by omega)
theorem z_power {b : Bool} {w : Wd} (hR : w.2.2 = RTab b) {B t : Nat} (hB : B < 2 ^ 31) (ht : t < 100) {Q : Int64 → Wd → Prop} (kk : Q (lN (B ^ t)) w) : ClL SC mX0_power [.int (nI B), .int (nI t)] w (fun y w2 => w2.2.2 = RTab b ∧ Q y w2) := by
  refine TX0_power _ _ w b hR _ ?_
  rw [← nI_0]
  exact l_power hR hB ht ⟨_, rfl, hR, kk⟩ t 0 (by omega)
theorem z_measured {b : Bool} {w0 w : Wd} (hR : w.2.2 = RTab b) {k : Nat} (hk : k ≤ 2) {c t : Int32} (h1 : wi w 62 1 = nI k) (h2 : wi w 62 2 = c) (h3 : wi w 62 3 = t) {x : Int32 × Int32} (hT : TW 63 w0 w x) (hs : Sm x.1 x.2) {Q : Int32 → Wd → Prop} (kk : Q (nI (mN k c t x)) w) : ClI SC mX0_measured [.ref 62] w (fun y w2 => w2.2.2 = RTab b ∧ Q y w2) := by
  have eg : vXX7_goalOf 63 c w = goalF c x := by
    unfold vXX7_goalOf goalF
    rw [hT.2.2.1, hT.2.2.2]
  have eu : vXX7_isUntied 63 w = if x.1 = 0 then 1 else 0 := by
    unfold vXX7_isUntied
    rw [hT.2.2.1]
  unfold mN at kk
  refine TX0_measured w b hR _ ?_
  rw [h1, h2, h3, eg, eu]
  refine ⟨fun z => ⟨_, rfl, hR, ?_⟩, fun z => ⟨fun z2 => ⟨_, rfl, hR, ?_⟩, fun z2 => ?_⟩⟩
  · have hk0 : k = 0 := by
      rw [← nI_0] at z
      exact (nI_eq (by omega) (by decide)).mp z
    rw [if_pos hk0] at kk
    by_cases cg : goalF c x = t
    · rw [if_pos cg] at kk ⊢
      exact kk
    · rw [if_neg cg] at kk ⊢
      exact kk
  · have hk1 : k = 1 := (nI_eq (b := 1) (by omega) (by decide)).mp z2
    rw [if_neg (by omega), if_pos hk1] at kk
    by_cases cg : x.1 = 0
    · rw [if_pos cg] at kk ⊢
      exact kk
    · rw [if_neg cg] at kk ⊢
      exact kk
  · have hk0 : k ≠ 0 := fun e => z (by rw [e]; rfl)
    have hk1 : k ≠ 1 := fun e => z2 (by rw [e]; rfl)
    rw [if_neg hk0, if_neg hk1] at kk
    exact z_crossedX rfl hR hT.2.2.1 hT.2.2.2 hs ⟨_, rfl, hR, kk⟩
/-! longs parted: any two below 2 ^ 62 -/
theorem absN {n : Nat} (h : n < 2 ^ 63) : vXJ9_abs_067f4 (lN n) = lN n := by
  unfold vXJ9_abs_067f4
  rw [if_pos]
  rw [lg_cmp_ge, Int64.le_iff_toInt_le, l0i, pk_lT h]
  omega
theorem z_sharedN {b : Bool} {w : Wd} (hR : w.2.2 = RTab b) {p q : Nat} (hp : p < 2 ^ 63) (hq : q < 2 ^ 63) {Q : Int64 → Wd → Prop} (k : Q (lN (Nat.gcd p q)) w) : ClL SC mX10_shared [.long (lN p), .long (lN q)] w (fun z w2 => w2.2.2 = RTab b ∧ Q z w2) := by
  refine TX10_shared _ _ w b hR _ ?_
  rw [absN hp, absN hq, ← nI_0]
  have := e_len 63 p q hq
  exact l_shared hR q p 0 hp hq (by omega) ⟨_, rfl, hR, k⟩
theorem l_lowest {w : Wd} (hR : w.2.2 = RM) {l0 l2 : Int64} {l4 : Int32} {Q : Option Value → Wd → Prop} : ∀ (q p : Nat), p < 2 ^ 63 → q < 2 ^ 63 → Nat.gcd p q ≠ 0 → Q (some (.long ((if l4 = 0 then l0 else l2 : Int64) / lN (Nat.gcd p q)))) w → Go SR mX11_lowest 6 [(0, .long l0), (2, .long l2), (4, .int l4), (5, .long (lN p)), (7, .long (lN q))] [] w Q := by
  intro q
  induction q using Nat.strongRecOn with
  | _ q ih =>
    intro p hp hq h0 hk
    refine BX11_lowest_6 _ _ _ _ _ w hR Q ⟨fun z => ?_, fun z => ?_⟩
    · rw [lg_cmp_eq, lN_is0 hq] at z
      rw [z, Nat.gcd_zero_right] at hk h0
      exact ⟨fun y => h0 ((lN_is0 hp).mp y), hk⟩
    · rw [lg_cmp_eq] at z
      have hq0 : q ≠ 0 := fun e => z ((lN_is0 hq).mpr e)
      have hm : p % q < q := Nat.mod_lt _ (by omega)
      refine ⟨z, ?_⟩
      rw [lN_mo hp hq]
      rw [gcd_st] at hk h0
      exact ih (p % q) hm q hq (by omega) h0 hk
theorem z_lowest {w : Wd} (hR : w.2.2 = RM) {S A : Nat} (hS : S < 2 ^ 63) (hA : A < 2 ^ 63) (hA0 : 0 < A) {f : Int32} {Q : Int64 → Wd → Prop} (k : Q ((if f = 0 then lN S else lN A : Int64) / lN (Nat.gcd S A)) w) : ClL SR mX11_lowest [.long (lN S), .long (lN A), .int f] w (fun z w2 => w2.2.2 = RM ∧ Q z w2) := by
  have hg : Nat.gcd A S ≠ 0 := by
    have := Nat.gcd_pos_of_pos_left S hA0
    omega
  refine TX11_lowest _ _ _ w hR _ (l_lowest hR S A hA hS hg ⟨_, rfl, hR, ?_⟩)
  rw [Nat.gcd_comm]
  exact k
