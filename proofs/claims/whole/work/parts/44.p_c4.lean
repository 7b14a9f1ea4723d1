/-! whether two numbers are a fraction -/
theorem gt_iff {o u : Int32} : vXX7_isTooGreat o u = 0 ↔ (-9999 ≤ o.toInt ∧ o.toInt ≤ 9999 ∧ u.toInt ≤ 9999) := by
  unfold vXX7_isTooGreat
  simp only [Int32.lt_iff_toInt_lt, Int32.le_iff_toInt_le, g9, gN9]
  by_cases c1 : (9999 : Int) < o.toInt
  · rw [if_pos c1]
    exact ⟨fun h => absurd h (by decide), fun h => absurd h.2.1 (by omega)⟩
  · rw [if_neg c1]
    by_cases c2 : o.toInt < -9999
    · rw [if_pos c2]
      exact ⟨fun h => absurd h (by decide), fun h => absurd h.1 (by omega)⟩
    · rw [if_neg c2]
      by_cases c3 : u.toInt ≤ 9999
      · rw [if_pos c3]
        exact ⟨fun _ => ⟨by omega, by omega, c3⟩, fun _ => rfl⟩
      · rw [if_neg c3]
        exact ⟨fun h => absurd h (by decide), fun h => absurd h.2.2 c3⟩
theorem lN_one {g : Nat} (h : g < 2 ^ 63) : lg_cmp (lN g) 1 = 0 ↔ g = 1 := by
  rw [lg_cmp_eq, show (1 : Int64) = lN 1 from rfl, pk_lEQ h (by decide)]
theorem fr_u0 {o : Int32} : Frac o 0 ↔ o = 1 := by
  constructor
  · exact fun h => h.2.2.2.2.2 rfl
  · rintro rfl
    exact ⟨by decide, by decide, by decide, by decide, by decide, fun _ => rfl⟩
theorem z_isFracC {b : Bool} {o u : Int32} {w : Wd} (hR : w.2.2 = RTab b) {Q : Int32 → Wd → Prop} (k1 : Frac o u → Q 1 w) (k0 : ¬ Frac o u → Q 0 w) : ClI SC mX10_isFraction [.int o, .int u] w (fun x w2 => w2.2.2 = RTab b ∧ Q x w2) := by
  have u0 : u < 0 ↔ u.toInt < 0 := by rw [Int32.lt_iff_toInt_lt, t0i]
  refine TX10_isFraction o u w b hR _ ⟨fun z => ⟨_, rfl, hR, k0 fun h => absurd h.2.2.1 (by have := u0.mp z; omega)⟩, fun z0 => ⟨fun z => ⟨fun z2 => ⟨_, rfl, hR, ?_⟩, fun z2 => ?_⟩, fun z => ⟨_, rfl, hR, k0 fun h => z (gt_iff.mpr ⟨h.1, h.2.1, h.2.2.2.1⟩)⟩⟩⟩
  · subst z2
    by_cases c : o = 1
    · rw [if_pos c]
      exact k1 (fr_u0.mpr c)
    · rw [if_neg c]
      exact k0 fun h => c (fr_u0.mp h)
  · have hz := gt_iff.mp z
    have h0 : 0 ≤ u.toInt := by
      have : ¬ u.toInt < 0 := fun y => z0 (u0.mpr y)
      omega
    have hg : Int.gcd o.toInt u.toInt = Nat.gcd o.toInt.natAbs u.toInt.natAbs := rfl
    have hu : u.toInt.natAbs ≠ 0 := fun y => z2 (tz.mpr (by omega))
    have hl : Nat.gcd o.toInt.natAbs u.toInt.natAbs ≤ u.toInt.natAbs := Nat.gcd_le_right _ (by omega)
    refine z_shared (p := o.toInt.natAbs) (q := u.toInt.natAbs) hR (i64_abs rfl) (i64_abs rfl) (by omega) (by omega) ⟨_, rfl, hR, ?_⟩
    by_cases c : Nat.gcd o.toInt.natAbs u.toInt.natAbs = 1
    · rw [if_pos ((lN_one (by omega)).mpr c)]
      exact k1 ⟨hz.1, hz.2.1, h0, hz.2.2, c, fun y => absurd y z2⟩
    · rw [if_neg (fun y => c ((lN_one (by omega)).mp y))]
      exact k0 fun h => c h.2.2.2.2.1
theorem z_isFracR {o u : Int32} {w : Wd} (hR : w.2.2 = RM) {Q : Int32 → Wd → Prop} (k1 : Frac o u → Q 1 w) (k0 : ¬ Frac o u → Q 0 w) : ClI SR mX11_isFraction [.ref 0, .int o, .int u] w (fun x w2 => w2.2.2 = RM ∧ Q x w2) := by
  have u0 : u < 0 ↔ u.toInt < 0 := by rw [Int32.lt_iff_toInt_lt, t0i]
  have u9 : (9999 : Int32) < u ↔ 9999 < u.toInt := by rw [Int32.lt_iff_toInt_lt, g9]
  have o9 : o < -9999 ↔ o.toInt < -9999 := by rw [Int32.lt_iff_toInt_lt, gN9]
  have p9 : o ≤ 9999 ↔ o.toInt ≤ 9999 := by rw [Int32.le_iff_toInt_le, g9]
  refine TX11_isFraction o u w hR _ ⟨fun z => ⟨_, rfl, hR, k0 fun h => absurd h.2.2.1 (by have := u0.mp z; omega)⟩, fun z0 => ⟨fun z => ⟨_, rfl, hR, k0 fun h => absurd h.2.2.2.1 (by have := u9.mp z; omega)⟩, fun z1 => ⟨fun z => ⟨_, rfl, hR, k0 fun h => absurd h.1 (by have := o9.mp z; omega)⟩, fun z2 => ⟨fun z => ⟨fun z3 => ⟨_, rfl, hR, ?_⟩, fun z3 => ?_⟩, fun z => ⟨_, rfl, hR, k0 fun h => z (p9.mpr h.2.1)⟩⟩⟩⟩⟩
  · subst z3
    by_cases c : o = 1
    · rw [if_pos c]
      exact k1 (fr_u0.mpr c)
    · rw [if_neg c]
      exact k0 fun h => c (fr_u0.mp h)
  · have h1 : ¬ u.toInt < 0 := fun y => z0 (u0.mpr y)
    have h2 : ¬ 9999 < u.toInt := fun y => z1 (u9.mpr y)
    have h3 : ¬ o.toInt < -9999 := fun y => z2 (o9.mpr y)
    have h4 := p9.mp z
    have hu : u.toInt.natAbs ≠ 0 := fun y => z3 (tz.mpr (by omega))
    have hl : Nat.gcd o.toInt.natAbs u.toInt.natAbs ≤ u.toInt.natAbs := Nat.gcd_le_right _ (by omega)
    have n1 : nI (Nat.gcd o.toInt.natAbs u.toInt.natAbs) = 1 ↔ Nat.gcd o.toInt.natAbs u.toInt.natAbs = 1 := nI_eq (b := 1) (by omega) (by decide)
    refine z_common (p := o.toInt.natAbs) (q := u.toInt.natAbs) hR rfl rfl (by omega) (by omega) ⟨_, rfl, hR, ?_⟩
    by_cases c : Nat.gcd o.toInt.natAbs u.toInt.natAbs = 1
    · rw [if_pos (n1.mpr c)]
      exact k1 ⟨by omega, h4, by omega, by omega, c, fun y => absurd y z3⟩
    · rw [if_neg (fun y => c (n1.mp y))]
      exact k0 fun h => c h.2.2.2.2.1
/-! rows of calls, numbered -/
def mk3 : Nat → Nat → Int32 × Int32 → Option (Int32 × Int32)
  | 0, _, x => some x
  | n + 1, c, x => if vXX7_isTooGreat (fo (nI (c / 3 ^ n % 3)) x).1 (fo (nI (c / 3 ^ n % 3)) x).2 = 0 then mk3 n c (fo (nI (c / 3 ^ n % 3)) x) else none
theorem mk3_ext : ∀ (n c e : Nat) (x : Int32 × Int32), (∀ k, k < n → c / 3 ^ k % 3 = e / 3 ^ k % 3) → mk3 n c x = mk3 n e x := by
  intro n
  induction n with
  | zero => exact fun _ _ _ _ => rfl
  | succ n ih =>
    intro c e x h
    rw [mk3, mk3, h n (by omega), ih c e _ (fun k hk => h k (by omega))]
theorem mk3_s {n c f : Nat} (hc : c < 3 ^ n) (hf : f < 3) (x : Int32 × Int32) : mk3 (n + 1) (f * 3 ^ n + c) x = if vXX7_isTooGreat (fo (nI f) x).1 (fo (nI f) x).2 = 0 then mk3 n c (fo (nI f) x) else none := by
  rw [mk3, dg_hi (by decide) hf hc, mk3_ext n (f * 3 ^ n + c) c _ (fun k hk => dg_lo (by decide) hk)]
def digN : Nat → Nat → Nat
  | 0, _ => 0
  | n + 1, c => (c / 3 ^ n % 3 + 1) * 10 ^ n + digN n c
theorem digN_ext : ∀ (n c e : Nat), (∀ k, k < n → c / 3 ^ k % 3 = e / 3 ^ k % 3) → digN n c = digN n e := by
  intro n
  induction n with
  | zero => exact fun _ _ _ => rfl
  | succ n ih =>
    intro c e h
    rw [digN, digN, h n (by omega), ih c e (fun k hk => h k (by omega))]
theorem digN_s {n c f : Nat} (hc : c < 3 ^ n) (hf : f < 3) : digN (n + 1) (f * 3 ^ n + c) = (f + 1) * 10 ^ n + digN n c := by
  rw [digN, dg_hi (by decide) hf hc, digN_ext n (f * 3 ^ n + c) c (fun k hk => dg_lo (by decide) hk)]
theorem digN_lt : ∀ n c, digN n c < 10 ^ n := by
  intro n
  induction n with
  | zero => exact fun _ => Nat.one_pos
  | succ n ih =>
    intro c
    have h := ih c
    have h2 : c / 3 ^ n % 3 < 3 := Nat.mod_lt _ (by decide)
    rw [digN, Nat.pow_succ]
    have h3 : (c / 3 ^ n % 3 + 1) * 10 ^ n ≤ 3 * 10 ^ n := Nat.mul_le_mul_right _ (by omega)
    omega
theorem digN_lo : ∀ n c, digN (n + 1) c = 10 * digN n (c / 3) + (c % 3 + 1) := by
  intro n
  induction n with
  | zero =>
    intro c
    rw [digN, digN, digN, Nat.pow_zero, Nat.div_one]
    omega
  | succ n ih =>
    intro c
    have e : c / 3 / 3 ^ n = c / 3 ^ (n + 1) := by rw [Nat.div_div_eq_div_mul, Nat.pow_succ, Nat.mul_comm]
    have h1 : digN (n + 1 + 1) c = (c / 3 ^ (n + 1) % 3 + 1) * 10 ^ (n + 1) + digN (n + 1) c := rfl
    have h2 : digN (n + 1) (c / 3) = (c / 3 / 3 ^ n % 3 + 1) * 10 ^ n + digN n (c / 3) := rfl
    have h3 : (c / 3 ^ (n + 1) % 3 + 1) * 10 ^ (n + 1) = 10 * ((c / 3 ^ (n + 1) % 3 + 1) * 10 ^ n) := by
      rw [Nat.pow_succ 10, ← Nat.mul_assoc, Nat.mul_comm]
    rw [h1, ih c, h2, e, h3]
    omega
theorem p10_7 {n : Nat} (h : n ≤ 7) : 10 ^ n ≤ 10000000 := Nat.pow_le_pow_right (n := 10) (by decide) h
theorem p3_7 {n : Nat} (h : n ≤ 7) : 3 ^ n ≤ 2187 := Nat.pow_le_pow_right (n := 3) (by decide) h
/-- the class's search -/
theorem z_firstRow {b : Bool} {g : Int32 × Int32} : ∀ (n k : Nat) (x : Int32 × Int32) (row : Nat) (w : Wd), n < k → n ≤ 7 → (row + 1) * 10 ^ n ≤ 10000000 → w.2.2 = RTab b → ∀ Q : Int32 → Wd → Prop, ((∀ c, c < 3 ^ n → mk3 n c x ≠ some g) → Q (-2) w) → (∀ c, c < 3 ^ n → mk3 n c x = some g → (∀ e, e < c → mk3 n e x ≠ some g) → Q (nI (row * 10 ^ n + digN n c)) w) → ClI SC (mX9_firstRow k) [.int x.1, .int x.2, .int (nI n), .int g.1, .int g.2, .int (nI row)] w (fun v w2 => w2.2.2 = RTab b ∧ Q v w2) := by
  intro n
  induction n with
  | zero =>
    intro k x row w hk _ hrow hR Q kN kF
    obtain ⟨k', rfl⟩ : ∃ k', k = k' + 1 := ⟨k - 1, by omega⟩
    refine TX9_firstRow k' _ _ _ _ _ _ w b hR _ ⟨fun _ => ⟨_, rfl, hR, ?_⟩, fun z => absurd (show nI 0 ≤ 0 by decide) z⟩
    by_cases c1 : x.1 = g.1
    · rw [if_pos c1]
      by_cases c2 : x.2 = g.2
      · rw [if_pos c2]
        have := kF 0 (by decide) (congrArg some (Prod.ext c1 c2)) (fun e he => absurd he (Nat.not_lt_zero e))
        rw [Nat.pow_zero, Nat.mul_one] at this
        exact this
      · rw [if_neg c2]
        exact kN fun c _ h => c2 (congrArg Prod.snd (Option.some.inj h))
    · rw [if_neg c1]
      exact kN fun c _ h => c1 (congrArg Prod.fst (Option.some.inj h))
  | succ n ih =>
    intro k x row w hk hn7 hrow hR Q kN kF
    obtain ⟨k', rfl⟩ : ∃ k', k = k' + 1 := ⟨k - 1, by omega⟩
    have hP := p3_7 (n := n) (by omega)
    have hT := p10_7 (n := n) (by omega)
    have hT0 : 0 < 10 ^ n := Nat.pow_pos (by decide)
    have hrow2 : (row + 1) * 10 ^ (n + 1) = 10 * (row * 10 ^ n) + 10 * 10 ^ n := by
      rw [Nat.pow_succ, Nat.add_mul, Nat.one_mul, ← Nat.mul_assoc]
      omega
    rw [hrow2] at hrow
    have hr2 : row ≤ row * 10 ^ n := Nat.le_mul_of_pos_right _ hT0
    have h3 : 3 ^ (n + 1) = 3 * 3 ^ n := by rw [Nat.pow_succ, Nat.mul_comm]
    have loop : ∀ (r f : Nat), f + r = 3 → (∀ c, c < f * 3 ^ n → mk3 (n + 1) c x ≠ some g) → Go SC (mX9_firstRow (k' + 1)) 32 [(0, .int x.1), (1, .int x.2), (2, .int (nI (n + 1))), (3, .int g.1), (4, .int g.2), (5, .int (nI row)), (6, .int (nI f))] [] w (fun r w' => ∃ v, r = some (.int v) ∧ w'.2.2 = RTab b ∧ Q v w') := by
      intro r
      induction r with
      | zero =>
        intro f hf hno
        have e : f = 3 := by omega
        subst e
        exact BX9_firstRow_32 k' _ _ _ _ _ _ _ w b hR _ ⟨fun _ => ⟨_, rfl, hR, kN fun c hc => hno c (by omega)⟩, fun z => absurd (show (2 : Int32) < nI 3 by decide) z⟩
      | succ r ihr =>
        intro f hf hno
        have hf3 : f < 3 := by omega
        have hfm : (f + 1) * 3 ^ n = f * 3 ^ n + 3 ^ n := by rw [Nat.add_mul, Nat.one_mul]
        have split : ∀ c, c < (f + 1) * 3 ^ n → ¬ c < f * 3 ^ n → ∃ c', c' < 3 ^ n ∧ c = f * 3 ^ n + c' := fun c h1 h2 => ⟨c - f * 3 ^ n, by omega, by omega⟩
        refine BX9_firstRow_32 k' _ _ _ _ _ _ _ w b hR _ ⟨fun z => absurd z (nI_nlt (a := 2) (by omega) (by decide)), fun _ => ⟨fun z => ?_, fun z => ?_⟩⟩
        · have z' : vXX7_isTooGreat (fo (nI f) x).1 (fo (nI f) x).2 = 0 := z
          have er : nI row * 10 + nI f + 1 = nI (row * 10 + f + 1) := by
            rw [show (10 : Int32) = nI 10 from rfl, nmul, nI_add, nI_1]
          have em : (row * 10 + f + 1) * 10 ^ n = 10 * (row * 10 ^ n) + f * 10 ^ n + 10 ^ n := by
            rw [Nat.add_mul, Nat.add_mul, Nat.one_mul, Nat.mul_comm row 10, Nat.mul_assoc]
          have hf10 : f * 10 ^ n ≤ 2 * 10 ^ n := Nat.mul_le_mul_right _ (by omega)
          have em2 : (row * 10 + f + 1 + 1) * 10 ^ n = (row * 10 + f + 1) * 10 ^ n + 10 ^ n := by rw [Nat.add_mul (row * 10 + f + 1), Nat.one_mul]
          rw [er, nI_pred]
          refine ih k' (fo (nI f) x) (row * 10 + f + 1) w (by omega) (by omega) (by omega) hR _ (fun hN => ⟨fun _ => ?_, fun y => absurd rfl y⟩) (fun c hc hm hl => ⟨fun y => ?_, fun _ => ⟨_, rfl, hR, ?_⟩⟩)
          · rw [nI_1]
            refine ihr (f + 1) (by omega) fun c hc => ?_
            by_cases c0 : c < f * 3 ^ n
            · exact hno c c0
            · obtain ⟨c', h1, rfl⟩ := split c hc c0
              rw [mk3_s h1 hf3, if_pos z']
              exact hN c' h1
          · have := digN_lt n c
            exact absurd y (nI_ne2 (by omega))
          · have := kF (f * 3 ^ n + c) (by
              have : f * 3 ^ n ≤ 2 * 3 ^ n := Nat.mul_le_mul_right _ (by omega)
              omega) (by rw [mk3_s hc hf3, if_pos z']; exact hm) (fun e he => by
              by_cases c0 : e < f * 3 ^ n
              · exact hno e c0
              · obtain ⟨c', h1, rfl⟩ := split e (by omega) c0
                rw [mk3_s h1 hf3, if_pos z']
                exact hl c' (by omega))
            rw [digN_s hc hf3] at this
            have e : row * 10 ^ (n + 1) + ((f + 1) * 10 ^ n + digN n c) = (row * 10 + f + 1) * 10 ^ n + digN n c := by
              rw [em, Nat.pow_succ, ← Nat.mul_assoc, Nat.add_mul, Nat.one_mul]
              omega
            rw [e] at this
            exact this
        · have z' : ¬ vXX7_isTooGreat (fo (nI f) x).1 (fo (nI f) x).2 = 0 := z
          rw [nI_1]
          refine ihr (f + 1) (by omega) fun c hc => ?_
          by_cases c0 : c < f * 3 ^ n
          · exact hno c c0
          · obtain ⟨c', h1, rfl⟩ := split c hc c0
            rw [mk3_s h1 hf3, if_neg z']
            exact fun h => by cases h
    have hle : ¬ nI (n + 1) ≤ 0 := nI_nle (by omega) (by omega)
    refine TX9_firstRow k' _ _ _ _ _ _ w b hR _ ⟨fun z => absurd z hle, fun _ => ⟨fun _ => ?_, fun z => absurd (nI_le (b := 7) hn7 (by decide)) z⟩⟩
    exact loop 3 0 (by decide) (fun c hc => absurd hc (by rw [Nat.zero_mul]; exact Nat.not_lt_zero c))
def NoH (x g : Int32 × Int32) : Prop := ∀ n, n ≤ 7 → ∀ c, c < 3 ^ n → mk3 n c x ≠ some g
def Fnd (x g : Int32 × Int32) (n c : Nat) : Prop := n ≤ 7 ∧ c < 3 ^ n ∧ mk3 n c x = some g ∧ (∀ e, e < c → mk3 n e x ≠ some g) ∧ ∀ m, m < n → ∀ e, e < 3 ^ m → mk3 m e x ≠ some g
theorem fnd_u {x g : Int32 × Int32} {n c n' c' : Nat} (h : Fnd x g n c) (h' : Fnd x g n' c') : n = n' ∧ c = c' := by
  obtain ⟨a1, a2, a3, a4, a5⟩ := h
  obtain ⟨b1, b2, b3, b4, b5⟩ := h'
  have hn : n = n' := by
    rcases Nat.lt_trichotomy n n' with y | y | y
    · exact absurd a3 (b5 n y c a2)
    · exact y
    · exact absurd b3 (a5 n' y c' b2)
  subst hn
  refine ⟨rfl, ?_⟩
  rcases Nat.lt_trichotomy c c' with y | y | y
  · exact absurd a3 (b4 c y)
  · exact y
  · exact absurd b3 (a4 c' y)
theorem fnd_no {x g : Int32 × Int32} {n c : Nat} (h : Fnd x g n c) (h' : NoH x g) : False := h' n h.1 c h.2.1 h.2.2.1
theorem z_fewest {b : Bool} {t : Nat} (ht : SC[t]? = some (.inl 6)) {x g : Int32 × Int32} {w : Wd} (hR : w.2.2 = RTab b) (h1 : wi w t 0 = x.1) (h2 : wi w t 1 = x.2) {Q : Int32 → Wd → Prop} (kN : NoH x g → Q (-2) w) (kF : ∀ n c, Fnd x g n c → Q (nI (digN n c)) w) : ClI SC mX9_fewest [.ref t, .int g.1, .int g.2] w (fun v w2 => w2.2.2 = RTab b ∧ Q v w2) := by
  have loop : ∀ (r n : Nat), n + r = 8 → (∀ m, m < n → ∀ e, e < 3 ^ m → mk3 m e x ≠ some g) → Go SC mX9_fewest 2 [(0, .ref t), (1, .int g.1), (2, .int g.2), (3, .int (nI n))] [] w (fun r w' => ∃ v, r = some (.int v) ∧ w'.2.2 = RTab b ∧ Q v w') := by
    intro r
    induction r with
    | zero =>
      intro n hn hno
      have e : n = 8 := by omega
      subst e
      exact BX9_fewest_2 t ht _ _ _ w b hR _ ⟨fun _ => ⟨_, rfl, hR, kN fun n hn c hc => hno n (by omega) c hc⟩, fun z => absurd (show (7 : Int32) < nI 8 by decide) z⟩
    | succ r ih =>
      intro n hn hno
      refine BX9_fewest_2 t ht _ _ _ w b hR _ ⟨fun z => absurd z (nI_nlt (a := 7) (by omega) (by decide)), fun _ => ?_⟩
      rw [h1, h2, ← nI_0]
      have hT := p10_7 (n := n) (by omega)
      refine z_firstRow n 8 x 0 w (by omega) (by omega) (by omega) hR _ (fun hN => ⟨fun _ => ?_, fun y => absurd rfl y⟩) (fun c hc hm hl => ?_)
      · rw [nI_1]
        refine ih (n + 1) (by omega) fun m hm e he => ?_
        by_cases c : m = n
        · subst c
          exact hN e he
        · exact hno m (by omega) e he
      · have hd := digN_lt n c
        rw [Nat.zero_mul, Nat.zero_add]
        exact ⟨fun y => absurd y (nI_ne2 (by omega)), fun _ => ⟨_, rfl, hR, kF n c ⟨by omega, hc, hm, hl, hno⟩⟩⟩
  exact TX9_fewest t ht _ _ w b hR _ (loop 8 0 (by decide) (fun m hm => absurd hm (Nat.not_lt_zero m)))
theorem l_digits {b : Bool} {w : Wd} (hR : w.2.2 = RTab b) {l0 : Int32} {Q : Option Value → Wd → Prop} : ∀ (n c j : Nat), n ≤ 7 → Q (some (.int (nI (j + n)))) w → Go SC mX10_digits 4 [(0, .int l0), (1, .int (nI j)), (2, .int (nI (digN n c)))] [] w Q := by
  intro n
  induction n with
  | zero =>
    intro c j _ hk
    exact BX10_digits_4 _ _ _ w b hR Q ⟨fun _ => hk, fun z => absurd (show nI (digN 0 c) ≤ 0 from (by decide : nI 0 ≤ 0)) z⟩
  | succ n ih =>
    intro c j hn hk
    have hl := digN_lt (n + 1) c
    have hT := p10_7 hn
    have hlo := digN_lo n c
    have hm : c % 3 < 3 := Nat.mod_lt _ (by decide)
    refine BX10_digits_4 _ _ _ w b hR Q ⟨fun z => absurd z (nI_nle (by omega) (by omega)), fun _ => ?_⟩
    rw [show (10 : Int32) = nI 10 from rfl, nI_dv (by omega) (by decide), nI_1]
    have e : digN (n + 1) c / 10 = digN n (c / 3) := by omega
    rw [e]
    exact ih (c / 3) (j + 1) (by omega) (by rw [show j + 1 + n = j + (n + 1) by omega]; exact hk)
theorem z_digits {b : Bool} {w : Wd} (hR : w.2.2 = RTab b) {n c : Nat} (hn : n ≤ 7) {Q : Int32 → Wd → Prop} (k : Q (nI n) w) : ClI SC mX10_digits [.int (nI (digN n c))] w (fun v w2 => w2.2.2 = RTab b ∧ Q v w2) := by
  refine TX10_digits _ w b hR _ ?_
  have := l_digits (l0 := nI (digN n c)) (Q := fun r w' => ∃ v, r = some (.int v) ∧ w'.2.2 = RTab b ∧ Q v w') hR n c 0 hn ⟨_, rfl, hR, by rw [Nat.zero_add]; exact k⟩
  exact this
