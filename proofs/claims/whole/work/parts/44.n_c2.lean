/-! slips: what is likely -/
def xsF (b : Bool) (wc : Wd) (d i X : Nat) : Int32 × Int32 := run (fun j => wi wc (dA (hA b) d + 1) j) (skC (nI X)) i
def lkF (b : Bool) (wc : Wd) (d i s k : Nat) (c t : Int32) (X : Nat) : Nat := wtF s X i * mN k c t (xsF b wc d i X)
theorem xs_bd {b : Bool} {wc wr : Wd} {n d m i : Nat} (hc : Ctx b wc wr n d m) (hi : i ≤ m) (X : Nat) : Bd i (xsF b wc d i X) := by
  obtain ⟨hn, hd, m1, m2, f4, f5, f6, m3, m4, m5⟩ := hc
  exact run_bd i (by omega) (fun j hj => by
    have := m5 j (by omega)
    show Fig (wi wc (dA (hA b) d + 1) j)
    rw [this.1]
    exact this.2)
theorem lk_bd {b : Bool} {wc wr : Wd} {n d m i s : Nat} (hc : Ctx b wc wr n d m) (hi : i ≤ m) (hi8 : i ≤ 8) (hs : s ≤ 100) (k : Nat) (c t : Int32) : sumN (lkF b wc d i s k c t) (2 ^ i) < 2 ^ 63 ∧ 100 ^ i < 2 ^ 63 ∧ 0 < 100 ^ i := by
  have h1 := sum_bd (f := fun X => wtF s X i) (g := fun X => mN k c t (xsF b wc d i X)) (A := 512) (2 ^ i) (fun X _ => m_le (xs_bd hc hi X) hi8)
  rw [wt_all hs i] at h1
  have h2 : 100 ^ i ≤ 100 ^ 8 := Nat.pow_le_pow_right (by decide) hi8
  have h3 : 0 < 100 ^ i := Nat.pow_pos (by decide)
  have h4 : sumN (lkF b wc d i s k c t) (2 ^ i) ≤ 100 ^ i * 512 := h1
  have h5 : (100 : Nat) ^ 8 = 10000000000000000 := by decide
  generalize 100 ^ i = P at *
  omega
def AC (wc w : Wd) (k : Nat) (c t : Int32) : Prop := SameC wc w ∧ wi w 62 1 = nI k ∧ wi w 62 2 = c ∧ wi w 62 3 = t ∧ wi w 0 10 = 0
theorem nr63 : ¬ relC 63 := fun h => absurd h.2 (by decide)
theorem AC.walk {wc w w' : Wd} {k : Nat} {c t : Int32} {x : Int32 × Int32} (h : AC wc w k c t) (hT : TW 63 w w' x) : AC wc w' k c t :=
  ⟨h.1.tr (hT.same nr63), (hT.2.1 62 1 (by decide)).trans h.2.1, (hT.2.1 62 2 (by decide)).trans h.2.2.1, (hT.2.1 62 3 (by decide)).trans h.2.2.2.1, (hT.2.1 0 10 (by decide)).trans h.2.2.2.2⟩
theorem l_answer {b : Bool} {wc wr : Wd} {n d m i s k : Nat} (g1 : wc.2.2 = RTab b) (hc : Ctx b wc wr n d m) (hi : i ≤ m) (hi8 : i ≤ 8) (hs : s ≤ 100) (hk : k ≤ 2) {c t l4 : Int32} {Q : Option Value → Wd → Prop}
    (kk : ∀ w', AC wc w' k c t → Q (some (.long ((if l4 = 0 then lN (sumN (lkF b wc d i s k c t) (2 ^ i)) else lN (100 ^ i) : Int64) / lN (Nat.gcd (sumN (lkF b wc d i s k c t) (2 ^ i)) (100 ^ i))))) w') : ∀ (r X : Nat) (w : Wd), X + r = 2 ^ i → AC wc w k c t → Go SC mX0_answer 6 [(0, .ref 62), (1, .ref (dA (hA b) d)), (2, .int (nI i)), (3, .int (nI s)), (4, .int l4), (5, .long (lN (sumN (lkF b wc d i s k c t) X))), (7, .int (nI X))] [] w Q := by
  have hp := p256 hi8
  have hd5 : d < 5 := by have := hc.1; have := hc.2.1; omega
  obtain ⟨b1, b2, b3⟩ := lk_bd hc hi hi8 hs k c t
  intro r
  induction r with
  | zero =>
    intro X w hX hA0
    have e1 : X = 2 ^ i := by omega
    subst e1
    have hw : w.2.2 = RTab b := hA0.1.1.trans g1
    have hg : 0 < Nat.gcd (sumN (lkF b wc d i s k c t) (2 ^ i)) (100 ^ i) := Nat.gcd_pos_of_pos_right _ b3
    have hgl : Nat.gcd (sumN (lkF b wc d i s k c t) (2 ^ i)) (100 ^ i) ≤ 100 ^ i := Nat.gcd_le_right _ b3
    have hgn : ¬ lN (Nat.gcd (sumN (lkF b wc d i s k c t) (2 ^ i)) (100 ^ i)) = 0 := fun y => by
      have := (lN_is0 (by omega)).mp y
      omega
    have k0 := kk w hA0
    refine BX0_answer_6 b d hd5 _ _ _ _ _ w b hw Q ⟨fun _ => z_power (B := 100) hw (by decide) (by omega) (z_sharedN hw b1 b2 ⟨fun z => ?_, fun _ => ⟨fun z => ⟨hgn, ?_⟩, fun z => ⟨hgn, ?_⟩⟩⟩), fun z => absurd (by rw [sh_n hi8]; exact nI_le (Nat.le_refl _) (by omega)) z⟩
    · rw [lg_cmp_eq] at z
      exact absurd z hgn
    · rw [if_pos z] at k0
      exact k0
    · rw [if_neg z] at k0
      exact k0
  | succ r ih =>
    intro X w hX hA0
    have hw : w.2.2 = RTab b := hA0.1.1.trans g1
    have hcl := cnB_le X i
    have hpop : vXJ6_bitCount_0f7a4 (nI X) = nI (cnB X i) := by rw [pop_I (by omega), pop_8 i (by omega) X (by omega)]
    have h100 : (100 : Int32) - nI s = nI (100 - s) := pk_sub (a := 100) hs
    have hml := m_le (k := k) (c := c) (t := t) (xs_bd hc hi X) hi8
    refine BX0_answer_6 b d hd5 _ _ _ _ _ w b hw Q ⟨fun z => absurd z (by rw [sh_n hi8]; exact nI_ge (by omega) (by omega)), fun _ => ?_⟩
    rw [hpop, h100, pk_sub hcl, nI_1]
    refine wkM (a := 63) rfl (by decide) g1 hc hi hA0.1 (fun w1 hT => ?_)
    have hA1 := hA0.walk hT
    have hw1 : w1.2.2 = RTab b := hA1.1.1.trans g1
    refine z_power hw1 (by omega) (by omega) (z_power hw1 (by omega) (by omega) (z_measured hw1 hk hA1.2.1 hA1.2.2.1 hA1.2.2.2.1 hT ((xs_bd hc hi X).sm (by omega)) ?_))
    have e : lN (sumN (lkF b wc d i s k c t) X) + lN (s ^ cnB X i) * lN ((100 - s) ^ (i - cnB X i)) * (nI (mN k c t (xsF b wc d i X))).toInt64 = lN (sumN (lkF b wc d i s k c t) (X + 1)) := by
      rw [nI_l (by omega), lN_mul, lN_mul, lN_add, ← wt_pow]
      rfl
    have := ih (X + 1) w1 (by omega) hA1
    rw [← e] at this
    exact this
theorem z_likely {b : Bool} {wc wr w : Wd} {n d m s k : Nat} (g1 : wc.2.2 = RTab b) (hc : Ctx b wc wr n d m) (hs : s ≤ 100) (hs0 : wi wc (hA b) 0 = nI s) (hk : k ≤ 2) {c t a2 a3 : Int32} (hS : SameC wc w) (h1 : wi w 62 1 = nI k) (h2 : wi w 62 2 = c) (h3 : wi w 62 3 = t) {K : Int64 → Wd → Prop}
    (k2 : (vXX11_in a2 0 8 = 0 ∨ (¬ vXX11_in a2 0 8 = 0 ∧ nI m < a2)) → K ((-1 : Int32).toInt64) (wXX10_refuse 2 (-1) w))
    (k0 : ∀ i : Nat, a2 = nI i → i ≤ 8 → i ≤ m → ∀ w', SameC wc w' → wi w' 0 10 = 0 → K ((if a3 = 0 then lN (sumN (lkF b wc d i s k c t) (2 ^ i)) else lN (100 ^ i) : Int64) / lN (Nat.gcd (sumN (lkF b wc d i s k c t) (2 ^ i)) (100 ^ i))) w') :
    ClL SC mX10_likely [.ref 0, .ref (dA (hA b) d), .int a2, .int a3] w (fun x w2 => w2.2.2 = RTab b ∧ K x w2) := by
  have hd5 : d < 5 := by have := hc.1; have := hc.2.1; omega
  have hm12 := hc.2.2.2.1
  have hw : w.2.2 = RTab b := hS.1.trans g1
  have e1 : wi w (dA (hA b) d) 1 = nI m := (hS.2 _ 1 (dA_rel b (k := 0) hd5 (by decide))).trans hc.2.2.2.2.2.2.2.1
  have e0 : wi (si w 0 10 0) (hA b) 0 = nI s := by
    have hb : hA b = 3 ∨ hA b = 26 := by cases b; exact Or.inl rfl; exact Or.inr rfl
    exact (wi_ne (Or.inl (by omega))).trans ((hS.2 (hA b) 0 (hA_rel b (k := 0) (by decide))).trans hs0)
  refine TX10_likely b d hd5 _ _ w b hw _ ⟨fun z => ⟨_, rfl, hw, k2 (Or.inl (in_no2 (Or.inl z)))⟩, fun z1 => ⟨fun z => ⟨_, rfl, hw, k2 (Or.inl (in_no2 (Or.inr z)))⟩, fun z2 => ?_⟩⟩
  rw [e1, e0]
  refine ⟨fun z => ?_, fun z => ⟨_, rfl, hw, k2 (Or.inr ⟨by rw [in_yes2 z1 z2]; decide, Int32.not_le.mp z⟩)⟩⟩
  obtain ⟨i, hi, rfl⟩ := nI_of z1
  have him := (nI_leI hi (by omega)).mp z
  have hi8 : i ≤ 8 := by
    have : ¬ 8 < i := fun y => z2 (nI_lt (a := 8) y hi)
    omega
  have hA0 : AC wc (si w 0 10 0) k c t := ⟨hS.si nrC0, (wi_ne (Or.inl (by decide))).trans h1, (wi_ne (Or.inl (by decide))).trans h2, (wi_ne (Or.inl (by decide))).trans h3, wi_self _ _ _ _⟩
  refine TX0_answer b d hd5 _ _ _ _ b (hA0.1.1.trans g1) _ ?_
  rw [← nI_0, ← lN_0]
  exact l_answer (k := k) (c := c) (t := t) g1 hc him hi8 hs hk (fun w' h => ⟨_, rfl, h.1.1.trans g1, _, rfl, h.1.1.trans g1, k0 i rfl hi8 him w' h.1 h.2.2.2.2⟩) (2 ^ i) 0 _ (by omega) hA0
/-! the reference -/
theorem wl_self (w : Wd) (a i : Nat) (v : Int64) : wl (sl w a i v) a i = v := up2_self _ _ _ _
theorem wl_ne {w : Wd} {a i : Nat} {v : Int64} {b j : Nat} (h : b ≠ a ∨ j ≠ i) : wl (sl w a i v) b j = wl w b j := up2_ne _ _ (fun q => by rcases h with h | h; exact h q.1; exact h q.2)
theorem wl_eq {w w' : Wd} (h : w'.2.1 = w.2.1) (a i : Nat) : wl w' a i = wl w a i := congrFun (congrFun h a) i
def TI (b : Bool) (wc wr w : Wd) (d i s : Nat) (c t : Int32) (X : Nat) : Prop := SameR wr w ∧ wi w 0 11 = 0 ∧ wl w 0 46 = lN (sumN (fun X => wtF s X i) X) ∧ wl w 0 47 = lN (sumN (lkF b wc d i s 0 c t) X) ∧ wl w 0 48 = lN (sumN (lkF b wc d i s 1 c t) X) ∧ wl w 0 49 = lN (sumN (lkF b wc d i s 2 c t) X)
theorem SameR.sl {w w' : Wd} (h : SameR w w') {a i : Nat} {v : Int64} : SameR w (sl w' a i v) := ⟨h.1, h.2⟩
theorem l_try {b : Bool} {wc wr : Wd} {n d m i s u : Nat} (g2 : wr.2.2 = RM) (hc : Ctx b wc wr n d m) (hu : u ≤ 4) (h2 : wi wr 3 2 = nI u) (hi : i ≤ m) (hi8 : i ≤ 8) (hs : s ≤ 100) (hs0 : wi wr 3 0 = nI s) {c t : Int32} {Q : Option Value → Wd → Prop} (kk : ∀ w', TI b wc wr w' d i s c t (2 ^ i) → Q none w') : ∀ (r X : Nat) (w : Wd), X + r = 2 ^ i → TI b wc wr w d i s c t X → Go SR mX11_trySlips 23 [(0, .ref 0), (1, .int (nI d)), (2, .int (nI i)), (3, .int c), (4, .int t), (5, .int (nI X))] [] w Q := by
  have hp := p256 hi8
  have h100 : (100 : Int32) - nI s = nI (100 - s) := pk_sub (a := 100) hs
  intro r
  induction r with
  | zero =>
    intro X w hX hT
    have e1 : X = 2 ^ i := by omega
    subst e1
    exact BX11_trySlips_23 _ _ _ _ _ w (hT.1.1.trans g2) Q ⟨fun _ => kk w hT, fun z => absurd (by rw [sh_n hi8]; exact nI_le (Nat.le_refl _) (by omega)) z⟩
  | succ r ih =>
    intro X w hX hT
    have hw : w.2.2 = RM := hT.1.1.trans g2
    have e30 : wi w 3 0 = nI s := (hT.1.2 3 0 (Or.inr (by decide))).trans hs0
    have hml2 := m_le (k := 2) (c := c) (t := t) (xs_bd hc hi X) hi8
    have inner : ∀ (r' j : Nat), j + r' = i → Go SR mX11_trySlips 37 [(0, .ref 0), (1, .int (nI d)), (2, .int (nI i)), (3, .int c), (4, .int t), (5, .int (nI X)), (6, .long (lN (wtF s X j))), (8, .int (nI j))] [] w Q := by
      intro r'
      induction r' with
      | zero =>
        intro j hj
        have e1 : j = i := by omega
        subst e1
        refine BX11_trySlips_37 _ _ _ _ _ _ _ w hw Q ⟨fun _ => ?_, fun z => absurd (nI_le (Nat.le_refl j) (by omega)) z⟩
        refine rDL (M := nI X) g2 hc hu h2 hi hT.1 (fun w1 h1 hl => ?_)
        have q46 : wl w1 0 46 = lN (sumN (fun X => wtF s X j) X) := (wl_eq hl 0 46).trans hT.2.2.1
        have q47 : ∀ v, wl (sl w1 0 46 v) 0 47 = lN (sumN (lkF b wc d j s 0 c t) X) := fun v => (wl_ne (Or.inr (by decide))).trans ((wl_eq hl 0 47).trans hT.2.2.2.1)
        have q48 : ∀ v v', wl (sl (sl w1 0 46 v) 0 47 v') 0 48 = lN (sumN (lkF b wc d j s 1 c t) X) := fun v v' => (wl_ne (Or.inr (by decide))).trans ((wl_ne (Or.inr (by decide))).trans ((wl_eq hl 0 48).trans hT.2.2.2.2.1))
        have q49 : ∀ v v' v'', wl (sl (sl (sl w1 0 46 v) 0 47 v') 0 48 v'') 0 49 = lN (sumN (lkF b wc d j s 2 c t) X) := fun v v' v'' => (wl_ne (Or.inr (by decide))).trans ((wl_ne (Or.inr (by decide))).trans ((wl_ne (Or.inr (by decide))).trans ((wl_eq hl 0 49).trans hT.2.2.2.2.2)))
        have qe : ∀ v, vXX11_endOf c (sl w1 0 46 v) = goalF c (xsF b wc d j X) := fun v => by
          show vXX11_endOf c w1 = _
          unfold vXX11_endOf goalF
          rw [h1.2.2.1, h1.2.2.2]
          rfl
        have qn : ∀ v v', vXX11_isNothing (sl (sl w1 0 46 v) 0 47 v') = if (xsF b wc d j X).1 = 0 then 1 else 0 := fun v v' => by
          show vXX11_isNothing w1 = _
          unfold vXX11_isNothing
          rw [h1.2.2.1]
          rfl
        have i0 : (if goalF c (xsF b wc d j X) = t then lN (wtF s X j) else 0 : Int64) = lN (lkF b wc d j s 0 c t X) := by
          unfold lkF mN
          rw [if_pos rfl]
          by_cases cg : goalF c (xsF b wc d j X) = t
          · rw [if_pos cg, if_pos cg, Nat.mul_one]
          · rw [if_neg cg, if_neg cg, Nat.mul_zero, lN_0]
        have i1 : (if (if (xsF b wc d j X).1 = 0 then 1 else 0 : Int32) = 0 then 0 else lN (wtF s X j) : Int64) = lN (lkF b wc d j s 1 c t X) := by
          unfold lkF
          rw [show mN 1 c t (xsF b wc d j X) = if (xsF b wc d j X).1 = 0 then 1 else 0 from rfl]
          by_cases cg : (xsF b wc d j X).1 = 0
          · rw [if_pos cg, if_neg no10, if_pos cg, Nat.mul_one]
          · rw [if_neg cg, if_pos rfl, if_neg cg, Nat.mul_zero, lN_0]
        simp only [q46, q47, q48, q49, qe, qn]
        rw [i0, i1, lN_add, lN_add, lN_add]
        refine z_lay2 (x := xsF b wc d j X) (w := sl (sl (sl w1 0 46 _) 0 47 _) 0 48 _) (h1.1.trans hw) h1.2.2.1 h1.2.2.2 ((xs_bd hc hi X).sm (by omega)) (fun w2 hL hl2 => ?_)
        have i2 : lN (sumN (lkF b wc d j s 2 c t) X) + lN (wtF s X j) * (nI (fparts (xsF b wc d j X).1 (xsF b wc d j X).2).sum).toInt64 = lN (sumN (lkF b wc d j s 2 c t) (X + 1)) := by
          have : (fparts (xsF b wc d j X).1 (xsF b wc d j X).2).sum = mN 2 c t (xsF b wc d j X) := rfl
          rw [this, nI_l (by omega), lN_mul, lN_add]
          rfl
        rw [i2, nI_1]
        refine ih (X + 1) _ (by omega) ⟨(((hT.1.tr h1.same).sl.sl.sl).tr hL.same).sl, ?_, ?_, ?_, ?_, wl_self _ _ _ _⟩
        · exact (hL.2 0 11 (by decide) (by decide)).trans ((h1.2.1 0 11 (by decide)).trans hT.2.1)
        · exact (wl_ne (Or.inr (by decide))).trans ((wl_eq hl2 0 46).trans ((wl_ne (Or.inr (by decide))).trans ((wl_ne (Or.inr (by decide))).trans (wl_self _ _ _ _))))
        · exact (wl_ne (Or.inr (by decide))).trans ((wl_eq hl2 0 47).trans ((wl_ne (Or.inr (by decide))).trans (wl_self _ _ _ _)))
        · exact (wl_ne (Or.inr (by decide))).trans ((wl_eq hl2 0 48).trans (wl_self _ _ _ _))
      | succ r' ihr =>
        intro j hj
        have hb : vXX11_hasBit (nI X) (nI j) = bI (decide (X / 2 ^ j % 2 = 1)) := by rw [hasBit_bt _ (by omega), bt_8 X (by omega) j (by omega)]
        have next := ihr (j + 1) (by omega)
        rw [wtF] at next
        refine BX11_trySlips_37 _ _ _ _ _ _ _ w hw Q ⟨fun z => absurd z (nI_ge (by omega) (by omega)), fun _ => ?_⟩
        rw [hb, e30, h100, nI_l (by omega), nI_l (by omega), lN_mul, lN_mul, nI_1]
        refine ⟨fun z => ?_, fun z => ?_⟩
        · rw [if_neg (fun y => absurd (bI_0.mp z) (by rw [decide_eq_true y]; decide))] at next
          exact next
        · rw [if_pos (of_decide_eq_true (bI_1.mp z))] at next
          exact next
    refine BX11_trySlips_23 _ _ _ _ _ w hw Q ⟨fun z => absurd z (by rw [sh_n hi8]; exact nI_ge (by omega) (by omega)), fun _ => ?_⟩
    have := inner i 0 (by omega)
    rw [wtF] at this
    exact this
theorem z_try {b : Bool} {wc wr : Wd} {n d m i s u : Nat} (g2 : wr.2.2 = RM) (hc : Ctx b wc wr n d m) (hu : u ≤ 4) (h2 : wi wr 3 2 = nI u) (hi : i ≤ m) (hi8 : i ≤ 8) (hs : s ≤ 100) (hs0 : wi wr 3 0 = nI s) {c t : Int32} {K : Wd → Prop} (kk : ∀ w', TI b wc wr w' d i s c t (2 ^ i) → K w') : ClV SR mX11_trySlips [.ref 0, .int (nI d), .int (nI i), .int c, .int t] (wXX11_anew wr) (fun w2 => w2.2.2 = RM ∧ K w2) := by
  refine TX11_trySlips _ _ _ _ _ (an_R g2) _ ?_
  rw [← nI_0]
  refine l_try g2 hc hu h2 hi hi8 hs hs0 (fun w' h => ⟨rfl, h.1.1.trans g2, kk w' h⟩) (2 ^ i) 0 _ (by omega) ⟨(an_same wr).sl.sl.sl.sl, an_11 wr, ?_, ?_, ?_, wl_self _ _ _ _⟩
  · exact (wl_ne (Or.inr (by decide))).trans ((wl_ne (Or.inr (by decide))).trans ((wl_ne (Or.inr (by decide))).trans (wl_self _ _ _ _)))
  · exact (wl_ne (Or.inr (by decide))).trans ((wl_ne (Or.inr (by decide))).trans (wl_self _ _ _ _))
  · exact (wl_ne (Or.inr (by decide))).trans (wl_self _ _ _ _)
/-- the reference's reason, when a dance is there -/
theorem sW {b : Bool} {wc wr : Wd} {n d m : Nat} (g2 : wr.2.2 = RM) (hc : Ctx b wc wr n d m) {f a2 : Int32} (hf : ¬ f = 0) {K : Int32 → Wd → Prop} (k2 : (vXX11_in a2 0 8 = 0 ∨ (¬ vXX11_in a2 0 8 = 0 ∧ nI m < a2)) → K 2 (wXX11_anew wr)) (k0 : ¬ vXX11_in a2 0 8 = 0 → ¬ nI m < a2 → K 0 (wXX11_anew wr)) : ClI SR mX11_slipWhy [.ref 0, .int f, .int (nI d), .int a2] (wXX11_anew wr) (fun y w2 => w2.2.2 = RM ∧ K y w2) := by
  obtain ⟨hn, hd, m1, m2, f4, f5, f6, m3, m4, m5⟩ := hc
  refine TX11_slipWhy _ _ _ _ (an_R g2) _ ⟨fun z => absurd z hf, fun _ => ⟨fun z => ⟨_, rfl, an_R g2, k2 (Or.inl z)⟩, fun z => ⟨by rw [n4]; exact nI_in (by omega) (by decide), _, rfl, an_R g2, ?_⟩⟩⟩
  rw [n4, nI_clamp (by omega), an_ne (Or.inl (by decide)), m4]
  by_cases y : nI m < a2
  · rw [if_pos y]
    exact k2 (Or.inr ⟨z, y⟩)
  · rw [if_neg y]
    exact k0 z y
theorem sW1 {wr : Wd} (g2 : wr.2.2 = RM) {f a1 a2 : Int32} (hf : f = 0) {K : Int32 → Wd → Prop} (k1 : K 1 (wXX11_anew wr)) : ClI SR mX11_slipWhy [.ref 0, .int f, .int a1, .int a2] (wXX11_anew wr) (fun y w2 => w2.2.2 = RM ∧ K y w2) :=
  TX11_slipWhy _ _ _ _ (an_R g2) _ ⟨fun _ => ⟨_, rfl, an_R g2, k1⟩, fun z => absurd hf z⟩
theorem slips_of {b : Bool} {wc wr : Wd} (hR : Rel b wc wr) : ∃ s u : Nat, s ≤ 100 ∧ wi wc (hA b) 0 = nI s ∧ wi wr 3 0 = nI s ∧ u ≤ 4 ∧ wi wr 3 2 = nI u := by
  obtain ⟨g1, g2, g3, g4, g5, g6, n, ⟨u, e, f1, f2, f3, f4, f5, f6, f7, f8, f9, f10, f11, f12, f13, f14, f15, f16, f17⟩, g8⟩ := hR
  have h := nn_nat f8
  exact ⟨_, u, by omega, f7.trans h, h, f2, f11⟩
theorem fin_sl {b : Bool} {wc wr wc' wr' : Wd} (hR : Rel b wc wr) (hc : SameC wc wc') (hr : SameR wr wr') (h10 : wi wc' 0 10 = 0) (h11 : wi wr' 0 11 = 0) : RelE wc' wr' := ⟨b, rel_scr hR hc hr (h10.trans h11.symm) (fun q => by rw [h11] at q; exact absurd q (by decide))⟩
theorem ms_1 (k : Int32) (c t : Int32) (w : Wd) : wi (wXX0_measure k c t w) 62 1 = k ∧ wi (wXX0_measure k c t w) 62 2 = c ∧ wi (wXX0_measure k c t w) 62 3 = t :=
  ⟨(wi_ne (Or.inr (by decide))).trans ((wi_ne (Or.inr (by decide))).trans (wi_self _ _ _ _)), (wi_ne (Or.inr (by decide))).trans (wi_self _ _ _ _), wi_self _ _ _ _⟩
theorem ms_S (k : Int32) (c t : Int32) (w : Wd) : SameC w (wXX0_measure k c t w) := (((SameC.rf w).si (fun h => absurd h.2 (by decide))).si (fun h => absurd h.2 (by decide))).si (fun h => absurd h.2 (by decide))
theorem not_k2 {i m : Nat} (hi8 : i ≤ 8) (him : i ≤ m) (hm : m ≤ 12) : ¬ (vXX11_in (nI i) 0 8 = 0 ∨ (¬ vXX11_in (nI i) 0 8 = 0 ∧ nI m < nI i)) := by
  have h1 : vXX11_in (nI i) 0 8 = 1 := row_in (m := 8) (by decide) hi8
  rintro (h | h)
  · rw [h1] at h
    exact absurd h (by decide)
  · have := (nI_ltI (by omega) (by omega)).mp h.2
    omega
theorem pr_untied {wc wr : Wd} (h : RelE wc wr) (a1 a2 a3 : Int32) (h3 : a3 = 0 ∨ a3 = 1) : PairL mX10_untied mX11_untied [a1, a2, a3] wc wr := by
  obtain ⟨b, hR⟩ := h
  obtain ⟨n, hn, f4, f5, f6, fD⟩ := cx hR
  obtain ⟨s, u, hs, hs1, hs2, hu, hu2⟩ := slips_of hR
  have g1 := hR.1
  have g2 := hR.2.1
  refine TX10_untied _ _ _ wc b g1 _ ⟨fun q => ?_, fun q => ⟨_, rfl, TX11_untied _ _ _ wr g2 _ (isdA g2 hn f5 f6 (fun z => absurd ((din_c hn f4).mpr z) q) fun _ => sW1 g2 rfl ⟨fun y => absurd y (by decide), fun _ => ⟨_, rfl, rfl, fin_noA hR (by decide)⟩⟩)⟩⟩
  obtain ⟨d, hd, rfl⟩ := (din_c hn f4).mp q
  obtain ⟨m, hc⟩ := ctx_of hn hd f4 f5 f6 (fD d hd)
  obtain ⟨q1, q2, q3⟩ := ms_1 1 (-1) (-1) wc
  rw [d_clamp hn hd]
  refine z_likely (k := 1) g1 hc hs hs1 (by decide) (ms_S _ _ _ wc) q1 q2 q3 (fun hk => ⟨_, rfl, TX11_untied _ _ _ wr g2 _ (isdA g2 hn f5 f6 (fun _ => sW g2 hc no10 (fun _ => ⟨fun y => absurd y (by decide), fun _ => ⟨_, rfl, rfl, fin_no hR (ms_S _ _ _ wc) (an_same wr) (by decide)⟩⟩) (fun z1 z2 => by rcases hk with h | h; exact absurd h z1; exact absurd h.2 z2)) fun q => absurd ⟨d, hd, rfl⟩ q)⟩) (fun i e hi8 him w' hS h10 => ⟨_, rfl, ?_⟩)
  subst e
  obtain ⟨b1, b2, b3⟩ := lk_bd hc him hi8 hs 1 0 1
  refine TX11_untied _ _ _ wr g2 _ (isdA g2 hn f5 f6 (fun _ => sW g2 hc no10 (fun hk => absurd hk (not_k2 hi8 him hc.2.2.2.1)) (fun _ _ => ⟨fun _ => z_try g2 hc hu hu2 him hi8 hs hs2 (fun w'' hT => ?_), fun y => absurd rfl y⟩)) fun q => absurd ⟨d, hd, rfl⟩ q)
  rw [hT.2.2.2.2.1, hT.2.2.1, wt_all hs]
  refine z_lowest (hT.1.1.trans g2) b1 b2 b3 ⟨_, rfl, rfl, fin_sl hR hS hT.1 h10 hT.2.1⟩
theorem pr_mean {wc wr : Wd} (h : RelE wc wr) (a1 a2 a3 : Int32) (h3 : a3 = 0 ∨ a3 = 1) : PairL mX10_mean mX11_mean [a1, a2, a3] wc wr := by
  obtain ⟨b, hR⟩ := h
  obtain ⟨n, hn, f4, f5, f6, fD⟩ := cx hR
  obtain ⟨s, u, hs, hs1, hs2, hu, hu2⟩ := slips_of hR
  have g1 := hR.1
  have g2 := hR.2.1
  refine TX10_mean _ _ _ wc b g1 _ ⟨fun q => ?_, fun q => ⟨_, rfl, TX11_mean _ _ _ wr g2 _ (isdA g2 hn f5 f6 (fun z => absurd ((din_c hn f4).mpr z) q) fun _ => sW1 g2 rfl ⟨fun y => absurd y (by decide), fun _ => ⟨_, rfl, rfl, fin_noA hR (by decide)⟩⟩)⟩⟩
  obtain ⟨d, hd, rfl⟩ := (din_c hn f4).mp q
  obtain ⟨m, hc⟩ := ctx_of hn hd f4 f5 f6 (fD d hd)
  obtain ⟨q1, q2, q3⟩ := ms_1 2 (-1) (-1) wc
  rw [d_clamp hn hd]
  refine z_likely (k := 2) g1 hc hs hs1 (by decide) (ms_S _ _ _ wc) q1 q2 q3 (fun hk => ⟨_, rfl, TX11_mean _ _ _ wr g2 _ (isdA g2 hn f5 f6 (fun _ => sW g2 hc no10 (fun _ => ⟨fun y => absurd y (by decide), fun _ => ⟨_, rfl, rfl, fin_no hR (ms_S _ _ _ wc) (an_same wr) (by decide)⟩⟩) (fun z1 z2 => by rcases hk with h | h; exact absurd h z1; exact absurd h.2 z2)) fun q => absurd ⟨d, hd, rfl⟩ q)⟩) (fun i e hi8 him w' hS h10 => ⟨_, rfl, ?_⟩)
  subst e
  obtain ⟨b1, b2, b3⟩ := lk_bd hc him hi8 hs 2 0 1
  refine TX11_mean _ _ _ wr g2 _ (isdA g2 hn f5 f6 (fun _ => sW g2 hc no10 (fun hk => absurd hk (not_k2 hi8 him hc.2.2.2.1)) (fun _ _ => ⟨fun _ => z_try g2 hc hu hu2 him hi8 hs hs2 (fun w'' hT => ?_), fun y => absurd rfl y⟩)) fun q => absurd ⟨d, hd, rfl⟩ q)
  rw [hT.2.2.2.2.2, hT.2.2.1, wt_all hs]
  refine z_lowest (hT.1.1.trans g2) b1 b2 b3 ⟨_, rfl, rfl, fin_sl hR hS hT.1 h10 hT.2.1⟩
theorem pr_odds {wc wr : Wd} (h : RelE wc wr) (a1 a2 a3 a4 a5 : Int32) (h5 : a5 = 0 ∨ a5 = 1) : PairL mX10_odds mX11_odds [a1, a2, a3, a4, a5] wc wr := by
  obtain ⟨b, hR⟩ := h
  obtain ⟨n, hn, f4, f5, f6, fD⟩ := cx hR
  obtain ⟨s, u, hs, hs1, hs2, hu, hu2⟩ := slips_of hR
  have g1 := hR.1
  have g2 := hR.2.1
  refine TX10_odds _ _ _ _ _ wc b g1 _ ⟨fun q => ?_, fun q => ⟨_, rfl, TX11_odds _ _ _ _ _ wr g2 _ (isdA g2 hn f5 f6 (fun z => absurd ((din_c hn f4).mpr z) q) fun _ => sW1 g2 rfl ⟨fun y => absurd y (by decide), fun _ => ⟨_, rfl, rfl, fin_noA hR (by decide)⟩⟩)⟩⟩
  obtain ⟨d, hd, rfl⟩ := (din_c hn f4).mp q
  obtain ⟨m, hc⟩ := ctx_of hn hd f4 f5 f6 (fD d hd)
  obtain ⟨q1, q2, q3⟩ := ms_1 0 a3 a4 wc
  rw [d_clamp hn hd, rope_c]
  refine ⟨fun z => ⟨_, rfl, TX11_odds _ _ _ _ _ wr g2 _ (isdA g2 hn f5 f6 (fun _ => sW1 g2 (by rw [if_neg no10, if_pos z]) ⟨fun y => absurd y (by decide), fun _ => ⟨_, rfl, rfl, fin_noA hR (by decide)⟩⟩) fun q => absurd ⟨d, hd, rfl⟩ q)⟩, fun z => ?_⟩
  have hf : ¬ (if (1 : Int32) = 0 then 0 else (if vXX11_areCorners a3 a4 = 0 then 0 else 1 : Int32) : Int32) = 0 := by
    rw [if_neg no10, if_neg z]
    decide
  refine z_likely (k := 0) g1 hc hs hs1 (by decide) (ms_S _ _ _ wc) q1 q2 q3 (fun hk => ⟨_, rfl, TX11_odds _ _ _ _ _ wr g2 _ (isdA g2 hn f5 f6 (fun _ => sW g2 hc hf (fun _ => ⟨fun y => absurd y (by decide), fun _ => ⟨_, rfl, rfl, fin_no hR (ms_S _ _ _ wc) (an_same wr) (by decide)⟩⟩) (fun z1 z2 => by rcases hk with h | h; exact absurd h z1; exact absurd h.2 z2)) fun q => absurd ⟨d, hd, rfl⟩ q)⟩) (fun i e hi8 him w' hS h10 => ⟨_, rfl, ?_⟩)
  subst e
  obtain ⟨b1, b2, b3⟩ := lk_bd hc him hi8 hs 0 a3 a4
  refine TX11_odds _ _ _ _ _ wr g2 _ (isdA g2 hn f5 f6 (fun _ => sW g2 hc hf (fun hk => absurd hk (not_k2 hi8 him hc.2.2.2.1)) (fun _ _ => ⟨fun _ => z_try g2 hc hu hu2 him hi8 hs hs2 (fun w'' hT => ?_), fun y => absurd rfl y⟩)) fun q => absurd ⟨d, hd, rfl⟩ q)
  rw [hT.2.2.2.1, hT.2.2.1, wt_all hs]
  refine z_lowest (hT.1.1.trans g2) b1 b2 b3 ⟨_, rfl, rfl, fin_sl hR hS hT.1 h10 hT.2.1⟩
