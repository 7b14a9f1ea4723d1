/-! rows asked one after another: the most crossings, and the first at which a rope goes to a corner -/
def rC (b : Bool) (wc : Wd) (d : Nat) (j : Nat) : Int32 × Int32 := run (fun i => wi wc (dA (hA b) d + 1) i) (skC 0) j
theorem rC_sm {b : Bool} {wc wr : Wd} {n d m j : Nat} (hc : Ctx b wc wr n d m) (hj : j ≤ m) : Sm (rC b wc d j).1 (rC b wc d j).2 := by
  obtain ⟨hn, hd, m1, m2, f4, f5, f6, m3, m4, m5⟩ := hc
  exact (run_bd j (by omega) (fun i hi => by
    have := m5 i (by omega)
    show Fig (wi wc (dA (hA b) d + 1) i)
    rw [this.1]
    exact this.2)).sm (by omega)
def mostF (S : Nat → Int32) : Nat → Int32 × Int32
  | 0 => (0, -1)
  | j + 1 => if S j ≤ (mostF S j).2 then mostF S j else (nI j, S j)
def goF (P : Nat → Bool) : Nat → Nat → Int32
  | 0, _ => -2
  | r + 1, j => if P j then nI j else goF P r (j + 1)
def goalF (c : Int32) (x : Int32 × Int32) : Int32 := if x.1 % 2 = 0 then c ^^^ 1 else if x.2 % 2 = 0 then c ^^^ 2 else c ^^^ 3
def crF (b : Bool) (wc : Wd) (d : Nat) (j : Nat) : Int32 := nI (fparts (rC b wc d j).1 (rC b wc d j).2).sum
theorem wkC {b : Bool} {wc wr w : Wd} {n d m j : Nat} (g1 : wc.2.2 = RTab b) (hc : Ctx b wc wr n d m) (hj : j ≤ m) (hS : SameC wc w) {Q : Wd → Prop} (k : ∀ w', TW 55 w w' (rC b wc d j) → Q w') : ClV SC mX1_walk [.ref (dA (hA b) d), .int (nI j), .int 0, .ref 55] w (fun w2 => w2.2.2 = RTab b ∧ Q w2) := by
  obtain ⟨hn, hd, m1, m2, f4, f5, f6, m3, m4, m5⟩ := hc
  have hlt := dA_lt b (d := d) (by omega)
  have eF : (fun i => wi w (dA (hA b) d + 1) i) = fun i => wi wc (dA (hA b) d + 1) i := funext fun i => hS.2 _ i (dA_rel b (k := 1) (by omega) (by decide))
  refine z_walk (by omega) rfl (by omega) (by omega) (hS.1.trans g1) ((hS.2 _ 1 (dA_rel b (k := 0) (by omega) (by decide))).trans m3) hj m2 (fun w' h => k w' ?_)
  rw [eF] at h
  exact h
theorem l_mostC {b : Bool} {wc wr : Wd} {n d m : Nat} (g1 : wc.2.2 = RTab b) (hc : Ctx b wc wr n d m) {l1 : Int32} {Q : Option Value → Wd → Prop} (kk : ∀ w', SameC wc w' → Q (some (.int (mostF (crF b wc d) (m + 1)).1)) (wXX10_accept (mostF (crF b wc d) (m + 1)).1 w')) : ∀ (r j : Nat) (w : Wd), j + r = m + 1 → SameC wc w → Go SC mX10_mostAt 28 [(0, .ref 0), (1, .int l1), (2, .ref (dA (hA b) d)), (3, .int (mostF (crF b wc d) j).1), (4, .int (mostF (crF b wc d) j).2), (5, .int (nI j))] [] w Q := by
  have hd5 : d < 5 := by have := hc.1; have := hc.2.1; omega
  have hm12 := hc.2.2.2.1
  intro r
  induction r with
  | zero =>
    intro j w hj hS
    have : j = m + 1 := by omega
    subst this
    refine BX10_mostAt_28 _ d hd5 _ _ _ w b (hS.1.trans g1) Q ⟨fun _ => kk w hS, fun z => absurd ?_ z⟩
    rw [hS.2 (dA (hA b) d) 1 (dA_rel b (k := 0) hd5 (by decide)), hc.2.2.2.2.2.2.2.1]
    exact nI_lt (by omega) (by omega)
  | succ r ih =>
    intro j w hj hS
    refine BX10_mostAt_28 _ d hd5 _ _ _ w b (hS.1.trans g1) Q ⟨fun z => ?_, fun _ => ?_⟩
    · rw [hS.2 (dA (hA b) d) 1 (dA_rel b (k := 0) hd5 (by decide)), hc.2.2.2.2.2.2.2.1] at z
      exact absurd z (nI_nlt (by omega) (by omega))
    · refine wkC g1 hc (by omega) hS (fun w1 h => ?_)
      have hsm := rC_sm hc (j := j) (by omega)
      refine z_crossed rfl (h.1.trans (hS.1.trans g1)) (by rw [h.2.2.1, h.2.2.2]; exact hsm) ?_
      have e : nI (fparts (wi w1 55 0) (wi w1 55 1)).sum = crF b wc d j := by rw [h.2.2.1, h.2.2.2]; rfl
      rw [e, nI_1]
      have e1 : (if crF b wc d j ≤ (mostF (crF b wc d) j).2 then (mostF (crF b wc d) j).1 else nI j) = (mostF (crF b wc d) (j + 1)).1 := by
        rw [mostF]
        split <;> rfl
      have e2 : (if crF b wc d j ≤ (mostF (crF b wc d) j).2 then (mostF (crF b wc d) j).2 else crF b wc d j) = (mostF (crF b wc d) (j + 1)).2 := by
        rw [mostF]
        split <;> rfl
      rw [e1, e2]
      exact ih (j + 1) w1 (by omega) (hS.tr (h.same nr55))
theorem dnR {b : Bool} {wc wr w : Wd} {n d m j u : Nat} (g2 : wr.2.2 = RM) (hc : Ctx b wc wr n d m) (hu : u ≤ 4) (h2 : wi wr 3 2 = nI u) (hj : j ≤ m) (hS : SameR wr w) {K : Wd → Prop} (k : ∀ w', TR w w' (rC b wc d j) → K w') : ClV SR mX11_dance [.ref 0, .int (nI d), .int (nI j), .int 0, .int 0] w (fun w2 => w2.2.2 = RM ∧ K w2) :=
  rD g2 hc hu h2 hj hS.1 (fun i => hS.2 3 i (Or.inr (by decide))) k
theorem l_mostR {b : Bool} {wc wr : Wd} {n d m u : Nat} (g2 : wr.2.2 = RM) (hc : Ctx b wc wr n d m) (hu : u ≤ 4) (h2 : wi wr 3 2 = nI u) {Q : Option Value → Wd → Prop} (kk : ∀ w', SameR wr w' → wi w' 0 11 = 0 → Q (some (.int (mostF (crF b wc d) (m + 1)).1)) w') : ∀ (r j : Nat) (w : Wd), j + r = m + 1 → SameR wr w → wi w 0 11 = 0 → Go SR mX11_mostAt 25 [(0, .ref 0), (1, .int (nI d)), (2, .int (mostF (crF b wc d) j).1), (3, .int (mostF (crF b wc d) j).2), (4, .int (nI j))] [] w Q := by
  have hd5 : d < 5 := by have := hc.1; have := hc.2.1; omega
  have hm12 := hc.2.2.2.1
  have hin : vp_in (4 + nI d) 146 := by rw [n4]; exact nI_in (by omega) (by decide)
  intro r
  induction r with
  | zero =>
    intro j w hj hS h11
    have : j = m + 1 := by omega
    subst this
    refine BX11_mostAt_25 _ _ _ _ w (hS.1.trans g2) Q ⟨hin, fun _ => kk w hS h11, fun z => absurd ?_ z⟩
    rw [n4, nI_clamp (by omega), hS.2 3 _ (Or.inr (by decide)), hc.2.2.2.2.2.2.2.2.1]
    exact nI_lt (by omega) (by omega)
  | succ r ih =>
    intro j w hj hS h11
    refine BX11_mostAt_25 _ _ _ _ w (hS.1.trans g2) Q ⟨hin, fun z => ?_, fun _ => ?_⟩
    · rw [n4, nI_clamp (by omega), hS.2 3 _ (Or.inr (by decide)), hc.2.2.2.2.2.2.2.2.1] at z
      exact absurd z (nI_nlt (by omega) (by omega))
    · refine dnR g2 hc hu h2 (by omega) hS (fun w1 h => ?_)
      have hsm := rC_sm hc (j := j) (by omega)
      refine z_lay (h.1.trans (hS.1.trans g2)) (by rw [h.2.2.1, h.2.2.2]; exact hsm) (fun w2 e1 _ _ => ?_)
      have e : nI (fparts (wi w1 0 23) (wi w1 0 24)).sum = crF b wc d j := by rw [h.2.2.1, h.2.2.2]; rfl
      rw [e, nI_1]
      have e3 : (if (mostF (crF b wc d) j).2 < crF b wc d j then nI j else (mostF (crF b wc d) j).1) = (mostF (crF b wc d) (j + 1)).1 := by
        rw [mostF]
        by_cases c : crF b wc d j ≤ (mostF (crF b wc d) j).2
        · rw [if_pos c, if_neg (Int32.not_lt.mpr c)]
        · rw [if_neg c, if_pos (Int32.not_le.mp c)]
      have e4 : (if (mostF (crF b wc d) j).2 < crF b wc d j then crF b wc d j else (mostF (crF b wc d) j).2) = (mostF (crF b wc d) (j + 1)).2 := by
        rw [mostF]
        by_cases c : crF b wc d j ≤ (mostF (crF b wc d) j).2
        · rw [if_pos c, if_neg (Int32.not_lt.mpr c)]
        · rw [if_neg c, if_pos (Int32.not_le.mp c)]
      rw [e3, e4]
      exact ih (j + 1) w2 (by omega) (hS.tr (h.same.tr e1.same)) ((e1.2 0 11 (by decide) (by decide)).trans ((h.2.1 0 11 (by decide)).trans h11))
theorem l_goC {b : Bool} {wc wr : Wd} {n d m : Nat} (g1 : wc.2.2 = RTab b) (hc : Ctx b wc wr n d m) {l1 l2 l3 : Int32} {Q : Option Value → Wd → Prop} {V : Int32} (kk : ∀ w', SameC wc w' → Q (some (.int V)) (wXX10_accept V w')) : ∀ (r j : Nat) (w : Wd), j + r = m + 1 → SameC wc w → goF (fun i => decide (goalF l2 (rC b wc d i) = l3)) r j = V → Go SC mX10_goesFirst 33 [(0, .ref 0), (1, .int l1), (2, .int l2), (3, .int l3), (4, .ref (dA (hA b) d)), (5, .int (nI j))] [] w Q := by
  have hd5 : d < 5 := by have := hc.1; have := hc.2.1; omega
  have hm12 := hc.2.2.2.1
  intro r
  induction r with
  | zero =>
    intro j w hj hS hV
    have : j = m + 1 := by omega
    subst this
    refine BX10_goesFirst_33 _ _ _ d hd5 _ w b (hS.1.trans g1) Q ⟨fun _ => ?_, fun z => absurd ?_ z⟩
    · rw [goF] at hV
      subst hV
      exact kk w hS
    · rw [hS.2 (dA (hA b) d) 1 (dA_rel b (k := 0) hd5 (by decide)), hc.2.2.2.2.2.2.2.1]
      exact nI_lt (by omega) (by omega)
  | succ r ih =>
    intro j w hj hS hV
    refine BX10_goesFirst_33 _ _ _ d hd5 _ w b (hS.1.trans g1) Q ⟨fun z => ?_, fun _ => ?_⟩
    · rw [hS.2 (dA (hA b) d) 1 (dA_rel b (k := 0) hd5 (by decide)), hc.2.2.2.2.2.2.2.1] at z
      exact absurd z (nI_nlt (by omega) (by omega))
    · refine wkC g1 hc (by omega) hS (fun w1 h => ?_)
      have e : vXX7_goalOf 55 l2 w1 = goalF l2 (rC b wc d j) := by
        unfold vXX7_goalOf goalF
        rw [h.2.2.1, h.2.2.2]
      rw [e, nI_1]
      rw [goF] at hV
      refine ⟨fun z => ?_, fun z => ?_⟩
      · rw [if_pos (decide_eq_true z)] at hV
        subst hV
        exact kk w1 (hS.tr (h.same nr55))
      · rw [if_neg (by rw [decide_eq_false z]; decide)] at hV
        exact ih (j + 1) w1 (by omega) (hS.tr (h.same nr55)) hV
theorem l_goR {b : Bool} {wc wr : Wd} {n d m u : Nat} (g2 : wr.2.2 = RM) (hc : Ctx b wc wr n d m) (hu : u ≤ 4) (h2 : wi wr 3 2 = nI u) {l2 l3 : Int32} {Q : Option Value → Wd → Prop} {V : Int32} (kk : ∀ w', SameR wr w' → wi w' 0 11 = 0 → Q (some (.int V)) w') : ∀ (r j : Nat) (w : Wd), j + r = m + 1 → SameR wr w → wi w 0 11 = 0 → goF (fun i => decide (goalF l2 (rC b wc d i) = l3)) r j = V → Go SR mX11_goesFirst 30 [(0, .ref 0), (1, .int (nI d)), (2, .int l2), (3, .int l3), (4, .int (nI j))] [] w Q := by
  have hd5 : d < 5 := by have := hc.1; have := hc.2.1; omega
  have hm12 := hc.2.2.2.1
  have hin : vp_in (4 + nI d) 146 := by rw [n4]; exact nI_in (by omega) (by decide)
  intro r
  induction r with
  | zero =>
    intro j w hj hS h11 hV
    have : j = m + 1 := by omega
    subst this
    refine BX11_goesFirst_30 _ _ _ _ w (hS.1.trans g2) Q ⟨hin, fun _ => ?_, fun z => absurd ?_ z⟩
    · rw [goF] at hV
      subst hV
      exact kk w hS h11
    · rw [n4, nI_clamp (by omega), hS.2 3 _ (Or.inr (by decide)), hc.2.2.2.2.2.2.2.2.1]
      exact nI_lt (by omega) (by omega)
  | succ r ih =>
    intro j w hj hS h11 hV
    refine BX11_goesFirst_30 _ _ _ _ w (hS.1.trans g2) Q ⟨hin, fun z => ?_, fun _ => ?_⟩
    · rw [n4, nI_clamp (by omega), hS.2 3 _ (Or.inr (by decide)), hc.2.2.2.2.2.2.2.2.1] at z
      exact absurd z (nI_nlt (by omega) (by omega))
    · refine dnR g2 hc hu h2 (by omega) hS (fun w1 h => ?_)
      have h11' := (h.2.1 0 11 (by decide)).trans h11
      have e : vXX11_endOf l2 w1 = goalF l2 (rC b wc d j) := by
        unfold vXX11_endOf goalF
        rw [h.2.2.1, h.2.2.2]
      rw [e, nI_1]
      rw [goF] at hV
      refine ⟨fun z => ?_, fun z => ?_⟩
      · rw [if_pos (decide_eq_true z)] at hV
        subst hV
        exact kk w1 (hS.tr h.same) h11'
      · rw [if_neg (by rw [decide_eq_false z]; decide)] at hV
        exact ih (j + 1) w1 (by omega) (hS.tr h.same) h11' hV
theorem rope_c (a1 a2 : Int32) : vXX10_isRope a1 a2 = vXX11_areCorners a1 a2 := by
  unfold vXX10_isRope vXX11_areCorners
  rw [corner_in, corner_in]
theorem pr_mostAt {wc wr : Wd} (h : RelE wc wr) (a1 : Int32)  : PairI mX10_mostAt mX11_mostAt [a1] wc wr := by
  obtain ⟨b, hR⟩ := h
  obtain ⟨n, hn, f4, f5, f6, fD⟩ := cx hR
  have g1 := hR.1
  have g2 := hR.2.1
  refine TX10_mostAt _ wc b g1 _ ⟨fun q => ?_, fun q => ⟨_, rfl, TX11_mostAt _ wr g2 _ (isdA g2 hn f5 f6 (fun z => absurd ((din_c hn f4).mpr z) q) fun _ => ⟨fun _ => ⟨_, rfl, rfl, fin_noA hR (by decide)⟩, fun q => absurd rfl q⟩)⟩⟩
  obtain ⟨d, hd, rfl⟩ := (din_c hn f4).mp q
  obtain ⟨m, hc⟩ := ctx_of hn hd f4 f5 f6 (fD d hd)
  obtain ⟨u, hu, h2⟩ := uns_n hR
  rw [d_clamp hn hd]
  refine l_mostC g1 hc (fun w' hS => ⟨_, rfl, ?_⟩) (m + 1) 0 wc (by omega) (SameC.rf _)
  refine TX11_mostAt _ wr g2 _ (isdA g2 hn f5 f6 (fun _ => ⟨fun q => absurd q no10, fun _ => ?_⟩) fun q => absurd ⟨d, hd, rfl⟩ q)
  exact l_mostR g2 hc hu h2 (fun w'' hT h11 => ⟨_, rfl, rfl, fin_ok hR hS hT h11⟩) (m + 1) 0 _ (by omega) (an_same wr) (an_11 wr)
theorem pr_goesFirst {wc wr : Wd} (h : RelE wc wr) (a1 a2 a3 : Int32)  : PairI mX10_goesFirst mX11_goesFirst [a1, a2, a3] wc wr := by
  obtain ⟨b, hR⟩ := h
  obtain ⟨n, hn, f4, f5, f6, fD⟩ := cx hR
  have g1 := hR.1
  have g2 := hR.2.1
  refine TX10_goesFirst _ _ _ wc b g1 _ ⟨fun q => ?_, fun q => ⟨_, rfl, TX11_goesFirst _ _ _ wr g2 _ (isdA g2 hn f5 f6 (fun z => absurd ((din_c hn f4).mpr z) q) fun _ => ⟨fun _ => ⟨_, rfl, rfl, fin_noA hR (by decide)⟩, fun q => absurd rfl q⟩)⟩⟩
  obtain ⟨d, hd, rfl⟩ := (din_c hn f4).mp q
  obtain ⟨m, hc⟩ := ctx_of hn hd f4 f5 f6 (fD d hd)
  obtain ⟨u, hu, h2⟩ := uns_n hR
  rw [d_clamp hn hd, rope_c]
  refine ⟨fun z => ⟨_, rfl, TX11_goesFirst _ _ _ wr g2 _ (isdA g2 hn f5 f6 (fun _ => ⟨fun q => absurd q no10, fun _ => ⟨fun _ => ⟨_, rfl, rfl, fin_noA hR (by decide)⟩, fun y => absurd z y⟩⟩) fun q => absurd ⟨d, hd, rfl⟩ q)⟩, fun z => ?_⟩
  refine l_goC g1 hc (V := goF (fun i => decide (goalF a2 (rC b wc d i) = a3)) (m + 1) 0) (fun w' hS => ⟨_, rfl, ?_⟩) (m + 1) 0 wc (by omega) (SameC.rf _) rfl
  refine TX11_goesFirst _ _ _ wr g2 _ (isdA g2 hn f5 f6 (fun _ => ⟨fun q => absurd q no10, fun _ => ⟨fun y => absurd y z, fun _ => ?_⟩⟩) fun q => absurd ⟨d, hd, rfl⟩ q)
  exact l_goR g2 hc hu h2 (fun w'' hT h11 => ⟨_, rfl, rfl, fin_ok hR hS hT h11⟩) (m + 1) 0 _ (by omega) (an_same wr) (an_11 wr) rfl
