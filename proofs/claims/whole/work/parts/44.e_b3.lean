/-! rows with figures left out, drawn ones -/
theorem run_pairM {b : Bool} {wc wr : Wd} {n d m i u : Nat} (hc : Ctx b wc wr n d m) (hu : u ≤ 4) (hi : i ≤ m) {M : Int32} {w : Wd} (h3 : ∀ j, wi w 3 j = wi wr 3 j) : run (fun j => wi w 3 (9 + 12 * d + j)) (skR w 0 M d u) i = run (fun j => wi wc (dA (hA b) d + 1) j) (skC M) i := by
  obtain ⟨hn, hd, m1, m2, f4, f5, f6, m3, m4, m5⟩ := hc
  refine run_ext i fun j hj => ⟨(h3 _).trans (m5 j (by omega)).1.symm, ?_⟩
  unfold skR skC
  rw [uo0 u hu, Bool.or_false]
  rfl
theorem rDM {b : Bool} {wc wr : Wd} {n d m i u : Nat} (g2 : wr.2.2 = RM) (hc : Ctx b wc wr n d m) (hu : u ≤ 4) (h2 : wi wr 3 2 = nI u) (hi : i ≤ m) {M : Int32} {w : Wd} (hw : w.2.2 = wr.2.2) (h3 : ∀ j, wi w 3 j = wi wr 3 j) {K : Wd → Prop} (k : ∀ w', TR w w' (run (fun j => wi wc (dA (hA b) d + 1) j) (skC M) i) → K w') : ClV SR mX11_dance [.ref 0, .int (nI d), .int (nI i), .int 0, .int M] w (fun w2 => w2.2.2 = RM ∧ K w2) := by
  have hcc := hc
  obtain ⟨hn, hd, m1, m2, f4, f5, f6, m3, m4, m5⟩ := hc
  refine z_dance (by omega) (by omega) hu (hw.trans g2) ((h3 2).trans h2) (fun j hj => by rw [h3]; exact (m5 j (by omega)).2) (fun w' h => k w' ?_)
  rw [run_pairM hcc hu hi h3] at h
  exact h
theorem wkM {b : Bool} {wc wr w : Wd} {n d m j a : Nat} (ha : SC[a]? = some (.inl 6)) (ha55 : 55 ≤ a) (g1 : wc.2.2 = RTab b) (hc : Ctx b wc wr n d m) (hj : j ≤ m) (hS : SameC wc w) {M : Int32} {Q : Wd → Prop} (k : ∀ w', TW a w w' (run (fun i => wi wc (dA (hA b) d + 1) i) (skC M) j) → Q w') : ClV SC mX1_walk [.ref (dA (hA b) d), .int (nI j), .int M, .ref a] w (fun w2 => w2.2.2 = RTab b ∧ Q w2) := by
  obtain ⟨hn, hd, m1, m2, f4, f5, f6, m3, m4, m5⟩ := hc
  have hlt := dA_lt b (d := d) (by omega)
  have eF : (fun i => wi w (dA (hA b) d + 1) i) = fun i => wi wc (dA (hA b) d + 1) i := funext fun i => hS.2 _ i (dA_rel b (k := 1) (by omega) (by decide))
  refine z_walk (by omega) ha (by omega) (by omega) (hS.1.trans g1) ((hS.2 _ 1 (dA_rel b (k := 0) (by omega) (by decide))).trans m3) hj m2 (fun w' h => k w' ?_)
  rw [eF] at h
  exact h
def drS (s seed : Int32) : Nat → Int32 × Int32
  | 0 => (0, seed)
  | j + 1 => (if s ≤ ((75 * (drS s seed j).2 + 74) % 65537) % 100 then (drS s seed j).1 else (drS s seed j).1 ||| (1 <<< (nI j &&& 31)), (75 * (drS s seed j).2 + 74) % 65537)
theorem l_drawn {s seed l0 : Int32} {n : Nat} (hn : n < 1000) {b : Bool} {w : Wd} (hR : w.2.2 = RTab b) {Q : Option Value → Wd → Prop} (kk : Q (some (.int (drS s seed n).1)) w) : ∀ (r j : Nat), j + r = n → Go SC mX0_drawn 8 [(0, .int l0), (1, .int (nI n)), (2, .int s), (3, .int (drS s seed j).1), (4, .int (drS s seed j).2), (5, .int (nI j))] [] w Q := by
  intro r
  induction r with
  | zero =>
    intro j hj
    have e : j = n := by omega
    subst e
    exact BX0_drawn_8 _ _ _ _ _ _ w b hR Q ⟨fun _ => kk, fun z => absurd (nI_le (Nat.le_refl j) (by omega)) z⟩
  | succ r ih =>
    intro j hj
    refine BX0_drawn_8 _ _ _ _ _ _ w b hR Q ⟨fun z => absurd z (nI_ge (by omega) (by omega)), fun _ => ?_⟩
    rw [nI_1]
    exact ih (j + 1) (by omega)
theorem l_drawR {s seed l1 l2 l4 : Int32} {n : Nat} (hn : n < 1000) {w : Wd} (hR : w.2.2 = RM) (hs : wi w 3 0 = s) {Q : Option Value → Wd → Prop} (kk : ClV SR mX11_dance [.ref 0, .int l1, .int (nI n), .int 0, .int (drS s seed n).1] w (fun w1 => w1.2.2 = RM ∧ Q (some (.int 0)) w1)) : ∀ (r j : Nat), j + r = n → Go SR mX11_drawWhy 63 [(0, .ref 0), (1, .int l1), (2, .int l2), (3, .int (nI n)), (4, .int l4), (5, .int (drS s seed j).2), (6, .int (drS s seed j).1), (7, .int (nI j))] [] w Q := by
  intro r
  induction r with
  | zero =>
    intro j hj
    have e : j = n := by omega
    subst e
    exact BX11_drawWhy_63 _ _ _ _ _ _ _ w hR Q ⟨fun _ => kk, fun z => absurd (nI_le (Nat.le_refl j) (by omega)) z⟩
  | succ r ih =>
    intro j hj
    refine BX11_drawWhy_63 _ _ _ _ _ _ _ w hR Q ⟨fun z => absurd z (nI_ge (by omega) (by omega)), fun _ => ?_⟩
    have e : (drS s seed j).1 ||| (if s ≤ ((75 * (drS s seed j).2 + 74) % 65537) % 100 then 0 else 1 <<< (nI j &&& 31) : Int32) = (drS s seed (j + 1)).1 := by
      rw [drS]
      split
      · exact Int32.or_zero
      · rfl
    rw [nI_1, hs, e]
    exact ih (j + 1) (by omega)
theorem in_no2 {x lo hi : Int32} (h : x < lo ∨ hi < x) : vXX11_in x lo hi = 0 := by
  unfold vXX11_in
  by_cases c : x < lo
  · rw [if_pos c]
  · rw [if_neg c, if_pos (h.resolve_left c)]
theorem in_yes2 {x lo hi : Int32} (h1 : ¬ x < lo) (h2 : ¬ hi < x) : vXX11_in x lo hi = 1 := by
  unfold vXX11_in
  rw [if_neg h1, if_neg h2]
/-- a drawn row, the class's side; what bars it is told by a number that isn't 0 -/
theorem dT {b : Bool} {wc wr : Wd} (hR : Rel b wc wr) (a1 a2 a3 : Int32) {K : Int32 → Wd → Prop}
    (k1 : ∀ t : Int32, t = 1 ∨ t = 2 → (∀ K' : Int32 → Wd → Prop, K' t (wXX11_anew wr) → ClI SR mX11_drawWhy [.ref 0, .int a1, .int a2, .int a3] (wXX11_anew wr) (fun y w => w.2.2 = RM ∧ K' y w)) → K t wc)
    (k0 : ∀ (x : Int32 × Int32) (w' : Wd), TW 55 wc w' x → (∀ K' : Int32 → Wd → Prop, (∀ w'', TR (wXX11_anew wr) w'' x → K' 0 w'') → ClI SR mX11_drawWhy [.ref 0, .int a1, .int a2, .int a3] (wXX11_anew wr) (fun y w => w.2.2 = RM ∧ K' y w)) → K 0 w') :
    ClI SC mX10_drawTrouble [.ref 0, .int a1, .int a2, .int a3] wc (fun x w => w.2.2 = RTab b ∧ K x w) := by
  obtain ⟨n, hn, f4, f5, f6, fD⟩ := cx hR
  have g1 := hR.1
  have g2 := hR.2.1
  by_cases hin : ∃ d : Nat, d < n ∧ a1 = nI d
  · obtain ⟨d, hd, rfl⟩ := hin
    obtain ⟨m, hc⟩ := ctx_of hn hd f4 f5 f6 (fD d hd)
    have hm := hc.2.2.2.1
    have hm3 := hc.2.2.2.2.2.2.2.1
    have hm4 := hc.2.2.2.2.2.2.2.2.1
    obtain ⟨u, hu, h2⟩ := uns_n hR
    have hs : wi (wXX11_anew wr) 3 0 = wi wc (hA b) 0 := by
      rw [an_ne (Or.inl (by decide))]
      obtain ⟨q1, q2, q3, q4, q5, q6, nn, ⟨uu, ee, s1, s2, s3, s4, s5, s6, s7, s8⟩, q8⟩ := hR
      exact s7.symm
    have h4 : vp_in (4 + nI d) 146 := by rw [n4]; exact nI_in (by omega) (by decide)
    have e4 : wi (wXX11_anew wr) 3 (4 + nI d).toNatClampNeg = nI m := by
      rw [n4, nI_clamp (by omega), an_ne (Or.inl (by decide))]
      exact hm4
    have bad1 : (a2 < 0 ∨ (65536 : Int32) < a2) → ∀ K' : Int32 → Wd → Prop, K' 2 (wXX11_anew wr) → ClI SR mX11_drawWhy [.ref 0, .int (nI d), .int a2, .int a3] (wXX11_anew wr) (fun y w => w.2.2 = RM ∧ K' y w) := fun hz K' hk => TX11_drawWhy _ _ _ _ (an_R g2) _ (isdA g2 hn f5 f6 (fun _ => ⟨fun q => absurd q no10, fun _ => ⟨fun _ => ⟨fun q => absurd q (by decide), fun _ => ⟨_, rfl, an_R g2, hk⟩⟩, fun q => absurd (in_no2 hz) q⟩⟩) fun q => absurd ⟨d, hd, rfl⟩ q)
    have bad2 : ¬ (a2 < 0) → ¬ ((65536 : Int32) < a2) → vXX11_in a3 0 (nI m) = 0 → ∀ K' : Int32 → Wd → Prop, K' 2 (wXX11_anew wr) → ClI SR mX11_drawWhy [.ref 0, .int (nI d), .int a2, .int a3] (wXX11_anew wr) (fun y w => w.2.2 = RM ∧ K' y w) := fun z1 z2 z3 K' hk => TX11_drawWhy _ _ _ _ (an_R g2) _ (isdA g2 hn f5 f6 (fun _ => ⟨fun q => absurd q no10, fun _ => ⟨fun q => absurd ((in_yes2 z1 z2).symm.trans q) no10, fun _ => ⟨h4, by
      rw [e4, z3, if_pos rfl]
      exact ⟨fun q => absurd q (by decide), fun _ => ⟨_, rfl, an_R g2, hk⟩⟩⟩⟩⟩) fun q => absurd ⟨d, hd, rfl⟩ q)
    refine TX10_drawTrouble _ _ _ wc b g1 _ ⟨fun _ => ⟨fun z1 => ⟨_, rfl, g1, k1 2 (Or.inr rfl) (bad1 (Or.inl z1))⟩, fun z1 => ⟨fun z2 => ⟨_, rfl, g1, k1 2 (Or.inr rfl) (bad1 (Or.inr z2))⟩, fun z2 => ?_⟩⟩, fun q => absurd ((din_c hn f4).mpr ⟨d, hd, rfl⟩) q⟩
    rw [d_clamp hn hd, hm3]
    refine ⟨fun z3 => ⟨_, rfl, g1, k1 2 (Or.inr rfl) (bad2 z1 z2 (by rw [v_in, if_pos z3]))⟩, fun z3 => ⟨fun z4 => ?_, fun z4 => ⟨_, rfl, g1, k1 2 (Or.inr rfl) (bad2 z1 z2 (by rw [v_in, if_neg z3, if_pos (Int32.not_le.mp z4)]))⟩⟩⟩
    obtain ⟨i, hi, rfl⟩ := nI_of z3
    have him := (nI_leI hi (by omega)).mp z4
    refine TX0_drawn _ _ _ wc b g1 _ ?_
    rw [← nI_0]
    refine l_drawn (s := wi wc (hA b) 0) (seed := a2) (by omega) g1 ⟨_, rfl, g1, ?_⟩ i 0 (by omega)
    refine wkM (a := 55) rfl (by decide) g1 hc him (SameC.rf _) (fun w' hT => ⟨_, rfl, hT.1.trans g1, k0 _ w' hT fun K' hk => ?_⟩)
    refine TX11_drawWhy _ _ _ _ (an_R g2) _ (isdA g2 hn f5 f6 (fun _ => ⟨fun q => absurd q no10, fun _ => ⟨fun q => absurd ((in_yes2 z1 z2).symm.trans q) no10, fun _ => ⟨h4, ?_⟩⟩⟩) fun q => absurd ⟨d, hd, rfl⟩ q)
    rw [e4, row_in (by omega) him, if_neg no10]
    refine ⟨fun _ => ?_, fun q => absurd rfl q⟩
    refine l_drawR (s := wi wc (hA b) 0) (seed := a2) (by omega) (an_R g2) hs ?_ i 0 (by omega)
    exact rDM (w := wXX11_anew wr) g2 hc hu h2 him rfl (fun j => an_ne (Or.inl (by decide))) (fun w'' h => ⟨_, rfl, h.1.trans (an_R g2), hk w'' h⟩)
  · exact TX10_drawTrouble _ _ _ wc b g1 _ ⟨fun q => absurd ((din_c hn f4).mp q) hin, fun _ => ⟨_, rfl, g1, k1 1 (Or.inl rfl) fun K' hk => TX11_drawWhy _ _ _ _ (an_R g2) _ (isdA g2 hn f5 f6 (fun q => absurd q hin) fun _ => ⟨fun _ => ⟨fun q => absurd q (by decide), fun _ => ⟨_, rfl, an_R g2, hk⟩⟩, fun q => absurd rfl q⟩)⟩⟩
theorem t12 {t : Int32} (h : t = 1 ∨ t = 2) : ¬ t = 0 ∧ t ≠ 4 := by
  rcases h with rfl | rfl <;> decide
theorem pr_drawnUpper {wc wr : Wd} (h : RelE wc wr) (a1 a2 a3 : Int32)  : PairI mX10_drawnUpper mX11_drawnUpper [a1, a2, a3] wc wr := by
  obtain ⟨b, hR⟩ := h
  have g1 := hR.1
  have g2 := hR.2.1
  refine TX10_drawnUpper _ _ _ wc b g1 _ (dT hR a1 a2 a3 (fun t ht hr => ⟨fun q => absurd q (t12 ht).1, fun _ => ⟨_, rfl, TX11_drawnUpper _ _ _ wr g2 _ (hr _ ⟨fun q => absurd q (t12 ht).1, fun _ => ⟨_, rfl, rfl, fin_noA hR (t12 ht).2⟩⟩)⟩⟩) (fun x w' hT hr => ⟨fun _ => ⟨_, rfl, TX11_drawnUpper _ _ _ wr g2 _ (hr _ fun w'' h2 => ⟨fun _ => ⟨_, rfl, ?_, fin_ok hR (hT.same nr55) ((an_same wr).tr h2.same) ((h2.2.1 0 11 (by decide)).trans (an_11 wr))⟩, fun q => absurd rfl q⟩)⟩, fun q => absurd rfl q⟩))
  exact hT.2.2.1.trans h2.2.2.1.symm
theorem pr_drawnLower {wc wr : Wd} (h : RelE wc wr) (a1 a2 a3 : Int32)  : PairI mX10_drawnLower mX11_drawnLower [a1, a2, a3] wc wr := by
  obtain ⟨b, hR⟩ := h
  have g1 := hR.1
  have g2 := hR.2.1
  refine TX10_drawnLower _ _ _ wc b g1 _ (dT hR a1 a2 a3 (fun t ht hr => ⟨fun q => absurd q (t12 ht).1, fun _ => ⟨_, rfl, TX11_drawnLower _ _ _ wr g2 _ (hr _ ⟨fun q => absurd q (t12 ht).1, fun _ => ⟨_, rfl, rfl, fin_noA hR (t12 ht).2⟩⟩)⟩⟩) (fun x w' hT hr => ⟨fun _ => ⟨_, rfl, TX11_drawnLower _ _ _ wr g2 _ (hr _ fun w'' h2 => ⟨fun _ => ⟨_, rfl, ?_, fin_ok hR (hT.same nr55) ((an_same wr).tr h2.same) ((h2.2.1 0 11 (by decide)).trans (an_11 wr))⟩, fun q => absurd rfl q⟩)⟩, fun q => absurd rfl q⟩))
  exact hT.2.2.2.trans h2.2.2.2.symm
/-! what a row does to whatever tangle -/
abbrev Q4 : Type := Int32 × Int32 × Int32 × Int32
def qs (f : Int32) (q : Q4) : Q4 := if f = 0 then (q.1 + q.2.2.1, q.2.1 + q.2.2.2, q.2.2.1, q.2.2.2) else if f = 1 then (q.1 - q.2.2.1, q.2.1 - q.2.2.2, q.2.2.1, q.2.2.2) else (-q.2.2.1, -q.2.2.2, q.1, q.2.1)
def qrun (F : Nat → Int32) : Nat → Q4
  | 0 => (1, 0, 0, 1)
  | k + 1 => qs (F k) (qrun F k)
def QW (t : Nat) (w w' : Wd) (q : Q4) : Prop := w'.2.2 = w.2.2 ∧ (∀ x i, x ≠ t → wi w' x i = wi w x i) ∧ wi w' t 0 = q.1 ∧ wi w' t 1 = q.2.1 ∧ wi w' t 2 = q.2.2.1 ∧ wi w' t 3 = q.2.2.2
theorem QW.p01 {t : Nat} {w0 w : Wd} {q : Q4} (h : QW t w0 w q) (x y : Int32) : QW t w0 (si (si w t 0 x) t 1 y) (x, y, q.2.2.1, q.2.2.2) :=
  ⟨h.1, fun a i ha => (wi_ne (Or.inl ha)).trans ((wi_ne (Or.inl ha)).trans (h.2.1 a i ha)), (wi_ne (Or.inr (by decide))).trans (wi_self _ _ _ _), wi_self _ _ _ _, (wi_ne (Or.inr (by decide))).trans ((wi_ne (Or.inr (by decide))).trans h.2.2.2.2.1), (wi_ne (Or.inr (by decide))).trans ((wi_ne (Or.inr (by decide))).trans h.2.2.2.2.2)⟩
theorem QW.p23 {t : Nat} {w0 w : Wd} {q : Q4} (h : QW t w0 w q) (x y : Int32) : QW t w0 (si (si w t 2 x) t 3 y) (q.1, q.2.1, x, y) :=
  ⟨h.1, fun a i ha => (wi_ne (Or.inl ha)).trans ((wi_ne (Or.inl ha)).trans (h.2.1 a i ha)), (wi_ne (Or.inr (by decide))).trans ((wi_ne (Or.inr (by decide))).trans h.2.2.1), (wi_ne (Or.inr (by decide))).trans ((wi_ne (Or.inr (by decide))).trans h.2.2.2.1), (wi_ne (Or.inr (by decide))).trans (wi_self _ _ _ _), wi_self _ _ _ _⟩
theorem QW.at0 (t : Nat) (w : Wd) : QW t w w (wi w t 0, wi w t 1, wi w t 2, wi w t 3) := ⟨rfl, fun _ _ _ => rfl, rfl, rfl, rfl, rfl⟩
theorem QW.start (t : Nat) (w : Wd) : QW t w (si (si (si (si w t 0 1) t 1 0) t 2 0) t 3 1) (1, 0, 0, 1) := ((QW.at0 t w).p01 1 0).p23 0 1
theorem z_take {t : Nat} (ht : SC[t]? = some (.inl 5)) {b : Bool} {f : Int32} (hf : Fig f) {w0 w : Wd} (hR : w.2.2 = RTab b) {q : Q4} (h : QW t w0 w q) {Q : Wd → Prop} (kk : ∀ w', QW t w0 w' (qs f q) → Q w') : ClV SC mX5_take [.ref t, .int f] w (fun w2 => w2.2.2 = RTab b ∧ Q w2) := by
  obtain ⟨h1, h2, h3, h4, h5, h6⟩ := id h
  have e1 : ∀ v, wi (si w t 0 v) t 1 = wi w t 1 := fun v => wi_ne (Or.inr (by decide))
  have e3 : ∀ v, wi (si w t 0 v) t 3 = wi w t 3 := fun v => wi_ne (Or.inr (by decide))
  refine TX5_take t ht f w b hR _ ⟨fun z => ?_, fun z => ⟨fun z2 => ?_, fun z2 => ?_⟩⟩
  · subst z
    rw [e1, e3, h3, h4, h5, h6]
    exact ⟨rfl, hR, kk _ (h.p01 _ _)⟩
  · subst z2
    rw [e1, e3, h3, h4, h5, h6]
    exact ⟨rfl, hR, kk _ (h.p01 _ _)⟩
  · have hf2 : f = 2 := (hf.resolve_left z).resolve_left z2
    subst hf2
    rw [e3, h3, h4, h5, h6]
    exact ⟨rfl, hR, kk _ ((h.p01 _ _).p23 _ _)⟩
theorem l_follow {b c : Bool} {t d : Nat} (ht : SC[t]? = some (.inl 5)) (hd : d < 5) (htd : 55 ≤ t) {w0 : Wd} (hR : w0.2.2 = RTab b) {m : Nat} (hm : wi w0 (dA (hA c) d) 1 = nI m) (hm12 : m ≤ 12) (hF : ∀ i, i < m → Fig (wi w0 (dA (hA c) d + 1) i)) {Q : Option Value → Wd → Prop} (kk : ∀ w', QW t w0 w' (qrun (fun i => wi w0 (dA (hA c) d + 1) i) m) → Q none w') : ∀ (r j : Nat) (w : Wd), j + r = m → QW t w0 w (qrun (fun i => wi w0 (dA (hA c) d + 1) i) j) → Go SC mX5_follow 22 [(0, .ref t), (1, .ref (dA (hA c) d)), (2, .int (nI j))] [] w Q := by
  have hlt := dA_lt c hd
  intro r
  induction r with
  | zero =>
    intro j w hj hT
    have e : j = m := by omega
    subst e
    refine BX5_follow_22 t ht c d hd _ w b (hT.1.trans hR) Q ⟨fun _ => kk w hT, fun z => absurd ?_ z⟩
    rw [hT.2.1 _ _ (by omega), hm]
    exact nI_le (Nat.le_refl j) (by omega)
  | succ r ih =>
    intro j w hj hT
    refine BX5_follow_22 t ht c d hd _ w b (hT.1.trans hR) Q ⟨fun z => ?_, fun _ => ?_⟩
    · rw [hT.2.1 _ _ (by omega), hm] at z
      exact absurd z (nI_ge (by omega) (by omega))
    · unfold vXX1_figureAt
      rw [gf_in (by omega) (by decide), hT.2.1 _ _ (by omega), nI_1]
      exact z_take ht (hF j (by omega)) (hT.1.trans hR) hT (fun w' h => ih (j + 1) w' (by omega) h)
theorem z_follow {b c : Bool} {t d : Nat} (ht : SC[t]? = some (.inl 5)) (hd : d < 5) (htd : 55 ≤ t) {w : Wd} (hR : w.2.2 = RTab b) {m : Nat} (hm : wi w (dA (hA c) d) 1 = nI m) (hm12 : m ≤ 12) (hF : ∀ i, i < m → Fig (wi w (dA (hA c) d + 1) i)) {Q : Wd → Prop} (kk : ∀ w', QW t w w' (qrun (fun i => wi w (dA (hA c) d + 1) i) m) → Q w') : ClV SC mX5_follow [.ref t, .ref (dA (hA c) d)] w (fun w2 => w2.2.2 = RTab b ∧ Q w2) := by
  refine TX5_follow t ht c d hd w b hR _ ?_
  rw [← nI_0]
  exact l_follow ht hd htd hR hm hm12 hF (fun w' h => ⟨rfl, h.1.trans hR, kk w' h⟩) m 0 _ (by omega) (QW.start t w)
theorem v4_0 : vp_in (0 : Int32) 4 := show vp_in (nI 0) 4 from nI_in (by decide) (by decide)
theorem v4_1 : vp_in (1 : Int32) 4 := show vp_in (nI 1) 4 from nI_in (by decide) (by decide)
theorem v4_2 : vp_in (2 : Int32) 4 := show vp_in (nI 2) 4 from nI_in (by decide) (by decide)
theorem v4_3 : vp_in (3 : Int32) 4 := show vp_in (nI 3) 4 from nI_in (by decide) (by decide)
theorem l_layRow {t d : Nat} (ht : SR[t]? = some (.inr (0, 4))) (ht3 : t ≠ 3) (hd : d < 5) {w0 : Wd} (hR : w0.2.2 = RM) {m : Nat} (hm : wi w0 3 (4 + d) = nI m) (hm12 : m ≤ 12) (hF : ∀ i, i < m → Fig (wi w0 3 (9 + 12 * d + i))) {Q : Option Value → Wd → Prop} (kk : ∀ w', QW t w0 w' (qrun (fun i => wi w0 3 (9 + 12 * d + i)) m) → Q none w') : ∀ (r j : Nat) (w : Wd), j + r = m → QW t w0 w (qrun (fun i => wi w0 3 (9 + 12 * d + i)) j) → Go SR mX11_layRow 18 [(0, .ref 0), (1, .int (nI d)), (2, .ref t), (3, .int (nI j))] [] w Q := by
  have h4 : vp_in (4 + nI d) 146 := by rw [n4]; exact nI_in (by omega) (by decide)
  intro r
  induction r with
  | zero =>
    intro j w hj hT
    have e : j = m := by omega
    subst e
    refine BX11_layRow_18 t 4 ht _ _ w (hT.1.trans hR) Q ⟨h4, fun _ => kk w hT, fun z => absurd ?_ z⟩
    rw [n4, nI_clamp (by omega), hT.2.1 3 _ (fun e => ht3 e.symm), hm]
    exact nI_le (Nat.le_refl j) (by omega)
  | succ r ih =>
    intro j w hj hT
    have hfj := hF j (by omega)
    refine BX11_layRow_18 t 4 ht _ _ w (hT.1.trans hR) Q ⟨h4, fun z => ?_, fun _ => ?_⟩
    · rw [n4, nI_clamp (by omega), hT.2.1 3 _ (fun e => ht3 e.symm), hm] at z
      exact absurd z (nI_ge (by omega) (by omega))
    · obtain ⟨h1, h2, q1, q2, q3, q4⟩ := id hT
      have e1 : ∀ v, wi (si w t 0 v) t 1 = wi w t 1 := fun v => wi_ne (Or.inr (by decide))
      have e3 : ∀ v, wi (si w t 0 v) t 3 = wi w t 3 := fun v => wi_ne (Or.inr (by decide))
      have ef : wi w 3 ((9 + 12 * nI d) + nI j).toNatClampNeg = wi w0 3 (9 + 12 * d + j) := by
        rw [n9, nI_clamp (by omega)]
        exact h2 3 _ (fun e => ht3 e.symm)
      simp only [ef, e1, e3, nI_1, q1, q2, q3, q4]
      refine ⟨by rw [n9]; exact nI_in (by omega) (by decide), v4_0, v4_1, fun z => ⟨v4_2, v4_0, v4_3, v4_1, v4_2, v4_3, ih (j + 1) _ (by omega) ?_⟩, fun z => ⟨v4_0, fun z2 => ⟨v4_2, v4_0, v4_1, fun _ => ⟨v4_3, v4_1, ih (j + 1) _ (by omega) ?_⟩, fun z3 => absurd z2 z3⟩, fun z2 => ⟨v4_2, v4_0, v4_1, fun z3 => absurd z3 z2, fun _ => ⟨v4_3, v4_1, ih (j + 1) _ (by omega) ?_⟩⟩⟩⟩
      · rw [qrun, z]
        exact (hT.p01 _ _).p23 _ _
      · rw [qrun, z2]
        exact hT.p01 _ _
      · have z1 : wi w0 3 (9 + 12 * d + j) = 1 := (hfj.resolve_left z2).resolve_right z
        rw [qrun, z1]
        have := hT.p01 ((qrun (fun i => wi w0 3 (9 + 12 * d + i)) j).1 - (qrun (fun i => wi w0 3 (9 + 12 * d + i)) j).2.2.1) ((qrun (fun i => wi w0 3 (9 + 12 * d + i)) j).2.1 - (qrun (fun i => wi w0 3 (9 + 12 * d + i)) j).2.2.2)
        rw [Int32.sub_eq_add_neg, Int32.sub_eq_add_neg] at this
        have e : qs 1 (qrun (fun i => wi w0 3 (9 + 12 * d + i)) j) = ((qrun (fun i => wi w0 3 (9 + 12 * d + i)) j).1 + -(qrun (fun i => wi w0 3 (9 + 12 * d + i)) j).2.2.1, (qrun (fun i => wi w0 3 (9 + 12 * d + i)) j).2.1 + -(qrun (fun i => wi w0 3 (9 + 12 * d + i)) j).2.2.2, (qrun (fun i => wi w0 3 (9 + 12 * d + i)) j).2.2.1, (qrun (fun i => wi w0 3 (9 + 12 * d + i)) j).2.2.2) := by
          rw [← Int32.sub_eq_add_neg, ← Int32.sub_eq_add_neg]
          rfl
        rw [e]
        exact this
theorem z_layRow {t d : Nat} (ht : SR[t]? = some (.inr (0, 4))) (ht3 : t ≠ 3) (hd : d < 5) {w : Wd} (hR : w.2.2 = RM) {m : Nat} (hm : wi w 3 (4 + d) = nI m) (hm12 : m ≤ 12) (hF : ∀ i, i < m → Fig (wi w 3 (9 + 12 * d + i))) {Q : Wd → Prop} (kk : ∀ w', QW t w w' (qrun (fun i => wi w 3 (9 + 12 * d + i)) m) → Q w') : ClV SR mX11_layRow [.ref 0, .int (nI d), .ref t] w (fun w2 => w2.2.2 = RM ∧ Q w2) := by
  refine TX11_layRow _ t 4 ht w hR _ ⟨v4_0, v4_1, v4_2, v4_3, ?_⟩
  rw [← nI_0]
  exact l_layRow ht ht3 hd hR hm hm12 hF (fun w' h => ⟨rfl, h.1.trans hR, kk w' h⟩) m 0 _ (by omega) (QW.start t w)
theorem qrun_ext {F G : Nat → Int32} : ∀ n, (∀ i, i < n → F i = G i) → qrun F n = qrun G n := by
  intro n
  induction n with
  | zero => exact fun _ => rfl
  | succ n ih =>
    intro h
    rw [qrun, qrun, ih (fun i hi => h i (by omega)), h n (by omega)]
/-- a dance's product, as both sides have it -/
def qC (b : Bool) (wc : Wd) (d m : Nat) : Q4 := qrun (fun i => wi wc (dA (hA b) d + 1) i) m
theorem folC {b : Bool} {wc wr w : Wd} {n d m t : Nat} (ht : SC[t]? = some (.inl 5)) (htd : 55 ≤ t) (g1 : wc.2.2 = RTab b) (hc : Ctx b wc wr n d m) (hS : SameC wc w) {Q : Wd → Prop} (k : ∀ w', QW t w w' (qC b wc d m) → Q w') : ClV SC mX5_follow [.ref t, .ref (dA (hA b) d)] w (fun w2 => w2.2.2 = RTab b ∧ Q w2) := by
  obtain ⟨hn, hd, m1, m2, f4, f5, f6, m3, m4, m5⟩ := hc
  have hd5 : d < 5 := by omega
  have e1 : ∀ i, wi w (dA (hA b) d + 1) i = wi wc (dA (hA b) d + 1) i := fun i => hS.2 _ i (dA_rel b (k := 1) hd5 (by decide))
  refine z_follow ht hd5 htd (hS.1.trans g1) ((hS.2 _ 1 (dA_rel b (k := 0) hd5 (by decide))).trans m3) m2 (fun i hi => by rw [e1, (m5 i hi).1]; exact (m5 i hi).2) (fun w' h => k w' ?_)
  rw [qrun_ext m (G := fun i => wi wc (dA (hA b) d + 1) i) (fun i _ => e1 i)] at h
  exact h
theorem folR {b : Bool} {wc wr w : Wd} {n d m t : Nat} (ht : SR[t]? = some (.inr (0, 4))) (ht3 : t ≠ 3) (g2 : wr.2.2 = RM) (hc : Ctx b wc wr n d m) (hS : SameR wr w) {Q : Wd → Prop} (k : ∀ w', QW t w w' (qC b wc d m) → Q w') : ClV SR mX11_layRow [.ref 0, .int (nI d), .ref t] w (fun w2 => w2.2.2 = RM ∧ Q w2) := by
  obtain ⟨hn, hd, m1, m2, f4, f5, f6, m3, m4, m5⟩ := hc
  have hd5 : d < 5 := by omega
  have e3 : ∀ i, wi w 3 i = wi wr 3 i := fun i => hS.2 3 i (Or.inr (by decide))
  refine z_layRow ht ht3 hd5 (hS.1.trans g2) ((e3 _).trans m4) m2 (fun i hi => by rw [e3]; exact (m5 i hi).2) (fun w' h => k w' ?_)
  rw [qrun_ext m (G := fun i => wi wc (dA (hA b) d + 1) i) (fun i hi => (e3 _).trans (m5 i hi).1.symm)] at h
  exact h
theorem QW.sameC {t : Nat} {w w' : Wd} {q : Q4} (h : QW t w w' q) (ht : ¬ relC t) : SameC w w' := ⟨h.1, fun x i hx => h.2.1 x i fun e => ht (e ▸ hx)⟩
theorem QW.sameR {t : Nat} {w w' : Wd} {q : Q4} (h : QW t w w' q) (ht : 8 ≤ t) : SameR w w' := ⟨h.1, fun x i hx => h.2.1 x i fun e => by unfold relR at hx; omega⟩
theorem pr_trace {wc wr : Wd} (h : RelE wc wr) (a1 : Int32)  : PairI mX10_trace mX11_trace [a1] wc wr := by
  obtain ⟨b, hR⟩ := h
  obtain ⟨n, hn, f4, f5, f6, fD⟩ := cx hR
  have g1 := hR.1
  have g2 := hR.2.1
  refine TX10_trace _ wc b g1 _ ⟨fun q => ?_, fun q => ⟨_, rfl, TX11_trace _ wr g2 _ (isdA g2 hn f5 f6 (fun z => absurd ((din_c hn f4).mpr z) q) fun _ => ⟨fun _ => ⟨_, rfl, rfl, fin_noA hR (by decide)⟩, fun q => absurd rfl q⟩)⟩⟩
  obtain ⟨d, hd, rfl⟩ := (din_c hn f4).mp q
  obtain ⟨m, hc⟩ := ctx_of hn hd f4 f5 f6 (fD d hd)
  rw [d_clamp hn hd]
  refine folC (t := 56) rfl (by decide) g1 hc (SameC.rf _) (fun w' hQ => ⟨_, rfl, ?_⟩)
  refine TX11_trace _ wr g2 _ (isdA g2 hn f5 f6 (fun _ => ⟨fun q => absurd q no10, fun _ => folR (t := 9) rfl (by decide) g2 hc (an_same wr) (fun w'' hQ2 => ⟨_, rfl, ?_, fin_ok hR (hQ.sameC fun h => absurd h.2 (by decide)) ((an_same wr).tr (hQ2.sameR (by decide))) ((hQ2.2.1 0 11 (by decide)).trans (an_11 wr))⟩)⟩) fun q => absurd ⟨d, hd, rfl⟩ q)
  rw [hQ.2.2.1, hQ.2.2.2.2.2, hQ2.2.2.1, hQ2.2.2.2.2.2, absAway]
  rfl
def andB (P : Nat → Bool) : Nat → Bool
  | 0 => true
  | j + 1 => andB P j && P j
def bI (b : Bool) : Int32 := if b then 1 else 0
theorem bI_0 {x : Bool} : bI x = 0 ↔ x = false := by cases x <;> decide
theorem bI_d {c : Prop} {hd : Decidable c} : (if c then 1 else 0 : Int32) = bI (decide c) := by
  by_cases h : c
  · rw [if_pos h, decide_eq_true h]
    rfl
  · rw [if_neg h, decide_eq_false h]
    rfl
def sdS (w : Wd) (j : Nat) : Bool := decide (wi w 9 j = wi w 10 j)
def sdL (w : Wd) (j : Nat) : Bool := decide (wi w 9 j = -(wi w 10 j))
theorem l_same {l1 l2 : Int32} {w : Wd} (hR : w.2.2 = RM) {Q : Option Value → Wd → Prop} (kk : Q (some (.int (bI (andB (sdS w) 4 || andB (sdL w) 4)))) w) : ∀ (r j : Nat), j + r = 4 → Go SR mX11_sameDance 52 [(0, .ref 0), (1, .int l1), (2, .int l2), (3, .int (bI (andB (sdS w) j))), (4, .int (bI (andB (sdL w) j))), (5, .int (nI j))] [] w Q := by
  intro r
  induction r with
  | zero =>
    intro j hj
    have e : j = 4 := by omega
    subst e
    refine BX11_sameDance_52 _ _ _ _ _ w hR Q ⟨fun _ => ?_, fun z => absurd (show (4 : Int32) ≤ nI 4 by decide) z⟩
    have e : (if bI (andB (sdS w) 4) = 0 then (if bI (andB (sdL w) 4) = 0 then 0 else 1 : Int32) else 1 : Int32) = bI (andB (sdS w) 4 || andB (sdL w) 4) := by
      cases andB (sdS w) 4 <;> cases andB (sdL w) 4 <;> rfl
    rw [e]
    exact kk
  | succ r ih =>
    intro j hj
    have hj4 : j < 4 := by omega
    have hin : vp_in (nI j) 4 := nI_in hj4 (by decide)
    have hS : andB (sdS w) (j + 1) = (andB (sdS w) j && sdS w j) := rfl
    have hL : andB (sdL w) (j + 1) = (andB (sdL w) j && sdL w j) := rfl
    have := ih (j + 1) (by omega)
    rw [hS, hL] at this
    refine BX11_sameDance_52 _ _ _ _ _ w hR Q ⟨fun z => absurd z (nI_ge (b := 4) hj4 (by decide)), fun _ => ⟨fun z => ⟨fun z2 => ?_, fun z2 => ⟨hin, hin, ?_⟩⟩, fun z => ⟨hin, hin, fun z2 => ?_, fun z2 => ⟨hin, hin, ?_⟩⟩⟩⟩
    · rw [bI_0.mp z, bI_0.mp z2] at this
      rw [nI_1]
      exact this
    · have z2 : andB (sdL w) j = true := by
        cases h : andB (sdL w) j
        · exact absurd (bI_0.mpr h) z2
        · rfl
      rw [bI_0.mp z, z2, Bool.true_and] at this
      rw [nI_1, nI_clamp (by omega), bI_d]
      exact this
    · have z1 : andB (sdS w) j = true := by
        cases h : andB (sdS w) j
        · exact absurd (bI_0.mpr h) z
        · rfl
      rw [z1, bI_0.mp z2, Bool.true_and] at this
      rw [nI_1, nI_clamp (by omega), bI_d]
      exact this
    · have z1 : andB (sdS w) j = true := by
        cases h : andB (sdS w) j
        · exact absurd (bI_0.mpr h) z
        · rfl
      have z2 : andB (sdL w) j = true := by
        cases h : andB (sdL w) j
        · exact absurd (bI_0.mpr h) z2
        · rfl
      rw [z1, z2, Bool.true_and, Bool.true_and] at this
      rw [nI_1, nI_clamp (by omega), bI_d, bI_d]
      exact this
theorem if4 (c1 c2 c3 c4 : Prop) [Decidable c1] [Decidable c2] [Decidable c3] [Decidable c4] : (if c1 then (if c2 then (if c3 then (if c4 then 1 else 0 : Int32) else 0 : Int32) else 0 : Int32) else 0 : Int32) = bI (decide c1 && decide c2 && decide c3 && decide c4) := by
  by_cases h1 : c1 <;> by_cases h2 : c2 <;> by_cases h3 : c3 <;> by_cases h4 : c4 <;> simp [h1, h2, h3, h4, bI]
theorem same_v (p q : Q4) (w2 w4 : Wd) (h1 : wi w4 56 0 = p.1 ∧ wi w4 56 1 = p.2.1 ∧ wi w4 56 2 = p.2.2.1 ∧ wi w4 56 3 = p.2.2.2) (h2 : wi w4 57 0 = q.1 ∧ wi w4 57 1 = q.2.1 ∧ wi w4 57 2 = q.2.2.1 ∧ wi w4 57 3 = q.2.2.2) (h3 : wi w2 9 0 = p.1 ∧ wi w2 9 1 = p.2.1 ∧ wi w2 9 2 = p.2.2.1 ∧ wi w2 9 3 = p.2.2.2) (h4 : wi w2 10 0 = q.1 ∧ wi w2 10 1 = q.2.1 ∧ wi w2 10 2 = q.2.2.1 ∧ wi w2 10 3 = q.2.2.2) : (if vXX5_isSame 56 57 w4 = 0 then 0 else 1 : Int32) = bI (andB (sdS w2) 4 || andB (sdL w2) 4) := by
  have e1 : vXX5_isSigned 56 57 1 w4 = bI (andB (sdS w2) 4) := by
    unfold vXX5_isSigned
    rw [if4, h1.1, h1.2.1, h1.2.2.1, h1.2.2.2, h2.1, h2.2.1, h2.2.2.1, h2.2.2.2, Int32.one_mul, Int32.one_mul, Int32.one_mul, Int32.one_mul]
    unfold andB andB andB andB andB sdS
    rw [h3.1, h3.2.1, h3.2.2.1, h3.2.2.2, h4.1, h4.2.1, h4.2.2.1, h4.2.2.2, Bool.true_and]
  have e2 : vXX5_isSigned 56 57 (-1) w4 = bI (andB (sdL w2) 4) := by
    unfold vXX5_isSigned
    rw [if4, h1.1, h1.2.1, h1.2.2.1, h1.2.2.2, h2.1, h2.2.1, h2.2.2.1, h2.2.2.2, ← Int32.neg_eq_neg_one_mul, ← Int32.neg_eq_neg_one_mul, ← Int32.neg_eq_neg_one_mul, ← Int32.neg_eq_neg_one_mul]
    unfold andB andB andB andB andB sdL
    rw [h3.1, h3.2.1, h3.2.2.1, h3.2.2.2, h4.1, h4.2.1, h4.2.2.1, h4.2.2.2, Bool.true_and]
  unfold vXX5_isSame
  rw [e1, e2]
  cases andB (sdS w2) 4 <;> cases andB (sdL w2) 4 <;> rfl
theorem pr_sameDance {wc wr : Wd} (h : RelE wc wr) (a1 a2 : Int32)  : PairI mX10_sameDance mX11_sameDance [a1, a2] wc wr := by
  obtain ⟨b, hR⟩ := h
  obtain ⟨n, hn, f4, f5, f6, fD⟩ := cx hR
  have g1 := hR.1
  have g2 := hR.2.1
  have no1 : (¬ ∃ e : Nat, e < n ∧ a1 = nI e) → ClI SR mX11_sameDance [.ref 0, .int a1, .int a2] wr (fun y wr' => -1 = y ∧ RelE (wXX10_refuse 1 (-1) wc) wr') := fun z => TX11_sameDance _ _ wr g2 _ (isdA g2 hn f5 f6 (fun q => absurd q z) fun _ => ⟨fun _ => ⟨_, rfl, rfl, fin_noA hR (by decide)⟩, fun q => absurd rfl q⟩)
  have no2 : ∀ d : Nat, d < n → (¬ ∃ e : Nat, e < n ∧ a2 = nI e) → ClI SR mX11_sameDance [.ref 0, .int (nI d), .int a2] wr (fun y wr' => -1 = y ∧ RelE (wXX10_refuse 1 (-1) wc) wr') := fun d hd z => TX11_sameDance _ _ wr g2 _ (isdA g2 hn f5 f6 (fun _ => ⟨fun q => absurd q no10, fun _ => isdA g2 hn f5 f6 (fun q => absurd q z) fun _ => ⟨fun _ => ⟨_, rfl, rfl, fin_noA hR (by decide)⟩, fun q => absurd rfl q⟩⟩) fun q => absurd ⟨d, hd, rfl⟩ q)
  refine TX10_sameDance _ _ wc b g1 _ ⟨fun q => ?_, fun q => ⟨fun _ => ⟨_, rfl, no1 fun z => q ((din_c hn f4).mpr z)⟩, fun _ => ⟨_, rfl, no1 fun z => q ((din_c hn f4).mpr z)⟩⟩⟩
  obtain ⟨d, hd, rfl⟩ := (din_c hn f4).mp q
  refine ⟨fun q2 => ?_, fun q2 => ⟨_, rfl, no2 d hd fun z => q2 ((din_c hn f4).mpr z)⟩⟩
  obtain ⟨e, he, rfl⟩ := (din_c hn f4).mp q2
  obtain ⟨m, hc⟩ := ctx_of hn hd f4 f5 f6 (fD d hd)
  obtain ⟨k, hk⟩ := ctx_of hn he f4 f5 f6 (fD e he)
  rw [d_clamp hn hd, d_clamp hn he]
  have n56 : ¬ relC 56 := fun h => absurd h.2 (by decide)
  have n57 : ¬ relC 57 := fun h => absurd h.2 (by decide)
  refine folC (t := 56) rfl (by decide) g1 hc (SameC.rf _) (fun w1 hQ => folC (t := 57) rfl (by decide) g1 hk (hQ.sameC n56) (fun w2 hQ2 => ⟨_, rfl, ?_⟩))
  refine TX11_sameDance _ _ wr g2 _ (isdA g2 hn f5 f6 (fun _ => ⟨fun q => absurd q no10, fun _ => isdA g2 hn f5 f6 (fun _ => ⟨fun q => absurd q no10, fun _ => folR (t := 9) rfl (by decide) g2 hc (an_same wr) (fun w3 hQ3 => folR (t := 10) rfl (by decide) g2 hk ((an_same wr).tr (hQ3.sameR (by decide))) (fun w4 hQ4 => ?_))⟩) fun q => absurd ⟨e, he, rfl⟩ q⟩) fun q => absurd ⟨d, hd, rfl⟩ q)
  refine l_same (hQ4.1.trans (hQ3.1.trans (an_R g2))) ⟨_, rfl, ?_, fin_ok hR ((hQ.sameC n56).tr (hQ2.sameC n57)) (((an_same wr).tr (hQ3.sameR (by decide))).tr (hQ4.sameR (by decide))) ((hQ4.2.1 0 11 (by decide)).trans ((hQ3.2.1 0 11 (by decide)).trans (an_11 wr)))⟩ 4 0 (by decide)
  exact same_v _ _ _ _ ⟨(hQ2.2.1 56 0 (by decide)).trans hQ.2.2.1, (hQ2.2.1 56 1 (by decide)).trans hQ.2.2.2.1, (hQ2.2.1 56 2 (by decide)).trans hQ.2.2.2.2.1, (hQ2.2.1 56 3 (by decide)).trans hQ.2.2.2.2.2⟩ hQ2.2.2 ⟨(hQ4.2.1 9 0 (by decide)).trans hQ3.2.2.1, (hQ4.2.1 9 1 (by decide)).trans hQ3.2.2.2.1, (hQ4.2.1 9 2 (by decide)).trans hQ3.2.2.2.2.1, (hQ4.2.1 9 3 (by decide)).trans hQ3.2.2.2.2.2⟩ hQ4.2.2
