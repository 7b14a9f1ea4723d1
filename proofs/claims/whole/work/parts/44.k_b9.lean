/-! unsure figures and ropes seen: which sets fit -/
theorem TW.rf (a : Nat) (w : Wd) : TW a w w (wi w a 0, wi w a 1) := ⟨rfl, fun _ _ _ => rfl, rfl, rfl⟩
theorem TW.tr {a : Nat} {w w' w'' : Wd} {x y : Int32 × Int32} (h1 : TW a w w' x) (h2 : TW a w' w'' y) : TW a w w'' y := ⟨h2.1.trans h1.1, fun b i h => (h2.2.1 b i h).trans (h1.2.1 b i h), h2.2.2⟩
def FC (b : Bool) (wc wr : Wd) (n u e : Nat) : Prop := n ≤ 5 ∧ u ≤ 4 ∧ e ≤ 6 ∧ wi wc (hA b) 2 = nI n ∧ wi wr 3 1 = nI n ∧ wi wr 0 15 = (if n = 0 then 0 else 1) ∧ wi wc (hA b) 5 = nI u ∧ wi wr 3 2 = nI u ∧ wi wc (hA b) 10 = nI e ∧ wi wr 3 3 = nI e ∧ (∀ d : Nat, d < n → DanceRel b wc wr d) ∧ (∀ i : Nat, i < u → UnsRel b wc wr n i) ∧ ∀ i : Nat, i < e → SeenRel b wc wr n i
theorem fc_of {b : Bool} {wc wr : Wd} (hR : Rel b wc wr) : ∃ n u e : Nat, FC b wc wr n u e := by
  obtain ⟨g1, g2, g3, g4, g5, g6, n, ⟨u, e, f1, f2, f3, f4, f5, f6, f7, f8, f9, f10, f11, f12, f13, f14, f15, f16, f17⟩, g8⟩ := hR
  exact ⟨n, u, e, f1, f2, f3, f4, f5, f6, f10, f11, f12, f13, f15, f16, f17⟩
def loF (b : Bool) (wc : Wd) (s d : Int32) : Nat → Int32
  | 0 => 0
  | t + 1 => if vXX10_isIn s (nI t) = 0 then loF b wc s d t else (if wi wc (hA b + 17) t = d then loF b wc s d t ||| (1 <<< (wi wc (hA b + 18) t &&& 31)) else loF b wc s d t)
theorem l_leftOut {b : Bool} {wc w : Wd} (g1 : wc.2.2 = RTab b) (hS : SameC wc w) {u : Nat} (hu : u ≤ 4) (h5 : wi wc (hA b) 5 = nI u) {s d : Int32} {Q : Option Value → Wd → Prop} (kk : Q (some (.int (loF b wc s d u))) w) : ∀ (r t : Nat), t + r = u → Go SC mX2_leftOut 5 [(0, .ref (hA b)), (1, .int d), (2, .int s), (3, .int (loF b wc s d t)), (4, .int (nI t))] [] w Q := by
  have e5 : wi w (hA b) 5 = nI u := (hS.2 _ 5 (hA_rel b (k := 0) (by decide))).trans h5
  intro r
  induction r with
  | zero =>
    intro t ht
    have e : t = u := by omega
    subst e
    exact BX2_leftOut_5 b _ _ _ _ w b (hS.1.trans g1) Q ⟨fun _ => kk, fun z => absurd (by rw [e5]; exact nI_le (Nat.le_refl t) (by omega)) z⟩
  | succ r ih =>
    intro t ht
    refine BX2_leftOut_5 b _ _ _ _ w b (hS.1.trans g1) Q ⟨fun z => absurd z (by rw [e5]; exact nI_ge (by omega) (by omega)), fun _ => ?_⟩
    rw [gf_in (by omega) (by decide), gf_in (by omega) (by decide), hS.2 _ t (hA_rel b (k := 17) (by decide)), hS.2 _ t (hA_rel b (k := 18) (by decide)), nI_1]
    exact ih (t + 1) (by omega)
theorem lo_bt {b : Bool} {wc wr : Wd} {n u e : Nat} (hF : FC b wc wr n u e) {s : Int32} {d j : Nat} (hd : d < 5) (hj : j < 12) : ∀ t, t ≤ u → bt (loF b wc s (nI d) t) j = uo wr s d j t := by
  intro t
  induction t with
  | zero => exact fun _ => b_0 j
  | succ t ih =>
    intro ht
    obtain ⟨d', p, m, h1, h2, h3, q4, q5, q6, q7, q8⟩ := hF.2.2.2.2.2.2.2.2.2.2.2.1 t (by omega)
    have hn := hF.1
    have hh : vXX11_hasBit s (nI t) = vXX10_isIn s (nI t) := rfl
    rw [loF, uo, q5, q6, q7, q8, hh, ← ih (by omega)]
    by_cases c : vXX10_isIn s (nI t) = 0
    · rw [if_pos c, decide_eq_false (fun h => h c), Bool.false_and, Bool.false_and, Bool.or_false]
    · rw [if_neg c, decide_eq_true c, Bool.true_and]
      by_cases c2 : nI d' = nI d
      · rw [if_pos c2, decide_eq_true c2, Bool.true_and, bt_set _ (by omega) (by omega), decide_eq_decide.mpr (nI_eq (a := p) (b := j) (by omega) (by omega))]
      · rw [if_neg c2, decide_eq_false c2, Bool.false_and, Bool.or_false]
def seenX (b : Bool) (wc : Wd) (s : Int32) (u i : Nat) : Int32 × Int32 := run (fun j => wi wc (dA (hA b) (wi wc (hA b + 19) i).toNatClampNeg + 1) j) (skC (loF b wc s (wi wc (hA b + 19) i) u)) (wi wc (hA b + 20) i).toNatClampNeg
def wB (b : Bool) (wc : Wd) (s : Int32) (u i : Nat) : Bool := decide (goalF (wi wc (hA b + 21) i) (seenX b wc s u i) = wi wc (hA b + 22) i)
theorem z_wentSo {b : Bool} {wc wr w : Wd} {n u e : Nat} (g1 : wc.2.2 = RTab b) (hF : FC b wc wr n u e) (hS : SameC wc w) {s : Int32} {i : Nat} (hi : i < e) {Q : Int32 → Wd → Prop} (kk : ∀ w' x, TW 55 w w' x → Q (bI (wB b wc s u i)) w') : ClI SC mX2_wentSo [.ref (hA b), .int (nI i), .int s, .ref 55] w (fun y w2 => w2.2.2 = RTab b ∧ Q y w2) := by
  have hFF := hF
  obtain ⟨hn, hu, he, f4, f5, f6, f10, f11, f12, f13, fD, fU, fE⟩ := hF
  obtain ⟨d, q, m, f, t, h1, h2, h3, h4, h5, h6, q4, q5, q6, q7, q8, q9, q10, q11, q12⟩ := fE i hi
  obtain ⟨m', hc⟩ := ctx_of hn h1 f4 f5 f6 (fD d h1)
  have hmm : m' = m := by
    have h := hc.2.2.2.2.2.2.2.2.1
    rw [q4] at h
    exact ((nI_eq (by omega) (by have := hc.2.2.2.1; omega)).mp h).symm
  subst hmm
  have r19 := hS.2 _ i (hA_rel b (k := 19) (by decide))
  have r20 := hS.2 _ i (hA_rel b (k := 20) (by decide))
  have g19 : gf w (hA b + 19) 6 (nI i) = nI d := by rw [gf_in (by omega) (by decide), r19, q5]
  have g20 : gf w (hA b + 20) 6 (nI i) = nI q := by rw [gf_in (by omega) (by decide), r20, q7]
  have e2 : wi w (hA b) 2 = nI n := (hS.2 _ 2 (hA_rel b (k := 0) (by decide))).trans f4
  refine TX2_wentSo b _ s 55 rfl w b (hS.1.trans g1) _ ?_
  rw [g19, g20, e2, nI_clamp (by omega)]
  refine ⟨fun _ => TX2_leftOut b _ _ w b (hS.1.trans g1) _ ?_, fun z => absurd ⟨nI_pos' (by omega), nI_lt h1 (by omega), nlt5 (by omega)⟩ z⟩
  rw [← nI_0]
  refine l_leftOut (s := s) (d := nI d) g1 hS hu f10 ⟨_, rfl, hS.1.trans g1, ?_⟩ u 0 (by omega)
  refine wkM (a := 55) rfl (by decide) g1 hc h2 hS (fun w' hT => ⟨_, rfl, hT.1.trans (hS.1.trans g1), ?_⟩)
  have hb : hA b = 3 ∨ hA b = 26 := by cases b; exact Or.inl rfl; exact Or.inr rfl
  have g21 : gf w' (hA b + 21) 6 (nI i) = wi wc (hA b + 21) i := by
    rw [gf_in (by omega) (by decide), hT.2.1 _ _ (by omega)]
    exact hS.2 _ i (hA_rel b (k := 21) (by decide))
  have g22 : gf w' (hA b + 22) 6 (nI i) = wi wc (hA b + 22) i := by
    rw [gf_in (by omega) (by decide), hT.2.1 _ _ (by omega)]
    exact hS.2 _ i (hA_rel b (k := 22) (by decide))
  have ex : seenX b wc s u i = run (fun j => wi wc (dA (hA b) d + 1) j) (skC (loF b wc s (nI d) u)) q := by
    unfold seenX
    rw [q5, q7, nI_clamp (by omega), nI_clamp (by omega)]
  have eg : vXX7_goalOf 55 (wi wc (hA b + 21) i) w' = goalF (wi wc (hA b + 21) i) (seenX b wc s u i) := by
    unfold vXX7_goalOf goalF
    rw [hT.2.2.1, hT.2.2.2, ex]
  rw [g21, g22, eg, nI_0, bI_d]
  exact kk w' _ hT
theorem andB_t {P : Nat → Bool} : ∀ {e : Nat}, andB P e = true ↔ ∀ i, i < e → P i = true := by
  intro e
  induction e with
  | zero => exact ⟨fun _ i hi => absurd hi (Nat.not_lt_zero i), fun _ => rfl⟩
  | succ e ih =>
    rw [andB, Bool.and_eq_true, ih]
    exact ⟨fun h i hi => by
      by_cases c : i = e
      · rw [c]
        exact h.2
      · exact h.1 i (by omega), fun h => ⟨fun i hi => h i (by omega), h e (by omega)⟩⟩
theorem l_isFit {b : Bool} {wc wr w0 : Wd} {n u e : Nat} (g1 : wc.2.2 = RTab b) (hF : FC b wc wr n u e) (hS0 : SameC wc w0) {s : Int32} {Q : Option Value → Wd → Prop} (kk : ∀ w' x, TW 55 w0 w' x → Q (some (.int (bI (andB (wB b wc s u) e)))) w') : ∀ (r i : Nat) (x : Int32 × Int32) (w : Wd), i + r = e → TW 55 w0 w x → andB (wB b wc s u) i = true → Go SC mX2_isFitting 2 [(0, .ref (hA b)), (1, .int s), (2, .ref 55), (3, .int (nI i))] [] w Q := by
  have he := hF.2.2.1
  intro r
  induction r with
  | zero =>
    intro i x w hi hT hAB
    have e1 : i = e := by omega
    subst e1
    have hS : SameC wc w := hS0.tr (hT.same nr55)
    have e10 : wi w (hA b) 10 = nI i := (hS.2 _ 10 (hA_rel b (k := 0) (by decide))).trans hF.2.2.2.2.2.2.2.2.1
    have k := kk w x hT
    rw [hAB] at k
    exact BX2_isFitting_2 b 55 rfl _ _ w b (hS.1.trans g1) Q ⟨fun _ => k, fun z => absurd (by rw [e10]; exact nI_le (Nat.le_refl i) (by omega)) z⟩
  | succ r ih =>
    intro i x w hi hT hAB
    have hS : SameC wc w := hS0.tr (hT.same nr55)
    have e10 : wi w (hA b) 10 = nI e := (hS.2 _ 10 (hA_rel b (k := 0) (by decide))).trans hF.2.2.2.2.2.2.2.2.1
    have hnext : andB (wB b wc s u) (i + 1) = wB b wc s u i := by rw [andB, hAB, Bool.true_and]
    refine BX2_isFitting_2 b 55 rfl _ _ w b (hS.1.trans g1) Q ⟨fun z => absurd z (by rw [e10]; exact nI_ge (by omega) (by omega)), fun _ => z_wentSo g1 hF hS (by omega) (fun w1 y h1 => ⟨fun z => ?_, fun z => ?_⟩)⟩
    · have k := kk w1 y (hT.tr h1)
      rw [andB_f (hnext.trans (bI_0.mp z)) e (by omega)] at k
      exact k
    · rw [nI_1]
      exact ih (i + 1) y w1 (by omega) (hT.tr h1) (hnext.trans (bI_1.mp z))
theorem z_isFit {b : Bool} {wc wr w : Wd} {n u e : Nat} (g1 : wc.2.2 = RTab b) (hF : FC b wc wr n u e) (hS : SameC wc w) {s : Int32} {Q : Int32 → Wd → Prop} (kk : ∀ w' x, TW 55 w w' x → Q (bI (andB (wB b wc s u) e)) w') : ClI SC mX2_isFitting [.ref (hA b), .int s, .ref 55] w (fun y w2 => w2.2.2 = RTab b ∧ Q y w2) := by
  refine TX2_isFitting b s 55 rfl w b (hS.1.trans g1) _ ?_
  rw [← nI_0]
  exact l_isFit g1 hF hS (fun w' x h => ⟨_, rfl, h.1.trans (hS.1.trans g1), kk w' x h⟩) e 0 _ w (by omega) (TW.rf 55 w) rfl
def fB (b : Bool) (wc : Wd) (u e : Nat) (s : Nat) : Bool := andB (wB b wc (nI s) u) e
theorem sets_c {b : Bool} {wc w : Wd} {u : Nat} (hS : SameC wc w) (hu : u ≤ 4) (h5 : wi wc (hA b) 5 = nI u) : vXX2_sets b w = nI (2 ^ u) := by
  have e5 : wi w (hA b) 5 = nI u := (hS.2 (hA b) 5 (hA_rel b (k := 0) (by decide))).trans h5
  unfold vXX2_sets
  rw [e5, sh1 u (by omega)]
theorem p16 {u : Nat} (hu : u ≤ 4) : 2 ^ u ≤ 16 := Nat.pow_le_pow_right (n := 2) (by decide) hu
theorem l_fitting {b : Bool} {wc wr w0 : Wd} {n u e : Nat} (g1 : wc.2.2 = RTab b) (hF : FC b wc wr n u e) (hS0 : SameC wc w0) {Q : Option Value → Wd → Prop} (kk : ∀ w', SameC wc w' → Q (some (.int (nI (mkN (fB b wc u e) (2 ^ u))))) w') : ∀ (r s : Nat) (w : Wd), s + r = 2 ^ u → SameC wc w → Go SC mX2_fitting 4 [(0, .ref (hA b)), (1, .ref 55), (2, .int (nI (mkN (fB b wc u e) s))), (3, .int (nI s))] [] w Q := by
  have hp := p16 hF.2.1
  intro r
  induction r with
  | zero =>
    intro s w hs hS
    have e1 : s = 2 ^ u := by omega
    subst e1
    exact BX2_fitting_4 b 55 rfl _ _ w b (hS.1.trans g1) Q ⟨fun _ => kk w hS, fun z => absurd (by rw [sets_c hS hF.2.1 hF.2.2.2.2.2.2.1]; exact nI_le (Nat.le_refl _) (by omega)) z⟩
  | succ r ih =>
    intro s w hs hS
    refine BX2_fitting_4 b 55 rfl _ _ w b (hS.1.trans g1) Q ⟨fun z => absurd z (by rw [sets_c hS hF.2.1 hF.2.2.2.2.2.2.1]; exact nI_ge (by omega) (by omega)), fun _ => z_isFit g1 hF hS (fun w1 x h1 => ?_)⟩
    have e1 : (if bI (andB (wB b wc (nI s) u) e) = 0 then nI (mkN (fB b wc u e) s) else nI (mkN (fB b wc u e) s) ||| (1 <<< (nI s &&& 31)) : Int32) = nI (mkN (fB b wc u e) (s + 1)) := by
      rw [mkN, mk_or _ (by omega)]
      show (if bI (fB b wc u e s) = 0 then _ else _ : Int32) = _
      cases fB b wc u e s <;> rfl
    rw [e1, nI_1]
    exact ih (s + 1) w1 (by omega) (hS.tr (h1.same nr55))
theorem z_fitting {b : Bool} {wc wr : Wd} {n u e : Nat} (g1 : wc.2.2 = RTab b) (hF : FC b wc wr n u e) {Q : Int32 → Wd → Prop} (kk : ∀ w', SameC wc w' → Q (nI (mkN (fB b wc u e) (2 ^ u))) w') : ClI SC mX2_fitting [.ref (hA b), .ref 55] wc (fun y w2 => w2.2.2 = RTab b ∧ Q y w2) := by
  refine TX2_fitting b 55 rfl wc b g1 _ ?_
  rw [← nI_0]
  exact l_fitting g1 hF (SameC.rf wc) (fun w' h => ⟨_, rfl, h.1.trans g1, kk w' h⟩) (2 ^ u) 0 wc (by omega) (SameC.rf wc)
/-! the reference's -/
theorem n77 (i k : Nat) : 77 + 4 * nI i + nI k = nI (77 + 4 * i + k) := by
  rw [show (4 : Int32) = nI 4 from rfl, nmul, show (77 : Int32) = nI 77 from rfl, nI_add, nI_add]
theorem n770 (i : Nat) : 77 + 4 * nI i = nI (77 + 4 * i) := by
  rw [show (4 : Int32) = nI 4 from rfl, nmul, show (77 : Int32) = nI 77 from rfl, nI_add]
theorem l_wrong {b : Bool} {wc wr w0 : Wd} {n u e : Nat} (g2 : wr.2.2 = RM) (hF : FC b wc wr n u e) (hS0 : SameR wr w0) {s : Int32} {Q : Option Value → Wd → Prop} {V : Int32} (kk : ∀ w' x, TR w0 w' x → Q (some (.int V)) w') : ∀ (r i : Nat) (x : Int32 × Int32) (w : Wd), i + r = e → TR w0 w x → goF (fun i => !(wB b wc s u i)) r i = V → Go SR mX11_wrongBy 2 [(0, .ref 0), (1, .int s), (2, .int (nI i))] [] w Q := by
  have hFF := hF
  obtain ⟨hn, hu, he, f4, f5, f6, f10, f11, f12, f13, fD, fU, fE⟩ := hF
  intro r
  induction r with
  | zero =>
    intro i x w hi hT hV
    have e1 : i = e := by omega
    subst e1
    rw [goF] at hV
    subst hV
    have e3 : wi w 3 3 = nI i := ((hS0.tr hT.same).2 3 3 (Or.inr (by decide))).trans f13
    exact BX11_wrongBy_2 _ _ w (hT.1.trans (hS0.1.trans g2)) Q ⟨fun _ => kk w x hT, fun z => absurd (by rw [e3]; exact nI_le (Nat.le_refl i) (by omega)) z⟩
  | succ r ih =>
    intro i x w hi hT hV
    have hS : SameR wr w := hS0.tr hT.same
    have s3 : ∀ j, wi w 3 j = wi wr 3 j := fun j => hS.2 3 j (Or.inr (by decide))
    obtain ⟨d, q, m, f, t, h1, h2, h3, h4, h5, h6, q4, q5, q6, q7, q8, q9, q10, q11, q12⟩ := fE i (by omega)
    obtain ⟨m', hc⟩ := ctx_of hn h1 f4 f5 f6 (fD d h1)
    have hmm : m' = m := by
      have h := hc.2.2.2.2.2.2.2.2.1
      rw [q4] at h
      exact ((nI_eq (by omega) (by have := hc.2.2.2.1; omega)).mp h).symm
    subst hmm
    have hfig := hc.2.2.2.2.2.2.2.2.2
    have e3 : wi w 3 3 = nI e := (s3 3).trans f13
    have i0 : vp_in (77 + 4 * nI i) 146 := by rw [n770]; exact nI_in (by omega) (by decide)
    have i1 : vp_in (77 + 4 * nI i + 1) 146 := by rw [show (1 : Int32) = nI 1 from rfl, n77]; exact nI_in (by omega) (by decide)
    have i2 : vp_in (77 + 4 * nI i + 2) 146 := by rw [show (2 : Int32) = nI 2 from rfl, n77]; exact nI_in (by omega) (by decide)
    have i3 : vp_in (77 + 4 * nI i + 3) 146 := by rw [show (3 : Int32) = nI 3 from rfl, n77]; exact nI_in (by omega) (by decide)
    have c0 : wi w 3 (77 + 4 * nI i).toNatClampNeg = nI d := by rw [n770, nI_clamp (by omega), s3]; exact q6
    have c1 : wi w 3 (77 + 4 * nI i + 1).toNatClampNeg = nI q := by rw [show (1 : Int32) = nI 1 from rfl, n77, nI_clamp (by omega), s3, show 77 + 4 * i + 1 = 78 + 4 * i by omega]; exact q8
    refine BX11_wrongBy_2 _ _ w (hS.1.trans g2) Q ⟨fun z => absurd z (by rw [e3]; exact nI_ge (by omega) (by omega)), fun _ => ⟨i0, i1, ?_⟩⟩
    rw [c0, c1]
    refine z_dance (by omega) (by omega) hu (hS.1.trans g2) ((s3 2).trans f11) (fun j hj => by rw [s3]; exact (hfig j (by omega)).2) (fun w1 h1T => ⟨i2, i3, ?_⟩)
    have s3' : ∀ j, wi w1 3 j = wi wr 3 j := fun j => (h1T.2.1 3 j (fun h => absurd h.1 (by decide))).trans (s3 j)
    have c2 : wi w1 3 (77 + 4 * nI i + 2).toNatClampNeg = wi wc (hA b + 21) i := by rw [show (2 : Int32) = nI 2 from rfl, n77, nI_clamp (by omega), s3', show 77 + 4 * i + 2 = 79 + 4 * i by omega, q10, q9]
    have c3 : wi w1 3 (77 + 4 * nI i + 3).toNatClampNeg = wi wc (hA b + 22) i := by rw [show (3 : Int32) = nI 3 from rfl, n77, nI_clamp (by omega), s3', show 77 + 4 * i + 3 = 80 + 4 * i by omega, q12, q11]
    have ex : run (fun j => wi w 3 (9 + 12 * d + j)) (skR w s 0 d u) q = seenX b wc s u i := by
      unfold seenX
      rw [q5, q7, nI_clamp (by omega), nI_clamp (by omega)]
      refine run_ext q fun j hj => ⟨(s3 _).trans (hfig j (by omega)).1.symm, ?_⟩
      unfold skR
      rw [hb0 j (by omega), uo_ext s3 u, skC_bt _ (by omega), lo_bt hFF (by omega) (by omega) u (Nat.le_refl u)]
      rfl
    have eg : vXX11_endOf (wi wc (hA b + 21) i) w1 = goalF (wi wc (hA b + 21) i) (seenX b wc s u i) := by
      unfold vXX11_endOf goalF
      rw [h1T.2.2.1, h1T.2.2.2, ex]
    rw [goF] at hV
    rw [c2, c3, eg]
    refine ⟨fun z => ?_, fun z => ?_⟩
    · have hw : wB b wc s u i = true := decide_eq_true z
      rw [hw, if_neg (by decide)] at hV
      rw [nI_1]
      exact ih (i + 1) _ w1 (by omega) (hT.tr h1T) hV
    · have hw : wB b wc s u i = false := decide_eq_false z
      rw [hw] at hV
      have hV2 : nI i = V := hV
      subst hV2
      exact kk w1 _ (hT.tr h1T)
theorem z_wrong {b : Bool} {wc wr w : Wd} {n u e : Nat} (g2 : wr.2.2 = RM) (hF : FC b wc wr n u e) (hS : SameR wr w) {s : Int32} {Q : Int32 → Wd → Prop} (kk : ∀ w' x, TR w w' x → Q (goF (fun i => !(wB b wc s u i)) e 0) w') : ClI SR mX11_wrongBy [.ref 0, .int s] w (fun y w2 => w2.2.2 = RM ∧ Q y w2) := by
  refine TX11_wrongBy s w (hS.1.trans g2) _ ?_
  rw [← nI_0]
  exact l_wrong g2 hF hS (fun w' x h => ⟨_, rfl, h.1.trans (hS.1.trans g2), kk w' x h⟩) e 0 _ w (by omega) (TR.rf w) rfl
theorem goF_and {P : Nat → Bool} : ∀ (r j : Nat), j + r < 2 ^ 30 → (goF (fun i => !(P i)) r j = -2 ↔ ∀ i, j ≤ i → i < j + r → P i = true) := by
  intro r
  induction r with
  | zero => exact fun j _ => ⟨fun _ i h1 h2 => absurd h2 (by omega), fun _ => rfl⟩
  | succ r ih =>
    intro j hj
    rw [goF]
    cases h : P j
    · refine ⟨fun z => ?_, fun z => ?_⟩
      · have z : nI j = -2 := z
        have := congrArg Int32.toInt z
        rw [nI_toInt (by omega), show (-2 : Int32).toInt = -2 by decide] at this
        omega
      · have := z j (Nat.le_refl j) (by omega)
        rw [h] at this
        exact absurd this (by decide)
    · rw [if_neg (by decide), ih (j + 1) (by omega)]
      refine ⟨fun z i h1 h2 => ?_, fun z i h1 h2 => z i (by omega) (by omega)⟩
      by_cases c : i = j
      · rw [c]
        exact h
      · exact z i (by omega) (by omega)
theorem wrong_fB {b : Bool} {wc : Wd} {u e s : Nat} (he : e ≤ 6) : goF (fun i => !(wB b wc (nI s) u i)) e 0 = -2 ↔ fB b wc u e s = true := by
  rw [goF_and e 0 (by omega)]
  unfold fB
  rw [andB_t]
  exact ⟨fun h i hi => h i (Nat.zero_le i) (by omega), fun h i _ hi => h i (by omega)⟩
/-! the reference's way through the sets -/
def smF (P : Nat → Bool) : Nat → Int32
  | 0 => 0
  | s + 1 => if P s then smF P s ||| nI s else smF P s
def alF (u : Nat) (P : Nat → Bool) : Nat → Int32
  | 0 => nI (2 ^ u) - 1
  | s + 1 => if P s then alF u P s &&& nI s else alF u P s
def ofN (P : Nat → Bool) (k : Nat) : Nat → Nat
  | 0 => 0
  | s + 1 => if P s then ofN P k s + (bt (nI s) k).toNat else ofN P k s
def fdF (P : Nat → Bool) (t : Int32) : Nat → Int32
  | 0 => -1
  | s + 1 => if P s then (if nI (cnN P s) = t then nI s else fdF P t s) else fdF P t s
theorem bI_N (x : Bool) : bI x = nI x.toNat := by cases x <;> rfl
def SSo (w0 w : Wd) : Prop := w.2.2 = w0.2.2 ∧ ∀ a i, a ≠ 13 → ¬ (a = 0 ∧ (i = 23 ∨ i = 24 ∨ i = 41 ∨ i = 42 ∨ i = 43)) → wi w a i = wi w0 a i
theorem SSo.same {w0 w : Wd} (h : SSo w0 w) : SameR w0 w := ⟨h.1, fun a i hr => h.2 a i (fun e => by unfold relR at hr; omega) (fun e => by unfold relR at hr; omega)⟩
def SS (P : Nat → Bool) (u : Nat) (w0 w : Wd) (s : Nat) : Prop := SSo w0 w ∧ wi w 0 41 = nI (cnN P s) ∧ wi w 0 42 = smF P s ∧ wi w 0 43 = alF u P s ∧ ∀ k, k < u → wi w 13 k = nI (ofN P k s)
theorem l_often {wr w0 : Wd} (g2 : wr.2.2 = RM) {u s : Nat} (hu : u ≤ 4) (h2 : wi w0 3 2 = nI u) (h0R : w0.2.2 = RM) {t l2 : Int32} {c : Nat → Nat} (hc : ∀ k, k < u → wi w0 13 k = nI (c k)) {Q : Option Value → Wd → Prop} (kk : ∀ w', w'.2.2 = w0.2.2 → (∀ a i, a ≠ 13 → wi w' a i = wi w0 a i) → (∀ k, k < u → wi w' 13 k = nI (c k + (bt (nI s) k).toNat)) → Go SR mX11_seekSets 48 [(0, .ref 0), (1, .int t), (2, .int l2), (3, .int (nI s + 1))] [] w' Q) : ∀ (r k : Nat) (w : Wd), k + r = u → w.2.2 = w0.2.2 → (∀ a i, a ≠ 13 → wi w a i = wi w0 a i) → (∀ j, j < k → wi w 13 j = nI (c j + (bt (nI s) j).toNat)) → (∀ j, k ≤ j → j < u → wi w 13 j = nI (c j)) → Go SR mX11_seekSets 116 [(0, .ref 0), (1, .int t), (2, .int l2), (3, .int (nI s)), (4, .int (nI k))] [] w Q := by
  intro r
  induction r with
  | zero =>
    intro k w hk q1 q2 q3 q4
    have e1 : k = u := by omega
    subst e1
    have e3 : wi w 3 2 = nI k := (q2 3 2 (by decide)).trans h2
    exact BX11_seekSets_116 _ _ _ _ w (q1.trans h0R) Q ⟨fun _ => kk w q1 q2 q3, fun z => absurd (by rw [e3]; exact nI_le (Nat.le_refl k) (by omega)) z⟩
  | succ r ih =>
    intro k w hk q1 q2 q3 q4
    have e3 : wi w 3 2 = nI u := (q2 3 2 (by decide)).trans h2
    have hin : vp_in (nI k) 4 := nI_in (by omega) (by decide)
    refine BX11_seekSets_116 _ _ _ _ w (q1.trans h0R) Q ⟨fun z => absurd z (by rw [e3]; exact nI_ge (by omega) (by omega)), fun _ => ⟨hin, hin, ?_⟩⟩
    rw [nI_clamp (by omega), bit_at _ (by omega), q4 k (Nat.le_refl k) (by omega), bI_N, nI_add, nI_1]
    refine ih (k + 1) _ (by omega) q1 (fun a i ha => (wi_ne (Or.inl ha)).trans (q2 a i ha)) (fun j hj => ?_) (fun j hj hj2 => (wi_ne (Or.inr (by omega))).trans (q4 j (by omega) hj2))
    by_cases cj : j = k
    · subst cj
      exact wi_self _ _ _ _
    · exact (wi_ne (Or.inr cj)).trans (q3 j (by omega))
def SE (P : Nat → Bool) (u : Nat) (w0 w : Wd) : Prop := SSo w0 w ∧ wi w 0 41 = nI (cnN P (2 ^ u)) ∧ wi w 0 42 = smF P (2 ^ u) ∧ wi w 0 43 = (if cnN P (2 ^ u) = 0 then 0 else alF u P (2 ^ u)) ∧ ∀ k, k < u → wi w 13 k = nI (ofN P k (2 ^ u))
theorem l_sets {b : Bool} {wc wr w0 : Wd} {n u e : Nat} (g2 : wr.2.2 = RM) (hF : FC b wc wr n u e) (hS0 : SameR wr w0) {t : Int32} {Q : Option Value → Wd → Prop} (kk : ∀ w', SE (fB b wc u e) u w0 w' → Q (some (.int (fdF (fB b wc u e) t (2 ^ u)))) w') : ∀ (r s : Nat) (w : Wd), s + r = 2 ^ u → SS (fB b wc u e) u w0 w s → Go SR mX11_seekSets 48 [(0, .ref 0), (1, .int t), (2, .int (fdF (fB b wc u e) t s)), (3, .int (nI s))] [] w Q := by
  have hp := p16 hF.2.1
  have hu := hF.2.1
  have he := hF.2.2.1
  have sh : ∀ w, SSo w0 w → (1 : Int32) <<< ((wi w 3 2) &&& 31) = nI (2 ^ u) := fun w h => by
    rw [h.2 3 2 (by decide) (by decide), hS0.2 3 2 (Or.inr (by decide)), hF.2.2.2.2.2.2.2.1, sh1 u (by omega)]
  intro r
  induction r with
  | zero =>
    intro s w hs h
    have e1 : s = 2 ^ u := by omega
    subst e1
    have hcn := cnN_le (fB b wc u e) (2 ^ u)
    obtain ⟨h1, h2, h3, h4, h5⟩ := h
    refine BX11_seekSets_48 _ _ _ w (h1.1.trans (hS0.1.trans g2)) Q ⟨fun _ => ⟨fun z => kk _ ?_, fun z => kk _ ?_⟩, fun z => absurd (by rw [sh w h1]; exact nI_le (Nat.le_refl _) (by omega)) z⟩
    · have hc0 : cnN (fB b wc u e) (2 ^ u) = 0 := by
        rw [h2, ← nI_0] at z
        exact (nI_eq (by omega) (by decide)).mp z
      refine ⟨⟨h1.1, fun a i ha hi => (wi_ne (by omega)).trans (h1.2 a i ha hi)⟩, (wi_ne (Or.inr (by decide))).trans h2, (wi_ne (Or.inr (by decide))).trans h3, ?_, fun k hk => (wi_ne (Or.inl (by decide))).trans (h5 k hk)⟩
      rw [if_pos hc0]
      exact wi_self _ _ _ _
    · have hc0 : ¬ cnN (fB b wc u e) (2 ^ u) = 0 := fun y => z (by rw [h2, y]; rfl)
      refine ⟨h1, h2, h3, ?_, h5⟩
      rw [if_neg hc0]
      exact h4
  | succ r ih =>
    intro s w hs h
    obtain ⟨h1, h2, h3, h4, h5⟩ := h
    refine BX11_seekSets_48 _ _ _ w (h1.1.trans (hS0.1.trans g2)) Q ⟨fun z => absurd z (by rw [sh w h1]; exact nI_ge (by omega) (by omega)), fun _ => z_wrong g2 hF (hS0.tr h1.same) (fun w1 x hT => ⟨fun z => ?_, fun z => ?_⟩)⟩
    · have hb : fB b wc u e s = true := (wrong_fB he).mp z
      have t41 : wi w1 0 41 = nI (cnN (fB b wc u e) s) := (hT.2.1 0 41 (by decide)).trans h2
      have t42 : wi (si w1 0 41 (nI (cnN (fB b wc u e) s + 1))) 0 42 = smF (fB b wc u e) s := (wi_ne (Or.inr (by decide))).trans ((hT.2.1 0 42 (by decide)).trans h3)
      have t43 : wi (si (si w1 0 41 (nI (cnN (fB b wc u e) s + 1))) 0 42 (smF (fB b wc u e) s ||| nI s)) 0 43 = alF u (fB b wc u e) s := (wi_ne (Or.inr (by decide))).trans ((wi_ne (Or.inr (by decide))).trans ((hT.2.1 0 43 (by decide)).trans h4))
      rw [t41, nI_1, t42, t43]
      have efd : (if nI (cnN (fB b wc u e) s) = t then nI s else fdF (fB b wc u e) t s : Int32) = fdF (fB b wc u e) t (s + 1) := by rw [fdF, hb, if_pos rfl]
      rw [efd]
      have hw : (si (si (si w1 0 41 (nI (cnN (fB b wc u e) s + 1))) 0 42 (smF (fB b wc u e) s ||| nI s)) 0 43 (alF u (fB b wc u e) s &&& nI s)).2.2 = w0.2.2 := hT.1.trans h1.1
      have hwo : ∀ a i, ¬ (a = 0 ∧ (i = 41 ∨ i = 42 ∨ i = 43)) → wi (si (si (si w1 0 41 (nI (cnN (fB b wc u e) s + 1))) 0 42 (smF (fB b wc u e) s ||| nI s)) 0 43 (alF u (fB b wc u e) s &&& nI s)) a i = wi w1 a i := fun a i ha => (wi_ne (by omega)).trans ((wi_ne (by omega)).trans (wi_ne (by omega)))
      refine l_often (wr := wr) g2 (c := fun k => ofN (fB b wc u e) k s) hu ((hwo 3 2 (by decide)).trans ((hT.2.1 3 2 (by decide)).trans ((h1.2 3 2 (by decide) (by decide)).trans ((hS0.2 3 2 (Or.inr (by decide))).trans hF.2.2.2.2.2.2.2.1)))) (hw.trans (hS0.1.trans g2)) (fun k hk => (hwo 13 k (by omega)).trans ((hT.2.1 13 k (by omega)).trans (h5 k hk))) (fun w' p1 p2 p3 => ?_) u 0 _ (by omega) rfl (fun _ _ _ => rfl) (fun j hj => absurd hj (Nat.not_lt_zero j)) (fun k _ hk => (hwo 13 k (by omega)).trans ((hT.2.1 13 k (by omega)).trans (h5 k hk)))
      rw [nI_1]
      refine ih (s + 1) w' (by omega) ⟨⟨p1.trans hw, fun a i ha hi => (p2 a i ha).trans ((hwo a i (by omega)).trans ((hT.2.1 a i (by omega)).trans (h1.2 a i ha hi)))⟩, ?_, ?_, ?_, fun k hk => ?_⟩
      · rw [p2 0 41 (by decide), cnN, hb, if_pos rfl]
        exact (wi_ne (Or.inr (by decide))).trans ((wi_ne (Or.inr (by decide))).trans (wi_self _ _ _ _))
      · rw [p2 0 42 (by decide), smF, hb, if_pos rfl]
        exact (wi_ne (Or.inr (by decide))).trans (wi_self _ _ _ _)
      · rw [p2 0 43 (by decide), alF, hb, if_pos rfl]
        exact wi_self _ _ _ _
      · rw [p3 k hk, ofN, hb, if_pos rfl]
    · have hb : fB b wc u e s = false := by
        cases hh : fB b wc u e s
        · rfl
        · exact absurd ((wrong_fB he).mpr hh) z
      have efd : fdF (fB b wc u e) t s = fdF (fB b wc u e) t (s + 1) := by rw [fdF, hb, if_neg (by decide)]
      rw [efd, nI_1]
      refine ih (s + 1) w1 (by omega) ⟨⟨hT.1.trans h1.1, fun a i ha hi => (hT.2.1 a i (by omega)).trans (h1.2 a i ha hi)⟩, ?_, ?_, ?_, fun k hk => ?_⟩
      · rw [hT.2.1 0 41 (by decide), cnN, hb, if_neg (by decide)]
        exact h2
      · rw [hT.2.1 0 42 (by decide), smF, hb, if_neg (by decide)]
        exact h3
      · rw [hT.2.1 0 43 (by decide), alF, hb, if_neg (by decide)]
        exact h4
      · rw [hT.2.1 13 k (by omega), ofN, hb, if_neg (by decide)]
        exact h5 k hk
theorem z_sets {b : Bool} {wc wr : Wd} {n u e : Nat} (g2 : wr.2.2 = RM) (hF : FC b wc wr n u e) {t : Int32} {Q : Int32 → Wd → Prop} (kk : ∀ w', SE (fB b wc u e) u (wXX11_anew wr) w' → Q (fdF (fB b wc u e) t (2 ^ u)) w') : ClI SR mX11_seekSets [.ref 0, .int t] (wXX11_anew wr) (fun y w2 => w2.2.2 = RM ∧ Q y w2) := by
  have hu := hF.2.1
  refine TX11_seekSets t _ (an_R g2) _ ?_
  have e3 : wi (si (si (wXX11_anew wr) 0 41 0) 0 42 0) 3 2 = nI u := (wi_ne (Or.inl (by decide))).trans ((wi_ne (Or.inl (by decide))).trans ((an_ne (Or.inl (by decide))).trans hF.2.2.2.2.2.2.2.1))
  rw [e3, sh1 u (by omega)]
  have hin : ∀ k : Nat, k < 4 → vp_in (nI k) 4 := fun k hk => nI_in hk (by decide)
  have tail : ∀ w : Wd, w.2.2 = (wXX11_anew wr).2.2 → (∀ a i, a ≠ 13 → ¬ (a = 0 ∧ (i = 41 ∨ i = 42 ∨ i = 43)) → wi w a i = wi (wXX11_anew wr) a i) → wi w 0 41 = 0 → wi w 0 42 = 0 → wi w 0 43 = nI (2 ^ u) - 1 → (∀ k, k < 4 → wi w 13 k = 0) → Go SR mX11_seekSets 48 [(0, .ref 0), (1, .int t), (2, .int (-1)), (3, .int 0)] [] w (fun r w' => ∃ x, r = some (.int x) ∧ w'.2.2 = RM ∧ Q x w') := fun w q1 q2 q3 q4 q5 q6 => by
    rw [← nI_0]
    exact l_sets g2 hF (an_same wr) (fun w' h => ⟨_, rfl, h.1.1.trans (an_R g2), kk w' h⟩) (2 ^ u) 0 w (by omega) ⟨⟨q1, fun a i ha hi => q2 a i ha (by omega)⟩, q3, q4, q5, fun k hk => q6 k (by omega)⟩
  have init : ∀ (r k : Nat) (w : Wd), k + r = 4 → w.2.2 = (wXX11_anew wr).2.2 → (∀ a i, a ≠ 13 → ¬ (a = 0 ∧ (i = 41 ∨ i = 42 ∨ i = 43)) → wi w a i = wi (wXX11_anew wr) a i) → wi w 0 41 = 0 → wi w 0 42 = 0 → wi w 0 43 = nI (2 ^ u) - 1 → (∀ j, j < k → wi w 13 j = 0) → Go SR mX11_seekSets 28 [(0, .ref 0), (1, .int t), (2, .int (-1)), (3, .int (nI k))] [] w (fun r w' => ∃ x, r = some (.int x) ∧ w'.2.2 = RM ∧ Q x w') := by
    intro r
    induction r with
    | zero =>
      intro k w hk q1 q2 q3 q4 q5 q6
      have e1 : k = 4 := by omega
      subst e1
      exact BX11_seekSets_28 _ _ _ w (q1.trans (an_R g2)) _ ⟨fun _ => tail w q1 q2 q3 q4 q5 q6, fun z => absurd (show (4 : Int32) ≤ nI 4 by decide) z⟩
    | succ r ih =>
      intro k w hk q1 q2 q3 q4 q5 q6
      refine BX11_seekSets_28 _ _ _ w (q1.trans (an_R g2)) _ ⟨fun z => absurd z (nI_ge (b := 4) (by omega) (by decide)), fun _ => ⟨hin k (by omega), ?_⟩⟩
      rw [nI_clamp (by omega), nI_1]
      refine ih (k + 1) _ (by omega) q1 (fun a i ha hi => (wi_ne (Or.inl ha)).trans (q2 a i ha hi)) ((wi_ne (Or.inl (by decide))).trans q3) ((wi_ne (Or.inl (by decide))).trans q4) ((wi_ne (Or.inl (by decide))).trans q5) (fun j hj => ?_)
      by_cases c : j = k
      · subst c
        exact wi_self _ _ _ _
      · exact (wi_ne (Or.inr c)).trans (q6 j (by omega))
  exact init 4 0 _ (by decide) rfl (fun a i ha hi => (wi_ne (by omega)).trans ((wi_ne (by omega)).trans (wi_ne (by omega)))) ((wi_ne (Or.inr (by decide))).trans ((wi_ne (Or.inr (by decide))).trans (wi_self _ _ _ _))) ((wi_ne (Or.inr (by decide))).trans (wi_self _ _ _ _)) (wi_self _ _ _ _) (fun j hj => absurd hj (Nat.not_lt_zero j))
theorem SE.k11 {P : Nat → Bool} {u : Nat} {wr w : Wd} (h : SE P u (wXX11_anew wr) w) : wi w 0 11 = 0 := (h.1.2 0 11 (by decide) (by decide)).trans (an_11 wr)
theorem SE.same {P : Nat → Bool} {u : Nat} {wr w : Wd} (h : SE P u (wXX11_anew wr) w) : SameR wr w := (an_same wr).tr h.1.same
