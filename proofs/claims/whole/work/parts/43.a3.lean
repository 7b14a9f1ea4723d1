/-! a row walked (the class) and danced (the reference) -/
def TW (a : Nat) (w w' : Wd) (x : Int32 × Int32) : Prop := w'.2.2 = w.2.2 ∧ (∀ a' i, a' ≠ a → wi w' a' i = wi w a' i) ∧ wi w' a 0 = x.1 ∧ wi w' a 1 = x.2
theorem TW.put {a : Nat} {w w' : Wd} {x : Int32 × Int32} {o u : Int32} (h : TW a w w' x) : TW a w (wXX7_put a o u w') (o, u) :=
  ⟨h.1, fun a' i ha => (wi_ne (Or.inl ha)).trans ((wi_ne (Or.inl ha)).trans (h.2.1 a' i ha)), (wi_ne (Or.inr (by decide))).trans (wi_self _ _ _ _), wi_self _ _ _ _⟩
theorem TW.put0 {a : Nat} (w : Wd) (o u : Int32) : TW a w (wXX7_put a o u w) (o, u) := TW.put (x := (wi w a 0, wi w a 1)) ⟨rfl, fun _ _ _ => rfl, rfl, rfl⟩
theorem TW.step {a : Nat} {w w' : Wd} {x : Int32 × Int32} {f : Int32} (h : TW a w w' x) : TW a w (wXX7_step a f w') (fo f x) := by
  have := h.put (o := vXX7_overBy f (wi w' a 0) (wi w' a 1)) (u := vXX7_underBy f (wi w' a 0) (wi w' a 1))
  rw [h.2.2.1, h.2.2.2] at this
  unfold wXX7_step
  rw [h.2.2.1, h.2.2.2]
  exact this
theorem TW.same {a : Nat} {w w' : Wd} {x : Int32 × Int32} (h : TW a w w' x) (ha : ¬ relC a) : SameC w w' := ⟨h.1, fun b i hb => h.2.1 b i (fun e => ha (e ▸ hb))⟩
def skC (L : Int32) (j : Nat) : Bool := decide (¬ vXX10_isIn L (nI j) = 0)
theorem gf_in {w : Wd} {a n j : Nat} (h : j < n) (hn : n < 2 ^ 31) : gf w a n (nI j) = wi w a j := by
  unfold gf
  rw [if_pos ⟨nI_pos' (by omega), nI_lt h hn⟩, nI_clamp (by omega)]
theorem l_walk {c : Bool} {k : Nat} (hk : k < 5) {a : Nat} (ha : SC[a]? = some (.inl 6)) (ha1 : dA (hA c) k ≠ a) (ha2 : dA (hA c) k + 1 ≠ a) {b : Bool} {w0 : Wd} (hR : w0.2.2 = RTab b) {m n : Nat} (hm : wi w0 (dA (hA c) k) 1 = nI m) (hnm : n ≤ m) (hm12 : m ≤ 12) {L : Int32} {Q : Option Value → Wd → Prop} (kk : ∀ w', TW a w0 w' (run (fun i => wi w0 (dA (hA c) k + 1) i) (skC L) n) → Q none w') : ∀ (r j : Nat) (w : Wd), j + r = n → TW a w0 w (run (fun i => wi w0 (dA (hA c) k + 1) i) (skC L) j) → Go SC mX1_walk 9 [(0, .ref (dA (hA c) k)), (1, .int (nI n)), (2, .int L), (3, .ref a), (4, .int (nI j))] [] w Q := by
  intro r
  induction r with
  | zero =>
    intro j w hj hT
    have : j = n := by omega
    subst this
    exact BX1_walk_9 c k hk a ha _ _ _ w b (hT.1.trans hR) Q ⟨fun _ => kk w hT, fun z => absurd (nI_le (Nat.le_refl j) (by omega)) z⟩
  | succ r ih =>
    intro j w hj hT
    refine BX1_walk_9 c k hk a ha _ _ _ w b (hT.1.trans hR) Q ⟨fun z => absurd z (nI_ge (by omega) (by omega)), fun _ => ⟨fun z => ?_, fun _ => ⟨fun z => ?_, fun z => ?_⟩⟩⟩
    · rw [hT.2.1 _ _ ha1, hm] at z
      exact absurd z (nI_ge (by omega) (by omega))
    · rw [nI_1, gf_in (by omega) (by decide)]
      refine ih (j + 1) _ (by omega) ?_
      have e : run (fun i => wi w0 (dA (hA c) k + 1) i) (skC L) (j + 1) = fo (wi w (dA (hA c) k + 1) j) (run (fun i => wi w0 (dA (hA c) k + 1) i) (skC L) j) := by
        rw [run, if_neg (by unfold skC; rw [z]; decide), hT.2.1 _ _ ha2]
      rw [e]
      exact hT.step
    · rw [nI_1]
      refine ih (j + 1) _ (by omega) ?_
      rw [run, if_pos (by unfold skC; exact decide_eq_true z)]
      exact hT
theorem z_walk {c : Bool} {k : Nat} (hk : k < 5) {a : Nat} (ha : SC[a]? = some (.inl 6)) (ha1 : dA (hA c) k ≠ a) (ha2 : dA (hA c) k + 1 ≠ a) {b : Bool} {w : Wd} (hR : w.2.2 = RTab b) {m n : Nat} (hm : wi w (dA (hA c) k) 1 = nI m) (hnm : n ≤ m) (hm12 : m ≤ 12) {L : Int32} {Q : Wd → Prop} (kk : ∀ w', TW a w w' (run (fun i => wi w (dA (hA c) k + 1) i) (skC L) n) → Q w') : ClV SC mX1_walk [.ref (dA (hA c) k), .int (nI n), .int L, .ref a] w (fun w2 => w2.2.2 = RTab b ∧ Q w2) := by
  refine TX1_walk c k hk _ _ a ha w b hR _ ?_
  have hT := TW.put0 (a := a) w 0 1
  have e1 : wi (wXX7_put a 0 1 w) (dA (hA c) k) 1 = nI m := (hT.2.1 _ _ ha1).trans hm
  have e2 : (fun i => wi (wXX7_put a 0 1 w) (dA (hA c) k + 1) i) = fun i => wi w (dA (hA c) k + 1) i := funext fun i => hT.2.1 _ _ ha2
  refine l_walk hk ha ha1 ha2 hR hm hnm hm12 (fun w' h => ⟨rfl, h.1.trans hR, kk w' h⟩) n 0 _ (by omega) hT
def TR (w w' : Wd) (x : Int32 × Int32) : Prop := w'.2.2 = w.2.2 ∧ (∀ a i, ¬ (a = 0 ∧ (i = 23 ∨ i = 24)) → wi w' a i = wi w a i) ∧ wi w' 0 23 = x.1 ∧ wi w' 0 24 = x.2
theorem TR.tr {w w' w'' : Wd} {x y : Int32 × Int32} (h1 : TR w w' x) (h2 : TR w' w'' y) : TR w w'' y := ⟨h2.1.trans h1.1, fun a i h => (h2.2.1 a i h).trans (h1.2.1 a i h), h2.2.2⟩
theorem TR.same {w w' : Wd} {x : Int32 × Int32} (h : TR w w' x) : SameR w w' := ⟨h.1, fun a i hr => h.2.1 a i (fun e => by unfold relR at hr; omega)⟩
theorem TR.put (w : Wd) (o u : Int32) : TR w (si (si w 0 23 o) 0 24 u) (o, u) := ⟨rfl, fun a i h => (wi_ne (by omega)).trans (wi_ne (by omega)), (wi_ne (Or.inr (by decide))).trans (wi_self _ _ _ _), wi_self _ _ _ _⟩
theorem TR.put23 (w : Wd) (o : Int32) : TR w (si w 0 23 o) (o, wi w 0 24) := ⟨rfl, fun a i h => wi_ne (by omega), wi_self _ _ _ _, wi_ne (Or.inr (by decide))⟩
theorem TR.rf (w : Wd) : TR w w (wi w 0 23, wi w 0 24) := ⟨rfl, fun _ _ _ => rfl, rfl, rfl⟩
theorem fo2 (o u : Int32) : fo 2 (o, u) = (if o = 0 then 1 else if o ≤ 0 then u else -u, vXX11_away o) := rfl
theorem fo0 (o u : Int32) : fo 0 (o, u) = (o + u, u) := rfl
theorem fo1 (o u : Int32) : fo 1 (o, u) = (o - u, u) := rfl
theorem away0 (o : Int32) : vXX11_away o = 0 ↔ o = 0 := by
  unfold vXX11_away
  constructor
  · intro h
    split at h
    · exact h
    · exact (Int32.neg_neg (a := o)).symm.trans ((congrArg (fun z => -z) h).trans Int32.neg_zero)
  · rintro rfl
    rfl
theorem z_figOn {f : Int32} (hf : Fig f) {w : Wd} (hR : w.2.2 = RM) (hu : 0 ≤ (wi w 0 24).toInt) {Q : Wd → Prop} (k : ∀ w', TR w w' (fo f (wi w 0 23, wi w 0 24)) → Q w') : ClV SR mX11_figureOn [.ref 0, .int f] w (fun w2 => w2.2.2 = RM ∧ Q w2) := by
  refine TX11_figureOn f w hR _ ⟨fun q => ?_, fun q => ⟨fun z => ?_, fun z => ?_⟩⟩
  · subst q
    rw [fo2] at k
    rw [wi_self, away0]
    have hT := TR.put w (if 0 ≤ wi w 0 23 then -wi w 0 24 else wi w 0 24) (vXX11_away (wi w 0 23))
    refine ⟨fun z => ⟨rfl, hR, k _ ?_⟩, fun z => ⟨rfl, hR, k _ ?_⟩⟩
    · rw [if_pos z]
      have := hT.tr (TR.put23 _ 1)
      rw [wi_self] at this
      exact this
    · rw [if_neg z]
      have e : (if wi w 0 23 ≤ 0 then wi w 0 24 else -wi w 0 24 : Int32) = if 0 ≤ wi w 0 23 then -wi w 0 24 else wi w 0 24 := by
        by_cases c : wi w 0 23 ≤ 0
        · rw [if_pos c, if_neg (fun h => z (Int32.le_antisymm c h))]
        · rw [if_neg c, if_pos (Int32.le_of_lt (Int32.not_le.mp c))]
      rw [e]
      exact hT
  · have h0 : wi w 0 24 = 0 := by
      refine Int32.toInt_inj.mp ?_
      rw [Int32.le_iff_toInt_le] at z
      rw [Int32.toInt_zero] at z ⊢
      omega
    refine ⟨rfl, hR, k _ ?_⟩
    have := TR.rf w
    rcases hf with rfl | rfl | rfl
    · rw [fo0]
      rw [h0] at this ⊢
      rw [Int32.add_zero]
      exact this
    · rw [fo1]
      rw [h0] at this ⊢
      rw [Int32.sub_zero]
      exact this
    · exact absurd rfl q
  · refine ⟨rfl, hR, k _ ?_⟩
    rcases hf with rfl | rfl | rfl
    · rw [fo0, if_pos rfl]
      exact TR.put23 _ _
    · rw [fo1, if_neg (by decide), Int32.sub_eq_add_neg]
      exact TR.put23 _ _
    · exact absurd rfl q
/-- whether one of the first t unsure ones, of those in L, is this figure -/
def uo (w : Wd) (L : Int32) (d j : Nat) : Nat → Bool
  | 0 => false
  | t + 1 => uo w L d j t || (decide (¬ vXX11_hasBit L (nI t) = 0) && decide (wi w 3 (69 + 2 * t) = nI d) && decide (wi w 3 (70 + 2 * t) = nI j))
def skR (w : Wd) (L M : Int32) (d u j : Nat) : Bool := decide (¬ vXX11_hasBit M (nI j) = 0) || uo w L d j u
theorem n69 (t : Nat) : 69 + 2 * nI t = nI (69 + 2 * t) := by
  rw [show (2 : Int32) = nI 2 from rfl, nmul, show (69 : Int32) = nI 69 from rfl, nI_add]
theorem uo_ext {w w' : Wd} {L : Int32} {d j : Nat} (h : ∀ i, wi w' 3 i = wi w 3 i) : ∀ t, uo w' L d j t = uo w L d j t := by
  intro t
  induction t with
  | zero => rfl
  | succ t ih => simp only [uo, ih, h]
theorem l_inner {d n j u : Nat} (hd : d < 5) (hj : j < 12) (hu : u ≤ 4) {L M : Int32} {w : Wd} (hR : w.2.2 = RM) (h2 : wi w 3 2 = nI u) {Q : Option Value → Wd → Prop}
    (kn : skR w L M d u j = true → Go SR mX11_dance 13 [(0, .ref 0), (1, .int (nI d)), (2, .int (nI n)), (3, .int L), (4, .int M), (5, .int (nI (j + 1)))] [] w Q)
    (ky : skR w L M d u j = false → ClV SR mX11_figureOn [.ref 0, .int (wi w 3 (9 + 12 * d + j))] w (fun w2 => w2.2.2 = RM ∧ Go SR mX11_dance 13 [(0, .ref 0), (1, .int (nI d)), (2, .int (nI n)), (3, .int L), (4, .int M), (5, .int (nI (j + 1)))] [] w2 Q)) :
    ∀ (r t : Nat) (x : Int32), t + r = u → (x = if (decide (¬ vXX11_hasBit M (nI j) = 0) || uo w L d j t) then 0 else 1) → Go SR mX11_dance 39 [(0, .ref 0), (1, .int (nI d)), (2, .int (nI n)), (3, .int L), (4, .int M), (5, .int (nI j)), (6, .int x), (7, .int (nI t))] [] w Q := by
  intro r
  induction r with
  | zero =>
    intro t x ht hx
    have : t = u := by omega
    subst this
    refine BX11_dance_39 _ _ _ _ _ _ _ w hR Q ⟨fun _ => ⟨fun z => ?_, fun z => ⟨by rw [n9]; exact nI_in (by omega) (by decide), ?_⟩⟩, fun z => absurd (by rw [h2]; exact nI_le (Nat.le_refl t) (by omega)) z⟩
    · rw [nI_1]
      refine kn ?_
      unfold skR
      revert hx
      cases (decide (¬ vXX11_hasBit M (nI j) = 0) || uo w L d j t)
      · intro hx
        rw [z] at hx
        exact absurd hx (by decide)
      · exact fun _ => rfl
    · rw [nI_1, n9, nI_clamp (by omega)]
      refine ky ?_
      unfold skR
      revert hx
      cases (decide (¬ vXX11_hasBit M (nI j) = 0) || uo w L d j t)
      · exact fun _ => rfl
      · exact fun hx => absurd hx z
  | succ r ih =>
    intro t x ht hx
    refine BX11_dance_39 _ _ _ _ _ _ _ w hR Q ⟨fun z => absurd z (by rw [h2]; exact nI_ge (by omega) (by omega)), fun _ => ⟨fun z => ?_, fun z => ?_⟩⟩
    · rw [nI_1]
      refine ih (t + 1) 0 (by omega) ?_
      have : (decide (¬ vXX11_hasBit M (nI j) = 0) || uo w L d j t) = true := by
        revert hx
        cases (decide (¬ vXX11_hasBit M (nI j) = 0) || uo w L d j t)
        · intro hx
          rw [z] at hx
          exact absurd hx (by decide)
        · exact fun _ => rfl
      rw [uo, ← Bool.or_assoc, this, Bool.true_or, if_pos rfl]
    · have h0 : (decide (¬ vXX11_hasBit M (nI j) = 0) || uo w L d j t) = false := by
        revert hx
        cases (decide (¬ vXX11_hasBit M (nI j) = 0) || uo w L d j t)
        · exact fun _ => rfl
        · exact fun hx => absurd hx z
      have key : ∀ y : Int32, (y = if (decide (¬ vXX11_hasBit L (nI t) = 0) && decide (wi w 3 (69 + 2 * t) = nI d) && decide (wi w 3 (70 + 2 * t) = nI j)) then 0 else 1) → (y = if (decide (¬ vXX11_hasBit M (nI j) = 0) || uo w L d j (t + 1)) then 0 else 1) := by
        intro y hy
        rw [uo, ← Bool.or_assoc, h0, Bool.false_or]
        exact hy
      rw [n69, nI_clamp (by omega), nI_1, nI_1, nI_clamp (by omega)]
      refine ⟨fun z1 => ih (t + 1) 1 (by omega) (key _ ?_), fun z1 => ⟨nI_in (by omega) (by decide), fun z2 => ⟨nI_in (by omega) (by decide), ih (t + 1) _ (by omega) (key _ ?_)⟩, fun z2 => ih (t + 1) 1 (by omega) (key _ ?_)⟩⟩
      · rw [decide_eq_false (fun h => h z1), Bool.false_and, Bool.false_and, if_neg (by decide)]
      · rw [decide_eq_true z1, decide_eq_true z2, Bool.true_and, Bool.true_and, show 69 + 2 * t + 1 = 70 + 2 * t by omega]
        by_cases c : wi w 3 (70 + 2 * t) = nI j
        · rw [if_pos c, decide_eq_true c, if_pos rfl]
        · rw [if_neg c, decide_eq_false c, if_neg (by decide)]
      · rw [decide_eq_false z2, Bool.and_false, Bool.false_and, if_neg (by decide)]
theorem l_dance {d n u : Nat} (hd : d < 5) (hn : n ≤ 12) (hu : u ≤ 4) {L M : Int32} {w0 : Wd} (hR : w0.2.2 = RM) (h2 : wi w0 3 2 = nI u) (hF : ∀ i, i < n → Fig (wi w0 3 (9 + 12 * d + i))) {Q : Option Value → Wd → Prop}
    (kk : ∀ w', TR w0 w' (run (fun i => wi w0 3 (9 + 12 * d + i)) (skR w0 L M d u) n) → Q none w') : ∀ (r j : Nat) (w : Wd), j + r = n → TR w0 w (run (fun i => wi w0 3 (9 + 12 * d + i)) (skR w0 L M d u) j) → Go SR mX11_dance 13 [(0, .ref 0), (1, .int (nI d)), (2, .int (nI n)), (3, .int L), (4, .int M), (5, .int (nI j))] [] w Q := by
  intro r
  induction r with
  | zero =>
    intro j w hj hT
    have : j = n := by omega
    subst this
    exact BX11_dance_13 _ _ _ _ _ w (hT.1.trans hR) Q ⟨fun _ => kk w hT, fun z => absurd (nI_le (Nat.le_refl j) (by omega)) z⟩
  | succ r ih =>
    intro j w hj hT
    have h3 : ∀ i, wi w 3 i = wi w0 3 i := fun i => hT.2.1 3 i (fun h => absurd h.1 (by decide))
    have es : skR w L M d u j = skR w0 L M d u j := by
      unfold skR
      rw [uo_ext h3]
    refine BX11_dance_13 _ _ _ _ _ w (hT.1.trans hR) Q ⟨fun z => absurd z (nI_ge (by omega) (by omega)), fun _ => ?_⟩
    rw [← nI_0]
    refine l_inner hd (by omega) hu (hT.1.trans hR) ((h3 2).trans h2) (fun z => ?_) (fun z => ?_) u 0 _ (by omega) ?_
    · refine ih (j + 1) w (by omega) ?_
      rw [run, if_pos (es.symm.trans z)]
      exact hT
    · have hb := run_bd (F := fun i => wi w0 3 (9 + 12 * d + i)) (sk := skR w0 L M d u) j (by omega) (fun i hi => hF i (by omega))
      refine z_figOn (by rw [h3]; exact hF j (by omega)) (hT.1.trans hR) (by rw [hT.2.2.2]; exact hb.2.2.1) (fun w' h => ih (j + 1) w' (by omega) ?_)
      rw [run, if_neg (by rw [← es, z]; decide)]
      rw [hT.2.2.1, hT.2.2.2, h3] at h
      exact hT.tr h
    · show (if vXX11_hasBit M (nI j) = nI 0 then 1 else nI 0 : Int32) = _
      rw [nI_0, uo, Bool.or_false]
      by_cases c : vXX11_hasBit M (nI j) = 0
      · rw [if_pos c, decide_eq_false (fun h => h c), if_neg (by decide)]
      · rw [if_neg c, decide_eq_true c, if_pos rfl]
theorem z_dance {d n u : Nat} (hd : d < 5) (hn : n ≤ 12) (hu : u ≤ 4) {L M : Int32} {w : Wd} (hR : w.2.2 = RM) (h2 : wi w 3 2 = nI u) (hF : ∀ i, i < n → Fig (wi w 3 (9 + 12 * d + i))) {Q : Wd → Prop} (kk : ∀ w', TR w w' (run (fun i => wi w 3 (9 + 12 * d + i)) (skR w L M d u) n) → Q w') : ClV SR mX11_dance [.ref 0, .int (nI d), .int (nI n), .int L, .int M] w (fun w2 => w2.2.2 = RM ∧ Q w2) := by
  refine TX11_dance _ _ _ _ w hR _ ?_
  rw [← nI_0]
  exact l_dance hd hn hu hR h2 hF (fun w' h => ⟨rfl, h.1.trans hR, kk w' h⟩) n 0 _ (by omega) (TR.put w 0 1)
theorem run_ext {F G : Nat → Int32} {s t : Nat → Bool} : ∀ n, (∀ i, i < n → F i = G i ∧ s i = t i) → run F s n = run G t n := by
  intro n
  induction n with
  | zero => exact fun _ => rfl
  | succ n ih =>
    intro h
    rw [run, run, ih (fun i hi => h i (by omega)), (h n (by omega)).1, (h n (by omega)).2]
theorem hb0 : ∀ j, j < 12 → vXX11_hasBit 0 (nI j) = 0 := by decide +kernel
theorem ib0 : ∀ j, j < 12 → vXX10_isIn 0 (nI j) = 0 := by decide +kernel
theorem uo0 {w : Wd} {d j : Nat} : ∀ t, t ≤ 4 → uo w 0 d j t = false := by
  intro t
  induction t with
  | zero => exact fun _ => rfl
  | succ t ih =>
    intro h
    rw [uo, ih (by omega), hb0 t (by omega)]
    rfl
theorem skR0 {w : Wd} {d u j : Nat} (hu : u ≤ 4) (hj : j < 12) : skR w 0 0 d u j = false := by
  unfold skR
  rw [uo0 u hu, hb0 j hj]
  rfl
theorem skC0 {j : Nat} (hj : j < 12) : skC 0 j = false := by
  unfold skC
  rw [ib0 j hj]
  rfl
/-- both sides' rows, plain -/
theorem run_pair {b : Bool} {wc wr : Wd} {d m n u : Nat} (hd : d < 5) (hnm : n ≤ m) (hm : m ≤ 12) (hu : u ≤ 4) (h : ∀ i : Nat, i < m → wi wc (dA (hA b) d + 1) i = wi wr 3 (9 + 12 * d + i) ∧ Fig (wi wr 3 (9 + 12 * d + i))) : run (fun i => wi wc (dA (hA b) d + 1) i) (skC 0) n = run (fun i => wi wr 3 (9 + 12 * d + i)) (skR wr 0 0 d u) n :=
  run_ext n fun i hi => ⟨(h i (by omega)).1, (skC0 (by omega)).trans (skR0 hu (by omega)).symm⟩
