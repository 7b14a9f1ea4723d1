/-! two who call by turns -/
def mxI (a c : Int32) : Int32 := if a < c then c else a
def vbF (g : Int32 × Int32 → Int32) (f : Int32) (x : Int32 × Int32) : Int32 := if vXX7_isTooGreat (fo f x).1 (fo f x).2 = 0 then (if (fo f x).1 = 0 then 1 else -(g (fo f x))) else -2
def bv : Nat → Int32 × Int32 → Int32
  | 0 => fun _ => 0
  | n + 1 => fun x => mxI (mxI (mxI (-2) (vbF (bv n) 0 x)) (vbF (bv n) 1 x)) (vbF (bv n) 2 x)
def R3 (v : Int32) : Prop := v = -1 ∨ v = 0 ∨ v = 1
def R4 (v : Int32) : Prop := v = -2 ∨ v = -1 ∨ v = 0 ∨ v = 1
theorem turn_fr {x : Int32 × Int32} (h : Frac x.1 x.2) : Frac (fo 2 x).1 (fo 2 x).2 := by
  obtain ⟨-, -, q3, -, q5, q6⟩ := fo_fr (A := 9999) (by decide) (by decide) (Or.inr (Or.inr rfl)) h
  obtain ⟨h1, h2, h3, h4, h5, h6⟩ := h
  refine ⟨?_, ?_, q3, ?_, q5, q6⟩
  · rw [fo2]
    by_cases c1 : x.1 = 0
    · rw [if_pos c1]
      show (-9999 : Int) ≤ (1 : Int32).toInt
      decide
    · rw [if_neg c1]
      by_cases c2 : x.1 ≤ 0
      · rw [if_pos c2]
        show (-9999 : Int) ≤ x.2.toInt
        omega
      · rw [if_neg c2, i_neg (A := 9999) ⟨by omega, h4⟩ (by decide)]
        omega
  · rw [fo2]
    by_cases c1 : x.1 = 0
    · rw [if_pos c1]
      show (1 : Int32).toInt ≤ (9999 : Int)
      decide
    · rw [if_neg c1]
      by_cases c2 : x.1 ≤ 0
      · rw [if_pos c2]
        show x.2.toInt ≤ (9999 : Int)
        omega
      · rw [if_neg c2, i_neg (A := 9999) ⟨by omega, h4⟩ (by decide)]
        omega
  · show (vXX11_away x.1).toInt ≤ _
    rw [i_away (A := 9999) ⟨h1, h2⟩ (by decide)]
    omega
theorem great_f {f : Int32} (hf : Fig f) {x : Int32 × Int32} (h : Frac x.1 x.2) : vXX7_isTooGreat (fo f x).1 (fo f x).2 = 0 ↔ Frac (fo f x).1 (fo f x).2 := great_c (fo_fr (A := 9999) (by decide) (by decide) hf h)
theorem R3.neg {v : Int32} (h : R3 v) : R3 (-v) := by
  rcases h with rfl | rfl | rfl
  · exact Or.inr (Or.inr (by decide))
  · exact Or.inr (Or.inl (by decide))
  · exact Or.inl (by decide)
theorem mx4 {a c v : Int32} (ha : R4 a) (hc : R4 c) (hv : R3 v) : R3 (mxI (mxI (mxI (-2) a) c) v) := by
  rcases ha with rfl | rfl | rfl | rfl <;> rcases hc with rfl | rfl | rfl | rfl <;> rcases hv with rfl | rfl | rfl <;> unfold R3 <;> decide
theorem vb_r {g : Int32 × Int32 → Int32} (hg : ∀ y : Int32 × Int32, Frac y.1 y.2 → R3 (g y)) {f : Int32} (hf : Fig f) {x : Int32 × Int32} (h : Frac x.1 x.2) : R4 (vbF g f x) ∧ (Frac (fo f x).1 (fo f x).2 → R3 (vbF g f x)) := by
  unfold vbF
  by_cases c : vXX7_isTooGreat (fo f x).1 (fo f x).2 = 0
  · rw [if_pos c]
    have key : R3 (if (fo f x).1 = 0 then 1 else -(g (fo f x))) := by
      split
      · exact Or.inr (Or.inr rfl)
      · exact (hg _ ((great_f hf h).mp c)).neg
    exact ⟨Or.inr key, fun _ => key⟩
  · rw [if_neg c]
    exact ⟨Or.inl rfl, fun y => absurd ((great_f hf h).mpr y) c⟩
theorem bv_r : ∀ (n : Nat) (x : Int32 × Int32), Frac x.1 x.2 → R3 (bv n x) := by
  intro n
  induction n with
  | zero => exact fun _ _ => Or.inr (Or.inl rfl)
  | succ n ih =>
    intro x h
    exact mx4 (vb_r ih (Or.inl rfl) h).1 (vb_r ih (Or.inr (Or.inl rfl)) h).1 ((vb_r ih (Or.inr (Or.inr rfl)) h).2 (turn_fr h))
theorem mx_eq (a c : Int32) : vXJ9_max_7cf53 a c = mxI a c := rfl
theorem mx_1 {v c : Int32} (hv : R4 v) (h1 : 1 ≤ v) (hc : R4 c) : mxI v c = v := by
  rcases hv with rfl | rfl | rfl | rfl
  · exact absurd h1 (by decide)
  · exact absurd h1 (by decide)
  · exact absurd h1 (by decide)
  · rcases hc with rfl | rfl | rfl | rfl <;> decide
theorem mx_R4 {a c : Int32} (ha : R4 a) (hc : R4 c) : R4 (mxI a c) := by
  unfold mxI
  split
  · exact hc
  · exact ha
theorem figJ {j : Nat} (h : j < 3) : Fig (nI j) := by
  rcases (show j = 0 ∨ j = 1 ∨ j = 2 by omega) with rfl | rfl | rfl
  · exact Or.inl rfl
  · exact Or.inr (Or.inl rfl)
  · exact Or.inr (Or.inr rfl)
/-- the class -/
theorem z_bestBy {b : Bool} {n k : Nat} (ih : ∀ (y : Int32 × Int32) (w : Wd), w.2.2 = RTab b → Frac y.1 y.2 → ∀ Q : Int32 → Wd → Prop, Q (bv n y) w → ClI SC (mX9_bestFor k) [.int y.1, .int y.2, .int (nI n)] w (fun v w2 => w2.2.2 = RTab b ∧ Q v w2)) {f : Int32} (hf : Fig f) {x : Int32 × Int32} (h : Frac x.1 x.2) {w : Wd} (hR : w.2.2 = RTab b) {Q : Int32 → Wd → Prop} (kk : Q (vbF (bv n) f x) w) : ClI SC (mX9_bestBy (k + 1)) [.int f, .int x.1, .int x.2, .int (nI (n + 1))] w (fun v w2 => w2.2.2 = RTab b ∧ Q v w2) := by
  unfold vbF at kk
  refine TX9_bestBy k f _ _ _ w b hR _ ⟨fun z => ⟨fun z2 => ⟨_, rfl, hR, ?_⟩, fun z2 => ?_⟩, fun z => ⟨_, rfl, hR, ?_⟩⟩
  · have z' : vXX7_isTooGreat (fo f x).1 (fo f x).2 = 0 := z
    have z2' : (fo f x).1 = 0 := z2
    rw [if_pos z', if_pos z2'] at kk
    exact kk
  · have z' : vXX7_isTooGreat (fo f x).1 (fo f x).2 = 0 := z
    have z2' : ¬ (fo f x).1 = 0 := z2
    rw [if_pos z', if_neg z2'] at kk
    rw [nI_pred]
    exact ih (fo f x) w hR ((great_f hf h).mp z') _ ⟨_, rfl, hR, kk⟩
  · have z' : ¬ vXX7_isTooGreat (fo f x).1 (fo f x).2 = 0 := z
    rw [if_neg z'] at kk
    exact kk
theorem z_bestFor {b : Bool} : ∀ (n k : Nat) (y : Int32 × Int32) (w : Wd), n ≤ k → n ≤ 8 → w.2.2 = RTab b → Frac y.1 y.2 → ∀ Q : Int32 → Wd → Prop, Q (bv n y) w → ClI SC (mX9_bestFor k) [.int y.1, .int y.2, .int (nI n)] w (fun v w2 => w2.2.2 = RTab b ∧ Q v w2) := by
  intro n
  induction n with
  | zero =>
    intro k y w _ _ hR _ Q hk
    exact TX9_bestFor k _ _ _ w b hR _ ⟨fun _ => ⟨_, rfl, hR, hk⟩, fun z => absurd (show nI 0 ≤ 0 by decide) z⟩
  | succ n ih =>
    intro k y w hnk hn8 hR hy Q hk
    obtain ⟨k', rfl⟩ : ∃ k', k = k' + 1 := ⟨k - 1, by omega⟩
    have ih' : ∀ (y : Int32 × Int32) (w : Wd), w.2.2 = RTab b → Frac y.1 y.2 → ∀ Q : Int32 → Wd → Prop, Q (bv n y) w → ClI SC (mX9_bestFor k') [.int y.1, .int y.2, .int (nI n)] w (fun v w2 => w2.2.2 = RTab b ∧ Q v w2) := fun y w h1 h2 Q h3 => ih k' y w (by omega) (by omega) h1 h2 Q h3
    have r0 := (vb_r (bv_r n) (f := 0) (Or.inl rfl) hy).1
    have r1 := (vb_r (bv_r n) (f := 1) (Or.inr (Or.inl rfl)) hy).1
    have r2 := (vb_r (bv_r n) (f := 2) (Or.inr (Or.inr rfl)) hy).1
    have s3 : ∀ v : Int32, Q v w → Go SC (mX9_bestFor (k' + 1)) 18 [(0, .int y.1), (1, .int y.2), (2, .int (nI (n + 1))), (3, .int v), (4, .int (nI 3))] [] w (fun r w' => ∃ x, r = some (.int x) ∧ w'.2.2 = RTab b ∧ Q x w') := fun v hv => BX9_bestFor_18 (k' + 1) _ _ _ _ _ w b hR _ ⟨fun _ => ⟨_, rfl, hR, hv⟩, fun z => absurd (show (2 : Int32) < nI 3 by decide) z⟩
    have s2 : ∀ v : Int32, R4 v → Q (mxI v (vbF (bv n) 2 y)) w → Go SC (mX9_bestFor (k' + 1)) 18 [(0, .int y.1), (1, .int y.2), (2, .int (nI (n + 1))), (3, .int v), (4, .int (nI 2))] [] w (fun r w' => ∃ x, r = some (.int x) ∧ w'.2.2 = RTab b ∧ Q x w') := fun v h4 hv => BX9_bestFor_18 (k' + 1) _ _ _ _ _ w b hR _ ⟨fun z => absurd z (by decide), fun _ => ⟨fun z => ⟨_, rfl, hR, by rw [mx_1 h4 z r2] at hv; exact hv⟩, fun _ => z_bestBy ih' (f := nI 2) (figJ (by decide)) hy hR (s3 _ hv)⟩⟩
    have s1 : ∀ v : Int32, R4 v → Q (mxI (mxI v (vbF (bv n) 1 y)) (vbF (bv n) 2 y)) w → Go SC (mX9_bestFor (k' + 1)) 18 [(0, .int y.1), (1, .int y.2), (2, .int (nI (n + 1))), (3, .int v), (4, .int (nI 1))] [] w (fun r w' => ∃ x, r = some (.int x) ∧ w'.2.2 = RTab b ∧ Q x w') := fun v h4 hv => BX9_bestFor_18 (k' + 1) _ _ _ _ _ w b hR _ ⟨fun z => absurd z (by decide), fun _ => ⟨fun z => ⟨_, rfl, hR, by rw [mx_1 h4 z r1, mx_1 h4 z r2] at hv; exact hv⟩, fun _ => z_bestBy ih' (f := nI 1) (figJ (by decide)) hy hR (s2 _ (mx_R4 h4 r1) hv)⟩⟩
    have hle : ¬ nI (n + 1) ≤ 0 := nI_nle (by omega) (by omega)
    refine TX9_bestFor (k' + 1) _ _ _ w b hR _ ⟨fun z => absurd z hle, fun _ => ⟨fun _ => ?_, fun z => absurd (nI_le (b := 8) hn8 (by decide)) z⟩⟩
    refine BX9_bestFor_18 (k' + 1) _ _ _ _ _ w b hR _ ⟨fun z => absurd z (by decide), fun _ => ⟨fun z => absurd z (by decide), fun _ => z_bestBy ih' (f := 0) (Or.inl rfl) hy hR (s1 _ (mx_R4 (Or.inl rfl) r0) hk)⟩⟩
/-- the reference: the call that ends at once -/
theorem called_0 (k : Nat) (a1 a2 a3 : Int32) {w : Wd} (h3 : a3 ≤ 0) {Q : Option Value → Wd → Prop} (h : Q (some (.int 0)) w) : Cl SR (mX11_calledFrom k) [.ref 0, .int a1, .int a2, .int a3, .int 0] w Q := by
  refine cl_of (by show plainName RX11 = true; decide) (Nat.le_of_ble_eq_true rfl) ?_
  show Go SR (mX11_calledFrom k) 0 [(0, .ref 0), (1, .int a1), (2, .int a2), (3, .int a3), (4, .int 0)] [] w Q
  refine g_iconst (pc := 0) dX11_calledFrom_0 cN_1 ?_
  refine g_istore (pc := 1) (lv2 := [(0, .ref 0), (1, .int a1), (2, .int a2), (3, .int a3), (4, .int 0), (5, .int (-1))]) dX11_calledFrom_1 (Nat.le_of_ble_eq_true rfl) rfl ?_
  refine g_bipush (pc := 3) (v := (-2)) dX11_calledFrom_3 (by decide) ?_
  refine g_istore (pc := 5) (lv2 := [(0, .ref 0), (1, .int a1), (2, .int a2), (3, .int a3), (4, .int 0), (5, .int (-1)), (6, .int (-2))]) dX11_calledFrom_5 (Nat.le_of_ble_eq_true rfl) rfl ?_
  refine g_iconst (pc := 7) dX11_calledFrom_7 c_0 ?_
  refine g_istore (pc := 8) (lv2 := [(0, .ref 0), (1, .int a1), (2, .int a2), (3, .int a3), (4, .int 0), (5, .int (-1)), (6, .int (-2)), (7, .int 0)]) dX11_calledFrom_8 (Nat.le_of_ble_eq_true rfl) rfl ?_
  refine g_iload (pc := 10) dX11_calledFrom_10 7 rfl ?_
  refine g_iconst (pc := 12) dX11_calledFrom_12 c_3 ?_
  refine g_icmp_ge (pc := 13) (tgt := 101) dX11_calledFrom_13 (by decide) (fun q => absurd q (by decide)) (fun _ => ?_)
  refine g_iload_n (pc := 16) dX11_calledFrom_16 rfl 3 rfl ?_
  refine g_if_le (pc := 17) (tgt := 101) dX11_calledFrom_17 (by decide) (fun _ => ?_) (fun q => absurd h3 q)
  refine g_iload (pc := 101) dX11_calledFrom_101 4 rfl ?_
  refine g_if_eq (pc := 103) (tgt := 112) dX11_calledFrom_103 (by decide) (fun _ => ?_) (fun q => absurd rfl q)
  refine g_iload (pc := 112) dX11_calledFrom_112 6 rfl ?_
  refine g_if_ge (pc := 114) (tgt := 121) dX11_calledFrom_114 (by decide) (fun q => absurd q (by decide)) (fun _ => ?_)
  refine g_iconst (pc := 117) dX11_calledFrom_117 c_0 ?_
  refine g_goto (pc := 118) (tgt := 123) dX11_calledFrom_118 (by decide) ?_
  exact g_iret (pc := 123) dX11_calledFrom_123 rfl h
def stp (v f : Int32) (s : Int32 × Int32) : Int32 × Int32 := if v = -2 then s else (if s.2 < 0 then (v, f) else (if s.1 < v then (v, f) else s))
theorem R3.ne {v : Int32} (h : R3 v) : ¬ v = -2 := by
  rcases h with rfl | rfl | rfl <;> decide
theorem st_all {a c v : Int32} (ha : R4 a) (hc : R4 c) (hv : R3 v) : (stp v 2 (stp c 1 (stp a 0 (-1, -2)))).1 = mxI (mxI (mxI (-2) a) c) v ∧ 0 ≤ (stp v 2 (stp c 1 (stp a 0 (-1, -2)))).2 ∧ (if a = mxI (mxI (mxI (-2) a) c) v then 0 else (if c = mxI (mxI (mxI (-2) a) c) v then 1 else 2 : Int32) : Int32) = (stp v 2 (stp c 1 (stp a 0 (-1, -2)))).2 ∧ (¬ a = mxI (mxI (mxI (-2) a) c) v → ¬ c = mxI (mxI (mxI (-2) a) c) v → v = mxI (mxI (mxI (-2) a) c) v) := by
  rcases ha with rfl | rfl | rfl | rfl <;> rcases hc with rfl | rfl | rfl | rfl <;> rcases hv with rfl | rfl | rfl <;> decide
def st3 (n : Nat) (x : Int32 × Int32) : Int32 × Int32 := stp (vbF (bv n) 2 x) 2 (stp (vbF (bv n) 1 x) 1 (stp (vbF (bv n) 0 x) 0 (-1, -2)))
theorem st3_all {n : Nat} {x : Int32 × Int32} (h : Frac x.1 x.2) : (st3 n x).1 = bv (n + 1) x ∧ 0 ≤ (st3 n x).2 ∧ (if vbF (bv n) 0 x = bv (n + 1) x then 0 else (if vbF (bv n) 1 x = bv (n + 1) x then 1 else 2 : Int32) : Int32) = (st3 n x).2 ∧ (¬ vbF (bv n) 0 x = bv (n + 1) x → ¬ vbF (bv n) 1 x = bv (n + 1) x → vbF (bv n) 2 x = bv (n + 1) x) :=
  st_all (vb_r (bv_r n) (Or.inl rfl) h).1 (vb_r (bv_r n) (Or.inr (Or.inl rfl)) h).1 ((vb_r (bv_r n) (Or.inr (Or.inr rfl)) h).2 (turn_fr h))
theorem rndQ {n k : Nat} (hn : n ≤ 7) (ih : ∀ (y : Int32 × Int32) (w : Wd), w.2.2 = RM → Frac y.1 y.2 → ∀ Q : Int32 → Wd → Prop, (∀ w2 z, TR w w2 z → Q (bv n y) w2) → ClI SR (mX11_calledFrom k) [.ref 0, .int y.1, .int y.2, .int (nI n), .int 0] w (fun v w2 => w2.2.2 = RM ∧ Q v w2)) {x : Int32 × Int32} (h : Frac x.1 x.2) {w0 w : Wd} (hR0 : w0.2.2 = RM) {z : Int32 × Int32} (hT : TR w0 w z) {l4 : Int32} {s : Int32 × Int32} {j : Nat} (hj : j < 3) {Q : Option Value → Wd → Prop}
    (next : ∀ w' z', TR w0 w' z' → Go SR (mX11_calledFrom (k + 1)) 10 [(0, .ref 0), (1, .int x.1), (2, .int x.2), (3, .int (nI (n + 1))), (4, .int l4), (5, .int (stp (vbF (bv n) (nI j) x) (nI j) s).1), (6, .int (stp (vbF (bv n) (nI j) x) (nI j) s).2), (7, .int (nI (j + 1)))] [] w' Q) :
    Go SR (mX11_calledFrom (k + 1)) 10 [(0, .ref 0), (1, .int x.1), (2, .int x.2), (3, .int (nI (n + 1))), (4, .int l4), (5, .int s.1), (6, .int s.2), (7, .int (nI j))] [] w Q := by
  have hw : w.2.2 = RM := hT.1.trans hR0
  have hle : ¬ nI (n + 1) ≤ 0 := nI_nle (by omega) (by omega)
  have hP := hT.tr (TR.put w x.1 x.2)
  have step : ∀ v : Int32, ¬ v = -2 → (if s.2 < 0 then v else (if s.1 < v then v else s.1 : Int32) : Int32) = (stp v (nI j) s).1 ∧ (if s.2 < 0 then nI j else (if s.1 < v then nI j else s.2 : Int32) : Int32) = (stp v (nI j) s).2 := fun v hv => by
    unfold stp
    rw [if_neg hv]
    by_cases c1 : s.2 < 0
    · rw [if_pos c1, if_pos c1, if_pos c1]
      exact ⟨rfl, rfl⟩
    · rw [if_neg c1, if_neg c1, if_neg c1]
      by_cases c2 : s.1 < v
      · rw [if_pos c2, if_pos c2, if_pos c2]
        exact ⟨rfl, rfl⟩
      · rw [if_neg c2, if_neg c2, if_neg c2]
        exact ⟨rfl, rfl⟩
  refine BX11_calledFrom_10 k _ _ _ _ _ _ _ w hw Q ⟨fun q => absurd q (nI_ge (b := 3) (by omega) (by decide)), fun _ => ⟨fun q => absurd q hle, fun _ => ?_⟩⟩
  refine z_calls (figJ hj) (w := si (si w 0 23 x.1) 0 24 x.2) (hP.1.trans hR0) (x := x) hP.2.2.1 hP.2.2.2 h (fun hf w1 h1 => ⟨fun q => absurd q no10, fun _ => ?_⟩) (fun hf w1 h1 => ⟨fun _ => ?_, fun q => absurd rfl q⟩)
  · have hT1 := hP.tr h1
    have hw1 : w1.2.2 = RM := hT1.1.trans hR0
    have hg : vXX7_isTooGreat (fo (nI j) x).1 (fo (nI j) x).2 = 0 := (great_f (figJ hj) h).mpr hf
    have en : vXX11_isNothing w1 = if (fo (nI j) x).1 = 0 then 1 else 0 := by
      unfold vXX11_isNothing
      rw [hT1.2.2.1]
    rw [en]
    refine ⟨fun q => ?_, fun q => ?_⟩
    · have hne : ¬ (fo (nI j) x).1 = 0 := iz.mp q
      have ev : vbF (bv n) (nI j) x = -(bv n (fo (nI j) x)) := by
        unfold vbF
        rw [if_pos hg, if_neg hne]
      rw [hT1.2.2.1, hT1.2.2.2, nI_pred]
      refine ih (fo (nI j) x) w1 hw1 hf _ (fun w2 z2 h2 => ?_)
      have hv : ¬ vbF (bv n) (nI j) x = -2 := by
        rw [ev]
        exact (bv_r n _ hf).neg.ne
      rw [← ev, (step _ hv).1, (step _ hv).2, nI_1]
      exact next w2 z2 (hT1.tr h2)
    · have he : (fo (nI j) x).1 = 0 := by
        by_cases c : (fo (nI j) x).1 = 0
        · exact c
        · exact absurd (iz.mpr c) q
      have ev : vbF (bv n) (nI j) x = 1 := by
        unfold vbF
        rw [if_pos hg, if_pos he]
      have hv : ¬ (1 : Int32) = -2 := by decide
      rw [(step 1 hv).1, (step 1 hv).2, nI_1]
      have := next w1 _ hT1
      rw [ev] at this
      exact this
  · have ev : vbF (bv n) (nI j) x = -2 := by
      unfold vbF
      rw [if_neg (fun y => hf ((great_f (figJ hj) h).mp y))]
    have es : stp (vbF (bv n) (nI j) x) (nI j) s = s := by
      unfold stp
      rw [if_pos ev]
    have := next w1 _ (hP.tr h1)
    rw [es] at this
    rw [nI_1]
    exact this
theorem rnd3 {n k : Nat} (hn : n ≤ 7) (ih : ∀ (y : Int32 × Int32) (w : Wd), w.2.2 = RM → Frac y.1 y.2 → ∀ Q : Int32 → Wd → Prop, (∀ w2 z, TR w w2 z → Q (bv n y) w2) → ClI SR (mX11_calledFrom k) [.ref 0, .int y.1, .int y.2, .int (nI n), .int 0] w (fun v w2 => w2.2.2 = RM ∧ Q v w2)) {x : Int32 × Int32} (h : Frac x.1 x.2) {w : Wd} (hR : w.2.2 = RM) {l4 : Int32} {Q : Option Value → Wd → Prop} (kk : ∀ w' z', TR w w' z' → (l4 = 0 → Q (some (.int (bv (n + 1) x))) w') ∧ (¬ l4 = 0 → Q (some (.int (bv (n + 1) x))) (si w' 0 44 (st3 n x).2))) : Cl SR (mX11_calledFrom (k + 1)) [.ref 0, .int x.1, .int x.2, .int (nI (n + 1)), .int l4] w Q := by
  obtain ⟨e1, e2, -, -⟩ := st3_all (n := n) h
  refine TX11_calledFrom k _ _ _ _ w hR Q ?_
  refine rndQ (j := 0) (s := (-1, -2)) hn ih h hR (TR.rf w) (by decide) (fun w1 z1 h1 => rndQ (j := 1) hn ih h hR h1 (by decide) (fun w2 z2 h2 => rndQ (j := 2) hn ih h hR h2 (by decide) (fun w3 z3 h3 => ?_)))
  obtain ⟨k1, k2⟩ := kk w3 z3 h3
  have e : (if 0 ≤ (st3 n x).2 then (st3 n x).1 else 0 : Int32) = bv (n + 1) x := by rw [if_pos e2, e1]
  refine BX11_calledFrom_10 k _ _ _ _ _ _ _ w3 (h3.1.trans hR) Q ⟨fun _ => ⟨fun q => ?_, fun q => ?_⟩, fun q => absurd (show (3 : Int32) ≤ nI (2 + 1) by decide) q⟩
  · show Q (some (.int (if 0 ≤ (st3 n x).2 then (st3 n x).1 else 0 : Int32))) w3
    rw [e]
    exact k1 q
  · show Q (some (.int (if 0 ≤ (st3 n x).2 then (st3 n x).1 else 0 : Int32))) (si w3 0 44 (st3 n x).2)
    rw [e]
    exact k2 q
theorem z_called : ∀ (n k : Nat) (y : Int32 × Int32) (w : Wd), n ≤ k → n ≤ 8 → w.2.2 = RM → Frac y.1 y.2 → ∀ Q : Int32 → Wd → Prop, (∀ w2 z, TR w w2 z → Q (bv n y) w2) → ClI SR (mX11_calledFrom k) [.ref 0, .int y.1, .int y.2, .int (nI n), .int 0] w (fun v w2 => w2.2.2 = RM ∧ Q v w2) := by
  intro n
  induction n with
  | zero =>
    intro k y w _ _ hR _ Q hk
    exact called_0 k _ _ _ (show nI 0 ≤ 0 by decide) ⟨_, rfl, hR, hk w _ (TR.rf w)⟩
  | succ n ih =>
    intro k y w hnk hn8 hR hy Q hk
    obtain ⟨k', rfl⟩ : ∃ k', k = k' + 1 := ⟨k - 1, by omega⟩
    exact rnd3 (by omega) (fun y w h1 h2 Q h3 => ih k' y w (by omega) (by omega) h1 h2 Q h3) hy hR (fun w' z' h => ⟨fun _ => ⟨_, rfl, h.1.trans hR, hk w' z' h⟩, fun q => absurd rfl q⟩)
def byV : Nat → Int32 × Int32 → Int32
  | 0 => fun _ => -2
  | n + 1 => fun x => (st3 n x).2
theorem z_calledT {n : Nat} (hn : n ≤ 8) {x : Int32 × Int32} (h : Frac x.1 x.2) {w : Wd} (hR : w.2.2 = RM) {Q : Int32 → Wd → Prop} (kk : ∀ w', SameR w w' → wi w' 0 11 = wi w 0 11 → wi w' 0 44 = byV n x → Q (bv n x) w') : ClI SR (mX11_calledFrom 8) [.ref 0, .int x.1, .int x.2, .int (nI n), .int 1] w (fun v w2 => w2.2.2 = RM ∧ Q v w2) := by
  cases n with
  | zero =>
    refine TX11_calledFrom 7 _ _ _ _ w hR _ (BX11_calledFrom_10 7 _ _ _ _ _ _ _ w hR _ ⟨fun q => absurd q (by decide), fun _ => ⟨fun _ => ⟨fun q => absurd q no10, fun _ => ⟨_, rfl, hR, ?_⟩⟩, fun q => absurd (show nI 0 ≤ 0 by decide) q⟩⟩)
    exact kk _ ((SameR.rf w).si (nrR (by decide))) (wi_ne (Or.inr (by decide))) (wi_self _ _ _ _)
  | succ n =>
    refine rnd3 (by omega) (fun y w h1 h2 Q h3 => z_called n 7 y w (by omega) (by omega) h1 h2 Q h3) h hR (fun w' z' hT => ⟨fun q => absurd q no10, fun _ => ⟨_, rfl, hT.1.trans hR, ?_⟩⟩)
    exact kk _ (hT.same.si (nrR (by decide))) ((wi_ne (Or.inr (by decide))).trans (hT.2.1 0 11 (by decide))) (wi_self _ _ _ _)
theorem in_08 {a : Int32} : (a < 0 ∨ (¬ a < 0 ∧ ¬ a ≤ 8)) → vXX11_in a 0 8 = 0 := fun h => in_no2 (by
  rcases h with h | h
  · exact Or.inl h
  · exact Or.inr (Int32.not_le.mp h.2))
/-- both sides' trouble with turns -/
theorem tT {b : Bool} {wc wr : Wd} (hR : Rel b wc wr) (a1 a2 : Int32) {K : Int32 → Wd → Prop}
    (k1 : ∀ t : Int32, t = 1 ∨ t = 2 → (∀ K' : Int32 → Wd → Prop, K' t (wXX11_anew wr) → ClI SR mX11_callWhy [.ref 0, .int a1, .int a2] (wXX11_anew wr) (fun y w => w.2.2 = RM ∧ K' y w)) → K t wc)
    (k0 : ∀ d i : Nat, d < 5 → i ≤ 8 → a1 = nI d → a2 = nI i → Frac (wi wr 5 d) (wi wr 5 (5 + d)) → ∀ w', TW 55 wc w' (wi wr 5 d, wi wr 5 (5 + d)) → (∀ K' : Int32 → Wd → Prop, K' 0 (wXX11_anew wr) → ClI SR mX11_callWhy [.ref 0, .int a1, .int a2] (wXX11_anew wr) (fun y w => w.2.2 = RM ∧ K' y w)) → K 0 w') :
    ClI SC mX10_turnsTrouble [.ref 0, .int a1, .int a2] wc (fun x w => w.2.2 = RTab b ∧ K x w) := by
  obtain ⟨n, hn, f4, f5, f6, fD⟩ := cx hR
  have g1 := hR.1
  have g2 := hR.2.1
  have ref : ∀ (hin : ∃ d : Nat, d < n ∧ a1 = nI d) (K' : Int32 → Wd → Prop), K' (vXX11_why 1 (vXX11_in a2 0 8)) (wXX11_anew wr) → ClI SR mX11_callWhy [.ref 0, .int a1, .int a2] (wXX11_anew wr) (fun y w => w.2.2 = RM ∧ K' y w) := fun hin K' hk => TX11_callWhy _ _ _ (an_R g2) _ (isdA g2 hn f5 f6 (fun _ => ⟨_, rfl, an_R g2, hk⟩) fun q => absurd hin q)
  refine TX10_turnsTrouble _ _ wc b g1 _ ⟨fun q => ?_, fun q => ⟨_, rfl, g1, k1 1 (Or.inl rfl) fun K' hk => TX11_callWhy _ _ _ (an_R g2) _ (isdA g2 hn f5 f6 (fun y => absurd ((din_c hn f4).mpr y) q) fun _ => ⟨_, rfl, an_R g2, hk⟩)⟩⟩
  obtain ⟨d, hd, rfl⟩ := (din_c hn f4).mp q
  have bad : (a2 < 0 ∨ (¬ a2 < 0 ∧ ¬ a2 ≤ 8)) → K 2 wc := fun hz => k1 2 (Or.inr rfl) fun K' hk => ref ⟨d, hd, rfl⟩ K' (by rw [why_1, in_08 hz, if_pos rfl]; exact hk)
  refine ⟨fun z => ⟨_, rfl, g1, bad (Or.inl z)⟩, fun z1 => ⟨fun z => ⟨_, rfl, g1, ?_⟩, fun z => ⟨_, rfl, g1, bad (Or.inr ⟨z1, z⟩)⟩⟩⟩
  obtain ⟨i, hi, rfl⟩ := nI_of z1
  have hi8 := (nI_leI (b := 8) hi (by decide)).mp z
  obtain ⟨m, m1, m2, m3, m4, m5, m6, m7, m8⟩ := fD d hd
  rw [d_clamp hn hd]
  refine k0 d i (by omega) hi8 rfl rfl m8 _ (TW.copy m6 m7) fun K' hk => ref ⟨d, hd, rfl⟩ K' ?_
  rw [why_1, show vXX11_in (nI i) 0 8 = 1 from row_in (m := 8) (by decide) hi8, if_neg no10]
  exact hk
theorem ref5 {wr : Wd} {d : Nat} (hd : d < 5) : vp_in (nI d) 10 ∧ vp_in (5 + nI d) 10 ∧ wi (wXX11_anew wr) 5 (nI d).toNatClampNeg = wi wr 5 d ∧ wi (wXX11_anew wr) 5 (5 + nI d).toNatClampNeg = wi wr 5 (5 + d) := by
  refine ⟨nI_in (by omega) (by decide), by rw [n5]; exact nI_in (by omega) (by decide), ?_, ?_⟩
  · rw [nI_clamp (by omega)]
    exact an_ne (Or.inl (by decide))
  · rw [n5, nI_clamp (by omega)]
    exact an_ne (Or.inl (by decide))
theorem pr_callers {wc wr : Wd} (h : RelE wc wr) (a1 a2 : Int32)  : PairI mX10_callers mX11_callers [a1, a2] wc wr := by
  obtain ⟨b, hR⟩ := h
  have g1 := hR.1
  have g2 := hR.2.1
  refine TX10_callers _ _ wc b g1 _ (tT hR a1 a2 (fun t ht hr => ⟨fun q => absurd q (t12 ht).1, fun _ => ⟨_, rfl, TX11_callers _ _ wr g2 _ (hr _ ⟨fun q => absurd q (t12 ht).1, fun _ => ⟨_, rfl, rfl, fin_noA hR (t12 ht).2⟩⟩)⟩⟩) (fun d i hd hi e1 e2 hF w' hT hr => ⟨fun _ => ?_, fun q => absurd rfl q⟩))
  subst e1 e2
  obtain ⟨i1, i2, r1, r2⟩ := ref5 (wr := wr) hd
  have fin : ∀ v : Int32, v = (if bv i (wi wr 5 d, wi wr 5 (5 + d)) ≤ 0 then (if 0 ≤ bv i (wi wr 5 d, wi wr 5 (5 + d)) then 0 else 2 : Int32) else 1 : Int32) → ClI SR mX11_callers [.ref 0, .int (nI d), .int (nI i)] wr (fun y wr' => v = y ∧ RelE (wXX10_accept v w') wr') := fun v hv => TX11_callers _ _ wr g2 _ (hr _ ⟨fun _ => ⟨i1, i2, by
    rw [r1, r2]
    exact z_calledT hi (x := (wi wr 5 d, wi wr 5 (5 + d))) hF (an_R g2) (fun w'' hS h11 _ => ⟨_, rfl, hv, fin_ok hR (hT.same nr55) ((an_same wr).tr hS) (h11.trans (an_11 wr))⟩)⟩, fun q => absurd rfl q⟩)
  rw [hT.2.2.1, hT.2.2.2]
  refine z_bestFor i 8 (wi wr 5 d, wi wr 5 (5 + d)) w' hi hi (hT.1.trans g1) hF _ ?_
  rcases bv_r i (wi wr 5 d, wi wr 5 (5 + d)) hF with e | e | e
  · rw [e] at fin ⊢
    exact ⟨fun q => absurd q (by decide), fun _ => ⟨_, rfl, fin _ (by decide)⟩⟩
  · rw [e] at fin ⊢
    exact ⟨fun q => absurd q (by decide), fun _ => ⟨_, rfl, fin _ (by decide)⟩⟩
  · rw [e] at fin ⊢
    exact ⟨fun _ => ⟨_, rfl, fin _ (by decide)⟩, fun q => absurd rfl q⟩
theorem pr_callsBy {wc wr : Wd} (h : RelE wc wr) (a1 a2 : Int32)  : PairI mX10_callsBy mX11_callsBy [a1, a2] wc wr := by
  obtain ⟨b, hR⟩ := h
  have g1 := hR.1
  have g2 := hR.2.1
  refine TX10_callsBy _ _ wc b g1 _ (tT hR a1 a2 (fun t ht hr => ⟨fun q => absurd q (t12 ht).1, fun _ => ⟨_, rfl, TX11_callsBy _ _ wr g2 _ (hr _ ⟨fun q => absurd q (t12 ht).1, fun _ => ⟨_, rfl, rfl, fin_noA hR (t12 ht).2⟩⟩)⟩⟩) (fun d i hd hi e1 e2 hF w' hT hr => ⟨fun _ => ?_, fun q => absurd rfl q⟩))
  subst e1 e2
  obtain ⟨i1, i2, r1, r2⟩ := ref5 (wr := wr) hd
  have hw' : w'.2.2 = RTab b := hT.1.trans g1
  have fin : ∀ v : Int32, v = byV i (wi wr 5 d, wi wr 5 (5 + d)) → ClI SR mX11_callsBy [.ref 0, .int (nI d), .int (nI i)] wr (fun y wr' => v = y ∧ RelE (wXX10_accept v w') wr') := fun v hv => TX11_callsBy _ _ wr g2 _ (hr _ ⟨fun _ => ⟨i1, i2, by
    rw [r1, r2]
    exact z_calledT hi (x := (wi wr 5 d, wi wr 5 (5 + d))) hF (an_R g2) (fun w'' hS h11 h44 => ⟨_, rfl, hv.trans h44.symm, fin_ok hR (hT.same nr55) ((an_same wr).tr hS) (h11.trans (an_11 wr))⟩)⟩, fun q => absurd rfl q⟩)
  rw [hT.2.2.1, hT.2.2.2]
  refine z_bestFor i 8 (wi wr 5 d, wi wr 5 (5 + d)) w' hi hi hw' hF _ ?_
  cases i with
  | zero => exact BX10_callsBy_41 _ _ _ _ _ w' b hw' _ ⟨fun _ => ⟨_, rfl, fin _ rfl⟩, fun q => absurd (show nI 0 ≤ 0 by decide) q⟩
  | succ i =>
    obtain ⟨-, -, e3, e4⟩ := st3_all (n := i) (x := (wi wr 5 d, wi wr 5 (5 + d))) hF
    have hle : ¬ nI (i + 1) ≤ 0 := nI_nle (by omega) (by omega)
    have ih : ∀ (y : Int32 × Int32) (w : Wd), w.2.2 = RTab b → Frac y.1 y.2 → ∀ Q : Int32 → Wd → Prop, Q (bv i y) w → ClI SC (mX9_bestFor 7) [.int y.1, .int y.2, .int (nI i)] w (fun v w2 => w2.2.2 = RTab b ∧ Q v w2) := fun y w h1 h2 Q h3 => z_bestFor i 7 y w (by omega) (by omega) h1 h2 Q h3
    have e3' : (if vbF (bv i) 0 (wi wr 5 d, wi wr 5 (5 + d)) = bv (i + 1) (wi wr 5 d, wi wr 5 (5 + d)) then 0 else (if vbF (bv i) 1 (wi wr 5 d, wi wr 5 (5 + d)) = bv (i + 1) (wi wr 5 d, wi wr 5 (5 + d)) then 1 else 2 : Int32) : Int32) = byV (i + 1) (wi wr 5 d, wi wr 5 (5 + d)) := e3
    have rd : ∀ (f : Int32), Fig f → ∀ Q : Option Value → Wd → Prop, ((vbF (bv i) f (wi wr 5 d, wi wr 5 (5 + d)) = bv (i + 1) (wi wr 5 d, wi wr 5 (5 + d)) → Q (some (.int (vXX10_accept f))) (wXX10_accept f w')) ∧ (¬ vbF (bv i) f (wi wr 5 d, wi wr 5 (5 + d)) = bv (i + 1) (wi wr 5 d, wi wr 5 (5 + d)) → Go SC mX10_callsBy 41 [(0, .ref 0), (1, .int (nI d)), (2, .int (nI (i + 1))), (3, .int 0), (4, .int (bv (i + 1) (wi wr 5 d, wi wr 5 (5 + d)))), (5, .int (f + 1))] [] w' Q)) → Go SC mX10_callsBy 41 [(0, .ref 0), (1, .int (nI d)), (2, .int (nI (i + 1))), (3, .int 0), (4, .int (bv (i + 1) (wi wr 5 d, wi wr 5 (5 + d)))), (5, .int f)] [] w' Q := fun f hf Q hk => by
      refine BX10_callsBy_41 _ _ _ _ _ w' b hw' _ ⟨fun q => absurd q hle, fun _ => ⟨fun q => absurd (fig_in.mp hf).2 (Int32.not_le.mpr q), fun _ => ?_⟩⟩
      rw [hT.2.2.1, hT.2.2.2]
      exact z_bestBy ih hf hF hw' hk
    refine rd 0 (Or.inl rfl) _ ⟨fun q => ⟨_, rfl, fin 0 ?_⟩, fun q0 => rd 1 (Or.inr (Or.inl rfl)) _ ⟨fun q => ⟨_, rfl, fin 1 ?_⟩, fun q1 => rd 2 (Or.inr (Or.inr rfl)) _ ⟨fun q => ⟨_, rfl, fin 2 ?_⟩, fun q2 => absurd (e4 q0 q1) q2⟩⟩⟩
    · rw [if_pos q] at e3'
      exact e3'
    · rw [if_neg q0, if_pos q] at e3'
      exact e3'
    · rw [if_neg q0, if_neg q1] at e3'
      exact e3'
