/-! the reference's side of reading -/
def FrR (w w' : Wd) : Prop := w'.2.2 = w.2.2 ∧ ∀ a i, a ≠ 2 → a ≠ 4 → ¬ (a = 0 ∧ (4 ≤ i ∧ i ≤ 10 ∨ i = 13 ∨ i = 14)) → wi w' a i = wi w a i
theorem FrR.rf (w : Wd) : FrR w w := ⟨rfl, fun _ _ _ _ _ => rfl⟩
theorem FrR.tr {w w' w2 : Wd} (h1 : FrR w w') (h2 : FrR w' w2) : FrR w w2 := ⟨h2.1.trans h1.1, fun a i q r t => (h2.2 a i q r t).trans (h1.2 a i q r t)⟩
theorem FrR.st {w w' w2 : Wd} (h1 : FrR w w') (h2 : StR w' w2) : FrR w w2 := ⟨h2.1.trans h1.1, fun a i q r t => (h2.2 a i q (by omega)).trans (h1.2 a i q r t)⟩
theorem FrR.s4 {w w' : Wd} (h : FrR w w') {i : Nat} {v : Int32} : FrR w (si w' 4 i v) := ⟨h.1, fun a j q r t => (wi_ne (Or.inl r)).trans (h.2 a j q r t)⟩
theorem FrR.s0 {w w' : Wd} (h : FrR w w') {i : Nat} {v : Int32} (hi : 4 ≤ i ∧ i ≤ 10 ∨ i = 13 ∨ i = 14) : FrR w (si w' 0 i v) := ⟨h.1, fun a j q r t => (wi_ne (by omega)).trans (h.2 a j q r t)⟩
def fW (f : Int32) (s : Nat) (w : Wd) : Wd := si (si (si w 0 13 1) 0 9 f) 0 10 (nI s)
theorem fW_13 {f : Int32} {s : Nat} {w : Wd} : ¬ wi (fW f s w) 0 13 = 0 := by
  have e : wi (fW f s w) 0 13 = 1 := (wi_ne (Or.inr (by decide))).trans ((wi_ne (Or.inr (by decide))).trans (wi_self _ _ _ _))
  rw [e]
  decide
theorem wr_0 {w : Wd} {f : Int32} {s : Nat} (h13 : wi w 0 13 = 0) (h4 : wi w 0 4 = nI s) : wXX11_wrong f (wi w 0 4) w = fW f s w := by
  unfold wXX11_wrong
  rw [if_pos h13, h4]
  rfl
theorem wr_F {w : Wd} {f x : Int32} (h13 : ¬ wi w 0 13 = 0) : wXX11_wrong f x w = w := if_neg h13
def FlR (w w' : Wd) (f : Int32) (q : Nat) : Prop := FrR w w' ∧ ¬ wi w' 0 13 = 0 ∧ wi w' 0 9 = f ∧ wi w' 0 10 = nI q
theorem fl_R {w0 w : Wd} (hf : FrR w0 w) (f : Int32) (s : Nat) : FlR w0 (fW f s w) f s :=
  ⟨((hf.s0 (by decide)).s0 (by decide)).s0 (by decide), fW_13, (wi_ne (Or.inr (by decide))).trans (wi_self _ _ _ _), wi_self _ _ _ _⟩
theorem FlR.s4 {w w' : Wd} {f : Int32} {q : Nat} (h : FlR w w' f q) {i : Nat} {v : Int32} : FlR w (si w' 4 i v) f q := ⟨h.1.s4, by rw [wi_ne (Or.inl (by decide))]; exact h.2.1, (wi_ne (Or.inl (by decide))).trans h.2.2.1, (wi_ne (Or.inl (by decide))).trans h.2.2.2⟩
theorem FlR.s14 {w w' : Wd} {f : Int32} {q : Nat} (h : FlR w w' f q) {v : Int32} : FlR w (si w' 0 14 v) f q := ⟨h.1.s0 (by decide), by rw [wi_ne (Or.inr (by decide))]; exact h.2.1, (wi_ne (Or.inr (by decide))).trans h.2.2.1, (wi_ne (Or.inr (by decide))).trans h.2.2.2⟩
def RD (T : Nat → Int32) (A : AT) (w : Wd) (d : Nat) : Prop := wi w 4 (4 + d) = nI (A 2 d) ∧ wi w 4 (101 + d) = nI (A 1 d) ∧ (∀ k, k < A 1 d → wi w 4 (106 + 8 * d + k) = T (A 0 d + k)) ∧ ∀ j, j < A 2 d → wi w 4 (9 + 12 * d + j) = nI (A (10 + d) j)
def RS (T : Nat → Int32) (n : Nat) (A : AT) (w : Wd) : Prop := TXR T n w ∧ (wi w 0 13 = 0 ∧ wi w 0 14 = nI (A 9 0) ∧ wi w 0 9 = 0) ∧ (wi w 4 0 = nI (A 9 1) ∧ wi w 4 1 = nI (A 9 2) ∧ wi w 4 2 = nI (A 9 3) ∧ wi w 4 3 = nI (A 9 4)) ∧ (∀ d, d < A 9 2 → RD T A w d) ∧ (∀ d, A 9 2 ≤ d → d < 5 → wi w 4 (101 + d) = 0) ∧ (∀ i, i < A 9 3 → wi w 4 (69 + 2 * i) = nI (A 3 i) ∧ wi w 4 (70 + 2 * i) = nI (A 4 i)) ∧ ∀ i, i < A 9 4 → wi w 4 (77 + 4 * i) = nI (A 5 i) ∧ wi w 4 (78 + 4 * i) = nI (A 6 i) ∧ wi w 4 (79 + 4 * i) = nI (A 7 i) ∧ wi w 4 (80 + 4 * i) = nI (A 8 i)
theorem RD.cg {T : Nat → Int32} {A A' : AT} {w w' : Wd} {d : Nat} (h : RD T A w d) (b1 : A 1 d ≤ 8) (b2 : A 2 d ≤ 12) (e : ∀ i, i = 4 + d ∨ i = 101 + d ∨ (106 + 8 * d ≤ i ∧ i < 114 + 8 * d) ∨ (9 + 12 * d ≤ i ∧ i < 21 + 12 * d) → wi w' 4 i = wi w 4 i) (a0 : A' 0 d = A 0 d) (a1 : A' 1 d = A 1 d) (a2 : A' 2 d = A 2 d) (a3 : ∀ j, A' (10 + d) j = A (10 + d) j) : RD T A' w' d := by
  obtain ⟨h1, h2, h3, h4⟩ := h
  unfold RD
  rw [a0, a1, a2]
  exact ⟨(e _ (by omega)).trans h1, (e _ (by omega)).trans h2, fun k hk => (e _ (by omega)).trans (h3 k hk), fun j hj => (e _ (by omega)).trans ((h4 j hj).trans (congrArg nI (a3 j).symm))⟩
theorem RS.st {T : Nat → Int32} {n : Nat} {A : AT} {w w' : Wd} (h : RS T n A w) (hf : StR w w') : RS T n A w' := by
  obtain ⟨h1, ⟨h2, h3, h4⟩, ⟨h5, h6, h7, h8⟩, h9, h10, h11, h12⟩ := h
  have e4 : ∀ i, wi w' 4 i = wi w 4 i := fun i => hf.2 4 i (by decide) (by omega)
  refine ⟨h1.fr hf, ⟨(hf.2 0 13 (by decide) (by decide)).trans h2, (hf.2 0 14 (by decide) (by decide)).trans h3, (hf.2 0 9 (by decide) (by decide)).trans h4⟩, ⟨(e4 _).trans h5, (e4 _).trans h6, (e4 _).trans h7, (e4 _).trans h8⟩, fun d hd => ?_, fun d hd hd5 => (e4 _).trans (h10 d hd hd5), fun i hi => ?_, fun i hi => ?_⟩
  · obtain ⟨g1, g2, g3, g4⟩ := h9 d hd
    exact ⟨(e4 _).trans g1, (e4 _).trans g2, fun k hk => (e4 _).trans (g3 k hk), fun j hj => (e4 _).trans (g4 j hj)⟩
  · obtain ⟨g1, g2⟩ := h11 i hi
    exact ⟨(e4 _).trans g1, (e4 _).trans g2⟩
  · obtain ⟨g1, g2, g3, g4⟩ := h12 i hi
    exact ⟨(e4 _).trans g1, (e4 _).trans g2, (e4 _).trans g3, (e4 _).trans g4⟩
theorem TXR.s4 {T : Nat → Int32} {n i : Nat} {w : Wd} {v : Int32} (h : TXR T n w) : TXR T n (si w 4 i v) := ⟨h.1, (wi_ne (Or.inl (by decide))).trans h.2.1, fun k hk => ⟨(wi_ne (Or.inl (by decide))).trans (h.2.2 k hk).1, (h.2.2 k hk).2⟩⟩
theorem RS.sl {T : Nat → Int32} {n v : Nat} {A : AT} {w : Wd} (h : RS T n A w) (aB : AB n A) : RS T n (up2 A 9 1 v) (si w 4 0 (nI v)) := by
  obtain ⟨h1, ⟨h2, h3, h4⟩, ⟨h5, h6, h7, h8⟩, h9, h10, h11, h12⟩ := h
  have e4 : ∀ i, i ≠ 0 → wi (si w 4 0 (nI v)) 4 i = wi w 4 i := fun i hi => wi_ne (Or.inr hi)
  refine ⟨h1.s4, ⟨(wi_ne (Or.inl (by decide))).trans h2, (wi_ne (Or.inl (by decide))).trans h3, (wi_ne (Or.inl (by decide))).trans h4⟩, ⟨wi_self _ _ _ _, (e4 _ (by decide)).trans h6, (e4 _ (by decide)).trans h7, (e4 _ (by decide)).trans h8⟩, fun d hd => ?_, fun d hd hd5 => (e4 _ (by omega)).trans (h10 d hd hd5), fun i hi => ?_, fun i hi => ?_⟩
  · have hd' : d < A 9 2 := hd
    have gd := aB.2.2.2.2.2.2.1 d hd'
    exact (h9 d hd').cg gd.2.1 gd.2.2.2.2.1 (fun i hi => e4 i (by omega)) rfl rfl rfl (fun j => up2_ne _ _ (by omega))
  · obtain ⟨g1, g2⟩ := h11 i hi
    exact ⟨(e4 _ (by omega)).trans g1, (e4 _ (by omega)).trans g2⟩
  · obtain ⟨g1, g2, g3, g4⟩ := h12 i hi
    exact ⟨(e4 _ (by omega)).trans g1, (e4 _ (by omega)).trans g2, (e4 _ (by omega)).trans g3, (e4 _ (by omega)).trans g4⟩
theorem RS.t1 {T : Nat → Int32} {n : Nat} {A : AT} {w : Wd} (h : RS T n A w) : RS T n (up2 A 9 0 1) (si w 0 14 1) := by
  obtain ⟨h1, ⟨h2, h3, h4⟩, ⟨h5, h6, h7, h8⟩, h9, h10, h11, h12⟩ := h
  have e4 : ∀ i, wi (si w 0 14 1) 4 i = wi w 4 i := fun i => wi_ne (Or.inl (by decide))
  refine ⟨⟨h1.1, (wi_ne (Or.inr (by decide))).trans h1.2.1, fun k hk => ⟨(wi_ne (Or.inl (by decide))).trans (h1.2.2 k hk).1, (h1.2.2 k hk).2⟩⟩, ⟨(wi_ne (Or.inr (by decide))).trans h2, wi_self _ _ _ _, (wi_ne (Or.inr (by decide))).trans h4⟩, ⟨(e4 _).trans h5, (e4 _).trans h6, (e4 _).trans h7, (e4 _).trans h8⟩, fun d hd => ?_, fun d hd hd5 => (e4 _).trans (h10 d hd hd5), fun i hi => ?_, fun i hi => ?_⟩
  · obtain ⟨g1, g2, g3, g4⟩ := h9 d hd
    exact ⟨(e4 _).trans g1, (e4 _).trans g2, fun k hk => (e4 _).trans (g3 k hk), fun j hj => (e4 _).trans ((g4 j hj).trans (congrArg nI (up2_ne _ _ (by omega)).symm))⟩
  · obtain ⟨g1, g2⟩ := h11 i hi
    exact ⟨(e4 _).trans g1, (e4 _).trans g2⟩
  · obtain ⟨g1, g2, g3, g4⟩ := h12 i hi
    exact ⟨(e4 _).trans g1, (e4 _).trans g2, (e4 _).trans g3, (e4 _).trans g4⟩
theorem aH_c (A : AT) (v : Nat) : up2 (up2 A 9 1 v) 9 0 1 = aH A v := by
  funext a i
  show (if a = 9 ∧ i = 0 then 1 else if a = 9 ∧ i = 1 then v else A a i) = (if a = 9 ∧ i = 1 then v else if a = 9 ∧ i = 0 then 1 else A a i)
  by_cases c0 : a = 9 ∧ i = 0
  · rw [if_pos c0, if_neg (by omega), if_pos c0]
  · rw [if_neg c0, if_neg c0]
theorem AB.adH {n v : Nat} {A : AT} (h : AB n A) (hv : v ≤ 100) : AB n (aH A v) := by
  obtain ⟨h1, h2, h3, h4, h5, h6, h7, h8, h9⟩ := h
  have e : ∀ d j, aH A v (10 + d) j = A (10 + d) j := fun d j => (up2_ne _ _ (by omega)).trans (up2_ne _ _ (by omega))
  refine ⟨show 1 ≤ 1 by decide, hv, h3, h4, h5, fun z => absurd (show (1 : Nat) = 0 from z) (by decide), fun d hd => ?_, h8, h9⟩
  obtain ⟨g1, g2, g3, g4, g5, g6⟩ := h7 d hd
  exact ⟨g1, g2, g3, g4, g5, fun j hj => by rw [e]; exact g6 j hj⟩
/-- numbers -/
theorem n_RF {w : Wd} (h13 : ¬ wi w 0 13 = 0) (M : Int32) : vXX11_numberHere 0 M w = 0 ∧ wXX11_numberHere 0 M w = w := ⟨if_neg h13, if_neg h13⟩
theorem n_R1 {T : Nat → Int32} {n p s e kd : Nat} {w : Wd} (h13 : wi w 0 13 = 0) (hC : TRk T s e kd w) (tk : Tok T n p s e kd) (q : kd ≠ 2) (M : Int32) : vXX11_numberHere 0 M w = 0 ∧ wXX11_numberHere 0 M w = fW 1 s w := by
  have ek : ¬ wi w 0 6 = 3 := fun z => q ((krf_3 (tok_b tk).2.2.2.2.2.2).mp (hC.2.1.symm.trans z))
  unfold vXX11_numberHere wXX11_numberHere
  rw [if_pos h13, if_neg ek, if_pos h13, if_neg ek, wr_0 h13 hC.1, if_neg fW_13]
  exact ⟨rfl, rfl⟩
theorem n_R2 {T : Nat → Int32} {n p s e kd m v : Nat} {w : Wd} (h13 : wi w 0 13 = 0) (hC : TRk T s e kd w) (tk : Tok T n p s e kd) (q : kd = 2) (dv : dI T s (e - s) = nI v) (hv : v ≤ 999) (hm : m ≤ 1000) {M : Int32} (hM : M = nI m) : (m < v → vXX11_numberHere 0 M w = 0 ∧ wXX11_numberHere 0 M w = fW 4 s w) ∧ (v ≤ m → vXX11_numberHere 0 M w = nI v ∧ wXX11_numberHere 0 M w = w) := by
  have ek : wi w 0 6 = 3 := hC.2.1.trans ((krf_3 (tok_b tk).2.2.2.2.2.2).mpr q)
  have e7 : wi w 0 7 = nI v := (hC.2.2.2.2 q).trans dv
  have hi : vXX11_in (nI v) 0 (nI m) = 0 ↔ m < v := by
    rw [v_in, if_neg (nI_pos (by omega))]
    by_cases c : m < v
    · rw [if_pos (nI_lt c (by omega))]
      exact ⟨fun _ => c, fun _ => rfl⟩
    · rw [if_neg (nI_nlt (by omega) (by omega))]
      exact ⟨fun z => absurd z (by decide), fun z => absurd z c⟩
  subst hM
  unfold vXX11_numberHere wXX11_numberHere
  simp only [if_pos h13, if_pos ek, e7]
  refine ⟨fun z => ?_, fun z => ?_⟩
  · rw [if_pos (hi.mpr z), if_pos (hi.mpr z), wr_0 h13 hC.1, if_neg fW_13]
    exact ⟨rfl, rfl⟩
  · have z2 : ¬ vXX11_in (nI v) 0 (nI m) = 0 := fun y => by have := hi.mp y; omega
    rw [if_neg z2, if_neg z2]
    exact ⟨rfl, rfl⟩
theorem p_F {w : Wd} (hR : w.2.2 = RM) (hF : ¬ wi w 0 13 = 0) {Q : Wd → Prop} (k : Q w) : ClV SR mX11_pass [.ref 0] w (fun w2 => w2.2.2 = RM ∧ Q w2) := TX11_pass w hR _ ⟨fun z => absurd z hF, fun _ => ⟨rfl, hR, k⟩⟩
theorem p_0 {w : Wd} (hR : w.2.2 = RM) (h13 : wi w 0 13 = 0) {T : Nat → Int32} {n p s e kd : Nat} (hT : TXR T n w) (e5 : wi w 0 5 = nI p) (tk : Tok T n p s e kd) {Q : Wd → Prop} (kk : ∀ w', StR w w' → TRk T s e kd w' → Q w') : ClV SR mX11_pass [.ref 0] w (fun w2 => w2.2.2 = RM ∧ Q w2) :=
  TX11_pass w hR _ ⟨fun _ => z_next hR hT e5 tk (fun w' f t => ⟨rfl, f.1.trans hR, kk w' f t⟩), fun z => absurd h13 z⟩
theorem tok_12 {T : Nat → Int32} {n p s e kd : Nat} (tk : Tok T n p s e kd) : kd = 1 → e - s ≤ 12 := fun h => ((tok_b tk).2.2.2.2.1 h).2
theorem r_slips {w : Wd} (hR : w.2.2 = RM) {T : Nat → Int32} {n p s e kd : Nat} {A : AT} (aB : AB n A) (hS : RS T n A w) (tk : Tok T n p s e kd) (hT : TRk T s e kd w) (hk : kd ≠ 4) {F : Int32 → Nat → Prop} {O : Nat → Nat → Nat → Nat → Prop} (sp : SpH T n s e (A 9 0) F O) {Q : Wd → Prop} (kF : ∀ f q w', F f q → FlR w w' f q → Q w') (kO : ∀ v p' s' e' k' w', O v s' e' k' → Tok T n p' s' e' k' → s ≤ s' → v ≤ 100 → RS T n (aH A v) w' → TRk T s' e' k' w' → FrR w w' → Q w') : ClV SR mX11_hallLine [.ref 0] w (fun w2 => w2.2.2 = RM ∧ Q w2) := by
  have t1 := aB.1
  have h13 := hS.2.1.1
  have h14 := hS.2.1.2.1
  rcases sp with ⟨y, hF⟩ | ⟨y, s1, e1, k1, tk1, sp⟩
  · refine TX11_hallLine w hR _ ⟨fun z => absurd ?_ y, fun _ => ?_⟩
    · rw [h14] at z
      exact (nI_eq (b := 0) (by omega) (by decide)).mp z
    · rw [wr_0 h13 hT.1]
      exact ⟨fun z => absurd z fW_13, fun _ => ⟨rfl, hR, kF _ _ _ hF (fl_R (FrR.rf w) 3 s)⟩⟩
  have fin : ∀ f q w2, F f q → FlR w w2 f q → w2.2.2 = RM → ClV SR mX11_pass [.ref 0] (si w2 4 0 0) (fun w3 => w3.2.2 = RM ∧ (none : Option Value) = none ∧ (si w3 0 14 (if (wi w3 0 13) = 0 then 1 else 0 : Int32)).2.2 = RM ∧ Q (si w3 0 14 (if (wi w3 0 13) = 0 then 1 else 0 : Int32))) := fun f q w2 hF fl R2 =>
    p_F (w := si w2 4 0 0) R2 fl.s4.2.1 ⟨rfl, R2, kF _ _ _ hF fl.s4.s14⟩
  refine TX11_hallLine w hR _ ⟨fun _ => ⟨fun _ => ?_, fun z => absurd h13 z⟩, fun z => absurd (by rw [h14, y]; rfl) z⟩
  refine z_next hR hS.1 (hT.2.2.1 hk) tk1 (fun w1 f1 c1 => ?_)
  have R1 : w1.2.2 = RM := f1.1.trans hR
  have S1 := hS.st f1
  have F1 := (FrR.rf w).st f1
  have kb1 := (tok_b tk1).2.2.2.2.2.2
  rcases sp with ⟨q, hF⟩ | ⟨q, s2, e2, k2, tk2, sp⟩
  · refine TX11_must 4 (by decide) w1 R1 _ ⟨fun _ => TX11_takesWord 4 (by decide) w1 R1 _ (z_isWR (a := 4) R1 S1.2.1.1 c1 (tok_12 tk1) kb1 (by decide) (fun z => absurd z q) (fun _ => ⟨fun _ => ⟨_, rfl, R1, fun _ => ?_, fun z => absurd rfl z⟩, fun z => absurd rfl z⟩)), fun z => absurd S1.2.1.1 z⟩
    rw [wr_0 S1.2.1.1 c1.1]
    refine ⟨rfl, R1, ?_⟩
    rw [(n_RF (w := fW 1 s1 w1) fW_13 100).1, (n_RF (w := fW 1 s1 w1) fW_13 100).2]
    exact fin 1 s1 _ hF (fl_R F1 1 s1) R1
  · refine TX11_must 4 (by decide) w1 R1 _ ⟨fun _ => TX11_takesWord 4 (by decide) w1 R1 _ (z_isWR (a := 4) R1 S1.2.1.1 c1 (tok_12 tk1) kb1 (by decide) (fun _ => ⟨fun z => absurd z (by decide), fun _ => z_next R1 S1.1 (c1.2.2.1 (by have := q.1; omega)) tk2 (fun w2 f2 c2 => ⟨_, rfl, f2.1.trans R1, fun z => absurd z (by decide), fun _ => ⟨rfl, f2.1.trans R1, ?_⟩⟩)⟩) (fun z => absurd q z)), fun z => absurd S1.2.1.1 z⟩
    have R2 : w2.2.2 = RM := f2.1.trans R1
    have S2 := S1.st f2
    have F2 := F1.st f2
    rcases sp with ⟨g1, hF⟩ | ⟨g1, v, hv, dv, ⟨g2, hF⟩ | ⟨g2, s3, e3, k3, tk3, hO⟩⟩
    · rw [(n_R1 S2.2.1.1 c2 tk2 g1 100).1, (n_R1 S2.2.1.1 c2 tk2 g1 100).2]
      exact fin 1 s2 _ hF (fl_R F2 1 s2) R2
    · rw [((n_R2 S2.2.1.1 c2 tk2 g1 dv hv (m := 100) (M := 100) (by decide) rfl).1 g2).1, ((n_R2 S2.2.1.1 c2 tk2 g1 dv hv (m := 100) (M := 100) (by decide) rfl).1 g2).2]
      exact fin 4 s2 _ hF (fl_R F2 4 s2) R2
    · rw [((n_R2 S2.2.1.1 c2 tk2 g1 dv hv (m := 100) (M := 100) (by decide) rfl).2 g2).1, ((n_R2 S2.2.1.1 c2 tk2 g1 dv hv (m := 100) (M := 100) (by decide) rfl).2 g2).2]
      have S3 := S2.sl (v := v) aB
      refine p_0 (w := si w2 4 0 (nI v)) R2 S3.2.1.1 S3.1 ((wi_ne (Or.inl (by decide))).trans (c2.2.2.1 (by omega))) tk3 (fun w3 f3 c3 => ⟨rfl, f3.1.trans R2, ?_⟩)
      have S4 := S3.st f3
      rw [if_pos S4.2.1.1]
      have S5 := S4.t1
      rw [aH_c] at S5
      have q1 := tk1.1
      have q2 := tk2.1
      have q3 := tk3.1
      have b0 := (tok_b tk).2.2.1
      have b1 := (tok_b tk1).2.2.1
      have b2 := (tok_b tk2).2.2.1
      refine kO v e2 s3 e3 k3 _ hO tk3 (by omega) g2 S5 ?_ ((F2.s4.st f3).s0 (by decide))
      exact ⟨(wi_ne (Or.inr (by decide))).trans c3.1, (wi_ne (Or.inr (by decide))).trans c3.2.1, fun z => (wi_ne (Or.inr (by decide))).trans (c3.2.2.1 z), fun z => ⟨(wi_ne (Or.inr (by decide))).trans (c3.2.2.2.1 z).1, fun j hj => (wi_ne (Or.inl (by decide))).trans ((c3.2.2.2.1 z).2 j hj)⟩, fun z => (wi_ne (Or.inr (by decide))).trans (c3.2.2.2.2 z)⟩
