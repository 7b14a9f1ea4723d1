theorem c_told {b c : Bool} {w : Wd} (hR : w.2.2 = RTab b) {T : Nat → Int32} {n p s e kd : Nat} {A : AT} (aB : AB n A) (hC : CS c T n A w) (tk : Tok T n p s e kd) (hT : TC T s e kd w) (hk : kd ≠ 4) {Q : Int32 → Wd → Prop} (kF : ∀ s1 e1 k1, Tok T n e s1 e1 k1 → ∀ w1, StC w w1 → TC T s1 e1 k1 w1 → (¬ NmP T s1 e1 k1 → Q (-1) (wXX8_fail 1 w1)) ∧ (NmP T s1 e1 k1 → (∀ d, d < A 9 2 → ¬ SN T s1 e1 (A 0) (A 1) d) → Q (-1) (wXX8_fail 2 w1))) (kO : ∀ s1 e1 k1, Tok T n e s1 e1 k1 → NmP T s1 e1 k1 → ∀ d, d < A 9 2 → SN T s1 e1 (A 0) (A 1) d → (∀ j, j < d → ¬ SN T s1 e1 (A 0) (A 1) j) → ∀ s2 e2 k2, Tok T n e1 s2 e2 k2 → ∀ w2, StC w w2 → TC T s2 e2 k2 w2 → Q (nI d) w2) : ClI SC mX8_readDanceTold [.ref 1, .ref (hA c)] w (fun x w2 => w2.2.2 = RTab b ∧ Q x w2) := by
  have tD := aB.2.2.1
  obtain ⟨s1, e1, k1, tk1⟩ := tok_ex T (tok_b tk).2.1
  obtain ⟨s2, e2, k2, tk2⟩ := tok_ex T (tok_b tk1).2.1
  refine TX8_readDanceTold c w b hR _ (z_tok hR hC.1 (hT.2.2.1 hk) tk1 (fun w1 f1 c1 => ?_))
  have R1 : w1.2.2 = RTab b := f1.1.trans hR
  have C1 := hC.st f1
  refine z_isName R1 C1.1 c1 (tok_b tk1).2.1 (tok_b tk1).2.2.2.2.2.2 (fun q => ⟨fun z => absurd z (by decide), fun _ => ?_⟩) (fun q => ⟨fun _ => ⟨_, rfl, R1, (kF s1 e1 k1 tk1 w1 f1 c1).1 q⟩, fun z => absurd rfl z⟩)
  refine z_toldAt R1 C1.1 (hN_C aB) C1.nm c1.1 (c1.2.2.2.1 q.1) (tok_b tk1).2.1 (fun d g1 g2 g3 => ⟨fun z => ?_, fun _ => ?_⟩) (fun g => ⟨fun _ => ⟨_, rfl, R1, (kF s1 e1 k1 tk1 w1 f1 c1).2 q g⟩, fun z => absurd rfl z⟩)
  · exact absurd z ((by decide : ∀ d, d < 5 → ¬ nI d = -1) d (by omega))
  · refine z_tok R1 C1.1 (c1.2.2.1 (by have := q.1; omega)) tk2 (fun w2 f2 c2 => ?_)
    exact ⟨_, rfl, f2.1.trans R1, kO s1 e1 k1 tk1 q d g1 g2 g3 s2 e2 k2 tk2 w2 (f1.tr f2) c2⟩
def UsT (A : AT) (d v : Nat) : Prop := ∃ i, i < A 9 3 ∧ A 3 i = d ∧ A 4 i = v
def EsT (A : AT) (d v : Nat) : Prop := ∃ i, i < A 9 4 ∧ A 5 i = d ∧ A 6 i = v
theorem g_uns {b c : Bool} {w : Wd} (hR : w.2.2 = RTab b) {T : Nat → Int32} {n : Nat} {A : AT} (aB : AB n A) (hC : CS c T n A w) {d v : Nat} (hd : d < 5) (hv : v ≤ 999) {Q : Option Value → Wd → Prop} (c1 : UsT A d v → Q (some (.int 1)) w) (c0 : ¬ UsT A d v → Q (some (.int 0)) w) : ∀ (r i : Nat), i + r = A 9 3 → (∀ j, j < i → ¬ (A 3 j = d ∧ A 4 j = v)) → Go SC mX2_isUnsure 2 [(0, .ref (hA c)), (1, .int (nI d)), (2, .int (nI v)), (3, .int (nI i))] [] w Q := by
  have tU := aB.2.2.2.1
  have tD := aB.2.2.1
  have eU := hC.2.2.1.2.2.1
  intro r
  induction r with
  | zero =>
    intro i hi hm
    refine BX2_isUnsure_2 c _ _ _ w b hR Q ⟨fun _ => c0 ?_, fun z => absurd (by rw [eU]; exact nI_le (by omega) (by omega)) z⟩
    rintro ⟨j, g1, g2⟩
    exact hm j (by omega) g2
  | succ r ih =>
    intro i hi hm
    have g := hC.2.2.2.2.1 i (by omega)
    have g2 := aB.2.2.2.2.2.2.2.1 i (by omega)
    have g3 := (aB.2.2.2.2.2.2.1 _ g2.1).2.2.2.2.1
    have nx : ¬ (A 3 i = d ∧ A 4 i = v) → Go SC mX2_isUnsure 2 [(0, .ref (hA c)), (1, .int (nI d)), (2, .int (nI v)), (3, .int (nI (i + 1)))] [] w Q := by
      intro y
      refine ih (i + 1) (by omega) (fun j hj => ?_)
      by_cases q : j = i
      · subst q
        exact y
      · exact hm j (by omega)
    refine BX2_isUnsure_2 c _ _ _ w b hR Q ⟨fun z => absurd z (by rw [eU]; exact nI_ge (by omega) (by omega)), fun _ => ?_⟩
    rw [gf_in (by omega) (by decide), gf_in (by omega) (by decide), g.1, g.2, nI_1]
    refine ⟨fun y1 => ⟨fun y2 => c1 ⟨i, by omega, (nI_eq (by omega) (by omega)).mp y1, (nI_eq (by omega) (by omega)).mp y2⟩, fun y2 => nx (fun z => y2 (by rw [z.2]))⟩, fun y1 => nx (fun z => y1 (by rw [z.1]))⟩
theorem z_uns {b c : Bool} {w : Wd} (hR : w.2.2 = RTab b) {T : Nat → Int32} {n : Nat} {A : AT} (aB : AB n A) (hC : CS c T n A w) {d v : Nat} (hd : d < 5) (hv : v ≤ 999) {Q : Int32 → Wd → Prop} (c1 : UsT A d v → Q 1 w) (c0 : ¬ UsT A d v → Q 0 w) : ClI SC mX2_isUnsure [.ref (hA c), .int (nI d), .int (nI v)] w (fun x w2 => w2.2.2 = RTab b ∧ Q x w2) := by
  refine TX2_isUnsure c _ _ w b hR _ ?_
  have := g_uns hR aB hC hd hv (Q := fun r w' => ∃ x, r = some (.int x) ∧ w'.2.2 = RTab b ∧ Q x w') (fun z => ⟨_, rfl, hR, c1 z⟩) (fun z => ⟨_, rfl, hR, c0 z⟩) (A 9 3) 0 (Nat.zero_add _) (fun j hj => absurd hj (Nat.not_lt_zero j))
  rw [nI_0] at this
  exact this
theorem g_sen {b c : Bool} {w : Wd} (hR : w.2.2 = RTab b) {T : Nat → Int32} {n : Nat} {A : AT} (aB : AB n A) (hC : CS c T n A w) {d v : Nat} (hd : d < 5) (hv : v ≤ 999) {Q : Option Value → Wd → Prop} (c1 : EsT A d v → Q (some (.int 1)) w) (c0 : ¬ EsT A d v → Q (some (.int 0)) w) : ∀ (r i : Nat), i + r = A 9 4 → (∀ j, j < i → ¬ (A 5 j = d ∧ A 6 j = v)) → Go SC mX2_isSeen 2 [(0, .ref (hA c)), (1, .int (nI d)), (2, .int (nI v)), (3, .int (nI i))] [] w Q := by
  have tU := aB.2.2.2.2.1
  have tD := aB.2.2.1
  have eU := hC.2.2.1.2.2.2
  intro r
  induction r with
  | zero =>
    intro i hi hm
    refine BX2_isSeen_2 c _ _ _ w b hR Q ⟨fun _ => c0 ?_, fun z => absurd (by rw [eU]; exact nI_le (by omega) (by omega)) z⟩
    rintro ⟨j, g1, g2⟩
    exact hm j (by omega) g2
  | succ r ih =>
    intro i hi hm
    have g := hC.2.2.2.2.2 i (by omega)
    have g2 := aB.2.2.2.2.2.2.2.2 i (by omega)
    have g3 := (aB.2.2.2.2.2.2.1 _ g2.1).2.2.2.2.1
    have g4 := g2.2.1
    have nx : ¬ (A 5 i = d ∧ A 6 i = v) → Go SC mX2_isSeen 2 [(0, .ref (hA c)), (1, .int (nI d)), (2, .int (nI v)), (3, .int (nI (i + 1)))] [] w Q := by
      intro y
      refine ih (i + 1) (by omega) (fun j hj => ?_)
      by_cases q : j = i
      · subst q
        exact y
      · exact hm j (by omega)
    refine BX2_isSeen_2 c _ _ _ w b hR Q ⟨fun z => absurd z (by rw [eU]; exact nI_ge (by omega) (by omega)), fun _ => ?_⟩
    rw [gf_in (by omega) (by decide), gf_in (by omega) (by decide), g.1, g.2.1, nI_1]
    refine ⟨fun y1 => ⟨fun y2 => c1 ⟨i, by omega, (nI_eq (by omega) (by omega)).mp y1, (nI_eq (by omega) (by omega)).mp y2⟩, fun y2 => nx (fun z => y2 (by rw [z.2]))⟩, fun y1 => nx (fun z => y1 (by rw [z.1]))⟩
theorem z_sen {b c : Bool} {w : Wd} (hR : w.2.2 = RTab b) {T : Nat → Int32} {n : Nat} {A : AT} (aB : AB n A) (hC : CS c T n A w) {d v : Nat} (hd : d < 5) (hv : v ≤ 999) {Q : Int32 → Wd → Prop} (c1 : EsT A d v → Q 1 w) (c0 : ¬ EsT A d v → Q 0 w) : ClI SC mX2_isSeen [.ref (hA c), .int (nI d), .int (nI v)] w (fun x w2 => w2.2.2 = RTab b ∧ Q x w2) := by
  refine TX2_isSeen c _ _ w b hR _ ?_
  have := g_sen hR aB hC hd hv (Q := fun r w' => ∃ x, r = some (.int x) ∧ w'.2.2 = RTab b ∧ Q x w') (fun z => ⟨_, rfl, hR, c1 z⟩) (fun z => ⟨_, rfl, hR, c0 z⟩) (A 9 4) 0 (Nat.zero_add _) (fun j hj => absurd hj (Nat.not_lt_zero j))
  rw [nI_0] at this
  exact this
def aU (A : AT) (d v : Nat) : AT := up2 (up2 (up2 A 3 (A 9 3) d) 4 (A 9 3) v) 9 3 (A 9 3 + 1)
theorem CS.adU {c : Bool} {T : Nat → Int32} {n : Nat} {A : AT} {w : Wd} {d v : Nat} (h : CS c T n A w) (aB : AB n A) (hU : A 9 3 < 4) : CS c T n (aU A d v) (wXX2_addUnsure c (nI d) (nI v) w) := by
  have hb := hA3 c
  have tD := aB.2.2.1
  obtain ⟨h1, ⟨h2, h3⟩, ⟨h4, h5, h6, h7⟩, h8, h9, h10⟩ := h
  have hw : wXX2_addUnsure c (nI d) (nI v) w = si (si (si w (hA c + 17) (A 9 3) (nI d)) (hA c + 18) (A 9 3) (nI v)) (hA c) 5 (nI (A 9 3 + 1)) := by
    unfold wXX2_addUnsure
    have p1 : ∀ x, wi (si w (hA c + 17) (A 9 3) x) (hA c) 5 = nI (A 9 3) := fun x => (wi_ne (by omega)).trans h6
    have p2 : ∀ x y, wi (si (si w (hA c + 17) (A 9 3) x) (hA c + 18) (A 9 3) y) (hA c) 5 = nI (A 9 3) := fun x y => (wi_ne (by omega)).trans (p1 x)
    rw [h6, pf_in hU (by decide), p1, pf_in hU (by decide), p2, nI_1]
  rw [hw]
  refine ⟨((h1.s3 (Or.inl (by omega))).s3 (Or.inl (by omega))).s3 (Or.inl hb), ⟨(wi_ne (by omega)).trans ((wi_ne (by omega)).trans ((wi_ne (by omega)).trans h2)), (wi_ne (by omega)).trans ((wi_ne (by omega)).trans ((wi_ne (by omega)).trans h3))⟩, ⟨(wi_ne (by omega)).trans ((wi_ne (by omega)).trans ((wi_ne (by omega)).trans h4)), (wi_ne (by omega)).trans ((wi_ne (by omega)).trans ((wi_ne (by omega)).trans h5)), wi_self _ _ _ _, (wi_ne (by omega)).trans ((wi_ne (by omega)).trans ((wi_ne (by omega)).trans h7))⟩, fun j hj => ?_, fun i hi => ?_, fun i hi => ?_⟩
  · have hj' : j < A 9 2 := hj
    have e : dA (hA c) j = hA c + 2 + 3 * j := rfl
    exact (h8 j hj').cg (fun i => (wi_ne (by omega)).trans ((wi_ne (by omega)).trans (wi_ne (by omega)))) (fun i => (wi_ne (by omega)).trans ((wi_ne (by omega)).trans (wi_ne (by omega)))) (fun i => (wi_ne (by omega)).trans ((wi_ne (by omega)).trans (wi_ne (by omega)))) ((up2_ne _ _ (by omega)).trans ((up2_ne _ _ (by omega)).trans (up2_ne _ _ (by omega)))) ((up2_ne _ _ (by omega)).trans ((up2_ne _ _ (by omega)).trans (up2_ne _ _ (by omega)))) ((up2_ne _ _ (by omega)).trans ((up2_ne _ _ (by omega)).trans (up2_ne _ _ (by omega)))) (fun i => (up2_ne _ _ (by omega)).trans ((up2_ne _ _ (by omega)).trans (up2_ne _ _ (by omega))))
  · have hi' : i < A 9 3 + 1 := hi
    by_cases q : i = A 9 3
    · subst q
      refine ⟨(wi_ne (by omega)).trans ((wi_ne (by omega)).trans ((wi_self _ _ _ _).trans (congrArg nI ?_))), (wi_ne (by omega)).trans ((wi_self _ _ _ _).trans (congrArg nI ?_))⟩
      · exact ((up2_ne _ _ (by omega)).trans ((up2_ne _ _ (by omega)).trans (up2_self _ _ _ _))).symm
      · exact ((up2_ne _ _ (by omega)).trans (up2_self _ _ _ _)).symm
    · obtain ⟨g1, g2⟩ := h9 i (by omega)
      refine ⟨(wi_ne (by omega)).trans ((wi_ne (by omega)).trans ((wi_ne (by omega)).trans (g1.trans (congrArg nI ?_)))), (wi_ne (by omega)).trans ((wi_ne (by omega)).trans ((wi_ne (by omega)).trans (g2.trans (congrArg nI ?_))))⟩
      · exact ((up2_ne _ _ (by omega)).trans ((up2_ne _ _ (by omega)).trans (up2_ne _ _ (by omega)))).symm
      · exact ((up2_ne _ _ (by omega)).trans ((up2_ne _ _ (by omega)).trans (up2_ne _ _ (by omega)))).symm
  · obtain ⟨g1, g2, g3, g4⟩ := h10 i hi
    have ea : ∀ a, 5 ≤ a → a ≤ 8 → aU A d v a i = A a i := fun a x y => (up2_ne _ _ (by omega)).trans ((up2_ne _ _ (by omega)).trans (up2_ne _ _ (by omega)))
    rw [ea 5 (by decide) (by decide), ea 6 (by decide) (by decide), ea 7 (by decide) (by decide), ea 8 (by decide) (by decide)]
    have pw : ∀ x y, 19 ≤ x → wi (si (si (si w (hA c + 17) (A 9 3) (nI d)) (hA c + 18) (A 9 3) (nI v)) (hA c) 5 (nI (A 9 3 + 1))) (hA c + x) y = wi w (hA c + x) y := fun x y hx => (wi_ne (by omega)).trans ((wi_ne (by omega)).trans (wi_ne (by omega)))
    exact ⟨(pw 19 i (by decide)).trans g1, (pw 20 i (by decide)).trans g2, (pw 21 i (by decide)).trans g3, (pw 22 i (by decide)).trans g4⟩
theorem FrC.adU {c : Bool} {w w' : Wd} {d v : Int32} (h : FrC c w w') : FrC c w (wXX2_addUnsure c d v w') := by
  unfold wXX2_addUnsure
  have h1 : ∀ {w2 : Wd} {a m : Nat} {x y : Int32}, FrC c w w2 → hA c ≤ a → a < hA c + 23 → FrC c w (pf w2 a m x y) := by
    intro w2 a m x y hw ha hb
    unfold pf
    split
    · exact hw.sh ha hb
    · exact hw
  exact (h1 (h1 h (by omega) (by omega)) (by omega) (by omega)).sh (Nat.le_refl _) (by omega)
def SpT (T : Nat → Int32) (n e0 : Nat) (A : AT) (F : Int32 → Nat → Prop) (O : Nat → Nat → Nat → Nat → Prop) : Prop := ∃ s1 e1 k1, Tok T n e0 s1 e1 k1 ∧ ((¬ NmP T s1 e1 k1 ∧ F 1 s1) ∨ (NmP T s1 e1 k1 ∧ (((∀ d, d < A 9 2 → ¬ SN T s1 e1 (A 0) (A 1) d) ∧ F 2 s1) ∨ (∃ d, d < A 9 2 ∧ SN T s1 e1 (A 0) (A 1) d ∧ (∀ j, j < d → ¬ SN T s1 e1 (A 0) (A 1) j) ∧ ∃ s2 e2 k2, Tok T n e1 s2 e2 k2 ∧ O d s2 e2 k2))))
def SpU (T : Nat → Int32) (n s0 e0 : Nat) (A : AT) (F : Int32 → Nat → Prop) (O : AT → Nat → Nat → Nat → Prop) : Prop := (A 9 0 = 0 ∧ F 6 s0) ∨ (A 9 0 ≠ 0 ∧ ((4 ≤ A 9 3 ∧ F 5 s0) ∨ (A 9 3 < 4 ∧ SpT T n e0 A F (fun d s2 e2 k2 => SpN T s2 e2 k2 (A 2 d - 1) F (fun v => (UsT A d v ∧ F 3 s2) ∨ (¬ UsT A d v ∧ ∃ s3 e3 k3, Tok T n e2 s3 e3 k3 ∧ O (aU A d v) s3 e3 k3))))))
theorem c_uns {b c : Bool} {w : Wd} (hR : w.2.2 = RTab b) {T : Nat → Int32} {n p s e kd : Nat} {A : AT} (aB : AB n A) (hC : CS c T n A w) (tk : Tok T n p s e kd) (hT : TC T s e kd w) (hk : kd ≠ 4) {Q : Int32 → Wd → Prop} (kF : ∀ {f q w'}, w'.2.2 = RTab b → FlC c w w' f q → (∀ (F : Int32 → Nat → Prop) (O : AT → Nat → Nat → Nat → Prop), F f q → SpU T n s e A F O) → Q 0 w') (kO : ∀ {A' s' e' k' w'}, w'.2.2 = RTab b → CS c T n A' w' → TC T s' e' k' w' → FrC c w w' → (∀ (F : Int32 → Nat → Prop) (O : AT → Nat → Nat → Nat → Prop), O A' s' e' k' → SpU T n s e A F O) → Q 1 w') : ClI SC mX8_readUnsure [.ref 1, .ref (hA c)] w (fun x w2 => w2.2.2 = RTab b ∧ Q x w2) := by
  have hb := hA3 c
  have t1 := aB.1
  have tD := aB.2.2.1
  have tU := aB.2.2.2.1
  have e8 := hC.2.1.1
  have eU := hC.2.2.1.2.2.1
  refine TX8_readUnsure c w b hR _ ⟨fun y => ⟨_, rfl, hR, kF (hR) (fl_C (FrC.rf c w) hT.1 6) (fun F O h => (Or.inl ⟨?_, h⟩))⟩, fun y => ?_⟩
  · rw [e8] at y
    exact (nI_eq (b := 0) (by omega) (by decide)).mp y
  have y0 : A 9 0 ≠ 0 := fun z => y (by rw [e8, z]; rfl)
  rw [eU]
  refine ⟨fun z => ?_, fun z => ⟨_, rfl, hR, kF (hR) (fl_C (FrC.rf c w) hT.1 5) (fun F O h => (Or.inr ⟨y0, Or.inl ⟨?_, h⟩⟩))⟩⟩
  · have z4 : A 9 3 < 4 := (nI_ltI (b := 4) (by omega) (by decide)).mp z
    refine c_told hR aB hC tk hT hk (fun s1 e1 k1 tk1 w1 f1 c1 => ⟨fun q => ⟨fun z => absurd z.1 (by decide), fun _ => ⟨_, rfl, f1.1.trans hR, kF (f1.1.trans hR) (fl_C ((FrC.rf c w).st f1) c1.1 1) (fun F O h => (Or.inr ⟨y0, Or.inr ⟨z4, s1, e1, k1, tk1, Or.inl ⟨q, h⟩⟩⟩))⟩⟩, fun q g => ⟨fun z => absurd z.1 (by decide), fun _ => ⟨_, rfl, f1.1.trans hR, kF (f1.1.trans hR) (fl_C ((FrC.rf c w).st f1) c1.1 2) (fun F O h => (Or.inr ⟨y0, Or.inr ⟨z4, s1, e1, k1, tk1, Or.inr ⟨q, Or.inl ⟨g, h⟩⟩⟩⟩))⟩⟩⟩) (fun s1 e1 k1 tk1 q d g1 g2 g3 s2 e2 k2 tk2 w2 f2 c2 => ⟨fun _ => ?_, fun z => ?_⟩)
    · have R2 : w2.2.2 = RTab b := f2.1.trans hR
      have C2 := hC.st f2
      have F2 := (FrC.rf c w).st f2
      have gd := aB.2.2.2.2.2.2.1 d g1
      obtain ⟨m, hm⟩ : ∃ m, A 2 d = m + 1 := ⟨A 2 d - 1, by omega⟩
      rw [nI_clamp (by omega), (C2.2.2.2.1 d g1).1, hm, nI_pred]
      rcases n_C c2 tk2 (m := m) rfl (by omega) with ⟨x1, x2, x3⟩ | ⟨x1, v, x2, x3, x4, x5⟩
      · rw [x2, x3]
        refine ⟨fun _ => ⟨_, rfl, R2, kF (R2) (fl_C F2 c2.1 1) (fun F O h => (Or.inr ⟨y0, Or.inr ⟨z4, s1, e1, k1, tk1, Or.inr ⟨q, Or.inr ⟨d, g1, g2, g3, s2, e2, k2, tk2, Or.inl ⟨x1, h⟩⟩⟩⟩⟩))⟩, fun z => absurd rfl z⟩
      rcases x5 with ⟨x5, x6, x7⟩ | ⟨x5, x6, x7⟩
      · rw [x6, x7]
        refine ⟨fun _ => ⟨_, rfl, R2, kF (R2) (fl_C F2 c2.1 4) (fun F O h => (Or.inr ⟨y0, Or.inr ⟨z4, s1, e1, k1, tk1, Or.inr ⟨q, Or.inr ⟨d, g1, g2, g3, s2, e2, k2, tk2, Or.inr ⟨x1, v, x2, x3, Or.inl ⟨by rw [hm]; omega, h⟩⟩⟩⟩⟩⟩))⟩, fun z => absurd rfl z⟩
      · rw [x6, x7, x4]
        have x8 : v ≤ A 2 d - 1 := by omega
        refine ⟨fun z => absurd z (by decide), fun _ => ?_⟩
        refine z_uns R2 aB C2 (by omega) (by omega) (fun u => ⟨fun z => absurd z (by decide), fun _ => ⟨_, rfl, R2, kF (R2) (fl_C F2 c2.1 3) (fun F O h => (Or.inr ⟨y0, Or.inr ⟨z4, s1, e1, k1, tk1, Or.inr ⟨q, Or.inr ⟨d, g1, g2, g3, s2, e2, k2, tk2, Or.inr ⟨x1, v, x2, x3, Or.inr ⟨x8, Or.inl ⟨u, h⟩⟩⟩⟩⟩⟩⟩))⟩⟩) (fun u => ⟨fun _ => ?_, fun z => absurd rfl z⟩)
        rw [x4]
        obtain ⟨s3, e3, k3, tk3⟩ := tok_ex T (tok_b tk2).2.1
        have C3 := C2.adU (d := d) (v := v) aB z4
        have F3 : FrC c w (wXX2_addUnsure c (nI d) (nI v) w2) := F2.adU
        have e3' : wi (wXX2_addUnsure c (nI d) (nI v) w2) 1 3 = nI e2 := by
          refine Eq.trans ?_ (c2.2.2.1 (by omega))
          have pp : ∀ (w : Wd) (a m : Nat) (x y : Int32), 3 ≤ a → wi (pf w a m x y) 1 3 = wi w 1 3 := by
            intro w a m x y ha
            unfold pf
            split
            · exact wi_ne (by omega)
            · rfl
          unfold wXX2_addUnsure
          exact (wi_ne (by omega)).trans ((pp _ _ _ _ _ (by omega)).trans (pp _ _ _ _ _ (by omega)))
        refine z_tok (F3.1.trans hR) C3.1 e3' tk3 (fun w3 f3 c3 => ?_)
        exact ⟨_, rfl, f3.1.trans (F3.1.trans hR), kO (f3.1.trans (F3.1.trans hR)) (C3.st f3) (c3) (F3.st f3) (fun F O h => (Or.inr ⟨y0, Or.inr ⟨z4, s1, e1, k1, tk1, Or.inr ⟨q, Or.inr ⟨d, g1, g2, g3, s2, e2, k2, tk2, Or.inr ⟨x1, v, x2, x3, Or.inr ⟨x8, Or.inr ⟨u, s3, e3, k3, tk3, h⟩⟩⟩⟩⟩⟩⟩))⟩
    · have C2 := hC.st f2
      rw [C2.2.2.1.2.1] at z
      exact absurd ⟨nI_pos' (by omega), nI_lt g1 (by omega), nlt5 (by omega)⟩ z
  · by_cases q : 4 ≤ A 9 3
    · exact q
    · exact absurd (nI_lt (b := 4) (by omega) (by decide)) z
