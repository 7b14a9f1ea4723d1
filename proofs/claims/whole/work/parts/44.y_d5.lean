/-! the class's lines: a dance, one unsure, one seen -/
theorem hN_C {n : Nat} {A : AT} (aB : AB n A) : NmB n (A 9 2) (A 0) (A 1) := ⟨aB.2.2.1, fun d hd => ⟨(aB.2.2.2.2.2.2.1 d hd).1, (aB.2.2.2.2.2.2.1 d hd).2.1, (aB.2.2.2.2.2.2.1 d hd).2.2.1⟩⟩
theorem CS.nm {c : Bool} {T : Nat → Int32} {n : Nat} {A : AT} {w : Wd} (h : CS c T n A w) : NmC c (A 9 2) (A 0) (A 1) w := ⟨h.2.2.1.2.1, fun d hd => ⟨(h.2.2.2.1 d hd).2.1, (h.2.2.2.1 d hd).2.2.1⟩⟩
def aD (A : AT) (T : Nat → Int32) (s l r m : Nat) : AT := fun a i => if a = 10 + A 9 2 then fgN (T (r + i)) else up2 (up2 (up2 (up2 A 0 (A 9 2) s) 1 (A 9 2) l) 2 (A 9 2) m) 9 2 (A 9 2 + 1) a i
theorem aD_lo {A : AT} {T : Nat → Int32} {s l r m a i : Nat} (ha : a < 10) : aD A T s l r m a i = up2 (up2 (up2 (up2 A 0 (A 9 2) s) 1 (A 9 2) l) 2 (A 9 2) m) 9 2 (A 9 2 + 1) a i := if_neg (by omega)
theorem aD_row {A : AT} {T : Nat → Int32} {s l r m i : Nat} : aD A T s l r m (10 + A 9 2) i = fgN (T (r + i)) := if_pos rfl
theorem aD_hi {A : AT} {T : Nat → Int32} {s l r m d i : Nat} (hd : d ≠ A 9 2) : aD A T s l r m (10 + d) i = A (10 + d) i := by
  unfold aD
  rw [if_neg (by omega)]
  exact (up2_ne _ _ (by omega)).trans ((up2_ne _ _ (by omega)).trans ((up2_ne _ _ (by omega)).trans (up2_ne _ _ (by omega))))
theorem aD_9 {A : AT} {T : Nat → Int32} {s l r m : Nat} : aD A T s l r m 9 0 = A 9 0 ∧ aD A T s l r m 9 1 = A 9 1 ∧ aD A T s l r m 9 2 = A 9 2 + 1 ∧ aD A T s l r m 9 3 = A 9 3 ∧ aD A T s l r m 9 4 = A 9 4 :=
  ⟨(aD_lo (by decide)).trans rfl, (aD_lo (by decide)).trans rfl, (aD_lo (by decide)).trans rfl, (aD_lo (by decide)).trans rfl, (aD_lo (by decide)).trans rfl⟩
theorem aD_3 {A : AT} {T : Nat → Int32} {s l r m a i : Nat} (h3 : 3 ≤ a) (h8 : a ≤ 8) : aD A T s l r m a i = A a i :=
  (aD_lo (by omega)).trans ((up2_ne _ _ (by omega)).trans ((up2_ne _ _ (by omega)).trans ((up2_ne _ _ (by omega)).trans (up2_ne _ _ (by omega)))))
theorem aD_d {A : AT} {T : Nat → Int32} {s l r m d : Nat} (hd : d ≠ A 9 2) : aD A T s l r m 0 d = A 0 d ∧ aD A T s l r m 1 d = A 1 d ∧ aD A T s l r m 2 d = A 2 d :=
  ⟨(aD_lo (by decide)).trans ((up2_ne _ _ (by omega)).trans ((up2_ne _ _ (by omega)).trans ((up2_ne _ _ (by omega)).trans (up2_ne _ _ (by omega))))), (aD_lo (by decide)).trans ((up2_ne _ _ (by omega)).trans ((up2_ne _ _ (by omega)).trans ((up2_ne _ _ (by omega)).trans (up2_ne _ _ (by omega))))), (aD_lo (by decide)).trans ((up2_ne _ _ (by omega)).trans ((up2_ne _ _ (by omega)).trans ((up2_ne _ _ (by omega)).trans (up2_ne _ _ (by omega)))))⟩
theorem aD_D {A : AT} {T : Nat → Int32} {s l r m : Nat} : aD A T s l r m 0 (A 9 2) = s ∧ aD A T s l r m 1 (A 9 2) = l ∧ aD A T s l r m 2 (A 9 2) = m :=
  ⟨(aD_lo (by decide)).trans ((up2_ne _ _ (by omega)).trans ((up2_ne _ _ (by omega)).trans ((up2_ne _ _ (by omega)).trans (up2_self _ _ _ _)))), (aD_lo (by decide)).trans ((up2_ne _ _ (by omega)).trans ((up2_ne _ _ (by omega)).trans (up2_self _ _ _ _))), (aD_lo (by decide)).trans ((up2_ne _ _ (by omega)).trans (up2_self _ _ _ _))⟩
/-- what a dance's line changes ahead of its end -/
def ND (c : Bool) (D : Nat) (w w' : Wd) : Prop := w'.2.2 = w.2.2 ∧ ∀ a i, ¬ (a = 1 ∧ 3 ≤ i ∧ i ≤ 7) → ¬ (dA (hA c) D ≤ a ∧ a < dA (hA c) D + 3) → wi w' a i = wi w a i
theorem ND.rf (c : Bool) (D : Nat) (w : Wd) : ND c D w w := ⟨rfl, fun _ _ _ _ => rfl⟩
theorem ND.st {c : Bool} {D : Nat} {w w' w2 : Wd} (h : ND c D w w') (h2 : StC w' w2) : ND c D w w2 := ⟨h2.1.trans h.1, fun a i q r => (h2.2 a i q).trans (h.2 a i q r)⟩
theorem ND.sd {c : Bool} {D : Nat} {w w' : Wd} (h : ND c D w w') {i : Nat} {v : Int32} : ND c D w (si w' (dA (hA c) D) i v) := ⟨h.1, fun a j q r => (wi_ne (by omega)).trans (h.2 a j q r)⟩
theorem ND.nr {c : Bool} {D : Nat} {w w' w2 : Wd} (h : ND c D w w') (h2 : NR c D w' w2) : ND c D w w2 := ⟨h2.1.trans h.1, fun a i q r => (h2.2 a i (by omega) (by omega) (by omega)).trans (h.2 a i q r)⟩
theorem ND.fr {c : Bool} {D : Nat} (hD : D < 5) {w w' : Wd} (h : ND c D w w') : FrC c w w' := by
  have hd : dA (hA c) D = hA c + 2 + 3 * D := rfl
  exact ⟨h.1, fun a i q r => h.2 a i (by omega) (by omega)⟩
theorem CS.nd {c : Bool} {T : Nat → Int32} {n : Nat} {A : AT} {w w' : Wd} (h : CS c T n A w) (hD : A 9 2 < 5) (hf : ND c (A 9 2) w w') : CS c T n A w' := by
  have hb := hA3 c
  have hd : dA (hA c) (A 9 2) = hA c + 2 + 3 * (A 9 2) := rfl
  obtain ⟨h1, ⟨h2, h3⟩, ⟨h4, h5, h6, h7⟩, h8, h9, h10⟩ := h
  refine ⟨⟨h1.1, (hf.2 _ _ (by omega) (by omega)).trans h1.2.1, fun k hk => (hf.2 _ _ (by omega) (by omega)).trans (h1.2.2 k hk)⟩, ⟨(hf.2 1 8 (by decide) (by omega)).trans h2, (hf.2 1 9 (by decide) (by omega)).trans h3⟩, ⟨(hf.2 _ _ (by omega) (by omega)).trans h4, (hf.2 _ _ (by omega) (by omega)).trans h5, (hf.2 _ _ (by omega) (by omega)).trans h6, (hf.2 _ _ (by omega) (by omega)).trans h7⟩, fun d hd' => ?_, fun i hi => ?_, fun i hi => ?_⟩
  · have e : dA (hA c) d = hA c + 2 + 3 * d := rfl
    exact (h8 d hd').cg (fun i => hf.2 _ _ (by omega) (by omega)) (fun i => hf.2 _ _ (by omega) (by omega)) (fun i => hf.2 _ _ (by omega) (by omega)) rfl rfl rfl (fun _ => rfl)
  · obtain ⟨g1, g2⟩ := h9 i hi
    exact ⟨(hf.2 _ _ (by omega) (by omega)).trans g1, (hf.2 _ _ (by omega) (by omega)).trans g2⟩
  · obtain ⟨g1, g2, g3, g4⟩ := h10 i hi
    exact ⟨(hf.2 _ _ (by omega) (by omega)).trans g1, (hf.2 _ _ (by omega) (by omega)).trans g2, (hf.2 _ _ (by omega) (by omega)).trans g3, (hf.2 _ _ (by omega) (by omega)).trans g4⟩
theorem CS.adD {c : Bool} {T : Nat → Int32} {n : Nat} {A : AT} {w : Wd} {s l r m : Nat} (h : CS c T n A w) (hA5 : A 9 2 < 5) (g1 : wi w (dA (hA c) (A 9 2)) 1 = nI m) (g2 : wi w (dA (hA c) (A 9 2)) 2 = nI s) (g3 : wi w (dA (hA c) (A 9 2)) 3 = nI l) (g4 : ∀ j, j < m → wi w (dA (hA c) (A 9 2) + 1) j = nI (fgN (T (r + j)))) : CS c T n (aD A T s l r m) (si w (hA c) 2 (nI (A 9 2 + 1))) := by
  have hb := hA3 c
  have hd : dA (hA c) (A 9 2) = hA c + 2 + 3 * (A 9 2) := rfl
  obtain ⟨h1, ⟨h2, h3⟩, ⟨h4, h5, h6, h7⟩, h8, h9, h10⟩ := h
  obtain ⟨a0, a1, a2, a3, a4⟩ := aD_9 (A := A) (T := T) (s := s) (l := l) (r := r) (m := m)
  refine ⟨h1.s3 (Or.inl hb), ⟨(wi_ne (by omega)).trans (by rw [a0]; exact h2), (wi_ne (by omega)).trans h3⟩, ⟨(wi_ne (Or.inr (by decide))).trans (by rw [a1]; exact h4), (wi_self _ _ _ _).trans (by rw [a2]), (wi_ne (Or.inr (by decide))).trans (by rw [a3]; exact h6), (wi_ne (Or.inr (by decide))).trans (by rw [a4]; exact h7)⟩, fun d hd' => ?_, fun i hi => ?_, fun i hi => ?_⟩
  · rw [a2] at hd'
    have e : dA (hA c) d = hA c + 2 + 3 * d := rfl
    by_cases q : d = A 9 2
    · subst q
      obtain ⟨b0, b1, b2⟩ := aD_D (A := A) (T := T) (s := s) (l := l) (r := r) (m := m)
      have b3 : aD A T s l r m (10 + A 9 2) = fun i => fgN (T (r + i)) := funext (fun i => aD_row)
      unfold CD
      rw [b0, b1, b2, b3]
      exact ⟨(wi_ne (by omega)).trans g1, (wi_ne (by omega)).trans g2, (wi_ne (by omega)).trans g3, fun j hj => (wi_ne (by omega)).trans (g4 j hj)⟩
    · obtain ⟨b0, b1, b2⟩ := aD_d (A := A) (T := T) (s := s) (l := l) (r := r) (m := m) q
      exact (h8 d (by omega)).cg (fun i => wi_ne (by omega)) (fun i => wi_ne (by omega)) (fun i => wi_ne (by omega)) b0 b1 b2 (fun j => aD_hi q)
  · rw [a3] at hi
    obtain ⟨g1, g2⟩ := h9 i hi
    rw [aD_3 (by decide) (by decide), aD_3 (by decide) (by decide)]
    exact ⟨(wi_ne (by omega)).trans g1, (wi_ne (by omega)).trans g2⟩
  · rw [a4] at hi
    obtain ⟨g1, g2, g3, g4⟩ := h10 i hi
    rw [aD_3 (by decide) (by decide), aD_3 (by decide) (by decide), aD_3 (by decide) (by decide), aD_3 (by decide) (by decide)]
    exact ⟨(wi_ne (by omega)).trans g1, (wi_ne (by omega)).trans g2, (wi_ne (by omega)).trans g3, (wi_ne (by omega)).trans g4⟩
def SpD (T : Nat → Int32) (n s0 e0 : Nat) (A : AT) (F : Int32 → Nat → Prop) (O : AT → Nat → Nat → Nat → Prop) : Prop := (A 9 0 = 0 ∧ F 6 s0) ∨ (A 9 0 ≠ 0 ∧ ((5 ≤ A 9 2 ∧ F 5 s0) ∨ (A 9 2 < 5 ∧ ∃ s1 e1 k1, Tok T n e0 s1 e1 k1 ∧ ((¬ NmP T s1 e1 k1 ∧ F 1 s1) ∨ (NmP T s1 e1 k1 ∧ (((∃ d, d < A 9 2 ∧ SN T s1 e1 (A 0) (A 1) d ∧ ∀ j, j < d → ¬ SN T s1 e1 (A 0) (A 1) j) ∧ F 3 s1) ∨ ((∀ d, d < A 9 2 → ¬ SN T s1 e1 (A 0) (A 1) d) ∧ ∃ s2 e2 k2, Tok T n e1 s2 e2 k2 ∧ ((k2 ≠ 1 ∧ F 1 s2) ∨ (k2 = 1 ∧ ((¬ (∀ j, j < e2 - s2 → Fgl (T (s2 + j))) ∧ F 7 s2) ∨ ((∀ j, j < e2 - s2 → Fgl (T (s2 + j))) ∧ ∃ s3 e3 k3, Tok T n e2 s3 e3 k3 ∧ O (aD A T s1 (e1 - s1) s2 (e2 - s2)) s3 e3 k3)))))))))))
theorem c_dance {b c : Bool} {w : Wd} (hR : w.2.2 = RTab b) {T : Nat → Int32} {n p s e kd : Nat} {A : AT} (aB : AB n A) (hC : CS c T n A w) (tk : Tok T n p s e kd) (hT : TC T s e kd w) (hk : kd ≠ 4) {Q : Int32 → Wd → Prop} (kF : ∀ {f q w'}, w'.2.2 = RTab b → FlC c w w' f q → (∀ (F : Int32 → Nat → Prop) (O : AT → Nat → Nat → Nat → Prop), F f q → SpD T n s e A F O) → Q 0 w') (kO : ∀ {A' s' e' k' w'}, w'.2.2 = RTab b → CS c T n A' w' → TC T s' e' k' w' → FrC c w w' → (∀ (F : Int32 → Nat → Prop) (O : AT → Nat → Nat → Nat → Prop), O A' s' e' k' → SpD T n s e A F O) → Q 1 w') : ClI SC mX8_readDance [.ref 1, .ref (hA c)] w (fun x w2 => w2.2.2 = RTab b ∧ Q x w2) := by
  have hb := hA3 c
  have t1 := aB.1
  have tD := aB.2.2.1
  have e8 := hC.2.1.1
  have eD := hC.2.2.1.2.1
  have hd : dA (hA c) (A 9 2) = hA c + 2 + 3 * (A 9 2) := rfl
  obtain ⟨s1, e1, k1, tk1⟩ := tok_ex T (tok_b tk).2.1
  obtain ⟨s2, e2, k2, tk2⟩ := tok_ex T (tok_b tk1).2.1
  obtain ⟨s3, e3, k3, tk3⟩ := tok_ex T (tok_b tk2).2.1
  refine TX8_readDance c w b hR _ ⟨fun y => ⟨_, rfl, hR, kF (hR) (fl_C (FrC.rf c w) hT.1 6) (fun F O h => (Or.inl ⟨?_, h⟩))⟩, fun y => ?_⟩
  · rw [e8] at y
    exact (nI_eq (b := 0) (by omega) (by decide)).mp y
  have y0 : A 9 0 ≠ 0 := fun z => y (by rw [e8, z]; rfl)
  rw [eD]
  refine ⟨fun z => ?_, fun z => ⟨_, rfl, hR, kF (hR) (fl_C (FrC.rf c w) hT.1 5) (fun F O h => (Or.inr ⟨y0, Or.inl ⟨?_, h⟩⟩))⟩⟩
  · have z5 : A 9 2 < 5 := (nI_ltI (b := 5) (by omega) (by decide)).mp z.2
    rw [nI_clamp (by omega)]
    refine z_tok hR hC.1 (hT.2.2.1 hk) tk1 (fun w1 f1 c1 => ?_)
    have R1 : w1.2.2 = RTab b := f1.1.trans hR
    have C1 := hC.st f1
    have N1 := (ND.rf c (A 9 2) w).st f1
    refine z_isName R1 C1.1 c1 (tok_b tk1).2.1 (tok_b tk1).2.2.2.2.2.2 (fun q => ⟨fun z => absurd z (by decide), fun _ => ?_⟩) (fun q => ⟨fun _ => ⟨_, rfl, R1, kF (R1) (fl_C (N1.fr z5) c1.1 1) (fun F O h => (Or.inr ⟨y0, Or.inr ⟨z5, s1, e1, k1, tk1, Or.inl ⟨q, h⟩⟩⟩))⟩, fun z => absurd rfl z⟩)
    have e6 := c1.2.2.2.1 q.1
    refine z_toldAt R1 C1.1 (hN_C aB) C1.nm c1.1 e6 (tok_b tk1).2.1 (fun d g1 g2 g3 => ⟨fun z => ?_, fun _ => ⟨_, rfl, R1, kF (R1) (fl_C (N1.fr z5) c1.1 3) (fun F O h => (Or.inr ⟨y0, Or.inr ⟨z5, s1, e1, k1, tk1, Or.inr ⟨q, Or.inl ⟨⟨d, g1, g2, g3⟩, h⟩⟩⟩⟩))⟩⟩) (fun g => ⟨fun _ => ?_, fun z => absurd rfl z⟩)
    · exact absurd z ((by decide : ∀ d, d < 5 → ¬ nI d = -1) d (by omega))
    have p6 : ∀ v, wi (si w1 (dA (hA c) (A 9 2)) 2 v) 1 6 = nI (e1 - s1) := fun v => (wi_ne (by omega)).trans e6
    rw [c1.1, p6]
    have N2 : ND c (A 9 2) w (si (si w1 (dA (hA c) (A 9 2)) 2 (nI s1)) (dA (hA c) (A 9 2)) 3 (nI (e1 - s1))) := N1.sd.sd
    have C2 := hC.nd z5 N2
    refine z_tok (w := si (si w1 (dA (hA c) (A 9 2)) 2 (nI s1)) (dA (hA c) (A 9 2)) 3 (nI (e1 - s1))) R1 C2.1 ((wi_ne (by omega)).trans ((wi_ne (by omega)).trans (c1.2.2.1 (by have := q.1; omega)))) tk2 (fun w2 f2 c2 => ?_)
    have R2 : w2.2.2 = RTab b := f2.1.trans R1
    have C3 := C2.st f2
    have N3 := N2.st f2
    have n2 : wi w2 (dA (hA c) (A 9 2)) 2 = nI s1 := (f2.2 _ _ (by omega)).trans ((wi_ne (Or.inr (by decide))).trans (wi_self _ _ _ _))
    have n3 : wi w2 (dA (hA c) (A 9 2)) 3 = nI (e1 - s1) := (f2.2 _ _ (by omega)).trans (wi_self _ _ _ _)
    refine z_row z5 R2 C3.1 c2 tk2 (fun q2 => ⟨fun _ => ⟨_, rfl, R2, kF (R2) (fl_C (N3.fr z5) c2.1 1) (fun F O h => (Or.inr ⟨y0, Or.inr ⟨z5, s1, e1, k1, tk1, Or.inr ⟨q, Or.inr ⟨g, s2, e2, k2, tk2, Or.inl ⟨q2, h⟩⟩⟩⟩⟩))⟩, fun z => absurd rfl z⟩) (fun q2 q3 w3 hN => ⟨fun _ => ⟨_, rfl, hN.1.trans R2, kF (hN.1.trans R2) (fl_C ((N3.nr hN).fr z5) ((hN.2 _ _ (by omega) (by omega) (by omega)).trans c2.1) 7) (fun F O h => (Or.inr ⟨y0, Or.inr ⟨z5, s1, e1, k1, tk1, Or.inr ⟨q, Or.inr ⟨g, s2, e2, k2, tk2, Or.inr ⟨q2, Or.inl ⟨q3, h⟩⟩⟩⟩⟩⟩))⟩, fun z => absurd rfl z⟩) (fun q2 q3 w3 hN m1 m2 => ⟨fun z => absurd z (by decide), fun _ => ?_⟩)
    have N4 := N3.nr hN
    have C4 := hC.nd z5 N4
    rw [C4.2.2.1.2.1, nI_1]
    have C5 := C4.adD (s := s1) (l := e1 - s1) (r := s2) (m := e2 - s2) z5 m1 ((hN.2 _ _ (by omega) (by omega) (by omega)).trans n2) ((hN.2 _ _ (by omega) (by omega) (by omega)).trans n3) m2
    have R5 : (si w3 (hA c) 2 (nI (A 9 2 + 1))).2.2 = RTab b := hN.1.trans R2
    have F5 : FrC c w (si w3 (hA c) 2 (nI (A 9 2 + 1))) := (N4.fr z5).sh (Nat.le_refl _) (by omega)
    refine z_tok R5 C5.1 ((wi_ne (by omega)).trans ((hN.2 _ _ (by omega) (by omega) (by omega)).trans (c2.2.2.1 (by omega)))) tk3 (fun w4 f4 c4 => ?_)
    exact ⟨_, rfl, f4.1.trans R5, kO (f4.1.trans R5) (C5.st f4) (c4) (F5.st f4) (fun F O h => (Or.inr ⟨y0, Or.inr ⟨z5, s1, e1, k1, tk1, Or.inr ⟨q, Or.inr ⟨g, s2, e2, k2, tk2, Or.inr ⟨q2, Or.inr ⟨q3, s3, e3, k3, tk3, h⟩⟩⟩⟩⟩⟩))⟩
  · by_cases q : 5 ≤ A 9 2
    · exact q
    · exact absurd ⟨nI_pos' (by omega), nI_lt (b := 5) (by omega) (by decide)⟩ z
