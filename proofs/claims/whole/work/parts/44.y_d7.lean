/-! corners, ropes seen, a line -/
def aE (A : AT) (d v f t : Nat) : AT := up2 (up2 (up2 (up2 (up2 A 5 (A 9 4) d) 6 (A 9 4) v) 7 (A 9 4) f) 8 (A 9 4) t) 9 4 (A 9 4 + 1)
theorem aE_o {A : AT} {d v f t a i : Nat} (h : a ≤ 4 ∨ 10 ≤ a ∨ (a = 9 ∧ i ≠ 4) ∨ (a ≤ 8 ∧ i ≠ A 9 4)) : aE A d v f t a i = A a i :=
  (up2_ne _ _ (by omega)).trans ((up2_ne _ _ (by omega)).trans ((up2_ne _ _ (by omega)).trans ((up2_ne _ _ (by omega)).trans (up2_ne _ _ (by omega)))))
theorem aE_9 {A : AT} {d v f t : Nat} : aE A d v f t 9 4 = A 9 4 + 1 := up2_self _ _ _ _
theorem aE_5 {A : AT} {d v f t : Nat} : aE A d v f t 5 (A 9 4) = d := (up2_ne _ _ (by omega)).trans ((up2_ne _ _ (by omega)).trans ((up2_ne _ _ (by omega)).trans ((up2_ne _ _ (by omega)).trans (up2_self _ _ _ _))))
theorem aE_6 {A : AT} {d v f t : Nat} : aE A d v f t 6 (A 9 4) = v := (up2_ne _ _ (by omega)).trans ((up2_ne _ _ (by omega)).trans ((up2_ne _ _ (by omega)).trans (up2_self _ _ _ _)))
theorem aE_7 {A : AT} {d v f t : Nat} : aE A d v f t 7 (A 9 4) = f := (up2_ne _ _ (by omega)).trans ((up2_ne _ _ (by omega)).trans (up2_self _ _ _ _))
theorem aE_8 {A : AT} {d v f t : Nat} : aE A d v f t 8 (A 9 4) = t := (up2_ne _ _ (by omega)).trans (up2_self _ _ _ _)
theorem seen_w {c : Bool} {w : Wd} {E : Nat} (hE : E < 6) (h7 : wi w (hA c) 10 = nI E) {a1 a2 a3 a4 : Int32} : wXX2_addSeen c a1 a2 a3 a4 w = si (si (si (si (si w (hA c + 19) E a1) (hA c + 20) E a2) (hA c + 21) E a3) (hA c + 22) E a4) (hA c) 10 (nI (E + 1)) := by
  have hb := hA3 c
  unfold wXX2_addSeen
  have p1 : ∀ x, wi (si w (hA c + 19) E x) (hA c) 10 = nI E := fun x => (wi_ne (by omega)).trans h7
  have p2 : ∀ x y, wi (si (si w (hA c + 19) E x) (hA c + 20) E y) (hA c) 10 = nI E := fun x y => (wi_ne (by omega)).trans (p1 x)
  have p3 : ∀ x y z, wi (si (si (si w (hA c + 19) E x) (hA c + 20) E y) (hA c + 21) E z) (hA c) 10 = nI E := fun x y z => (wi_ne (by omega)).trans (p2 x y)
  have p4 : ∀ x y z u, wi (si (si (si (si w (hA c + 19) E x) (hA c + 20) E y) (hA c + 21) E z) (hA c + 22) E u) (hA c) 10 = nI E := fun x y z u => (wi_ne (by omega)).trans (p3 x y z)
  rw [h7, pf_in hE (by decide), p1, pf_in hE (by decide), p2, pf_in hE (by decide), p3, pf_in hE (by decide), p4, nI_1]
theorem CS.adE {c : Bool} {T : Nat → Int32} {n : Nat} {A : AT} {w : Wd} {d v f t : Nat} (h : CS c T n A w) (aB : AB n A) (hE : A 9 4 < 6) : CS c T n (aE A d v f t) (wXX2_addSeen c (nI d) (nI v) (nI f) (nI t) w) := by
  have hb := hA3 c
  have tD := aB.2.2.1
  obtain ⟨h1, ⟨h2, h3⟩, ⟨h4, h5, h6, h7⟩, h8, h9, h10⟩ := h
  rw [seen_w hE h7]
  have fr : ∀ x y v', ¬ (hA c + 19 ≤ x ∧ x ≤ hA c + 22) → ¬ (x = hA c ∧ y = 10) → wi (si (si (si (si (si w (hA c + 19) (A 9 4) (nI d)) (hA c + 20) (A 9 4) (nI v)) (hA c + 21) (A 9 4) (nI f)) (hA c + 22) (A 9 4) (nI t)) (hA c) 10 v') x y = wi w x y := fun x y v' q1 q2 => (wi_ne (by omega)).trans ((wi_ne (by omega)).trans ((wi_ne (by omega)).trans ((wi_ne (by omega)).trans (wi_ne (by omega)))))
  have fi : ∀ x y v', hA c + 19 ≤ x → y ≠ A 9 4 → wi (si (si (si (si (si w (hA c + 19) (A 9 4) (nI d)) (hA c + 20) (A 9 4) (nI v)) (hA c + 21) (A 9 4) (nI f)) (hA c + 22) (A 9 4) (nI t)) (hA c) 10 v') x y = wi w x y := fun x y v' q1 q2 => (wi_ne (by omega)).trans ((wi_ne (by omega)).trans ((wi_ne (by omega)).trans ((wi_ne (by omega)).trans (wi_ne (by omega)))))
  refine ⟨⟨h1.1, (fr _ _ _ (by omega) (by omega)).trans h1.2.1, fun k hk => (fr _ _ _ (by omega) (by omega)).trans (h1.2.2 k hk)⟩, ⟨(fr _ _ _ (by omega) (by omega)).trans (h2.trans (congrArg nI (aE_o (by omega)).symm)), (fr _ _ _ (by omega) (by omega)).trans h3⟩, ⟨(fr _ _ _ (by omega) (by omega)).trans (h4.trans (congrArg nI (aE_o (by omega)).symm)), (fr _ _ _ (by omega) (by omega)).trans (h5.trans (congrArg nI (aE_o (by omega)).symm)), (fr _ _ _ (by omega) (by omega)).trans (h6.trans (congrArg nI (aE_o (by omega)).symm)), (wi_self _ _ _ _).trans (congrArg nI aE_9.symm)⟩, fun j hj => ?_, fun i hi => ?_, fun i hi => ?_⟩
  · rw [aE_o (by omega)] at hj
    have e : dA (hA c) j = hA c + 2 + 3 * j := rfl
    exact (h8 j hj).cg (fun i => fr _ _ _ (by omega) (by omega)) (fun i => fr _ _ _ (by omega) (by omega)) (fun i => fr _ _ _ (by omega) (by omega)) (aE_o (by omega)) (aE_o (by omega)) (aE_o (by omega)) (fun i => aE_o (by omega))
  · rw [aE_o (by omega)] at hi
    obtain ⟨g1, g2⟩ := h9 i hi
    rw [aE_o (by omega), aE_o (by omega)]
    exact ⟨(fr _ _ _ (by omega) (by omega)).trans g1, (fr _ _ _ (by omega) (by omega)).trans g2⟩
  · rw [aE_9] at hi
    by_cases q : i = A 9 4
    · subst q
      rw [aE_5, aE_6, aE_7, aE_8]
      exact ⟨(wi_ne (by omega)).trans ((wi_ne (by omega)).trans ((wi_ne (by omega)).trans ((wi_ne (by omega)).trans (wi_self _ _ _ _)))), (wi_ne (by omega)).trans ((wi_ne (by omega)).trans ((wi_ne (by omega)).trans (wi_self _ _ _ _))), (wi_ne (by omega)).trans ((wi_ne (by omega)).trans (wi_self _ _ _ _)), (wi_ne (by omega)).trans (wi_self _ _ _ _)⟩
    · obtain ⟨g1, g2, g3, g4⟩ := h10 i (by omega)
      rw [aE_o (by omega), aE_o (by omega), aE_o (by omega), aE_o (by omega)]
      exact ⟨(fi _ _ _ (by omega) q).trans g1, (fi _ _ _ (by omega) q).trans g2, (fi _ _ _ (by omega) q).trans g3, (fi _ _ _ (by omega) q).trans g4⟩
def CrK (T : Nat → Int32) (s e kd k : Nat) : Prop := IsW T s e kd (5 + k) ∧ ∀ j, j < k → ¬ IsW T s e kd (5 + j)
theorem z_cornC {b : Bool} {w : Wd} (hR : w.2.2 = RTab b) {T : Nat → Int32} {n s e kd : Nat} (hT : TXC T n w) (hC : TC T s e kd w) (he : e ≤ n) (hk : kd ≤ 4) {Q : Int32 → Wd → Prop} (c0 : (∀ k, k < 4 → ¬ CrK T s e kd k) → Q (-1) w) (c1 : ∀ k, k < 4 → CrK T s e kd k → Q (nI k) w) : ClI SC mX8_cornerHere [.ref 1] w (fun x w2 => w2.2.2 = RTab b ∧ Q x w2) := by
  refine TX8_cornerHere w b hR _ ?_
  refine z_isW (a := 5) hR hT hC he hk (by decide) (fun q => ⟨fun z => absurd z (by decide), fun _ => ⟨_, rfl, hR, c1 0 (by decide) ⟨q, fun j hj => absurd hj (Nat.not_lt_zero j)⟩⟩⟩) (fun q5 => ⟨fun _ => ?_, fun z => absurd rfl z⟩)
  have n1 : ∀ j, j < 1 → ¬ IsW T s e kd (5 + j) := fun j hj => by
    obtain rfl : j = 0 := by omega
    exact q5
  refine z_isW (a := 6) hR hT hC he hk (by decide) (fun q => ⟨fun z => absurd z (by decide), fun _ => ⟨_, rfl, hR, c1 1 (by decide) ⟨q, n1⟩⟩⟩) (fun q6 => ⟨fun _ => ?_, fun z => absurd rfl z⟩)
  have n2 : ∀ j, j < 2 → ¬ IsW T s e kd (5 + j) := fun j hj => by
    by_cases q : j = 1
    · subst q
      exact q6
    · exact n1 j (by omega)
  refine z_isW (a := 7) hR hT hC he hk (by decide) (fun q => ⟨fun z => absurd z (by decide), fun _ => ⟨_, rfl, hR, c1 2 (by decide) ⟨q, n2⟩⟩⟩) (fun q7 => ⟨fun _ => ?_, fun z => absurd rfl z⟩)
  have n3 : ∀ j, j < 3 → ¬ IsW T s e kd (5 + j) := fun j hj => by
    by_cases q : j = 2
    · subst q
      exact q7
    · exact n2 j (by omega)
  refine z_isW (a := 8) hR hT hC he hk (by decide) (fun q => ⟨_, rfl, hR, ?_⟩) (fun q8 => ⟨_, rfl, hR, ?_⟩)
  · rw [if_neg (by decide)]
    exact c1 3 (by decide) ⟨q, n3⟩
  · rw [if_pos rfl]
    refine c0 (fun k hk hK => ?_)
    by_cases q : k = 3
    · subst q
      exact q8 hK.1
    · exact n3 k (by omega) hK.1
theorem CrK.dt {T : Nat → Int32} {s e kd j k : Nat} (h1 : CrK T s e kd j) (h2 : CrK T s e kd k) : j = k := by
  by_cases c : j < k
  · exact absurd h1.1 (h2.2 j c)
  · by_cases c2 : k < j
    · exact absurd h2.1 (h1.2 k c2)
    · omega
theorem FrC.adE {c : Bool} {w w' : Wd} {d v f t : Int32} (h : FrC c w w') : FrC c w (wXX2_addSeen c d v f t w') := by
  unfold wXX2_addSeen
  have h1 : ∀ {w2 : Wd} {a m : Nat} {x y : Int32}, FrC c w w2 → hA c ≤ a → a < hA c + 23 → FrC c w (pf w2 a m x y) := by
    intro w2 a m x y hw ha hb
    unfold pf
    split
    · exact hw.sh ha hb
    · exact hw
  exact (h1 (h1 (h1 (h1 h (by omega) (by omega)) (by omega) (by omega)) (by omega) (by omega)) (by omega) (by omega)).sh (Nat.le_refl _) (by omega)
/-- the two corners -/
def SpC (T : Nat → Int32) (n e2 : Nat) (F : Int32 → Nat → Prop) (O : Nat → Nat → Nat → Nat → Nat → Prop) : Prop := ∃ s3 e3 k3, Tok T n e2 s3 e3 k3 ∧ (((∀ k, k < 4 → ¬ CrK T s3 e3 k3 k) ∧ F 1 s3) ∨ (∃ f, f < 4 ∧ CrK T s3 e3 k3 f ∧ ∃ s4 e4 k4, Tok T n e3 s4 e4 k4 ∧ (((∀ k, k < 4 → ¬ CrK T s4 e4 k4 k) ∧ F 1 s4) ∨ (∃ t, t < 4 ∧ CrK T s4 e4 k4 t ∧ ((t = f ∧ F 3 s4) ∨ (t ≠ f ∧ ∃ s5 e5 k5, Tok T n e4 s5 e5 k5 ∧ O f t s5 e5 k5))))))
def SpE (T : Nat → Int32) (n s0 e0 : Nat) (A : AT) (F : Int32 → Nat → Prop) (O : AT → Nat → Nat → Nat → Prop) : Prop := (A 9 0 = 0 ∧ F 6 s0) ∨ (A 9 0 ≠ 0 ∧ ((6 ≤ A 9 4 ∧ F 5 s0) ∨ (A 9 4 < 6 ∧ SpT T n e0 A F (fun d s2 e2 k2 => SpN T s2 e2 k2 (A 2 d) F (fun v => (EsT A d v ∧ F 3 s2) ∨ (¬ EsT A d v ∧ SpC T n e2 F (fun f t s5 e5 k5 => O (aE A d v f t) s5 e5 k5)))))))
theorem crk_ne {T : Nat → Int32} {s e kd k : Nat} (h : CrK T s e kd k) : kd = 1 := h.1.1
theorem c_seen {b c : Bool} {w : Wd} (hR : w.2.2 = RTab b) {T : Nat → Int32} {n p s e kd : Nat} {A : AT} (aB : AB n A) (hC : CS c T n A w) (tk : Tok T n p s e kd) (hT : TC T s e kd w) (hk : kd ≠ 4) {Q : Int32 → Wd → Prop} (kF : ∀ {f q w'}, w'.2.2 = RTab b → FlC c w w' f q → (∀ (F : Int32 → Nat → Prop) (O : AT → Nat → Nat → Nat → Prop), F f q → SpE T n s e A F O) → Q 0 w') (kO : ∀ {A' s' e' k' w'}, w'.2.2 = RTab b → CS c T n A' w' → TC T s' e' k' w' → FrC c w w' → (∀ (F : Int32 → Nat → Prop) (O : AT → Nat → Nat → Nat → Prop), O A' s' e' k' → SpE T n s e A F O) → Q 1 w') : ClI SC mX8_readSeen [.ref 1, .ref (hA c)] w (fun x w2 => w2.2.2 = RTab b ∧ Q x w2) := by
  have hb := hA3 c
  have t1 := aB.1
  have tD := aB.2.2.1
  have tE := aB.2.2.2.2.1
  have e8 := hC.2.1.1
  have eE := hC.2.2.1.2.2.2
  have m1 : ∀ k, k < 4 → ¬ nI k = -1 := by decide
  refine TX8_readSeen c w b hR _ ⟨fun y => ⟨_, rfl, hR, kF (hR) (fl_C (FrC.rf c w) hT.1 6) (fun F O h => (Or.inl ⟨?_, h⟩))⟩, fun y => ?_⟩
  · rw [e8] at y
    exact (nI_eq (b := 0) (by omega) (by decide)).mp y
  have y0 : A 9 0 ≠ 0 := fun z => y (by rw [e8, z]; rfl)
  rw [eE]
  refine ⟨fun z => ?_, fun z => ⟨_, rfl, hR, kF (hR) (fl_C (FrC.rf c w) hT.1 5) (fun F O h => (Or.inr ⟨y0, Or.inl ⟨?_, h⟩⟩))⟩⟩
  · have z4 : A 9 4 < 6 := (nI_ltI (b := 6) (by omega) (by decide)).mp z
    refine c_told hR aB hC tk hT hk (fun s1 e1 k1 tk1 w1 f1 c1 => ⟨fun q => ⟨fun z => absurd z.1 (by decide), fun _ => ⟨_, rfl, f1.1.trans hR, kF (f1.1.trans hR) (fl_C ((FrC.rf c w).st f1) c1.1 1) (fun F O h => (Or.inr ⟨y0, Or.inr ⟨z4, s1, e1, k1, tk1, Or.inl ⟨q, h⟩⟩⟩))⟩⟩, fun q g => ⟨fun z => absurd z.1 (by decide), fun _ => ⟨_, rfl, f1.1.trans hR, kF (f1.1.trans hR) (fl_C ((FrC.rf c w).st f1) c1.1 2) (fun F O h => (Or.inr ⟨y0, Or.inr ⟨z4, s1, e1, k1, tk1, Or.inr ⟨q, Or.inl ⟨g, h⟩⟩⟩⟩))⟩⟩⟩) (fun s1 e1 k1 tk1 q d g1 g2 g3 s2 e2 k2 tk2 w2 f2 c2 => ⟨fun _ => ?_, fun z => ?_⟩)
    · have R2 : w2.2.2 = RTab b := f2.1.trans hR
      have C2 := hC.st f2
      have F2 := (FrC.rf c w).st f2
      have gd := aB.2.2.2.2.2.2.1 d g1
      rw [nI_clamp (by omega), (C2.2.2.2.1 d g1).1]
      have upN : ∀ (F : Int32 → Nat → Prop) (O : AT → Nat → Nat → Nat → Prop), SpN T s2 e2 k2 (A 2 d) F (fun v => (EsT A d v ∧ F 3 s2) ∨ (¬ EsT A d v ∧ SpC T n e2 F (fun f t s5 e5 k5 => O (aE A d v f t) s5 e5 k5))) → SpE T n s e A F O := fun F O hs => Or.inr ⟨y0, Or.inr ⟨z4, s1, e1, k1, tk1, Or.inr ⟨q, Or.inr ⟨d, g1, g2, g3, s2, e2, k2, tk2, hs⟩⟩⟩⟩
      rcases n_C c2 tk2 (m := A 2 d) rfl (by omega) with ⟨x1, x2, x3⟩ | ⟨x1, v, x2, x3, x4, x5⟩
      · rw [x2, x3]
        exact ⟨fun _ => ⟨_, rfl, R2, kF (R2) (fl_C F2 c2.1 1) (fun F O h => (upN F O (Or.inl ⟨x1, h⟩)))⟩, fun z => absurd rfl z⟩
      rcases x5 with ⟨x5, x6, x7⟩ | ⟨x5, x6, x7⟩
      · rw [x6, x7]
        exact ⟨fun _ => ⟨_, rfl, R2, kF (R2) (fl_C F2 c2.1 4) (fun F O h => (upN F O (Or.inr ⟨x1, v, x2, x3, Or.inl ⟨x5, h⟩⟩)))⟩, fun z => absurd rfl z⟩
      · rw [x6, x7, x4]
        refine ⟨fun z => absurd z (by decide), fun _ => ?_⟩
        refine z_sen R2 aB C2 (by omega) (by omega) (fun u => ⟨fun z => absurd z (by decide), fun _ => ⟨_, rfl, R2, kF (R2) (fl_C F2 c2.1 3) (fun F O h => (upN F O (Or.inr ⟨x1, v, x2, x3, Or.inr ⟨x5, Or.inl ⟨u, h⟩⟩⟩)))⟩⟩) (fun u => ⟨fun _ => ?_, fun z => absurd rfl z⟩)
        have upC : ∀ (F : Int32 → Nat → Prop) (O : AT → Nat → Nat → Nat → Prop), SpC T n e2 F (fun f t s5 e5 k5 => O (aE A d v f t) s5 e5 k5) → SpE T n s e A F O := fun F O hs => upN F O (Or.inr ⟨x1, v, x2, x3, Or.inr ⟨x5, Or.inr ⟨u, hs⟩⟩⟩)
        obtain ⟨s3, e3, k3, tk3⟩ := tok_ex T (tok_b tk2).2.1
        obtain ⟨s4, e4, k4, tk4⟩ := tok_ex T (tok_b tk3).2.1
        obtain ⟨s5, e5, k5, tk5⟩ := tok_ex T (tok_b tk4).2.1
        refine z_tok R2 C2.1 (c2.2.2.1 (by omega)) tk3 (fun w3 f3 c3 => ?_)
        have R3 : w3.2.2 = RTab b := f3.1.trans R2
        have C3 := C2.st f3
        have F3 := F2.st f3
        refine z_cornC R3 C3.1 c3 (tok_b tk3).2.1 (tok_b tk3).2.2.2.2.2.2 (fun q => ⟨fun _ => ⟨_, rfl, R3, kF (R3) (fl_C F3 c3.1 1) (fun F O h => (upC F O ⟨s3, e3, k3, tk3, Or.inl ⟨q, h⟩⟩))⟩, fun z => absurd rfl z⟩) (fun f hf cf => ⟨fun z => absurd z (m1 f hf), fun _ => ?_⟩)
        refine z_tok R3 C3.1 (c3.2.2.1 (by have := crk_ne cf; omega)) tk4 (fun w4 f4 c4 => ?_)
        have R4 : w4.2.2 = RTab b := f4.1.trans R3
        have C4 := C3.st f4
        have F4 := F3.st f4
        refine z_cornC R4 C4.1 c4 (tok_b tk4).2.1 (tok_b tk4).2.2.2.2.2.2 (fun q => ⟨fun _ => ⟨_, rfl, R4, kF (R4) (fl_C F4 c4.1 1) (fun F O h => (upC F O ⟨s3, e3, k3, tk3, Or.inr ⟨f, hf, cf, s4, e4, k4, tk4, Or.inl ⟨q, h⟩⟩⟩))⟩, fun z => absurd rfl z⟩) (fun t ht ct => ⟨fun z => absurd z (m1 t ht), fun _ => ⟨fun z => ?_, fun z => ?_⟩⟩)
        · have ef : t = f := (nI_eq (by omega) (by omega)).mp z
          exact ⟨_, rfl, R4, kF (R4) (fl_C F4 c4.1 3) (fun F O h => (upC F O ⟨s3, e3, k3, tk3, Or.inr ⟨f, hf, cf, s4, e4, k4, tk4, Or.inr ⟨t, ht, ct, Or.inl ⟨ef, h⟩⟩⟩⟩))⟩
        · have ef : t ≠ f := fun y => z (by rw [y])
          have e7 : wi w2 1 7 = nI v := x4
          have C5 := C4.adE (d := d) (v := v) (f := f) (t := t) aB z4
          have F5 : FrC c w (wXX2_addSeen c (nI d) (nI v) (nI f) (nI t) w4) := F4.adE
          have e3' : wi (wXX2_addSeen c (nI d) (nI v) (nI f) (nI t) w4) 1 3 = nI e4 := by
            refine Eq.trans ?_ (c4.2.2.1 (by have := crk_ne ct; omega))
            rw [seen_w z4 C4.2.2.1.2.2.2]
            exact (wi_ne (by omega)).trans ((wi_ne (by omega)).trans ((wi_ne (by omega)).trans ((wi_ne (by omega)).trans (wi_ne (by omega)))))
          refine z_tok (F5.1.trans hR) C5.1 e3' tk5 (fun w5 f5 c5 => ?_)
          exact ⟨_, rfl, f5.1.trans (F5.1.trans hR), kO (f5.1.trans (F5.1.trans hR)) (C5.st f5) (c5) (F5.st f5) (fun F O h => (upC F O ⟨s3, e3, k3, tk3, Or.inr ⟨f, hf, cf, s4, e4, k4, tk4, Or.inr ⟨t, ht, ct, Or.inr ⟨ef, s5, e5, k5, tk5, h⟩⟩⟩⟩))⟩
    · have C2 := hC.st f2
      rw [C2.2.2.1.2.1] at z
      exact absurd ⟨nI_pos' (by omega), nI_lt g1 (by omega), nlt5 (by omega)⟩ z
  · by_cases q : 6 ≤ A 9 4
    · exact q
    · exact absurd (nI_lt (b := 6) (by omega) (by decide)) z
def SpL (T : Nat → Int32) (n s e kd : Nat) (A : AT) (F : Int32 → Nat → Prop) (O : AT → Nat → Nat → Nat → Prop) : Prop := (IsW T s e kd 0 ∧ SpH T n s e (A 9 0) F (fun v s' e' k' => O (aH A v) s' e' k')) ∨ (¬ IsW T s e kd 0 ∧ ((IsW T s e kd 1 ∧ SpD T n s e A F O) ∨ (¬ IsW T s e kd 1 ∧ ((IsW T s e kd 2 ∧ SpU T n s e A F O) ∨ (¬ IsW T s e kd 2 ∧ ((IsW T s e kd 3 ∧ SpE T n s e A F O) ∨ (¬ IsW T s e kd 3 ∧ F 1 s)))))))
theorem c_line {b c : Bool} {w : Wd} (hR : w.2.2 = RTab b) {T : Nat → Int32} {n p s e kd : Nat} {A : AT} (aB : AB n A) (hC : CS c T n A w) (tk : Tok T n p s e kd) (hT : TC T s e kd w) {Q : Int32 → Wd → Prop} (kF : ∀ {f q w'}, w'.2.2 = RTab b → FlC c w w' f q → (∀ (F : Int32 → Nat → Prop) (O : AT → Nat → Nat → Nat → Prop), F f q → SpL T n s e kd A F O) → Q 0 w') (kO : ∀ {A' s' e' k' w'}, w'.2.2 = RTab b → CS c T n A' w' → TC T s' e' k' w' → FrC c w w' → (∀ (F : Int32 → Nat → Prop) (O : AT → Nat → Nat → Nat → Prop), O A' s' e' k' → SpL T n s e kd A F O) → Q 1 w') : ClI SC mX8_readLine [.ref 1, .ref (hA c)] w (fun x w2 => w2.2.2 = RTab b ∧ Q x w2) := by
  have he := (tok_b tk).2.1
  have hk := (tok_b tk).2.2.2.2.2.2
  refine TX8_readLine c w b hR _ ?_
  refine z_isW (a := 0) hR hC.1 hT he hk (by decide) (fun q => ⟨fun z => absurd z (by decide), fun _ => ?_⟩) (fun q0 => ⟨fun _ => ?_, fun z => absurd rfl z⟩)
  · exact c_slips hR aB hC tk hT (by have := q.1; omega) (fun R X P => ⟨Or.inl rfl, _, rfl, R, kF R X (fun F O h => Or.inl ⟨q, P F (fun v s' e' k' => O (aH A v) s' e' k') h⟩)⟩) (fun R X Y Z P => ⟨Or.inr rfl, _, rfl, R, kO R X Y Z (fun F O h => Or.inl ⟨q, P F (fun v s' e' k' => O (aH A v) s' e' k') h⟩)⟩)
  refine z_isW (a := 1) hR hC.1 hT he hk (by decide) (fun q => ⟨fun z => absurd z (by decide), fun _ => ?_⟩) (fun q1 => ⟨fun _ => ?_, fun z => absurd rfl z⟩)
  · exact c_dance hR aB hC tk hT (by have := q.1; omega) (fun R X P => ⟨Or.inl rfl, _, rfl, R, kF R X (fun F O h => Or.inr ⟨q0, Or.inl ⟨q, P F O h⟩⟩)⟩) (fun R X Y Z P => ⟨Or.inr rfl, _, rfl, R, kO R X Y Z (fun F O h => Or.inr ⟨q0, Or.inl ⟨q, P F O h⟩⟩)⟩)
  refine z_isW (a := 2) hR hC.1 hT he hk (by decide) (fun q => ⟨fun z => absurd z (by decide), fun _ => ?_⟩) (fun q2 => ⟨fun _ => ?_, fun z => absurd rfl z⟩)
  · exact c_uns hR aB hC tk hT (by have := q.1; omega) (fun R X P => ⟨Or.inl rfl, _, rfl, R, kF R X (fun F O h => Or.inr ⟨q0, Or.inr ⟨q1, Or.inl ⟨q, P F O h⟩⟩⟩)⟩) (fun R X Y Z P => ⟨Or.inr rfl, _, rfl, R, kO R X Y Z (fun F O h => Or.inr ⟨q0, Or.inr ⟨q1, Or.inl ⟨q, P F O h⟩⟩⟩)⟩)
  refine z_isW (a := 3) hR hC.1 hT he hk (by decide) (fun q => ⟨fun z => absurd z (by decide), fun _ => ?_⟩) (fun q3 => ⟨fun _ => ?_, fun z => absurd rfl z⟩)
  · exact c_seen hR aB hC tk hT (by have := q.1; omega) (fun R X P => ⟨Or.inl rfl, _, rfl, R, kF R X (fun F O h => Or.inr ⟨q0, Or.inr ⟨q1, Or.inr ⟨q2, Or.inl ⟨q, P F O h⟩⟩⟩⟩)⟩) (fun R X Y Z P => ⟨Or.inr rfl, _, rfl, R, kO R X Y Z (fun F O h => Or.inr ⟨q0, Or.inr ⟨q1, Or.inr ⟨q2, Or.inl ⟨q, P F O h⟩⟩⟩⟩)⟩)
  · exact ⟨_, rfl, hR, kF hR (fl_C (FrC.rf c w) hT.1 1) (fun F O h => Or.inr ⟨q0, Or.inr ⟨q1, Or.inr ⟨q2, Or.inr ⟨q3, h⟩⟩⟩⟩)⟩
