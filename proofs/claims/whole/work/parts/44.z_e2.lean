theorem g_seF {w : Wd} (hR : w.2.2 = RM) (hF : ¬ wi w 0 13 = 0) {U : Nat} (hU : U ≤ 6) (h2 : wi w 4 3 = nI U) (l1 l2 l3 : Int32) {Q : Option Value → Wd → Prop} (k : Q none w) : ∀ (r i : Nat), i + r = U → Go SR mX11_seenLine 42 [(0, .ref 0), (1, .int l1), (2, .int l2), (3, .int l3), (4, .int (nI i))] [] w Q := by
  have cF : ∀ {Q : Int32 → Wd → Prop}, Q (-1) w → ClI SR mX11_cornerHere [.ref 0] w (fun x w2 => w2.2.2 = RM ∧ Q x w2) := by
    intro Q hQ
    refine TX11_cornerHere w hR _ (z_isWF (a := 5) hR hF (by decide) ⟨fun _ => z_isWF (a := 6) hR hF (by decide) ⟨fun _ => z_isWF (a := 7) hR hF (by decide) ⟨fun _ => z_isWF (a := 8) hR hF (by decide) ?_, fun z => absurd rfl z⟩, fun z => absurd rfl z⟩, fun z => absurd rfl z⟩)
    rw [wr_F hF, if_pos rfl]
    exact ⟨fun _ => ⟨_, rfl, hR, hQ⟩, fun _ => ⟨_, rfl, hR, hQ⟩⟩
  intro r
  induction r with
  | zero =>
    intro i hi
    exact BX11_seenLine_42 _ _ _ _ w hR Q ⟨fun _ => p_F hR hF (cF (p_F hR hF (cF ⟨fun z => absurd z hF, fun _ => p_F hR hF ⟨fun z => absurd z hF, fun _ => k⟩⟩))), fun z => absurd (by rw [h2]; exact nI_le (by omega) (by omega)) z⟩
  | succ r ih =>
    intro i hi
    refine BX11_seenLine_42 _ _ _ _ w hR Q ⟨fun z => absurd z (by rw [h2]; exact nI_ge (by omega) (by omega)), fun _ => ⟨fun z => absurd z hF, fun _ => ?_⟩⟩
    rw [nI_1]
    exact ih (i + 1) (by omega)
theorem z_cornR {w : Wd} (hR : w.2.2 = RM) (h13 : wi w 0 13 = 0) {T : Nat → Int32} {s e kd : Nat} (hC : TRk T s e kd w) (h12 : kd = 1 → e - s ≤ 12) (hk : kd ≤ 4) {Q : Int32 → Wd → Prop} (c0 : (∀ k, k < 4 → ¬ CrK T s e kd k) → Q (-1) (fW 1 s w)) (c1 : ∀ k, k < 4 → CrK T s e kd k → Q (nI k) w) : ClI SR mX11_cornerHere [.ref 0] w (fun x w2 => w2.2.2 = RM ∧ Q x w2) := by
  refine TX11_cornerHere w hR _ ?_
  refine z_isWR (a := 5) hR h13 hC h12 hk (by decide) (fun q => ⟨fun z => absurd z (by decide), fun _ => ⟨fun _ => ⟨_, rfl, hR, c1 0 (by decide) ⟨q, fun j hj => absurd hj (Nat.not_lt_zero j)⟩⟩, fun z => absurd (by decide) z⟩⟩) (fun q5 => ⟨fun _ => ?_, fun z => absurd rfl z⟩)
  have n1 : ∀ j, j < 1 → ¬ IsW T s e kd (5 + j) := fun j hj => by
    obtain rfl : j = 0 := by omega
    exact q5
  refine z_isWR (a := 6) hR h13 hC h12 hk (by decide) (fun q => ⟨fun z => absurd z (by decide), fun _ => ⟨fun _ => ⟨_, rfl, hR, c1 1 (by decide) ⟨q, n1⟩⟩, fun z => absurd (by decide) z⟩⟩) (fun q6 => ⟨fun _ => ?_, fun z => absurd rfl z⟩)
  have n2 : ∀ j, j < 2 → ¬ IsW T s e kd (5 + j) := fun j hj => by
    by_cases q : j = 1
    · subst q
      exact q6
    · exact n1 j (by omega)
  refine z_isWR (a := 7) hR h13 hC h12 hk (by decide) (fun q => ⟨fun z => absurd z (by decide), fun _ => ⟨fun _ => ⟨_, rfl, hR, c1 2 (by decide) ⟨q, n2⟩⟩, fun z => absurd (by decide) z⟩⟩) (fun q7 => ⟨fun _ => ?_, fun z => absurd rfl z⟩)
  have n3 : ∀ j, j < 3 → ¬ IsW T s e kd (5 + j) := fun j hj => by
    by_cases q : j = 2
    · subst q
      exact q7
    · exact n2 j (by omega)
  refine z_isWR (a := 8) hR h13 hC h12 hk (by decide) (fun q => ?_) (fun q8 => ?_)
  · rw [if_neg (by decide)]
    exact ⟨fun _ => ⟨_, rfl, hR, c1 3 (by decide) ⟨q, n3⟩⟩, fun z => absurd (by decide) z⟩
  · rw [if_pos rfl, wr_0 h13 hC.1]
    refine ⟨fun z => absurd z (by decide), fun _ => ⟨_, rfl, hR, c0 (fun k hk hK => ?_)⟩⟩
    by_cases q : k = 3
    · subst q
      exact q8 hK.1
    · exact n3 k (by omega) hK.1
theorem cornF {w : Wd} (hR : w.2.2 = RM) (hF : ¬ wi w 0 13 = 0) {Q : Int32 → Wd → Prop} (hQ : Q (-1) w) : ClI SR mX11_cornerHere [.ref 0] w (fun x w2 => w2.2.2 = RM ∧ Q x w2) := by
  refine TX11_cornerHere w hR _ (z_isWF (a := 5) hR hF (by decide) ⟨fun _ => z_isWF (a := 6) hR hF (by decide) ⟨fun _ => z_isWF (a := 7) hR hF (by decide) ⟨fun _ => z_isWF (a := 8) hR hF (by decide) ?_, fun z => absurd rfl z⟩, fun z => absurd rfl z⟩, fun z => absurd rfl z⟩)
  rw [wr_F hF, if_pos rfl]
  exact ⟨fun _ => ⟨_, rfl, hR, hQ⟩, fun _ => ⟨_, rfl, hR, hQ⟩⟩
theorem RS.adE {T : Nat → Int32} {n : Nat} {A : AT} {w : Wd} {d v f t : Nat} (h : RS T n A w) (aB : AB n A) (hE : A 9 4 < 6) : RS T n (aE A d v f t) (si (si (si (si (si w 4 (77 + 4 * A 9 4) (nI d)) 4 (78 + 4 * A 9 4) (nI v)) 4 (79 + 4 * A 9 4) (nI f)) 4 (80 + 4 * A 9 4) (nI t)) 4 3 (nI (A 9 4 + 1))) := by
  have tD := aB.2.2.1
  have tU := aB.2.2.2.1
  obtain ⟨h1, ⟨h2, h3, h4⟩, ⟨h5, h6, h7, h8⟩, h9, h10, h11, h12⟩ := h
  have fr : ∀ a i v', ¬ (a = 4 ∧ (i = 3 ∨ (77 + 4 * A 9 4 ≤ i ∧ i ≤ 80 + 4 * A 9 4))) → wi (si (si (si (si (si w 4 (77 + 4 * A 9 4) (nI d)) 4 (78 + 4 * A 9 4) (nI v)) 4 (79 + 4 * A 9 4) (nI f)) 4 (80 + 4 * A 9 4) (nI t)) 4 3 v') a i = wi w a i := fun a i v' q => (wi_ne (by omega)).trans ((wi_ne (by omega)).trans ((wi_ne (by omega)).trans ((wi_ne (by omega)).trans (wi_ne (by omega)))))
  unfold RS
  rw [aE_o (a := 9) (i := 0) (by omega), aE_o (a := 9) (i := 1) (by omega), aE_o (a := 9) (i := 2) (by omega), aE_o (a := 9) (i := 3) (by omega), aE_9]
  refine ⟨((((h1.s4).s4).s4).s4).s4, ⟨(fr _ _ _ (by omega)).trans h2, (fr _ _ _ (by omega)).trans h3, (fr _ _ _ (by omega)).trans h4⟩, ⟨(fr _ _ _ (by omega)).trans h5, (fr _ _ _ (by omega)).trans h6, (fr _ _ _ (by omega)).trans h7, wi_self _ _ _ _⟩, fun j hj => ?_, fun j hj hj5 => (fr _ _ _ (by omega)).trans (h10 j hj hj5), fun i hi => ?_, fun i hi => ?_⟩
  · have gd := aB.2.2.2.2.2.2.1 j hj
    exact (h9 j hj).cg gd.2.1 gd.2.2.2.2.1 (fun i hi => fr _ _ _ (by omega)) (aE_o (by omega)) (aE_o (by omega)) (aE_o (by omega)) (fun i => aE_o (by omega))
  · obtain ⟨g1, g2⟩ := h11 i hi
    rw [aE_o (by omega), aE_o (by omega)]
    exact ⟨(fr _ _ _ (by omega)).trans g1, (fr _ _ _ (by omega)).trans g2⟩
  · by_cases q : i = A 9 4
    · subst q
      rw [aE_5, aE_6, aE_7, aE_8]
      exact ⟨(wi_ne (by omega)).trans ((wi_ne (by omega)).trans ((wi_ne (by omega)).trans ((wi_ne (by omega)).trans (wi_self _ _ _ _)))), (wi_ne (by omega)).trans ((wi_ne (by omega)).trans ((wi_ne (by omega)).trans (wi_self _ _ _ _))), (wi_ne (by omega)).trans ((wi_ne (by omega)).trans (wi_self _ _ _ _)), (wi_ne (by omega)).trans (wi_self _ _ _ _)⟩
    · obtain ⟨g1, g2, g3, g4⟩ := h12 i (by omega)
      rw [aE_o (by omega), aE_o (by omega), aE_o (by omega), aE_o (by omega)]
      exact ⟨(fr _ _ _ (by omega)).trans g1, (fr _ _ _ (by omega)).trans g2, (fr _ _ _ (by omega)).trans g3, (fr _ _ _ (by omega)).trans g4⟩
theorem AB.adE {n d v f t : Nat} {A : AT} (h : AB n A) (h0 : A 9 0 ≠ 0) (hE : A 9 4 < 6) (hd : d < A 9 2) (hv : v ≤ A 2 d) (hf : f < 4) (ht : t < 4) (hft : f ≠ t) : AB n (aE A d v f t) := by
  obtain ⟨h1, h2, h3, h4, h5, h6, h7, h8, h9⟩ := h
  unfold AB
  rw [aE_o (a := 9) (i := 0) (by omega), aE_o (a := 9) (i := 1) (by omega), aE_o (a := 9) (i := 2) (by omega), aE_o (a := 9) (i := 3) (by omega), aE_9]
  refine ⟨h1, h2, h3, h4, by omega, fun z => absurd z h0, fun j hj => ?_, fun i hi => ?_, fun i hi => ?_⟩
  · obtain ⟨g1, g2, g3, g4, g5, g6⟩ := h7 j hj
    rw [aE_o (a := 0) (by omega), aE_o (a := 1) (by omega), aE_o (a := 2) (by omega)]
    exact ⟨g1, g2, g3, g4, g5, fun i hi => by rw [aE_o (by omega)]; exact g6 i hi⟩
  · obtain ⟨g1, g2⟩ := h8 i hi
    rw [aE_o (a := 3) (by omega), aE_o (a := 4) (by omega), aE_o (a := 2) (by omega)]
    exact ⟨g1, g2⟩
  · by_cases q : i = A 9 4
    · subst q
      rw [aE_5, aE_6, aE_7, aE_8, aE_o (a := 2) (by omega)]
      exact ⟨hd, hv, hf, ht, hft⟩
    · obtain ⟨g1, g2, g3, g4, g5⟩ := h9 i (by omega)
      rw [aE_o (a := 5) (by omega), aE_o (a := 6) (by omega), aE_o (a := 7) (by omega), aE_o (a := 8) (by omega), aE_o (a := 2) (by omega)]
      exact ⟨g1, g2, g3, g4, g5⟩
/-- behind the number of one seen: its corners -/
theorem r_corn {w : Wd} (hR : w.2.2 = RM) {T : Nat → Int32} {n p s e kd d v : Nat} {A : AT} (aB : AB n A) (hS : RS T n A w) (h0 : A 9 0 ≠ 0) (hE : A 9 4 < 6) (hd : d < A 9 2) (hv : v ≤ A 2 d) (tk : Tok T n p s e kd) (hT : TRk T s e kd w) (hk : kd ≠ 4) {F : Int32 → Nat → Prop} {O : AT → Nat → Nat → Nat → Prop} (sp : SpC T n e F (fun f t s5 e5 k5 => O (aE A d v f t) s5 e5 k5)) {Q : Wd → Prop} (kF : ∀ f q w', F f q → FlR w w' f q → Q w') (kO : ∀ A' p' s' e' k' w', O A' s' e' k' → Tok T n p' s' e' k' → s ≤ s' → AB n A' → RS T n A' w' → TRk T s' e' k' w' → FrR w w' → Q w') : ∀ l : Nat, l = 77 + 4 * A 9 4 → ClV SR mX11_pass [.ref 0] w (fun w1 => w1.2.2 = RM ∧ ClI SR mX11_cornerHere [.ref 0] w1 (fun x3 w2 => w2.2.2 = RM ∧ ClV SR mX11_pass [.ref 0] w2 (fun w4 => w4.2.2 = RM ∧ ClI SR mX11_cornerHere [.ref 0] w4 (fun x6 w5 => w5.2.2 = RM ∧ (((wi w5 0 13) = 0 → ((x3 = x6 → ClV SR mX11_pass [.ref 0] (wXX11_wrong 3 (wi w5 0 4) w5) (fun w17 => w17.2.2 = RM ∧ (((wi w17 0 13) = 0 → vp_in (nI l) 146 ∧ vp_in (nI l + 1) 146 ∧ vp_in (nI l + 2) 146 ∧ vp_in (nI l + 3) 146 ∧ (none : Option Value) = none ∧ (si (si (si (si (si w17 4 (nI l).toNatClampNeg (nI d)) 4 ((nI l + 1).toNatClampNeg) (nI v)) 4 ((nI l + 2).toNatClampNeg) x3) 4 ((nI l + 3).toNatClampNeg) x6) 4 3 ((wi (si (si (si (si w17 4 (nI l).toNatClampNeg (nI d)) 4 ((nI l + 1).toNatClampNeg) (nI v)) 4 ((nI l + 2).toNatClampNeg) x3) 4 ((nI l + 3).toNatClampNeg) x6) 4 3) + 1)).2.2 = RM ∧ Q (si (si (si (si (si w17 4 (nI l).toNatClampNeg (nI d)) 4 ((nI l + 1).toNatClampNeg) (nI v)) 4 ((nI l + 2).toNatClampNeg) x3) 4 ((nI l + 3).toNatClampNeg) x6) 4 3 ((wi (si (si (si (si w17 4 (nI l).toNatClampNeg (nI d)) 4 ((nI l + 1).toNatClampNeg) (nI v)) 4 ((nI l + 2).toNatClampNeg) x3) 4 ((nI l + 3).toNatClampNeg) x6) 4 3) + 1))) ∧ (¬ ((wi w17 0 13) = 0) → (none : Option Value) = none ∧ w17.2.2 = RM ∧ Q w17)))) ∧ (¬ (x3 = x6) → ClV SR mX11_pass [.ref 0] w5 (fun w12 => w12.2.2 = RM ∧ (((wi w12 0 13) = 0 → vp_in (nI l) 146 ∧ vp_in (nI l + 1) 146 ∧ vp_in (nI l + 2) 146 ∧ vp_in (nI l + 3) 146 ∧ (none : Option Value) = none ∧ (si (si (si (si (si w12 4 (nI l).toNatClampNeg (nI d)) 4 ((nI l + 1).toNatClampNeg) (nI v)) 4 ((nI l + 2).toNatClampNeg) x3) 4 ((nI l + 3).toNatClampNeg) x6) 4 3 ((wi (si (si (si (si w12 4 (nI l).toNatClampNeg (nI d)) 4 ((nI l + 1).toNatClampNeg) (nI v)) 4 ((nI l + 2).toNatClampNeg) x3) 4 ((nI l + 3).toNatClampNeg) x6) 4 3) + 1)).2.2 = RM ∧ Q (si (si (si (si (si w12 4 (nI l).toNatClampNeg (nI d)) 4 ((nI l + 1).toNatClampNeg) (nI v)) 4 ((nI l + 2).toNatClampNeg) x3) 4 ((nI l + 3).toNatClampNeg) x6) 4 3 ((wi (si (si (si (si w12 4 (nI l).toNatClampNeg (nI d)) 4 ((nI l + 1).toNatClampNeg) (nI v)) 4 ((nI l + 2).toNatClampNeg) x3) 4 ((nI l + 3).toNatClampNeg) x6) 4 3) + 1))) ∧ (¬ ((wi w12 0 13) = 0) → (none : Option Value) = none ∧ w12.2.2 = RM ∧ Q w12)))))) ∧ (¬ ((wi w5 0 13) = 0) → ClV SR mX11_pass [.ref 0] w5 (fun w7 => w7.2.2 = RM ∧ (((wi w7 0 13) = 0 → vp_in (nI l) 146 ∧ vp_in (nI l + 1) 146 ∧ vp_in (nI l + 2) 146 ∧ vp_in (nI l + 3) 146 ∧ (none : Option Value) = none ∧ (si (si (si (si (si w7 4 (nI l).toNatClampNeg (nI d)) 4 ((nI l + 1).toNatClampNeg) (nI v)) 4 ((nI l + 2).toNatClampNeg) x3) 4 ((nI l + 3).toNatClampNeg) x6) 4 3 ((wi (si (si (si (si w7 4 (nI l).toNatClampNeg (nI d)) 4 ((nI l + 1).toNatClampNeg) (nI v)) 4 ((nI l + 2).toNatClampNeg) x3) 4 ((nI l + 3).toNatClampNeg) x6) 4 3) + 1)).2.2 = RM ∧ Q (si (si (si (si (si w7 4 (nI l).toNatClampNeg (nI d)) 4 ((nI l + 1).toNatClampNeg) (nI v)) 4 ((nI l + 2).toNatClampNeg) x3) 4 ((nI l + 3).toNatClampNeg) x6) 4 3 ((wi (si (si (si (si w7 4 (nI l).toNatClampNeg (nI d)) 4 ((nI l + 1).toNatClampNeg) (nI v)) 4 ((nI l + 2).toNatClampNeg) x3) 4 ((nI l + 3).toNatClampNeg) x6) 4 3) + 1))) ∧ (¬ ((wi w7 0 13) = 0) → (none : Option Value) = none ∧ w7.2.2 = RM ∧ Q w7))))))))) := by
  intro l hl
  obtain ⟨s3, e3, k3, tk3, sp⟩ := sp
  have tb3 := tok_b tk3
  have b0 := (tok_b tk).2.2.1
  have q3 := tk3.1
  refine p_0 hR hS.2.1.1 hS.1 (hT.2.2.1 hk) tk3 (fun w3 f3 c3 => ?_)
  have R3 : w3.2.2 = RM := f3.1.trans hR
  have S3 := hS.st f3
  have F3 := (FrR.rf w).st f3
  refine z_cornR R3 S3.2.1.1 c3 (tok_12 tk3) tb3.2.2.2.2.2.2 (fun q => ?_) (fun f hf cf => ?_)
  · have hF : F 1 s3 := by
      rcases sp with ⟨-, z⟩ | ⟨f, hf, cf, -⟩
      · exact z
      · exact absurd cf (q f hf)
    have fl := fl_R F3 1 s3
    exact p_F (w := fW 1 s3 w3) R3 fW_13 (cornF (w := fW 1 s3 w3) R3 fW_13 ⟨fun z => absurd z fW_13, fun _ => p_F (w := fW 1 s3 w3) R3 fW_13 ⟨fun z => absurd z fW_13, fun _ => ⟨rfl, R3, kF 1 s3 _ hF fl⟩⟩⟩)
  have sp2 : ∃ s4 e4 k4, Tok T n e3 s4 e4 k4 ∧ (((∀ k, k < 4 → ¬ CrK T s4 e4 k4 k) ∧ F 1 s4) ∨ (∃ t, t < 4 ∧ CrK T s4 e4 k4 t ∧ ((t = f ∧ F 3 s4) ∨ (t ≠ f ∧ ∃ s5 e5 k5, Tok T n e4 s5 e5 k5 ∧ O (aE A d v f t) s5 e5 k5)))) := by
    rcases sp with ⟨z, -⟩ | ⟨f2, hf2, cf2, z⟩
    · exact absurd cf (z f hf)
    · obtain rfl := cf.dt cf2
      exact z
  obtain ⟨s4, e4, k4, tk4, sp2⟩ := sp2
  have tb4 := tok_b tk4
  have q4 := tk4.1
  refine p_0 R3 S3.2.1.1 S3.1 (c3.2.2.1 (by have := crk_ne cf; omega)) tk4 (fun w4 f4 c4 => ?_)
  have R4 : w4.2.2 = RM := f4.1.trans R3
  have S4 := S3.st f4
  have F4 := F3.st f4
  refine z_cornR R4 S4.2.1.1 c4 (tok_12 tk4) tb4.2.2.2.2.2.2 (fun q => ?_) (fun t ht ct => ?_)
  · have hF : F 1 s4 := by
      rcases sp2 with ⟨-, z⟩ | ⟨t, ht, ct, -⟩
      · exact z
      · exact absurd ct (q t ht)
    exact ⟨fun z => absurd z fW_13, fun _ => p_F (w := fW 1 s4 w4) R4 fW_13 ⟨fun z => absurd z fW_13, fun _ => ⟨rfl, R4, kF 1 s4 _ hF (fl_R F4 1 s4)⟩⟩⟩
  have sp3 : (t = f ∧ F 3 s4) ∨ (t ≠ f ∧ ∃ s5 e5 k5, Tok T n e4 s5 e5 k5 ∧ O (aE A d v f t) s5 e5 k5) := by
    rcases sp2 with ⟨z, -⟩ | ⟨t2, ht2, ct2, z⟩
    · exact absurd ct (z t ht)
    · obtain rfl := ct.dt ct2
      exact z
  refine ⟨fun _ => ⟨fun z => ?_, fun z => ?_⟩, fun z => absurd S4.2.1.1 z⟩
  · have ef : f = t := (nI_eq (by omega) (by omega)).mp z
    have hF : F 3 s4 := by
      rcases sp3 with ⟨-, y⟩ | ⟨y, -⟩
      · exact y
      · exact absurd ef.symm y
    rw [wr_0 S4.2.1.1 c4.1]
    exact p_F (w := fW 3 s4 w4) R4 fW_13 ⟨fun z => absurd z fW_13, fun _ => ⟨rfl, R4, kF 3 s4 _ hF (fl_R F4 3 s4)⟩⟩
  · rcases sp3 with ⟨y, -⟩ | ⟨y, s5, e5, k5, tk5, hO⟩
    · exact absurd (by rw [y]) z
    · refine p_0 R4 S4.2.1.1 S4.1 (c4.2.2.1 (by have := crk_ne ct; omega)) tk5 (fun w5 f5 c5 => ⟨fun _ => ?_, fun z => absurd (S4.st f5).2.1.1 z⟩)
      have R5 : w5.2.2 = RM := f5.1.trans R4
      have S5 := S4.st f5
      have F5 := F4.st f5
      have q5 := tk5.1
      have l2 : nI l + 2 = nI (l + 2) := nI_add l 2
      have l3 : nI l + 3 = nI (l + 3) := nI_add l 3
      have p1 : ∀ x1 x2 x3 x4, wi (si (si (si (si w5 4 l x1) 4 (l + 1) x2) 4 (l + 2) x3) 4 (l + 3) x4) 4 3 = nI (A 9 4) := fun x1 x2 x3 x4 => (wi_ne (by omega)).trans ((wi_ne (by omega)).trans ((wi_ne (by omega)).trans ((wi_ne (by omega)).trans S5.2.2.1.2.2.2)))
      rw [nI_1, l2, l3, nI_clamp (by omega), nI_clamp (by omega), nI_clamp (by omega), nI_clamp (by omega), p1, nI_1]
      refine ⟨nI_in (by omega) (by decide), nI_in (by omega) (by decide), nI_in (by omega) (by decide), nI_in (by omega) (by decide), rfl, R5, ?_⟩
      rw [show l + 1 = 78 + 4 * A 9 4 by omega, show l + 2 = 79 + 4 * A 9 4 by omega, show l + 3 = 80 + 4 * A 9 4 by omega, hl]
      exact kO _ e4 s5 e5 k5 _ hO tk5 (by omega) (aB.adE h0 hE hd hv hf ht (fun y2 => y y2.symm)) (S5.adE aB hE) (c5.fw (fun a i q => (wi_ne (by omega)).trans ((wi_ne (by omega)).trans ((wi_ne (by omega)).trans ((wi_ne (by omega)).trans (wi_ne (by omega)))))))  F5.s4.s4.s4.s4.s4
