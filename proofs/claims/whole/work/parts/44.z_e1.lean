/-! the reference's lines: one unsure, one seen; a line -/
theorem fW_a {f : Int32} {s a i : Nat} {w : Wd} (h : a ≠ 0) : wi (fW f s w) a i = wi w a i := (wi_ne (Or.inl h)).trans ((wi_ne (Or.inl h)).trans (wi_ne (Or.inl h)))
theorem r_told {w : Wd} (hR : w.2.2 = RM) {T : Nat → Int32} {n p s e kd : Nat} {A : AT} (aB : AB n A) (hS : RS T n A w) (tk : Tok T n p s e kd) (hT : TRk T s e kd w) {F : Int32 → Nat → Prop} {O : Nat → Nat → Nat → Nat → Prop} (sp : (¬ NmP T s e kd ∧ F 1 s) ∨ (NmP T s e kd ∧ (((∀ d, d < A 9 2 → ¬ SN T s e (A 0) (A 1) d) ∧ F 2 s) ∨ (∃ d, d < A 9 2 ∧ SN T s e (A 0) (A 1) d ∧ (∀ j, j < d → ¬ SN T s e (A 0) (A 1) j) ∧ ∃ s2 e2 k2, Tok T n e s2 e2 k2 ∧ O d s2 e2 k2)))) {Q : Int32 → Wd → Prop} (kF : ∀ f q w', F f q → FlR w w' f q → (∀ i, wi w' 4 i = wi w 4 i) → Q 0 w') (kO : ∀ d s2 e2 k2 w', d < A 9 2 → Tok T n e s2 e2 k2 → O d s2 e2 k2 → StR w w' → TRk T s2 e2 k2 w' → Q (nI d) w') : ClI SR mX11_dancePassed [.ref 0] w (fun x w2 => w2.2.2 = RM ∧ Q x w2) := by
  have h13 := hS.2.1.1
  have tb := tok_b tk
  have hk := tb.2.2.2.2.2.2
  refine TX11_dancePassed w hR _ ⟨fun _ => ?_, fun z => absurd h13 z⟩
  refine z_mustName hR h13 hT (tok_12 tk) hk (fun q => ⟨fun _ => ?_, fun z => absurd h13 z⟩) (fun q => ⟨fun z => absurd z fW_13, fun _ => ⟨_, rfl, hR, ?_⟩⟩)
  · obtain ⟨h8, ht⟩ := hT.2.2.2.1 q.1
    have hL := q.2.1
    have h1 := (tb.2.2.2.2.1 q.1).1
    have sp2 : ((∀ d, d < A 9 2 → ¬ SN T s e (A 0) (A 1) d) ∧ F 2 s) ∨ (∃ d, d < A 9 2 ∧ SN T s e (A 0) (A 1) d ∧ (∀ j, j < d → ¬ SN T s e (A 0) (A 1) j) ∧ ∃ s2 e2 k2, Tok T n e s2 e2 k2 ∧ O d s2 e2 k2) := by
      rcases sp with z | z
      · exact absurd q z.1
      · exact z.2
    refine z_find hR (hN_C aB) hS.nm h8 (by omega) (by omega) ht (fun d g1 g2 g3 => ⟨fun _ => ?_, fun z => absurd (nI_pos' (by have := aB.2.2.1; omega)) z⟩) (fun g => ⟨fun z => absurd z (by decide), fun _ => ?_⟩)
    · rcases sp2 with ⟨z, -⟩ | ⟨d2, y1, y2, y3, s2, e2, k2, tk2, hO⟩
      · exact absurd g2 (z d g1)
      · have ed : d = d2 := first_eq (P := fun d => SN T s e (A 0) (A 1) d) g2 g3 y2 y3
        subst ed
        refine p_0 hR h13 hS.1 (hT.2.2.1 (by have := q.1; omega)) tk2 (fun w2 f2 c2 => ⟨_, rfl, f2.1.trans hR, ?_⟩)
        rw [if_pos ((f2.2 0 13 (by decide) (by decide)).trans h13)]
        exact kO d s2 e2 k2 w2 g1 tk2 hO f2 c2
    · rcases sp2 with ⟨-, hF⟩ | ⟨d2, y1, y2, -⟩
      · rw [wr_0 h13 hT.1]
        refine p_F (w := fW 2 s w) hR fW_13 ⟨_, rfl, hR, ?_⟩
        rw [if_neg fW_13]
        exact kF 2 s _ hF (fl_R (FrR.rf w) 2 s) (fun i => fW_a (by decide))
      · exact absurd y2 (g d2 y1)
  · rcases sp with ⟨-, hF⟩ | ⟨z, -⟩
    · exact kF 1 s _ hF (fl_R (FrR.rf w) 1 s) (fun i => fW_a (by decide))
    · exact absurd z q
theorem n70 (i : Nat) : 69 + 2 * nI i + 1 = nI (70 + 2 * i) := by
  rw [n69, nI_1, show 69 + 2 * i + 1 = 70 + 2 * i by omega]
theorem g_unF {w : Wd} (hR : w.2.2 = RM) (hF : ¬ wi w 0 13 = 0) {U : Nat} (hU : U ≤ 4) (h2 : wi w 4 2 = nI U) (l1 l2 l3 : Int32) {Q : Option Value → Wd → Prop} (k : Q none w) : ∀ (r i : Nat), i + r = U → Go SR mX11_unsureLine 44 [(0, .ref 0), (1, .int l1), (2, .int l2), (3, .int l3), (4, .int (nI i))] [] w Q := by
  intro r
  induction r with
  | zero =>
    intro i hi
    exact BX11_unsureLine_44 _ _ _ _ w hR Q ⟨fun _ => p_F hR hF ⟨fun z => absurd z hF, fun _ => k⟩, fun z => absurd (by rw [h2]; exact nI_le (by omega) (by omega)) z⟩
  | succ r ih =>
    intro i hi
    refine BX11_unsureLine_44 _ _ _ _ w hR Q ⟨fun z => absurd z (by rw [h2]; exact nI_ge (by omega) (by omega)), fun _ => ⟨fun z => absurd z hF, fun _ => ?_⟩⟩
    rw [nI_1]
    exact ih (i + 1) (by omega)
theorem g_unR {w : Wd} (hR : w.2.2 = RM) {T : Nat → Int32} {n s e kd p d v : Nat} {A : AT} (aB : AB n A) (hS : RS T n A w) (hT : TRk T s e kd w) (hd : d < 5) (hv : v ≤ 999) (l1 : Int32) {Q : Option Value → Wd → Prop} (c1 : UsT A d v → Q none (fW 3 s w)) (c0 : ¬ UsT A d v → ClV SR mX11_pass [.ref 0] w (fun w1 => w1.2.2 = RM ∧ (((wi w1 0 13) = 0 → vp_in l1 146 ∧ vp_in (l1 + 1) 146 ∧ Q none (si (si (si w1 4 l1.toNatClampNeg (nI d)) 4 ((l1 + 1).toNatClampNeg) (nI v)) 4 2 ((wi (si (si w1 4 l1.toNatClampNeg (nI d)) 4 ((l1 + 1).toNatClampNeg) (nI v)) 4 2) + 1))) ∧ (¬ ((wi w1 0 13) = 0) → Q none w1)))) : ∀ (r i : Nat), i + r = A 9 3 → (∀ j, j < i → ¬ (A 3 j = d ∧ A 4 j = v)) → Go SR mX11_unsureLine 44 [(0, .ref 0), (1, .int l1), (2, .int (nI d)), (3, .int (nI v)), (4, .int (nI i))] [] w Q := by
  have tU := aB.2.2.2.1
  have tD := aB.2.2.1
  have e2 := hS.2.2.1.2.2.1
  have h13 := hS.2.1.1
  intro r
  induction r with
  | zero =>
    intro i hi hm
    refine BX11_unsureLine_44 _ _ _ _ w hR Q ⟨fun _ => c0 ?_, fun z => absurd (by rw [e2]; exact nI_le (by omega) (by omega)) z⟩
    rintro ⟨j, g1, g2⟩
    exact hm j (by omega) g2
  | succ r ih =>
    intro i hi hm
    obtain ⟨g1, g2⟩ := hS.2.2.2.2.2.1 i (by omega)
    have b := aB.2.2.2.2.2.2.2.1 i (by omega)
    have b2 := (aB.2.2.2.2.2.2.1 _ b.1).2.2.2.2.1
    have nx : ¬ (A 3 i = d ∧ A 4 i = v) → Go SR mX11_unsureLine 44 [(0, .ref 0), (1, .int l1), (2, .int (nI d)), (3, .int (nI v)), (4, .int (nI (i + 1)))] [] w Q := by
      intro y
      refine ih (i + 1) (by omega) (fun j hj => ?_)
      by_cases q : j = i
      · subst q
        exact y
      · exact hm j (by omega)
    refine BX11_unsureLine_44 _ _ _ _ w hR Q ⟨fun z => absurd z (by rw [e2]; exact nI_ge (by omega) (by omega)), fun _ => ⟨fun _ => ?_, fun z => absurd h13 z⟩⟩
    rw [n70, n69, nI_clamp (by omega), nI_clamp (by omega), g1, g2, nI_1]
    refine ⟨nI_in (by omega) (by decide), fun y1 => ⟨nI_in (by omega) (by decide), fun y2 => ?_, fun y2 => nx (fun z => y2 (by rw [z.2]))⟩, fun y1 => nx (fun z => y1 (by rw [z.1]))⟩
    rw [wr_0 h13 hT.1]
    have e2' : wi (fW 3 s w) 4 2 = nI (A 9 3) := (wi_ne (Or.inl (by decide))).trans ((wi_ne (Or.inl (by decide))).trans ((wi_ne (Or.inl (by decide))).trans e2))
    exact g_unF (w := fW 3 s w) hR fW_13 tU e2' _ _ _ (c1 ⟨i, by omega, (nI_eq (by omega) (by omega)).mp y1, (nI_eq (by omega) (by omega)).mp y2⟩) r (i + 1) (by omega)
theorem aU_o {A : AT} {d v a i : Nat} (h : a ≤ 2 ∨ 10 ≤ a ∨ (a = 9 ∧ i ≠ 3) ∨ (a ≤ 8 ∧ i ≠ A 9 3) ∨ (5 ≤ a ∧ a ≤ 8)) : aU A d v a i = A a i :=
  (up2_ne _ _ (by omega)).trans ((up2_ne _ _ (by omega)).trans (up2_ne _ _ (by omega)))
theorem aU_9 {A : AT} {d v : Nat} : aU A d v 9 3 = A 9 3 + 1 := up2_self _ _ _ _
theorem aU_3 {A : AT} {d v : Nat} : aU A d v 3 (A 9 3) = d := (up2_ne _ _ (by omega)).trans ((up2_ne _ _ (by omega)).trans (up2_self _ _ _ _))
theorem aU_4 {A : AT} {d v : Nat} : aU A d v 4 (A 9 3) = v := (up2_ne _ _ (by omega)).trans (up2_self _ _ _ _)
theorem RS.adU {T : Nat → Int32} {n : Nat} {A : AT} {w : Wd} {d v : Nat} (h : RS T n A w) (aB : AB n A) (hU : A 9 3 < 4) : RS T n (aU A d v) (si (si (si w 4 (69 + 2 * A 9 3) (nI d)) 4 (70 + 2 * A 9 3) (nI v)) 4 2 (nI (A 9 3 + 1))) := by
  have tD := aB.2.2.1
  obtain ⟨h1, ⟨h2, h3, h4⟩, ⟨h5, h6, h7, h8⟩, h9, h10, h11, h12⟩ := h
  have fr : ∀ a i v', ¬ (a = 4 ∧ (i = 2 ∨ i = 69 + 2 * A 9 3 ∨ i = 70 + 2 * A 9 3)) → wi (si (si (si w 4 (69 + 2 * A 9 3) (nI d)) 4 (70 + 2 * A 9 3) (nI v)) 4 2 v') a i = wi w a i := fun a i v' q => (wi_ne (by omega)).trans ((wi_ne (by omega)).trans (wi_ne (by omega)))
  unfold RS
  rw [aU_o (a := 9) (i := 0) (by omega), aU_o (a := 9) (i := 1) (by omega), aU_o (a := 9) (i := 2) (by omega), aU_9, aU_o (a := 9) (i := 4) (by omega)]
  refine ⟨((h1.s4).s4).s4, ⟨(fr _ _ _ (by omega)).trans h2, (fr _ _ _ (by omega)).trans h3, (fr _ _ _ (by omega)).trans h4⟩, ⟨(fr _ _ _ (by omega)).trans h5, (fr _ _ _ (by omega)).trans h6, wi_self _ _ _ _, (fr _ _ _ (by omega)).trans h8⟩, fun j hj => ?_, fun j hj hj5 => (fr _ _ _ (by omega)).trans (h10 j hj hj5), fun i hi => ?_, fun i hi => ?_⟩
  · have gd := aB.2.2.2.2.2.2.1 j hj
    exact (h9 j hj).cg gd.2.1 gd.2.2.2.2.1 (fun i hi => fr _ _ _ (by omega)) (aU_o (by omega)) (aU_o (by omega)) (aU_o (by omega)) (fun i => aU_o (by omega))
  · by_cases q : i = A 9 3
    · subst q
      rw [aU_3, aU_4]
      exact ⟨(wi_ne (by omega)).trans ((wi_ne (by omega)).trans (wi_self _ _ _ _)), (wi_ne (by omega)).trans (wi_self _ _ _ _)⟩
    · obtain ⟨g1, g2⟩ := h11 i (by omega)
      rw [aU_o (by omega), aU_o (by omega)]
      exact ⟨(fr _ _ _ (by omega)).trans g1, (fr _ _ _ (by omega)).trans g2⟩
  · obtain ⟨g1, g2, g3, g4⟩ := h12 i hi
    rw [aU_o (by omega), aU_o (by omega), aU_o (by omega), aU_o (by omega)]
    exact ⟨(fr _ _ _ (by omega)).trans g1, (fr _ _ _ (by omega)).trans g2, (fr _ _ _ (by omega)).trans g3, (fr _ _ _ (by omega)).trans g4⟩
theorem AB.adU {n d v : Nat} {A : AT} (h : AB n A) (h0 : A 9 0 ≠ 0) (hU : A 9 3 < 4) (hd : d < A 9 2) (hv : v < A 2 d) : AB n (aU A d v) := by
  obtain ⟨h1, h2, h3, h4, h5, h6, h7, h8, h9⟩ := h
  unfold AB
  rw [aU_o (a := 9) (i := 0) (by omega), aU_o (a := 9) (i := 1) (by omega), aU_o (a := 9) (i := 2) (by omega), aU_9, aU_o (a := 9) (i := 4) (by omega)]
  refine ⟨h1, h2, h3, by omega, h5, fun z => absurd z h0, fun j hj => ?_, fun i hi => ?_, fun i hi => ?_⟩
  · obtain ⟨g1, g2, g3, g4, g5, g6⟩ := h7 j hj
    rw [aU_o (a := 0) (by omega), aU_o (a := 1) (by omega), aU_o (a := 2) (by omega)]
    exact ⟨g1, g2, g3, g4, g5, fun i hi => by rw [aU_o (by omega)]; exact g6 i hi⟩
  · by_cases q : i = A 9 3
    · subst q
      rw [aU_3, aU_4, aU_o (a := 2) (by omega)]
      exact ⟨hd, hv⟩
    · obtain ⟨g1, g2⟩ := h8 i (by omega)
      rw [aU_o (a := 3) (by omega), aU_o (a := 4) (by omega), aU_o (a := 2) (by omega)]
      exact ⟨g1, g2⟩
  · obtain ⟨g1, g2, g3, g4, g5⟩ := h9 i hi
    rw [aU_o (a := 5) (by omega), aU_o (a := 6) (by omega), aU_o (a := 7) (by omega), aU_o (a := 8) (by omega), aU_o (a := 2) (by omega)]
    exact ⟨g1, g2, g3, g4, g5⟩
theorem r_uns {w : Wd} (hR : w.2.2 = RM) {T : Nat → Int32} {n p s e kd : Nat} {A : AT} (aB : AB n A) (hS : RS T n A w) (h0 : A 9 0 ≠ 0) (hU : A 9 3 < 4) (tk : Tok T n p s e kd) (hT : TRk T s e kd w) {F : Int32 → Nat → Prop} {O : AT → Nat → Nat → Nat → Prop} (sp : (¬ NmP T s e kd ∧ F 1 s) ∨ (NmP T s e kd ∧ (((∀ d, d < A 9 2 → ¬ SN T s e (A 0) (A 1) d) ∧ F 2 s) ∨ (∃ d, d < A 9 2 ∧ SN T s e (A 0) (A 1) d ∧ (∀ j, j < d → ¬ SN T s e (A 0) (A 1) j) ∧ ∃ s2 e2 k2, Tok T n e s2 e2 k2 ∧ SpN T s2 e2 k2 (A 2 d - 1) F (fun v => (UsT A d v ∧ F 3 s2) ∨ (¬ UsT A d v ∧ ∃ s3 e3 k3, Tok T n e2 s3 e3 k3 ∧ O (aU A d v) s3 e3 k3)))))) {Q : Wd → Prop} (kF : ∀ f q w', F f q → FlR w w' f q → Q w') (kO : ∀ A' p' s' e' k' w', O A' s' e' k' → Tok T n p' s' e' k' → s ≤ s' → AB n A' → RS T n A' w' → TRk T s' e' k' w' → FrR w w' → Q w') : ClV SR mX11_unsureLine [.ref 0] w (fun w2 => w2.2.2 = RM ∧ Q w2) := by
  have h13 := hS.2.1.1
  have tU := aB.2.2.2.1
  have tD := aB.2.2.1
  refine TX11_unsureLine w hR _ ⟨fun _ => ?_, fun z => absurd h13 z⟩
  rw [hS.2.2.1.2.2.1, n69]
  refine r_told hR aB hS tk hT (O := fun d s2 e2 k2 => d < A 9 2 ∧ SpN T s2 e2 k2 (A 2 d - 1) F (fun v => (UsT A d v ∧ F 3 s2) ∨ (¬ UsT A d v ∧ ∃ s3 e3 k3, Tok T n e2 s3 e3 k3 ∧ O (aU A d v) s3 e3 k3))) (F := F) ?_ ?_ ?_
  · rcases sp with z | ⟨z, z2 | ⟨d, y1, y2, y3, s2, e2, k2, tk2, y4⟩⟩
    · exact Or.inl z
    · exact Or.inr ⟨z, Or.inl z2⟩
    · exact Or.inr ⟨z, Or.inr ⟨d, y1, y2, y3, s2, e2, k2, tk2, y1, y4⟩⟩
  · intro f q w' hF fl e4
    have R' : w'.2.2 = RM := fl.1.1.trans hR
    rw [(n_RF fl.2.1 _).1, (n_RF fl.2.1 _).2]
    refine ⟨show ¬ ((4 + 0 : Int32) < 0 ∨ 146 ≤ (4 + 0 : Int32).toNatClampNeg) by decide, ?_⟩
    have := g_unF R' fl.2.1 tU ((e4 2).trans hS.2.2.1.2.2.1) (nI (69 + 2 * A 9 3)) 0 0 (Q := fun r w' => r = none ∧ w'.2.2 = RM ∧ Q w') ⟨rfl, R', kF f q w' hF fl⟩ (A 9 3) 0 (Nat.zero_add _)
    rw [nI_0] at this
    exact this
  · intro d s2 e2 k2 w2 hd tk2 sp f2 c2
    have R2 : w2.2.2 = RM := f2.1.trans hR
    have S2 := hS.st f2
    have F2 := (FrR.rf w).st f2
    have gd := aB.2.2.2.2.2.2.1 d hd
    obtain ⟨m, hm⟩ : ∃ m, A 2 d = m + 1 := ⟨A 2 d - 1, by omega⟩
    have tb := tok_b tk
    have tb2 := tok_b tk2
    have q2 := tk2.1
    rw [n4, nI_clamp (by omega), (S2.2.2.2.1 d hd).1, hm, nI_pred]
    refine ⟨nI_in (by omega) (by decide), ?_⟩
    have fin : ∀ f w3, F f s2 → FlR w w3 f s2 → w3.2.2 = RM → wi w3 4 2 = nI (A 9 3) → ∀ l3, Go SR mX11_unsureLine 44 [(0, .ref 0), (1, .int (nI (69 + 2 * A 9 3))), (2, .int (nI d)), (3, .int l3), (4, .int 0)] [] w3 (fun r w' => r = none ∧ w'.2.2 = RM ∧ Q w') := fun f w3 hF fl R3 e3 l3 => by
      have := g_unF R3 fl.2.1 tU e3 (nI (69 + 2 * A 9 3)) (nI d) l3 (Q := fun r w' => r = none ∧ w'.2.2 = RM ∧ Q w') ⟨rfl, R3, kF f s2 w3 hF fl⟩ (A 9 3) 0 (Nat.zero_add _)
      rw [nI_0] at this
      exact this
    have fw2 : ∀ f, wi (fW f s2 w2) 4 2 = nI (A 9 3) := fun f => (wi_ne (Or.inl (by decide))).trans ((wi_ne (Or.inl (by decide))).trans ((wi_ne (Or.inl (by decide))).trans S2.2.2.1.2.2.1))
    rcases sp.2 with ⟨g1, hF⟩ | ⟨g1, v, hv, dv, ⟨g2, hF⟩ | ⟨g2, hO⟩⟩
    · rw [(n_R1 S2.2.1.1 c2 tk2 g1 _).1, (n_R1 S2.2.1.1 c2 tk2 g1 _).2]
      exact fin 1 _ hF (fl_R F2 1 s2) R2 (fw2 1) _
    · rw [((n_R2 S2.2.1.1 c2 tk2 g1 dv hv (m := m) (by omega) rfl).1 (by omega)).1, ((n_R2 S2.2.1.1 c2 tk2 g1 dv hv (m := m) (by omega) rfl).1 (by omega)).2]
      exact fin 4 _ hF (fl_R F2 4 s2) R2 (fw2 4) _
    · rw [((n_R2 S2.2.1.1 c2 tk2 g1 dv hv (m := m) (by omega) rfl).2 (by omega)).1, ((n_R2 S2.2.1.1 c2 tk2 g1 dv hv (m := m) (by omega) rfl).2 (by omega)).2]
      have := g_unR (p := 0) R2 aB S2 c2 (d := d) (v := v) (by omega) (by omega) (nI (69 + 2 * A 9 3)) (Q := fun r w' => r = none ∧ w'.2.2 = RM ∧ Q w') ?_ ?_ (A 9 3) 0 (Nat.zero_add _) (fun j hj => absurd hj (Nat.not_lt_zero j))
      · rw [nI_0] at this
        exact this
      · intro u
        rcases hO with ⟨-, hF⟩ | ⟨z, -⟩
        · exact ⟨rfl, R2, kF 3 s2 _ hF (fl_R F2 3 s2)⟩
        · exact absurd u z
      · intro u
        rcases hO with ⟨z, -⟩ | ⟨-, s3, e3, k3, tk3, hO⟩
        · exact absurd z u
        · refine p_0 R2 S2.2.1.1 S2.1 (c2.2.2.1 (by omega)) tk3 (fun w3 f3 c3 => ?_)
          have R3 : w3.2.2 = RM := f3.1.trans R2
          have S3 := S2.st f3
          have q3 := tk3.1
          refine ⟨fun _ => ?_, fun z => absurd S3.2.1.1 z⟩
          have p1 : ∀ x y, wi (si (si w3 4 (69 + 2 * A 9 3) x) 4 (70 + 2 * A 9 3) y) 4 2 = nI (A 9 3) := fun x y => (wi_ne (by omega)).trans ((wi_ne (by omega)).trans S3.2.2.1.2.2.1)
          rw [nI_1, nI_clamp (by omega), nI_clamp (by omega), show 69 + 2 * A 9 3 + 1 = 70 + 2 * A 9 3 by omega, p1, nI_1]
          refine ⟨nI_in (by omega) (by decide), nI_in (by omega) (by decide), rfl, R3, ?_⟩
          exact kO _ e2 s3 e3 k3 _ hO tk3 (by omega) (aB.adU h0 hU hd (by omega)) (S3.adU aB hU) (c3.fw (fun a i q => (wi_ne (by omega)).trans ((wi_ne (by omega)).trans (wi_ne (by omega))))) ((F2.st f3).s4.s4.s4)
