theorem n78 (i : Nat) : 77 + 4 * nI i + 1 = nI (78 + 4 * i) := by
  rw [n770, nI_1, show 77 + 4 * i + 1 = 78 + 4 * i by omega]
theorem g_seR {w : Wd} (hR : w.2.2 = RM) {T : Nat → Int32} {n s e kd d v : Nat} {A : AT} (aB : AB n A) (hS : RS T n A w) (hT : TRk T s e kd w) (hd : d < 5) (hv : v ≤ 999) (l1 : Int32) {Q : Option Value → Wd → Prop} (c1 : EsT A d v → Q none (fW 3 s w)) (c0 : ¬ EsT A d v → Go SR mX11_seenLine 42 [(0, .ref 0), (1, .int l1), (2, .int (nI d)), (3, .int (nI v)), (4, .int (nI (A 9 4)))] [] w Q) : ∀ (r i : Nat), i + r = A 9 4 → (∀ j, j < i → ¬ (A 5 j = d ∧ A 6 j = v)) → Go SR mX11_seenLine 42 [(0, .ref 0), (1, .int l1), (2, .int (nI d)), (3, .int (nI v)), (4, .int (nI i))] [] w Q := by
  have tU := aB.2.2.2.2.1
  have tD := aB.2.2.1
  have e2 := hS.2.2.1.2.2.2
  have h13 := hS.2.1.1
  intro r
  induction r with
  | zero =>
    intro i hi hm
    have ei : i = A 9 4 := by omega
    rw [ei]
    refine c0 ?_
    rintro ⟨j, g1, g2⟩
    exact hm j (by omega) g2
  | succ r ih =>
    intro i hi hm
    obtain ⟨g1, g2, -, -⟩ := hS.2.2.2.2.2.2 i (by omega)
    have b := aB.2.2.2.2.2.2.2.2 i (by omega)
    have b2 := (aB.2.2.2.2.2.2.1 _ b.1).2.2.2.2.1
    have b3 := b.2.1
    have nx : ¬ (A 5 i = d ∧ A 6 i = v) → Go SR mX11_seenLine 42 [(0, .ref 0), (1, .int l1), (2, .int (nI d)), (3, .int (nI v)), (4, .int (nI (i + 1)))] [] w Q := by
      intro y
      refine ih (i + 1) (by omega) (fun j hj => ?_)
      by_cases q : j = i
      · subst q
        exact y
      · exact hm j (by omega)
    refine BX11_seenLine_42 _ _ _ _ w hR Q ⟨fun z => absurd z (by rw [e2]; exact nI_ge (by omega) (by omega)), fun _ => ⟨fun _ => ?_, fun z => absurd h13 z⟩⟩
    rw [n78, n770, nI_clamp (by omega), nI_clamp (by omega), g1, g2, nI_1]
    refine ⟨nI_in (by omega) (by decide), fun y1 => ⟨nI_in (by omega) (by decide), fun y2 => ?_, fun y2 => nx (fun z => y2 (by rw [z.2]))⟩, fun y1 => nx (fun z => y1 (by rw [z.1]))⟩
    rw [wr_0 h13 hT.1]
    exact g_seF (w := fW 3 s w) hR fW_13 tU ((fW_a (by decide)).trans e2) _ _ _ (c1 ⟨i, by omega, (nI_eq (by omega) (by omega)).mp y1, (nI_eq (by omega) (by omega)).mp y2⟩) r (i + 1) (by omega)
theorem r_seen {w : Wd} (hR : w.2.2 = RM) {T : Nat → Int32} {n p s e kd : Nat} {A : AT} (aB : AB n A) (hS : RS T n A w) (h0 : A 9 0 ≠ 0) (hU : A 9 4 < 6) (tk : Tok T n p s e kd) (hT : TRk T s e kd w) {F : Int32 → Nat → Prop} {O : AT → Nat → Nat → Nat → Prop} (sp : (¬ NmP T s e kd ∧ F 1 s) ∨ (NmP T s e kd ∧ (((∀ d, d < A 9 2 → ¬ SN T s e (A 0) (A 1) d) ∧ F 2 s) ∨ (∃ d, d < A 9 2 ∧ SN T s e (A 0) (A 1) d ∧ (∀ j, j < d → ¬ SN T s e (A 0) (A 1) j) ∧ ∃ s2 e2 k2, Tok T n e s2 e2 k2 ∧ SpN T s2 e2 k2 (A 2 d) F (fun v => (EsT A d v ∧ F 3 s2) ∨ (¬ EsT A d v ∧ SpC T n e2 F (fun f t s5 e5 k5 => O (aE A d v f t) s5 e5 k5))))))) {Q : Wd → Prop} (kF : ∀ f q w', F f q → FlR w w' f q → Q w') (kO : ∀ A' p' s' e' k' w', O A' s' e' k' → Tok T n p' s' e' k' → s ≤ s' → AB n A' → RS T n A' w' → TRk T s' e' k' w' → FrR w w' → Q w') : ClV SR mX11_seenLine [.ref 0] w (fun w2 => w2.2.2 = RM ∧ Q w2) := by
  have h13 := hS.2.1.1
  have tU := aB.2.2.2.2.1
  have tD := aB.2.2.1
  refine TX11_seenLine w hR _ ⟨fun _ => ?_, fun z => absurd h13 z⟩
  rw [hS.2.2.1.2.2.2, n770]
  refine r_told hR aB hS tk hT (O := fun d s2 e2 k2 => SpN T s2 e2 k2 (A 2 d) F (fun v => (EsT A d v ∧ F 3 s2) ∨ (¬ EsT A d v ∧ SpC T n e2 F (fun f t s5 e5 k5 => O (aE A d v f t) s5 e5 k5)))) (F := F) sp ?_ ?_
  · intro f q w' hF fl e4
    have R' : w'.2.2 = RM := fl.1.1.trans hR
    rw [(n_RF fl.2.1 _).1, (n_RF fl.2.1 _).2]
    refine ⟨show ¬ ((4 + 0 : Int32) < 0 ∨ 146 ≤ (4 + 0 : Int32).toNatClampNeg) by decide, ?_⟩
    have := g_seF R' fl.2.1 tU ((e4 3).trans hS.2.2.1.2.2.2) (nI (77 + 4 * A 9 4)) 0 0 (Q := fun r w' => r = none ∧ w'.2.2 = RM ∧ Q w') ⟨rfl, R', kF f q w' hF fl⟩ (A 9 4) 0 (Nat.zero_add _)
    rw [nI_0] at this
    exact this
  · intro d s2 e2 k2 w2 hd tk2 sp f2 c2
    have R2 : w2.2.2 = RM := f2.1.trans hR
    have S2 := hS.st f2
    have F2 := (FrR.rf w).st f2
    have gd := aB.2.2.2.2.2.2.1 d hd
    have tb := tok_b tk
    have tb2 := tok_b tk2
    have q2 := tk2.1
    rw [n4, nI_clamp (by omega), (S2.2.2.2.1 d hd).1]
    refine ⟨nI_in (by omega) (by decide), ?_⟩
    have fin : ∀ f w3, F f s2 → FlR w w3 f s2 → w3.2.2 = RM → wi w3 4 3 = nI (A 9 4) → ∀ l3, Go SR mX11_seenLine 42 [(0, .ref 0), (1, .int (nI (77 + 4 * A 9 4))), (2, .int (nI d)), (3, .int l3), (4, .int 0)] [] w3 (fun r w' => r = none ∧ w'.2.2 = RM ∧ Q w') := fun f w3 hF fl R3 e3 l3 => by
      have := g_seF R3 fl.2.1 tU e3 (nI (77 + 4 * A 9 4)) (nI d) l3 (Q := fun r w' => r = none ∧ w'.2.2 = RM ∧ Q w') ⟨rfl, R3, kF f s2 w3 hF fl⟩ (A 9 4) 0 (Nat.zero_add _)
      rw [nI_0] at this
      exact this
    have fw2 : ∀ f, wi (fW f s2 w2) 4 3 = nI (A 9 4) := fun f => (fW_a (by decide)).trans S2.2.2.1.2.2.2
    rcases sp with ⟨g1, hF⟩ | ⟨g1, v, hv, dv, ⟨g2, hF⟩ | ⟨g2, hO⟩⟩
    · rw [(n_R1 S2.2.1.1 c2 tk2 g1 _).1, (n_R1 S2.2.1.1 c2 tk2 g1 _).2]
      exact fin 1 _ hF (fl_R F2 1 s2) R2 (fw2 1) _
    · rw [((n_R2 S2.2.1.1 c2 tk2 g1 dv hv (m := A 2 d) (by omega) rfl).1 (by omega)).1, ((n_R2 S2.2.1.1 c2 tk2 g1 dv hv (m := A 2 d) (by omega) rfl).1 (by omega)).2]
      exact fin 4 _ hF (fl_R F2 4 s2) R2 (fw2 4) _
    · rw [((n_R2 S2.2.1.1 c2 tk2 g1 dv hv (m := A 2 d) (by omega) rfl).2 (by omega)).1, ((n_R2 S2.2.1.1 c2 tk2 g1 dv hv (m := A 2 d) (by omega) rfl).2 (by omega)).2]
      have := g_seR R2 aB S2 c2 (d := d) (v := v) (by omega) (by omega) (nI (77 + 4 * A 9 4)) (Q := fun r w' => r = none ∧ w'.2.2 = RM ∧ Q w') ?_ ?_ (A 9 4) 0 (Nat.zero_add _) (fun j hj => absurd hj (Nat.not_lt_zero j))
      · rw [nI_0] at this
        exact this
      · intro u
        rcases hO with ⟨-, hF⟩ | ⟨z, -⟩
        · exact ⟨rfl, R2, kF 3 s2 _ hF (fl_R F2 3 s2)⟩
        · exact absurd u z
      · intro u
        rcases hO with ⟨z, -⟩ | ⟨-, sp⟩
        · exact absurd z u
        · refine BX11_seenLine_42 _ _ _ _ w2 R2 _ ⟨fun _ => ?_, fun z => absurd (by rw [S2.2.2.1.2.2.2]; exact nI_le (Nat.le_refl _) (by omega)) z⟩
          exact r_corn R2 aB S2 h0 hU hd g2 tk2 c2 (by omega) sp (fun f q w' hF fl => kF f q w' hF ⟨F2.tr fl.1, fl.2⟩) (fun A' p' s' e' k' w' hO' tk' hs' aB' hS' hT' hF' => kO A' p' s' e' k' w' hO' tk' (by omega) aB' hS' hT' (F2.tr hF')) _ rfl
theorem r_beg {w : Wd} (hR : w.2.2 = RM) {T : Nat → Int32} {n p s e kd a : Nat} {A : AT} {x : Int32} (ha : a < nST) (aB : AB n A) (hS : RS T n A w) (tk : Tok T n p s e kd) (hT : TRk T s e kd w) (hx : x = 0 → A 9 0 ≠ 0) {Q : Int32 → Wd → Prop} (c0 : ¬ IsW T s e kd a → Q 0 w) (c6 : IsW T s e kd a → A 9 0 = 0 → Q 1 (fW 6 s w)) (c5 : IsW T s e kd a → x = 0 → A 9 0 ≠ 0 → Q 1 (fW 5 s w)) (c1 : IsW T s e kd a → A 9 0 ≠ 0 → ¬ x = 0 → ClV SR mX11_next [.ref 0] w (fun w2 => w2.2.2 = RM ∧ Q 1 w2)) : ClI SR mX11_begins [.ref 0, .ref (1000 + a), .int x] w (fun x w2 => w2.2.2 = RM ∧ Q x w2) := by
  have h13 := hS.2.1.1
  have h14 := hS.2.1.2.1
  have t1 := aB.1
  have e14 : wi w 0 14 = 0 ↔ A 9 0 = 0 := by
    rw [h14]
    exact nI_eq (b := 0) (by omega) (by decide)
  refine TX11_begins a ha x w hR _ (z_isWR hR h13 hT (tok_12 tk) (tok_b tk).2.2.2.2.2.2 ha (fun q => ⟨fun z => absurd z (by decide), fun _ => ⟨fun z => ?_, fun z => ?_⟩⟩) (fun q => ⟨fun _ => ⟨_, rfl, hR, c0 q⟩, fun z => absurd rfl z⟩))
  · have y0 := hx z
    rw [wr_0 h13 hT.1]
    have f14 : wi (fW 5 s w) 0 14 = wi w 0 14 := (wi_ne (Or.inr (by decide))).trans ((wi_ne (Or.inr (by decide))).trans (wi_ne (Or.inr (by decide))))
    refine ⟨fun y => absurd (e14.mp (f14.symm.trans y)) y0, fun _ => p_F (w := fW 5 s w) hR fW_13 ⟨_, rfl, hR, c5 q z y0⟩⟩
  · rw [wr_0 h13 hT.1]
    refine ⟨fun y => p_F (w := fW 6 s w) hR fW_13 ⟨_, rfl, hR, c6 q (e14.mp y)⟩, fun y => ?_⟩
    have y0 : A 9 0 ≠ 0 := fun z2 => y (e14.mpr z2)
    refine TX11_pass w hR _ ⟨fun _ => ?_, fun z => absurd h13 z⟩
    exact ClV.mono (fun w' h => ⟨h.1, rfl, h.1, _, rfl, h.1, h.2⟩) (c1 q y0 z)
theorem r_line {w : Wd} (hR : w.2.2 = RM) {T : Nat → Int32} {n p s e kd : Nat} {A : AT} (aB : AB n A) (hS : RS T n A w) (tk : Tok T n p s e kd) (hT : TRk T s e kd w) {F : Int32 → Nat → Prop} {O : AT → Nat → Nat → Nat → Prop} (sp : SpL T n s e kd A F O) {Q : Wd → Prop} (kF : ∀ f q w', F f q → FlR w w' f q → Q w') (kO : ∀ A' p' s' e' k' w', O A' s' e' k' → Tok T n p' s' e' k' → s ≤ s' → AB n A' → RS T n A' w' → TRk T s' e' k' w' → FrR w w' → Q w') : ClV SR mX11_readLine [.ref 0] w (fun w2 => w2.2.2 = RM ∧ Q w2) := by
  have h13 := hS.2.1.1
  have t1 := aB.1
  have tD := aB.2.2.1
  have tU := aB.2.2.2.1
  have tE := aB.2.2.2.2.1
  have tb := tok_b tk
  have hk := tb.2.2.2.2.2.2
  have z0 := aB.2.2.2.2.2.1
  have e1 : ∀ {a m v : Nat}, v ≤ 6 → m ≤ 6 → ((if nI m ≤ nI v then 0 else 1 : Int32) = 0 ↔ m ≤ v) := by
    intro a m v hv hm
    by_cases c : m ≤ v
    · rw [if_pos (nI_le c (by omega))]
      exact ⟨fun _ => c, fun _ => rfl⟩
    · rw [if_neg (nI_ge (by omega) (by omega))]
      exact ⟨fun z => absurd z (by decide), fun z => absurd z c⟩
  have eD : (if 5 ≤ wi w 4 1 then 0 else 1 : Int32) = 0 ↔ 5 ≤ A 9 2 := by
    rw [hS.2.2.1.2.1]
    exact e1 (a := 0) (m := 5) (by omega) (by decide)
  have eU : (if 4 ≤ wi w 4 2 then 0 else 1 : Int32) = 0 ↔ 4 ≤ A 9 3 := by
    rw [hS.2.2.1.2.2.1]
    exact e1 (a := 0) (m := 4) (by omega) (by decide)
  have eE : (if 6 ≤ wi w 4 3 then 0 else 1 : Int32) = 0 ↔ 6 ≤ A 9 4 := by
    rw [hS.2.2.1.2.2.2]
    exact e1 (a := 0) (m := 6) (by omega) (by decide)
  refine TX11_readLine w hR _ ?_
  refine z_isWR (a := 0) hR h13 hT (tok_12 tk) hk (by decide) (fun q => ⟨fun z => absurd z (by decide), fun _ => ?_⟩) (fun q0 => ⟨fun _ => ?_, fun z => absurd rfl z⟩)
  · rcases sp with ⟨-, sp⟩ | ⟨z, -⟩
    · have k1 := q.1
      exact r_slips hR aB hS tk hT (by omega) sp (fun f q w' hF fl => ⟨rfl, fl.1.1.trans hR, kF f q w' hF fl⟩) (fun v p' s' e' k' w' hO tk' hs hv hS' hT' hF' => ⟨rfl, hF'.1.trans hR, kO _ p' s' e' k' w' hO tk' hs (aB.adH hv) hS' hT' hF'⟩)
    · exact absurd q z
  have sp1 : (IsW T s e kd 1 ∧ SpD T n s e A F O) ∨ (¬ IsW T s e kd 1 ∧ ((IsW T s e kd 2 ∧ SpU T n s e A F O) ∨ (¬ IsW T s e kd 2 ∧ ((IsW T s e kd 3 ∧ SpE T n s e A F O) ∨ (¬ IsW T s e kd 3 ∧ F 1 s))))) := by
    rcases sp with ⟨z, -⟩ | ⟨-, z⟩
    · exact absurd z q0
    · exact z
  have bF : ∀ f, wi (fW f s w) 0 13 = 0 → False := fun f z => fW_13 z
  refine r_beg (a := 1) hR (by decide) aB hS tk hT (fun z z2 => ?_) (fun q1 => ⟨fun _ => ?_, fun z => absurd rfl z⟩) (fun q z => ⟨fun z => absurd z (by decide), fun _ => ?_⟩) (fun q z z2 => ⟨fun z => absurd z (by decide), fun _ => ?_⟩) (fun q z z2 => ?_)
  · have := eD.mp z
    have := (z0 z2).2.1
    omega
  rotate_left
  · refine TX11_danceLine (fW 6 s w) hR _ ⟨fun y => absurd y fW_13, fun _ => ⟨rfl, hR, ?_⟩⟩
    rcases sp1 with ⟨-, ⟨-, hF⟩ | ⟨y, -⟩⟩ | ⟨y, -⟩
    · exact ⟨rfl, hR, kF 6 s _ hF (fl_R (FrR.rf w) 6 s)⟩
    · exact absurd z y
    · exact absurd q y
  · refine TX11_danceLine (fW 5 s w) hR _ ⟨fun y => absurd y fW_13, fun _ => ⟨rfl, hR, ?_⟩⟩
    rcases sp1 with ⟨-, ⟨y, -⟩ | ⟨-, ⟨-, hF⟩ | ⟨y, -⟩⟩⟩ | ⟨y, -⟩
    · exact absurd y z2
    · exact ⟨rfl, hR, kF 5 s _ hF (fl_R (FrR.rf w) 5 s)⟩
    · exact absurd (eD.mp z) (by omega)
    · exact absurd q y
  · rcases sp1 with ⟨-, ⟨y, -⟩ | ⟨-, ⟨y, -⟩ | ⟨y, s1, e1, k1, tk1, sp⟩⟩⟩ | ⟨y, -⟩
    · exact absurd y z
    · exact absurd (eD.mpr y) z2
    · have k1' := q.1
      have q1 := tk1.1
      have b0 := tb.2.2.1
      refine z_next hR hS.1 (hT.2.2.1 (by omega)) tk1 (fun w1 f1 c1 => ⟨fun z => absurd z (by decide), fun _ => ?_⟩)
      have R1 : w1.2.2 = RM := f1.1.trans hR
      have F1 := (FrR.rf w).st f1
      exact r_dance R1 aB (hS.st f1) z y tk1 c1 sp (fun f q w' hF fl => ⟨rfl, fl.1.1.trans R1, kF f q w' hF ⟨F1.tr fl.1, fl.2⟩⟩) (fun A' p' s' e' k' w' hO tk' hs aB' hS' hT' hF' => ⟨rfl, hF'.1.trans R1, kO A' p' s' e' k' w' hO tk' (by omega) aB' hS' hT' (F1.tr hF')⟩)
    · exact absurd q y
  have sp2 : (IsW T s e kd 2 ∧ SpU T n s e A F O) ∨ (¬ IsW T s e kd 2 ∧ ((IsW T s e kd 3 ∧ SpE T n s e A F O) ∨ (¬ IsW T s e kd 3 ∧ F 1 s))) := by
    rcases sp1 with ⟨z, -⟩ | ⟨-, z⟩
    · exact absurd z q1
    · exact z
  refine r_beg (a := 2) hR (by decide) aB hS tk hT (fun z z2 => ?_) (fun q2 => ⟨fun _ => ?_, fun z => absurd rfl z⟩) (fun q z => ⟨fun z => absurd z (by decide), fun _ => ?_⟩) (fun q z z2 => ⟨fun z => absurd z (by decide), fun _ => ?_⟩) (fun q z z2 => ?_)
  · have := eU.mp z
    have := (z0 z2).2.2.1
    omega
  rotate_left
  · refine TX11_unsureLine (fW 6 s w) hR _ ⟨fun y => absurd y fW_13, fun _ => ⟨rfl, hR, ?_⟩⟩
    rcases sp2 with ⟨-, ⟨-, hF⟩ | ⟨y, -⟩⟩ | ⟨y, -⟩
    · exact ⟨rfl, hR, kF 6 s _ hF (fl_R (FrR.rf w) 6 s)⟩
    · exact absurd z y
    · exact absurd q y
  · refine TX11_unsureLine (fW 5 s w) hR _ ⟨fun y => absurd y fW_13, fun _ => ⟨rfl, hR, ?_⟩⟩
    rcases sp2 with ⟨-, ⟨y, -⟩ | ⟨-, ⟨-, hF⟩ | ⟨y, -⟩⟩⟩ | ⟨y, -⟩
    · exact absurd y z2
    · exact ⟨rfl, hR, kF 5 s _ hF (fl_R (FrR.rf w) 5 s)⟩
    · exact absurd (eU.mp z) (by omega)
    · exact absurd q y
  · rcases sp2 with ⟨-, ⟨y, -⟩ | ⟨-, ⟨y, -⟩ | ⟨y, s1, e1, k1, tk1, sp⟩⟩⟩ | ⟨y, -⟩
    · exact absurd y z
    · exact absurd (eU.mpr y) z2
    · have k1' := q.1
      have q1 := tk1.1
      have b0 := tb.2.2.1
      refine z_next hR hS.1 (hT.2.2.1 (by omega)) tk1 (fun w1 f1 c1 => ⟨fun z => absurd z (by decide), fun _ => ?_⟩)
      have R1 : w1.2.2 = RM := f1.1.trans hR
      have F1 := (FrR.rf w).st f1
      exact r_uns R1 aB (hS.st f1) z y tk1 c1 sp (fun f q w' hF fl => ⟨rfl, fl.1.1.trans R1, kF f q w' hF ⟨F1.tr fl.1, fl.2⟩⟩) (fun A' p' s' e' k' w' hO tk' hs aB' hS' hT' hF' => ⟨rfl, hF'.1.trans R1, kO A' p' s' e' k' w' hO tk' (by omega) aB' hS' hT' (F1.tr hF')⟩)
    · exact absurd q y
  have sp3 : (IsW T s e kd 3 ∧ SpE T n s e A F O) ∨ (¬ IsW T s e kd 3 ∧ F 1 s) := by
    rcases sp2 with ⟨z, -⟩ | ⟨-, z⟩
    · exact absurd z q2
    · exact z
  refine r_beg (a := 3) hR (by decide) aB hS tk hT (fun z z2 => ?_) (fun q3 => ⟨fun _ => ?_, fun z => absurd rfl z⟩) (fun q z => ⟨fun z => absurd z (by decide), fun _ => ?_⟩) (fun q z z2 => ⟨fun z => absurd z (by decide), fun _ => ?_⟩) (fun q z z2 => ?_)
  · have := eE.mp z
    have := (z0 z2).2.2.2
    omega
  · rcases sp3 with ⟨z, -⟩ | ⟨-, hF⟩
    · exact absurd z q3
    · rw [wr_0 h13 hT.1]
      exact ⟨rfl, hR, kF 1 s _ hF (fl_R (FrR.rf w) 1 s)⟩
  · refine TX11_seenLine (fW 6 s w) hR _ ⟨fun y => absurd y fW_13, fun _ => ⟨rfl, hR, ?_⟩⟩
    rcases sp3 with ⟨-, ⟨-, hF⟩ | ⟨y, -⟩⟩ | ⟨y, -⟩
    · exact ⟨rfl, hR, kF 6 s _ hF (fl_R (FrR.rf w) 6 s)⟩
    · exact absurd z y
    · exact absurd q y
  · refine TX11_seenLine (fW 5 s w) hR _ ⟨fun y => absurd y fW_13, fun _ => ⟨rfl, hR, ?_⟩⟩
    rcases sp3 with ⟨-, ⟨y, -⟩ | ⟨-, ⟨-, hF⟩ | ⟨y, -⟩⟩⟩ | ⟨y, -⟩
    · exact absurd y z2
    · exact ⟨rfl, hR, kF 5 s _ hF (fl_R (FrR.rf w) 5 s)⟩
    · exact absurd (eE.mp z) (by omega)
    · exact absurd q y
  · rcases sp3 with ⟨-, ⟨y, -⟩ | ⟨-, ⟨y, -⟩ | ⟨y, s1, e1, k1, tk1, sp⟩⟩⟩ | ⟨y, -⟩
    · exact absurd y z
    · exact absurd (eE.mpr y) z2
    · have k1' := q.1
      have q1 := tk1.1
      have b0 := tb.2.2.1
      refine z_next hR hS.1 (hT.2.2.1 (by omega)) tk1 (fun w1 f1 c1 => ⟨fun z => absurd z (by decide), fun _ => ?_⟩)
      have R1 : w1.2.2 = RM := f1.1.trans hR
      have F1 := (FrR.rf w).st f1
      exact r_seen R1 aB (hS.st f1) z y tk1 c1 sp (fun f q w' hF fl => ⟨rfl, fl.1.1.trans R1, kF f q w' hF ⟨F1.tr fl.1, fl.2⟩⟩) (fun A' p' s' e' k' w' hO tk' hs aB' hS' hT' hF' => ⟨rfl, hF'.1.trans R1, kO A' p' s' e' k' w' hO tk' (by omega) aB' hS' hT' (F1.tr hF')⟩)
    · exact absurd q y
