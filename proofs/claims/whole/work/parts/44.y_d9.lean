/-! the reference's lines: a dance -/
theorem RS.nm {T : Nat → Int32} {n : Nat} {A : AT} {w : Wd} (h : RS T n A w) : NmR T (A 9 2) (A 0) (A 1) w := ⟨fun d hd => ⟨(h.2.2.2.1 d hd).2.1, (h.2.2.2.1 d hd).2.2.1⟩, h.2.2.2.2.1⟩
theorem TRk.fw {T : Nat → Int32} {s e kd : Nat} {w w' : Wd} (h : TRk T s e kd w) (hf : ∀ a i, a = 2 ∨ (a = 0 ∧ 4 ≤ i ∧ i ≤ 8) → wi w' a i = wi w a i) : TRk T s e kd w' :=
  ⟨(hf 0 4 (by omega)).trans h.1, (hf 0 6 (by omega)).trans h.2.1, fun z => (hf 0 5 (by omega)).trans (h.2.2.1 z), fun z => ⟨(hf 0 8 (by omega)).trans (h.2.2.2.1 z).1, fun j hj => (hf 2 j (by omega)).trans ((h.2.2.2.1 z).2 j hj)⟩, fun z => (hf 0 7 (by omega)).trans (h.2.2.2.2 z)⟩
def DWr (D : Nat) (w w' : Wd) : Prop := w'.2.2 = w.2.2 ∧ ∀ a i, a ≠ 2 → ¬ (a = 0 ∧ 4 ≤ i ∧ i ≤ 8) → ¬ (a = 4 ∧ (i = 101 + D ∨ (106 + 8 * D ≤ i ∧ i < 114 + 8 * D) ∨ (9 + 12 * D ≤ i ∧ i < 21 + 12 * D))) → wi w' a i = wi w a i
theorem DWr.rf (D : Nat) (w : Wd) : DWr D w w := ⟨rfl, fun _ _ _ _ _ => rfl⟩
theorem DWr.st {D : Nat} {w w' w2 : Wd} (h : DWr D w w') (h2 : StR w' w2) : DWr D w w2 := ⟨h2.1.trans h.1, fun a i q r t => (h2.2 a i q r).trans (h.2 a i q r t)⟩
theorem DWr.s4 {D : Nat} {w w' : Wd} (h : DWr D w w') {i : Nat} {v : Int32} (hi : i = 101 + D ∨ (106 + 8 * D ≤ i ∧ i < 114 + 8 * D) ∨ (9 + 12 * D ≤ i ∧ i < 21 + 12 * D)) : DWr D w (si w' 4 i v) := ⟨h.1, fun a j q r t => (wi_ne (by omega)).trans (h.2 a j q r t)⟩
theorem DWr.fr {D : Nat} {w w' : Wd} (h : DWr D w w') : FrR w w' := ⟨h.1, fun a i q r t => h.2 a i q (by omega) (by omega)⟩
theorem DWr.tx {D n : Nat} {T : Nat → Int32} {w w' : Wd} (h : DWr D w w') (hT : TXR T n w) : TXR T n w' := ⟨hT.1, (h.2 0 3 (by decide) (by decide) (by omega)).trans hT.2.1, fun k hk => ⟨(h.2 1 k (by decide) (by omega) (by omega)).trans (hT.2.2 k hk).1, (hT.2.2 k hk).2⟩⟩
theorem n106' (D k : Nat) : 106 + 8 * nI D + nI k = nI (106 + 8 * D + k) := n106 D k
theorem g_nmW {w0 : Wd} (hR : w0.2.2 = RM) {D L : Nat} (hD : D < 5) (hL : L ≤ 8) (h8 : wi w0 0 8 = nI L) {Q : Option Value → Wd → Prop} (kk : ∀ w', w'.2.2 = RM → (∀ a i, ¬ (a = 4 ∧ 106 + 8 * D ≤ i ∧ i < 114 + 8 * D) → wi w' a i = wi w0 a i) → (∀ j, j < L → wi w' 4 (106 + 8 * D + j) = wi w0 2 j) → ClV SR mX11_next [.ref 0] (si w' 4 (101 + D) (nI L)) (fun w2 => w2.2.2 = RM ∧ Q none w2)) : ∀ (r j : Nat) (w : Wd), j + r = L → w.2.2 = RM → (∀ a i, ¬ (a = 4 ∧ 106 + 8 * D ≤ i ∧ i < 114 + 8 * D) → wi w a i = wi w0 a i) → (∀ i, i < j → wi w 4 (106 + 8 * D + i) = wi w0 2 i) → Go SR mX11_newName 45 [(0, .ref 0), (1, .int (nI D)), (2, .int (nI j))] [] w Q := by
  intro r
  induction r with
  | zero =>
    intro j w hj hw hf hl
    have ej : j = L := by omega
    have e8 : wi w 0 8 = nI L := (hf 0 8 (by omega)).trans h8
    refine BX11_newName_45 _ _ w hw Q ⟨fun _ => ?_, fun z => absurd (by rw [e8]; exact nI_le (by omega) (by omega)) z⟩
    rw [n101, nI_clamp (by omega), e8]
    exact ⟨nI_in (by omega) (by decide), kk w hw hf (fun i hi => hl i (by omega))⟩
  | succ r ih =>
    intro j w hj hw hf hl
    have e8 : wi w 0 8 = nI L := (hf 0 8 (by omega)).trans h8
    refine BX11_newName_45 _ _ w hw Q ⟨fun z => absurd z (by rw [e8]; exact nI_ge (by omega) (by omega)), fun _ => ?_⟩
    rw [n106, nI_clamp (by omega), nI_clamp (by omega), nI_1]
    refine ⟨nI_in (by omega) (by decide), nI_in (by omega) (by decide), ih (j + 1) _ (by omega) hw (fun a i q => (wi_ne (by omega)).trans (hf a i q)) (fun i hi => ?_)⟩
    by_cases c : i = j
    · subst c
      exact (wi_self _ _ _ _).trans (hf 2 i (by omega))
    · exact (wi_ne (by omega)).trans (hl i (by omega))
theorem first_eq {P : Nat → Prop} {i j : Nat} (h1 : P i) (h2 : ∀ k, k < i → ¬ P k) (h3 : P j) (h4 : ∀ k, k < j → ¬ P k) : i = j := by
  by_cases c : i < j
  · exact absurd h1 (h4 i c)
  · by_cases c2 : j < i
    · exact absurd h3 (h2 j c2)
    · omega
theorem r_name {w : Wd} (hR : w.2.2 = RM) {T : Nat → Int32} {n p s e kd : Nat} {A : AT} (aB : AB n A) (hS : RS T n A w) (hD : A 9 2 < 5) (tk : Tok T n p s e kd) (hT : TRk T s e kd w) {F : Int32 → Nat → Prop} {O : Nat → Nat → Nat → Prop} (sp : (¬ NmP T s e kd ∧ F 1 s) ∨ (NmP T s e kd ∧ (((∃ d, d < A 9 2 ∧ SN T s e (A 0) (A 1) d ∧ ∀ j, j < d → ¬ SN T s e (A 0) (A 1) j) ∧ F 3 s) ∨ ((∀ d, d < A 9 2 → ¬ SN T s e (A 0) (A 1) d) ∧ ∃ s2 e2 k2, Tok T n e s2 e2 k2 ∧ O s2 e2 k2)))) {Q : Wd → Prop} (kF : ∀ f q w', F f q → FlR w w' f q → Q w') (kO : ∀ s2 e2 k2 w', NmP T s e kd → Tok T n e s2 e2 k2 → O s2 e2 k2 → DWr (A 9 2) w w' → wi w' 4 (101 + A 9 2) = nI (e - s) → (∀ j, j < e - s → wi w' 4 (106 + 8 * A 9 2 + j) = T (s + j)) → TRk T s2 e2 k2 w' → Q w') : ClV SR mX11_newName [.ref 0, .int (nI (A 9 2))] w (fun w2 => w2.2.2 = RM ∧ Q w2) := by
  have h13 := hS.2.1.1
  have tb := tok_b tk
  have hk := tb.2.2.2.2.2.2
  have badN : NmP T s e kd → ¬ (¬ NmP T s e kd ∧ F 1 s) := fun h z => z.1 h
  refine TX11_newName _ w hR _ ⟨fun _ => ?_, fun z => absurd h13 z⟩
  refine z_mustName hR h13 hT (tok_12 tk) hk (fun q => ⟨fun _ => ?_, fun z => absurd h13 z⟩) (fun q => ⟨fun z => absurd z fW_13, fun _ => ⟨fun z => absurd z fW_13, fun _ => ⟨rfl, hR, ?_⟩⟩⟩)
  · obtain ⟨h8, ht⟩ := hT.2.2.2.1 q.1
    have hL := q.2.1
    have h1 := (tb.2.2.2.2.1 q.1).1
    have sp2 : ((∃ d, d < A 9 2 ∧ SN T s e (A 0) (A 1) d ∧ ∀ j, j < d → ¬ SN T s e (A 0) (A 1) j) ∧ F 3 s) ∨ ((∀ d, d < A 9 2 → ¬ SN T s e (A 0) (A 1) d) ∧ ∃ s2 e2 k2, Tok T n e s2 e2 k2 ∧ O s2 e2 k2) := by
      rcases sp with z | z
      · exact absurd z (badN q)
      · exact z.2
    refine z_find hR (hN_C aB) hS.nm h8 (by omega) (by omega) ht (fun d g1 g2 g3 => ⟨fun z => absurd z (nI_pos (by have := aB.2.2.1; omega)), fun _ => ?_⟩) (fun g => ⟨fun _ => ⟨fun _ => ?_, fun z => absurd h13 z⟩, fun z => absurd (by decide) z⟩)
    · rw [wr_0 h13 hT.1]
      refine ⟨fun z => absurd z fW_13, fun _ => ⟨rfl, hR, ?_⟩⟩
      rcases sp2 with ⟨-, z⟩ | ⟨z, -⟩
      · exact kF 3 s _ z (fl_R (FrR.rf w) 3 s)
      · exact absurd g2 (z d g1)
    · rcases sp2 with ⟨⟨d, y1, y2, -⟩, -⟩ | ⟨-, s2, e2, k2, tk2, hO⟩
      · exact absurd y2 (g d y1)
      · rw [← nI_0]
        refine g_nmW hR hD hL h8 (fun w' hw hf hl => ?_) (e - s) 0 w (Nat.zero_add _) hR (fun _ _ _ => rfl) (fun i hi => absurd hi (Nat.not_lt_zero i))
        have dw : DWr (A 9 2) w (si w' 4 (101 + A 9 2) (nI (e - s))) := DWr.s4 ⟨hw.trans hR.symm, fun a i x y z => hf a i (by omega)⟩ (Or.inl rfl)
        refine z_next (w := si w' 4 (101 + A 9 2) (nI (e - s))) hw (dw.tx hS.1) ((wi_ne (Or.inl (by decide))).trans ((hf 0 5 (by omega)).trans (hT.2.2.1 (by have := q.1; omega)))) tk2 (fun w2 f2 c2 => ⟨rfl, f2.1.trans hw, ?_⟩)
        refine kO s2 e2 k2 w2 q tk2 hO (dw.st f2) ((f2.2 4 _ (by decide) (by omega)).trans (wi_self _ _ _ _)) (fun j hj => ?_) c2
        exact (f2.2 4 _ (by decide) (by omega)).trans ((wi_ne (by omega)).trans ((hl j hj).trans (ht j hj)))
  · rcases sp with ⟨-, z⟩ | ⟨z, -⟩
    · exact kF 1 s _ z (fl_R (FrR.rf w) 1 s)
    · exact absurd z q
theorem g_dnF {w : Wd} (hR : w.2.2 = RM) (hF : ¬ wi w 0 13 = 0) (l1 l2 : Int32) {Q : Option Value → Wd → Prop} (k : Q none w) : Go SR mX11_danceLine 47 [(0, .ref 0), (1, .int l1), (2, .int l2)] [] w Q :=
  BX11_danceLine_47 _ _ w hR Q ⟨fun _ => ⟨fun z => absurd z hF, fun _ => k⟩, fun _ => ⟨fun z => absurd z hF, fun _ => ⟨fun z => absurd z hF, fun _ => k⟩⟩⟩
theorem fg_code (x : Int32) : (if x = 116 then 0 else (if x = 117 then 1 else 2 : Int32) : Int32) = nI (fgN x) := by
  unfold fgN
  by_cases c1 : x = 116
  · rw [if_pos c1, if_pos c1]
    rfl
  · rw [if_neg c1, if_neg c1]
    by_cases c2 : x = 117
    · rw [if_pos c2, if_pos c2]
      rfl
    · rw [if_neg c2, if_neg c2]
      rfl
theorem g_dnR {w0 : Wd} (hR : w0.2.2 = RM) {D L : Nat} (hD : D < 5) (hL : L ≤ 12) (h8 : wi w0 0 8 = nI L) (h13 : wi w0 0 13 = 0) {s : Nat} (h4 : wi w0 0 4 = nI s) {Q : Option Value → Wd → Prop} (kF : ∀ j, j < L → ¬ Fgl (wi w0 2 j) → ∀ w' v, DWr D w0 w' → Q none (si (fW 7 s w') 4 (9 + 12 * D + j) v)) (kk : (∀ j, j < L → Fgl (wi w0 2 j)) → ∀ w', w'.2.2 = RM → (∀ a i, ¬ (a = 4 ∧ 9 + 12 * D ≤ i ∧ i < 21 + 12 * D) → wi w' a i = wi w0 a i) → (∀ j, j < L → wi w' 4 (9 + 12 * D + j) = nI (fgN (wi w0 2 j))) → ClV SR mX11_next [.ref 0] (si (si w' 4 (4 + D) (nI L)) 4 1 (wi w0 4 1 + 1)) (fun w2 => w2.2.2 = RM ∧ Q none w2)) : ∀ (r j : Nat) (w : Wd), j + r = L → w.2.2 = RM → (∀ a i, ¬ (a = 4 ∧ 9 + 12 * D ≤ i ∧ i < 21 + 12 * D) → wi w a i = wi w0 a i) → (∀ i, i < j → wi w 4 (9 + 12 * D + i) = nI (fgN (wi w0 2 i)) ∧ Fgl (wi w0 2 i)) → Go SR mX11_danceLine 47 [(0, .ref 0), (1, .int (nI D)), (2, .int (nI j))] [] w Q := by
  intro r
  induction r with
  | zero =>
    intro j w hj hw hf hl
    have e8 : wi w 0 8 = nI L := (hf 0 8 (by omega)).trans h8
    have e13 : wi w 0 13 = 0 := (hf 0 13 (by omega)).trans h13
    refine BX11_danceLine_47 _ _ w hw Q ⟨fun _ => ⟨fun _ => ?_, fun z => absurd e13 z⟩, fun z => absurd (by rw [e8]; exact nI_le (by omega) (by omega)) z⟩
    have p1 : ∀ v, wi (si w 4 (4 + D) v) 4 1 = wi w0 4 1 := fun v => (wi_ne (by omega)).trans (hf 4 1 (by omega))
    rw [n4, nI_clamp (by omega), e8, p1]
    exact ⟨nI_in (by omega) (by decide), kk (fun i hi => (hl i (by omega)).2) w hw hf (fun i hi => (hl i (by omega)).1)⟩
  | succ r ih =>
    intro j w hj hw hf hl
    have e8 : wi w 0 8 = nI L := (hf 0 8 (by omega)).trans h8
    have e13 : wi w 0 13 = 0 := (hf 0 13 (by omega)).trans h13
    have e4 : wi w 0 4 = nI s := (hf 0 4 (by omega)).trans h4
    have e2 : wi w 2 j = wi w0 2 j := hf 2 j (by omega)
    have nx : Fgl (wi w0 2 j) → Go SR mX11_danceLine 47 [(0, .ref 0), (1, .int (nI D)), (2, .int (nI (j + 1)))] [] (si w 4 (9 + 12 * D + j) (nI (fgN (wi w0 2 j)))) Q := by
      intro y
      refine ih (j + 1) _ (by omega) hw (fun a i q => (wi_ne (by omega)).trans (hf a i q)) (fun i hi => ?_)
      by_cases c : i = j
      · subst c
        exact ⟨wi_self _ _ _ _, y⟩
      · exact ⟨(wi_ne (by omega)).trans (hl i (by omega)).1, (hl i (by omega)).2⟩
    refine BX11_danceLine_47 _ _ w hw Q ⟨fun z => absurd z (by rw [e8]; exact nI_ge (by omega) (by omega)), fun _ => ⟨fun _ => ?_, fun z => absurd e13 z⟩⟩
    rw [n9, nI_clamp (by omega), nI_clamp (by omega), e2, fg_code, nI_1]
    refine ⟨nI_in (by omega) (by decide), fun z1 => ⟨nI_in (by omega) (by decide), nx (Or.inl z1)⟩, fun z1 => ⟨fun z2 => ⟨nI_in (by omega) (by decide), nx (Or.inr (Or.inl z2))⟩, fun z2 => ⟨fun z3 => ⟨nI_in (by omega) (by decide), nx (Or.inr (Or.inr z3))⟩, fun z3 => ⟨nI_in (by omega) (by decide), ?_⟩⟩⟩⟩
    rw [wr_0 e13 e4]
    refine g_dnF (w := si (fW 7 s w) 4 (9 + 12 * D + j) (nI (fgN (wi w0 2 j)))) hw ?_ _ _ (kF j (by omega) ?_ w _ ⟨hw.trans hR.symm, fun a i x y z => hf a i (by omega)⟩)
    · rw [wi_ne (Or.inl (by decide))]
      exact fW_13
    · rintro (y | y | y)
      · exact z1 y
      · exact z2 y
      · exact z3 y
theorem RS.adD {T : Nat → Int32} {n : Nat} {A : AT} {w w' : Wd} {s l r m : Nat} (h : RS T n A w) (aB : AB n A) (hD : A 9 2 < 5) (hf : ∀ a i, a ≠ 2 → ¬ (a = 0 ∧ 4 ≤ i ∧ i ≤ 8) → ¬ (a = 4 ∧ (i = 1 ∨ i = 4 + A 9 2 ∨ i = 101 + A 9 2 ∨ (106 + 8 * A 9 2 ≤ i ∧ i < 114 + 8 * A 9 2) ∨ (9 + 12 * A 9 2 ≤ i ∧ i < 21 + 12 * A 9 2))) → wi w' a i = wi w a i) (g1 : wi w' 4 1 = nI (A 9 2 + 1)) (g2 : wi w' 4 (4 + A 9 2) = nI m) (g3 : wi w' 4 (101 + A 9 2) = nI l) (g4 : ∀ k, k < l → wi w' 4 (106 + 8 * A 9 2 + k) = T (s + k)) (g5 : ∀ j, j < m → wi w' 4 (9 + 12 * A 9 2 + j) = nI (fgN (T (r + j)))) : RS T n (aD A T s l r m) w' := by
  obtain ⟨h1, ⟨h2, h3, h4⟩, ⟨h5, h6, h7, h8⟩, h9, h10, h11, h12⟩ := h
  obtain ⟨a0, a1, a2, a3, a4⟩ := aD_9 (A := A) (T := T) (s := s) (l := l) (r := r) (m := m)
  have tU := aB.2.2.2.1
  have tE := aB.2.2.2.2.1
  unfold RS
  rw [a0, a1, a2, a3, a4]
  refine ⟨⟨h1.1, (hf 0 3 (by decide) (by decide) (by omega)).trans h1.2.1, fun k hk => ⟨(hf 1 k (by decide) (by omega) (by omega)).trans (h1.2.2 k hk).1, (h1.2.2 k hk).2⟩⟩, ⟨(hf 0 13 (by decide) (by decide) (by omega)).trans h2, (hf 0 14 (by decide) (by decide) (by omega)).trans h3, (hf 0 9 (by decide) (by decide) (by omega)).trans h4⟩, ⟨(hf 4 0 (by decide) (by decide) (by omega)).trans h5, g1, (hf 4 2 (by decide) (by decide) (by omega)).trans h7, (hf 4 3 (by decide) (by decide) (by omega)).trans h8⟩, fun d hd => ?_, fun d hd hd5 => (hf 4 _ (by decide) (by omega) (by omega)).trans (h10 d (by omega) hd5), fun i hi => ?_, fun i hi => ?_⟩
  · by_cases q : d = A 9 2
    · subst q
      obtain ⟨b0, b1, b2⟩ := aD_D (A := A) (T := T) (s := s) (l := l) (r := r) (m := m)
      unfold RD
      rw [b0, b1, b2]
      exact ⟨g2, g3, g4, fun j hj => (g5 j hj).trans (congrArg nI aD_row.symm)⟩
    · obtain ⟨b0, b1, b2⟩ := aD_d (A := A) (T := T) (s := s) (l := l) (r := r) (m := m) q
      have gd := aB.2.2.2.2.2.2.1 d (by omega)
      exact (h9 d (by omega)).cg gd.2.1 gd.2.2.2.2.1 (fun i hi => hf 4 i (by decide) (by omega) (by omega)) b0 b1 b2 (fun j => aD_hi q)
  · obtain ⟨y1, y2⟩ := h11 i hi
    rw [aD_3 (by decide) (by decide), aD_3 (by decide) (by decide)]
    exact ⟨(hf 4 _ (by decide) (by omega) (by omega)).trans y1, (hf 4 _ (by decide) (by omega) (by omega)).trans y2⟩
  · obtain ⟨y1, y2, y3, y4⟩ := h12 i hi
    rw [aD_3 (by decide) (by decide), aD_3 (by decide) (by decide), aD_3 (by decide) (by decide), aD_3 (by decide) (by decide)]
    exact ⟨(hf 4 _ (by decide) (by omega) (by omega)).trans y1, (hf 4 _ (by decide) (by omega) (by omega)).trans y2, (hf 4 _ (by decide) (by omega) (by omega)).trans y3, (hf 4 _ (by decide) (by omega) (by omega)).trans y4⟩
theorem AB.adD {T : Nat → Int32} {n : Nat} {A : AT} {s l r m : Nat} (h : AB n A) (h0 : A 9 0 ≠ 0) (hD : A 9 2 < 5) (g1 : 1 ≤ l) (g2 : l ≤ 8) (g3 : s + l ≤ n) (g4 : 1 ≤ m) (g5 : m ≤ 12) : AB n (aD A T s l r m) := by
  obtain ⟨h1, h2, h3, h4, h5, h6, h7, h8, h9⟩ := h
  obtain ⟨a0, a1, a2, a3, a4⟩ := aD_9 (A := A) (T := T) (s := s) (l := l) (r := r) (m := m)
  unfold AB
  rw [a0, a1, a2, a3, a4]
  refine ⟨h1, h2, by omega, h4, h5, fun z => absurd z h0, fun d hd => ?_, fun i hi => ?_, fun i hi => ?_⟩
  · by_cases q : d = A 9 2
    · subst q
      obtain ⟨b0, b1, b2⟩ := aD_D (A := A) (T := T) (s := s) (l := l) (r := r) (m := m)
      rw [b0, b1, b2]
      exact ⟨g1, g2, g3, g4, g5, fun j hj => by rw [aD_row]; exact fgN_2 _⟩
    · obtain ⟨b0, b1, b2⟩ := aD_d (A := A) (T := T) (s := s) (l := l) (r := r) (m := m) q
      obtain ⟨y1, y2, y3, y4, y5, y6⟩ := h7 d (by omega)
      rw [b0, b1, b2]
      exact ⟨y1, y2, y3, y4, y5, fun j hj => by rw [aD_hi q]; exact y6 j hj⟩
  · obtain ⟨y1, y2⟩ := h8 i hi
    rw [aD_3 (a := 3) (by decide) (by decide), aD_3 (a := 4) (by decide) (by decide), (aD_d (d := A 3 i) (by omega)).2.2]
    exact ⟨by omega, y2⟩
  · obtain ⟨y1, y2, y3, y4, y5⟩ := h9 i hi
    rw [aD_3 (a := 5) (by decide) (by decide), aD_3 (a := 6) (by decide) (by decide), aD_3 (a := 7) (by decide) (by decide), aD_3 (a := 8) (by decide) (by decide), (aD_d (d := A 5 i) (by omega)).2.2]
    exact ⟨by omega, y2, y3, y4, y5⟩
theorem r_dance {w : Wd} (hR : w.2.2 = RM) {T : Nat → Int32} {n p s e kd : Nat} {A : AT} (aB : AB n A) (hS : RS T n A w) (h0 : A 9 0 ≠ 0) (hD : A 9 2 < 5) (tk : Tok T n p s e kd) (hT : TRk T s e kd w) {F : Int32 → Nat → Prop} {O : AT → Nat → Nat → Nat → Prop} (sp : (¬ NmP T s e kd ∧ F 1 s) ∨ (NmP T s e kd ∧ (((∃ d, d < A 9 2 ∧ SN T s e (A 0) (A 1) d ∧ ∀ j, j < d → ¬ SN T s e (A 0) (A 1) j) ∧ F 3 s) ∨ ((∀ d, d < A 9 2 → ¬ SN T s e (A 0) (A 1) d) ∧ ∃ s2 e2 k2, Tok T n e s2 e2 k2 ∧ ((k2 ≠ 1 ∧ F 1 s2) ∨ (k2 = 1 ∧ ((¬ (∀ j, j < e2 - s2 → Fgl (T (s2 + j))) ∧ F 7 s2) ∨ ((∀ j, j < e2 - s2 → Fgl (T (s2 + j))) ∧ ∃ s3 e3 k3, Tok T n e2 s3 e3 k3 ∧ O (aD A T s (e - s) s2 (e2 - s2)) s3 e3 k3)))))))) {Q : Wd → Prop} (kF : ∀ f q w', F f q → FlR w w' f q → Q w') (kO : ∀ A' p' s' e' k' w', O A' s' e' k' → Tok T n p' s' e' k' → s ≤ s' → AB n A' → RS T n A' w' → TRk T s' e' k' w' → FrR w w' → Q w') : ClV SR mX11_danceLine [.ref 0] w (fun w2 => w2.2.2 = RM ∧ Q w2) := by
  have h13 := hS.2.1.1
  refine TX11_danceLine w hR _ ⟨fun _ => ?_, fun z => absurd h13 z⟩
  rw [hS.2.2.1.2.1]
  refine r_name hR aB hS hD tk hT sp (fun f q w' hF fl => ⟨fun z => absurd z fl.2.1, fun _ => ⟨rfl, fl.1.1.trans hR, kF f q w' hF fl⟩⟩) (fun s2 e2 k2 w1 hn tk2 sp dw m1 m2 c1 => ?_)
  have R1 : w1.2.2 = RM := dw.1.trans hR
  have i13 : wi w1 0 13 = 0 := (dw.2 0 13 (by decide) (by decide) (by omega)).trans h13
  have i41 : wi w1 4 1 = nI (A 9 2) := (dw.2 4 1 (by decide) (by decide) (by omega)).trans hS.2.2.1.2.1
  have tb := tok_b tk
  have tb2 := tok_b tk2
  have hn1 := (tb.2.2.2.2.1 hn.1).1
  refine ⟨fun _ => ⟨fun q2 => ?_, fun q2 => ?_⟩, fun z => absurd i13 z⟩
  · have k1 : k2 = 1 := (krf_2 tb2.2.2.2.2.2.2).mp (c1.2.1.symm.trans q2)
    obtain ⟨h8, ht⟩ := c1.2.2.2.1 k1
    have hL := tok_12 tk2 k1
    have h1 := (tb2.2.2.2.2.1 k1).1
    have sp2 : (¬ (∀ j, j < e2 - s2 → Fgl (T (s2 + j))) ∧ F 7 s2) ∨ ((∀ j, j < e2 - s2 → Fgl (T (s2 + j))) ∧ ∃ s3 e3 k3, Tok T n e2 s3 e3 k3 ∧ O (aD A T s (e - s) s2 (e2 - s2)) s3 e3 k3) := by
      rcases sp with z | z
      · exact absurd k1 z.1
      · exact z.2
    rw [← nI_0]
    refine g_dnR R1 hD hL h8 i13 c1.1 (fun j hj z w2 v dw2 => ⟨rfl, dw2.1.trans R1, ?_⟩) (fun hF w2 hw hf hl => ?_) (e2 - s2) 0 w1 (Nat.zero_add _) R1 (fun _ _ _ => rfl) (fun i hi => absurd hi (Nat.not_lt_zero i))
    · rcases sp2 with ⟨y, -⟩ | ⟨-, s3, e3, k3, tk3, hO⟩
      · exact absurd (fun j hj => by rw [← ht j hj]; exact hF j hj) y
      · have x0 : ∀ a i, ¬ (a = 4 ∧ (i = 1 ∨ i = 4 + A 9 2 ∨ (9 + 12 * A 9 2 ≤ i ∧ i < 21 + 12 * A 9 2))) → wi (si (si w2 4 (4 + A 9 2) (nI (e2 - s2))) 4 1 (nI (A 9 2 + 1))) a i = wi w1 a i := fun a i y => (wi_ne (by omega)).trans ((wi_ne (by omega)).trans (hf a i (by omega)))
        rw [i41, nI_1]
        have X1 : TXR T n (si (si w2 4 (4 + A 9 2) (nI (e2 - s2))) 4 1 (nI (A 9 2 + 1))) := ⟨hS.1.1, (x0 0 3 (by omega)).trans (dw.tx hS.1).2.1, fun k hk => ⟨(x0 1 k (by omega)).trans ((dw.tx hS.1).2.2 k hk).1, (hS.1.2.2 k hk).2⟩⟩
        refine z_next (w := si (si w2 4 (4 + A 9 2) (nI (e2 - s2))) 4 1 (nI (A 9 2 + 1))) hw X1 ((x0 0 5 (by omega)).trans (c1.2.2.1 (by omega))) tk3 (fun w3 f3 c3 => ⟨rfl, f3.1.trans hw, ?_⟩)
        have y4 : ∀ i, wi w3 4 i = wi (si (si w2 4 (4 + A 9 2) (nI (e2 - s2))) 4 1 (nI (A 9 2 + 1))) 4 i := fun i => f3.2 4 i (by decide) (by omega)
        have S3 : RS T n (aD A T s (e - s) s2 (e2 - s2)) w3 := by
          refine hS.adD aB hD (fun a i q1 q2 q3 => (f3.2 a i q1 q2).trans ((x0 a i (by omega)).trans (dw.2 a i q1 q2 (by omega)))) ((y4 _).trans (wi_self _ _ _ _)) ((y4 _).trans ((wi_ne (by omega)).trans (wi_self _ _ _ _))) ((y4 _).trans ((x0 _ _ (by omega)).trans m1)) (fun k hk => (y4 _).trans ((x0 _ _ ?_).trans (m2 k hk))) (fun j hj => (y4 _).trans ((wi_ne (by omega)).trans ((wi_ne (by omega)).trans ((hl j hj).trans (by rw [ht j hj])))))
          have := hn.2.1
          omega
        have q1 := tk2.1
        have q2 := tk3.1
        refine kO _ e2 s3 e3 k3 w3 hO tk3 (by omega) (aB.adD h0 hD (by omega) hn.2.1 (by omega) (by omega) hL) S3 c3 ?_
        refine ⟨f3.1.trans (hw.trans hR.symm), fun a i q r t => (f3.2 a i q (by omega)).trans ((x0 a i (by omega)).trans (dw.fr.2 a i q r t))⟩
    · rcases sp2 with ⟨-, hF⟩ | ⟨y, -⟩
      · exact kF 7 s2 _ hF (fl_R (dw.fr.tr dw2.fr) 7 s2).s4
      · exact absurd (y j hj) (by rw [← ht j hj]; exact z)
  · have k1 : k2 ≠ 1 := fun z => q2 (c1.2.1.trans ((krf_2 tb2.2.2.2.2.2.2).mpr z))
    rw [wr_0 i13 c1.1]
    refine g_dnF (w := fW 1 s2 w1) R1 fW_13 _ _ ⟨rfl, R1, ?_⟩
    rcases sp with ⟨-, hF⟩ | ⟨z, -⟩
    · exact kF 1 s2 _ hF (fl_R dw.fr 1 s2)
    · exact absurd z k1
