/-! the reference's tokens -/
def StR (w w' : Wd) : Prop := w'.2.2 = w.2.2 ∧ ∀ a i, a ≠ 2 → ¬ (a = 0 ∧ 4 ≤ i ∧ i ≤ 8) → wi w' a i = wi w a i
theorem StR.rf (w : Wd) : StR w w := ⟨rfl, fun _ _ _ _ => rfl⟩
theorem StR.tr {w w' w2 : Wd} (h1 : StR w w') (h2 : StR w' w2) : StR w w2 := ⟨h2.1.trans h1.1, fun a i q q' => (h2.2 a i q q').trans (h1.2 a i q q')⟩
theorem StR.s0 {w w' : Wd} (h : StR w w') {i : Nat} {v : Int32} (h3 : 4 ≤ i) (h7 : i ≤ 8) : StR w (si w' 0 i v) := ⟨h.1, fun a j q q' => (wi_ne (by omega)).trans (h.2 a j q q')⟩
theorem StR.s2 {w w' : Wd} (h : StR w w') {i : Nat} {v : Int32} : StR w (si w' 2 i v) := ⟨h.1, fun a j q q' => (wi_ne (Or.inl q)).trans (h.2 a j q q')⟩
def TXR (T : Nat → Int32) (n : Nat) (w : Wd) : Prop := n ≤ 600 ∧ wi w 0 3 = nI n ∧ ∀ k, k < n → wi w 1 k = T k ∧ ¬ T k = -1
theorem TXR.fr {T : Nat → Int32} {n : Nat} {w w' : Wd} (h : TXR T n w) (hf : StR w w') : TXR T n w' := ⟨h.1, (hf.2 0 3 (by decide) (by decide)).trans h.2.1, fun k hk => ⟨(hf.2 1 k (by decide) (by omega)).trans (h.2.2 k hk).1, (h.2.2 k hk).2⟩⟩
def krf (kd : Nat) : Int32 := if kd = 0 then 0 else if kd = 1 then 2 else if kd = 2 then 3 else if kd = 3 then 59 else 1
def TRk (T : Nat → Int32) (s e kd : Nat) (w : Wd) : Prop := wi w 0 4 = nI s ∧ wi w 0 6 = krf kd ∧ (kd ≠ 4 → wi w 0 5 = nI e) ∧ (kd = 1 → wi w 0 8 = nI (e - s) ∧ ∀ j, j < e - s → wi w 2 j = T (s + j)) ∧ (kd = 2 → wi w 0 7 = dI T s (e - s))
theorem z_see {w : Wd} (hR : w.2.2 = RM) {T : Nat → Int32} {n k : Nat} (hT : TXR T n w) (hk : k ≤ 1000) {Q : Int32 → Wd → Prop} (c1 : k < n → Q (T k) w) (c2 : n ≤ k → Q (-1) w) : ClI SR mX11_see [.ref 0, .int (nI k)] w (fun x w2 => w2.2.2 = RM ∧ Q x w2) := by
  have hn := hT.1
  refine TX11_see _ w hR _ ?_
  rw [hT.2.1]
  by_cases c : k < n
  · refine ⟨fun z => absurd z (nI_ge c (by omega)), fun _ => ⟨nI_in (by omega) (by decide), ?_⟩⟩
    rw [nI_clamp (by omega), (hT.2.2 k c).1]
    exact ⟨_, rfl, hR, c1 c⟩
  · exact ⟨fun _ => ⟨_, rfl, hR, c2 (by omega)⟩, fun z => absurd (nI_le (by omega) (by omega)) z⟩
theorem l_rWord {w0 : Wd} (hR : w0.2.2 = RM) {T : Nat → Int32} {n s e : Nat} (hT : TXR T n w0) (he : e ≤ n) (run : ∀ j, s ≤ j → j < e → Let (T j)) (stop : e < n → ¬ Let (T e)) {x : Int32} {Q : Option Value → Wd → Prop} (kk : ∀ w', StR w0 w' → TRk T s e (if 12 < e - s then 4 else 1) w' → Q none w') : ∀ (r k : Nat) (w : Wd), k + r = e → s ≤ k → StR w0 w → wi w 0 4 = nI s → wi w 0 8 = nI (k - s) → (∀ j, j < k - s → j < 12 → wi w 2 j = T (s + j)) → Go SR mX11_next 67 [(0, .ref 0), (1, .int (nI k)), (2, .int x)] [] w Q := by
  have hn := hT.1
  have fin : ∀ w, s ≤ e → StR w0 w → wi w 0 4 = nI s → wi w 0 8 = nI (e - s) → (∀ j, j < e - s → j < 12 → wi w 2 j = T (s + j)) → Q none (si (si w 0 5 (nI e)) 0 6 (if (wi (si w 0 5 (nI e)) 0 8) ≤ 12 then 2 else 1 : Int32)) := by
    intro w hs hf h4 h8 hl
    have p8 : wi (si w 0 5 (nI e)) 0 8 = nI (e - s) := (wi_ne (Or.inr (by decide))).trans h8
    rw [p8]
    have hq : nI (e - s) ≤ 12 ↔ e - s ≤ 12 := nI_leI (b := 12) (by omega) (by decide)
    have hv : (if nI (e - s) ≤ 12 then 2 else 1 : Int32) = krf (if 12 < e - s then 4 else 1) := by
      by_cases q : e - s ≤ 12
      · rw [if_pos (hq.mpr q), if_neg (by omega)]; rfl
      · rw [if_neg (fun z => q (hq.mp z)), if_pos (by omega)]; rfl
    rw [hv]
    refine kk _ ((hf.s0 (by decide) (by decide)).s0 (by decide) (by decide)) ⟨(wi_ne (Or.inr (by decide))).trans ((wi_ne (Or.inr (by decide))).trans h4), wi_self _ _ _ _, fun _ => (wi_ne (Or.inr (by decide))).trans (wi_self _ _ _ _), fun q => ⟨(wi_ne (Or.inr (by decide))).trans p8, fun j hj => (wi_ne (Or.inl (by decide))).trans ((wi_ne (Or.inl (by decide))).trans (hl j hj ?_))⟩, fun q => ?_⟩
    · split at q <;> omega
    · split at q <;> omega
  intro r
  induction r with
  | zero =>
    intro k w hk hs hf h4 h8 hl
    have ek : k = e := by omega
    subst ek
    have hT' := hT.fr hf
    have hw := hf.1.trans hR
    refine BX11_next_67 _ _ w hw Q (z_see hw hT' (by omega) (fun c => ⟨fun _ => fin w hs hf h4 h8 hl, fun z => absurd z (stop c)⟩) (fun c => ⟨fun _ => fin w hs hf h4 h8 hl, fun z => absurd (by decide) z⟩))
  | succ r ih =>
    intro k w hk hs hf h4 h8 hl
    have hT' := hT.fr hf
    have hw := hf.1.trans hR
    have hkn : k < n := by omega
    refine BX11_next_67 _ _ w hw Q (z_see hw hT' (by omega) (fun c => ⟨fun z => absurd z (run k hs (by omega)), fun _ => ?_⟩) (fun c => absurd hkn (by omega)))
    rw [h8, nI_1, nI_1]
    refine ⟨fun c12 => ?_, fun c12 => z_see hw hT' (by omega) (fun _ => ?_) (fun c => absurd hkn (by omega))⟩
    · have g12 : 12 ≤ k - s := (nI_leI (a := 12) (by decide) (by omega)).mp c12
      refine ih (k + 1) _ (by omega) (by omega) (hf.s0 (by decide) (by decide)) ((wi_ne (Or.inr (by decide))).trans h4) ((wi_self _ _ _ _).trans (by rw [show k + 1 - s = k - s + 1 by omega])) (fun j hj hj2 => (wi_ne (Or.inl (by decide))).trans (hl j (by omega) hj2))
    · have g12 : k - s < 12 := by
        by_cases q : k - s < 12
        · exact q
        · exact absurd (nI_le (a := 12) (by omega) (by omega)) c12
      rw [nI_clamp (by omega)]
      refine ⟨nI_in g12 (by decide), ?_⟩
      have p8 : wi (si w 2 (k - s) (T k)) 0 8 = nI (k - s) := (wi_ne (Or.inl (by decide))).trans h8
      rw [p8, nI_1]
      refine ih (k + 1) _ (by omega) (by omega) (hf.s2.s0 (by decide) (by decide)) ((wi_ne (Or.inr (by decide))).trans ((wi_ne (Or.inl (by decide))).trans h4)) ((wi_self _ _ _ _).trans (by rw [show k + 1 - s = k - s + 1 by omega])) (fun j hj hj2 => ?_)
      by_cases cj : j = k - s
      · subst cj
        rw [show s + (k - s) = k by omega]
        exact (wi_ne (Or.inl (by decide))).trans (wi_self _ _ _ _)
      · exact (wi_ne (Or.inl (by decide))).trans ((wi_ne (Or.inr cj)).trans (hl j (by omega) hj2))
theorem l_rWhole {w0 : Wd} (hR : w0.2.2 = RM) {T : Nat → Int32} {n s e : Nat} (hT : TXR T n w0) (he : e ≤ n) (run : ∀ j, s ≤ j → j < e → Dig (T j)) (stop : e < n → ¬ Dig (T e)) {x : Int32} {Q : Option Value → Wd → Prop} (kk : ∀ w', StR w0 w' → TRk T s e (if 3 < e - s then 4 else 2) w' → Q none w') : ∀ (r k : Nat) (w : Wd), k + r = e → s ≤ k → StR w0 w → wi w 0 4 = nI s → wi w 0 7 = dI T s (if k - s ≤ 3 then k - s else 3) → Go SR mX11_next 152 [(0, .ref 0), (1, .int (nI k)), (2, .int x), (3, .int (nI (k - s)))] [] w Q := by
  have hn := hT.1
  have fin : ∀ w, s ≤ e → StR w0 w → wi w 0 4 = nI s → wi w 0 7 = dI T s (if e - s ≤ 3 then e - s else 3) → Q none (si (si w 0 5 (nI e)) 0 6 (if nI (e - s) ≤ 3 then 3 else 1 : Int32)) := by
    intro w hs hf h4 h7
    have hq : nI (e - s) ≤ 3 ↔ e - s ≤ 3 := nI_leI (b := 3) (by omega) (by decide)
    have hv : (if nI (e - s) ≤ 3 then 3 else 1 : Int32) = krf (if 3 < e - s then 4 else 2) := by
      by_cases q : e - s ≤ 3
      · rw [if_pos (hq.mpr q), if_neg (by omega)]; rfl
      · rw [if_neg (fun z => q (hq.mp z)), if_pos (by omega)]; rfl
    rw [hv]
    refine kk _ ((hf.s0 (by decide) (by decide)).s0 (by decide) (by decide)) ⟨(wi_ne (Or.inr (by decide))).trans ((wi_ne (Or.inr (by decide))).trans h4), wi_self _ _ _ _, fun _ => (wi_ne (Or.inr (by decide))).trans (wi_self _ _ _ _), fun q => ?_, fun q => (wi_ne (Or.inr (by decide))).trans ((wi_ne (Or.inr (by decide))).trans (h7.trans ?_))⟩
    · split at q <;> omega
    · rw [if_pos (by split at q <;> omega)]
  intro r
  induction r with
  | zero =>
    intro k w hk hs hf h4 h7
    have ek : k = e := by omega
    subst ek
    have hT' := hT.fr hf
    have hw := hf.1.trans hR
    refine BX11_next_152 _ _ _ w hw Q (z_see hw hT' (by omega) (fun c => ⟨fun _ => fin w hs hf h4 h7, fun z => absurd z (stop c)⟩) (fun c => ⟨fun _ => fin w hs hf h4 h7, fun z => absurd (by decide) z⟩))
  | succ r ih =>
    intro k w hk hs hf h4 h7
    have hT' := hT.fr hf
    have hw := hf.1.trans hR
    have hkn : k < n := by omega
    have e1 : k - s + 1 = k + 1 - s := by omega
    refine BX11_next_152 _ _ _ w hw Q (z_see hw hT' (by omega) (fun c => ⟨fun z => absurd z (run k hs (by omega)), fun _ => ?_⟩) (fun c => absurd hkn (by omega)))
    rw [h7, nI_1, nI_1, e1]
    refine ⟨fun c3 => ?_, fun c3 => z_see hw hT' (by omega) (fun _ => ?_) (fun c => absurd hkn (by omega))⟩
    · have g3 : 3 ≤ k - s := (nI_leI (a := 3) (by decide) (by omega)).mp c3
      refine ih (k + 1) _ (by omega) (by omega) hf h4 (h7.trans ?_)
      rw [if_neg (show ¬ k + 1 - s ≤ 3 by omega)]
      by_cases q : k - s = 3
      · rw [if_pos (by omega), q]
      · rw [if_neg (by omega)]
    · have g3 : k - s < 3 := by
        by_cases q : k - s < 3
        · exact q
        · exact absurd (nI_le (a := 3) (by omega) (by omega)) c3
      rw [if_pos (show k - s ≤ 3 by omega)]
      refine ih (k + 1) _ (by omega) (by omega) (hf.s0 (by decide) (by decide)) ((wi_ne (Or.inr (by decide))).trans h4) ((wi_self _ _ _ _).trans ?_)
      rw [if_pos (show k + 1 - s ≤ 3 by omega), show k + 1 - s = (k - s) + 1 by omega, Int32.mul_comm]
      show _ = dI T s (k - s) * 10 + T (s + (k - s)) - 48
      rw [show s + (k - s) = k by omega]
theorem g_next {w : Wd} (hR : w.2.2 = RM) {T : Nat → Int32} {n p s e kd : Nat} (hT : TXR T n w) (tk : Tok T n p s e kd) {Q : Option Value → Wd → Prop} (kk : ∀ w', StR w w' → TRk T s e kd w' → Q none w') : ∀ (r k : Nat), k + r = s → p ≤ k → Go SR mX11_next 5 [(0, .ref 0), (1, .int (nI k))] [] w Q := by
  obtain ⟨hps, hsn, spc, nsp, tk⟩ := tk
  have hn := hT.1
  intro r
  induction r with
  | succ r ih =>
    intro k hk hp
    refine BX11_next_5 _ w hR Q (z_see hR hT (by omega) (fun c => ⟨fun _ => ?_, fun z => absurd (spc k hp (by omega)) z⟩) (fun c => absurd c (by omega)))
    rw [nI_1]
    exact ih (k + 1) (by omega) (by omega)
  | zero =>
    intro k hk hp
    have ek : k = s := by omega
    subst ek
    have hf4 : StR w (si w 0 4 (nI k)) := (StR.rf w).s0 (by decide) (by decide)
    have hR4 : (si w 0 4 (nI k)).2.2 = RM := hR
    have hT4 := hT.fr hf4
    have hfs : StR w (si (si (si w 0 4 (nI k)) 0 8 0) 0 7 0) := (hf4.s0 (by decide) (by decide)).s0 (by decide) (by decide)
    have e4 : wi (si (si (si w 0 4 (nI k)) 0 8 0) 0 7 0) 0 4 = nI k := (wi_ne (Or.inr (by decide))).trans ((wi_ne (Or.inr (by decide))).trans (wi_self _ _ _ _))
    have e8 : wi (si (si (si w 0 4 (nI k)) 0 8 0) 0 7 0) 0 8 = 0 := (wi_ne (Or.inr (by decide))).trans (wi_self _ _ _ _)
    have e7 : wi (si (si (si w 0 4 (nI k)) 0 8 0) 0 7 0) 0 7 = 0 := wi_self _ _ _ _
    have hTs := hT.fr hfs
    have hRs : (si (si (si w 0 4 (nI k)) 0 8 0) 0 7 0).2.2 = RM := hR
    refine BX11_next_5 _ w hR Q (z_see hR hT (by omega) (fun c => ⟨fun z => absurd z (nsp c), fun _ => z_see hR4 hT4 (by omega) (fun _ => ⟨fun z => absurd z (hT.2.2 k c).2, fun _ => ?_⟩) (fun c2 => absurd c (by omega))⟩) (fun c => ⟨fun z => absurd z (by decide), fun _ => z_see hR4 hT4 (by omega) (fun c2 => absurd c2 (by omega)) (fun _ => ⟨fun _ => ?_, fun z => absurd rfl z⟩)⟩))
    · rcases tk with ⟨q1, rfl, rfl⟩ | ⟨q1, q2, rfl, rfl⟩ | ⟨q1, q2, q3, q4, q5, q6, q7, rfl⟩ | ⟨q1, q2, q3, q4, q5, q6, q7, q8, rfl⟩ | ⟨q1, q2, q3, q4, rfl, he⟩
      · exact absurd c (by omega)
      · rw [q2]
        refine ⟨fun _ => ⟨fun _ => ?_, fun z => absurd (by decide) z⟩, fun z => absurd (by decide) z⟩
        rw [nI_1, if_pos rfl]
        exact kk _ ((hfs.s0 (by decide) (by decide)).s0 (by decide) (by decide)) ⟨(wi_ne (Or.inr (by decide))).trans ((wi_ne (Or.inr (by decide))).trans e4), wi_self _ _ _ _, fun _ => (wi_ne (Or.inr (by decide))).trans (wi_self _ _ _ _), fun z => absurd z (by decide), fun z => absurd z (by decide)⟩
      · refine ⟨fun z => absurd z q3, fun _ => ?_⟩
        refine l_rWord hRs hTs q5 q6 q7 (fun w' f' t' => kk w' (hfs.tr f') t') (e - k) k _ (by omega) (Nat.le_refl k) (StR.rf _) e4 ?_ (fun j hj => absurd hj (by omega))
        rw [Nat.sub_self]
        exact e8
      · refine ⟨fun _ => ⟨fun z => absurd z q4, fun _ => ?_⟩, fun z => absurd z q3⟩
        have := l_rWhole hRs hTs q6 q7 q8 (x := T k) (fun w' f' t' => kk w' (hfs.tr f') t') (e - k) k _ (by omega) (Nat.le_refl k) (StR.rf _) e4 ?_
        · rw [Nat.sub_self] at this
          exact this
        · rw [Nat.sub_self]
          exact e7
      · have nd : vXX11_isDigit (T k) = 0 := by
          by_cases q : vXX11_isDigit (T k) = 0
          · exact q
          · exact absurd q q4
        have nl : vXX11_isSmall (T k) = 0 := by
          by_cases q : vXX11_isSmall (T k) = 0
          · exact q
          · exact absurd q q3
        refine ⟨fun _ => ⟨fun _ => ?_, fun z => absurd nd z⟩, fun z => absurd nl z⟩
        rw [if_neg q2]
        exact kk _ ((hfs.s0 (by decide) (by decide)).s0 (by decide) (by decide)) ⟨(wi_ne (Or.inr (by decide))).trans ((wi_ne (Or.inr (by decide))).trans e4), wi_self _ _ _ _, fun z => absurd rfl z, fun z => absurd z (by decide), fun z => absurd z (by decide)⟩
    · rcases tk with ⟨q1, rfl, rfl⟩ | ⟨q1, q2, rfl, rfl⟩ | ⟨q1, q2, q3, q4, q5, q6, q7, rfl⟩ | ⟨q1, q2, q3, q4, q5, q6, q7, q8, rfl⟩ | ⟨q1, q2, q3, q4, rfl, rfl⟩
      · exact kk _ ((hfs.s0 (by decide) (by decide)).s0 (by decide) (by decide)) ⟨(wi_ne (Or.inr (by decide))).trans ((wi_ne (Or.inr (by decide))).trans e4), (wi_ne (Or.inr (by decide))).trans (wi_self _ _ _ _), fun _ => wi_self _ _ _ _, fun z => absurd z (by decide), fun z => absurd z (by decide)⟩
      all_goals exact absurd q1 (by omega)
theorem z_next {w : Wd} (hR : w.2.2 = RM) {T : Nat → Int32} {n p s e kd : Nat} (hT : TXR T n w) (e5 : wi w 0 5 = nI p) (tk : Tok T n p s e kd) {Q : Wd → Prop} (kk : ∀ w', StR w w' → TRk T s e kd w' → Q w') : ClV SR mX11_next [.ref 0] w (fun w2 => w2.2.2 = RM ∧ Q w2) := by
  refine TX11_next w hR _ ?_
  rw [e5]
  exact g_next hR hT tk (fun w' f t => ⟨rfl, f.1.trans hR, kk w' f t⟩) (s - p) p (by have := tk.1; omega) (Nat.le_refl p)
