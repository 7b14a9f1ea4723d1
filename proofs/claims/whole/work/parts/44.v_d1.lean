/-! THE TAPE is read: its tokens -/
theorem nI_sb {a b : Nat} (h : b ≤ a) : nI a - nI b = nI (a - b) := by
  have e := nI_add (a - b) b
  rw [Nat.sub_add_cancel h] at e
  rw [← e]
  exact Int32.add_sub_cancel _ _
theorem sp_ex (P : Nat → Prop) (n : Nat) : ∀ (r s : Nat), s + r = n → ∃ e, s ≤ e ∧ e ≤ n ∧ (∀ j, s ≤ j → j < e → P j) ∧ (e < n → ¬ P e) := by
  intro r
  induction r with
  | zero => exact fun s h => ⟨s, Nat.le_refl s, by omega, fun j h1 h2 => by omega, fun h2 => by omega⟩
  | succ r ih =>
    intro s h
    by_cases c : P s
    · obtain ⟨e, h1, h2, h3, h4⟩ := ih (s + 1) (by omega)
      refine ⟨e, by omega, h2, fun j q1 q2 => ?_, h4⟩
      by_cases d : j = s
      · subst d
        exact c
      · exact h3 j (by omega) q2
    · exact ⟨s, Nat.le_refl s, by omega, fun j h1 h2 => by omega, fun _ => c⟩
/-- a WHOLE's value -/
def dI (T : Nat → Int32) (s : Nat) : Nat → Int32
  | 0 => 0
  | k + 1 => dI T s k * 10 + T (s + k) - 48
def Let (x : Int32) : Prop := ¬ vXX8_isLetter x = 0
def Dig (x : Int32) : Prop := ¬ vXX8_isDigit x = 0
/-- the token that stands behind p: from s to e, its kind -/
def Tok (T : Nat → Int32) (n p s e kd : Nat) : Prop :=
  p ≤ s ∧ s ≤ n ∧ (∀ j, p ≤ j → j < s → T j = 32) ∧ (s < n → ¬ T s = 32) ∧
  ((s = n ∧ kd = 0 ∧ e = s) ∨ (s < n ∧ T s = 59 ∧ kd = 3 ∧ e = s + 1) ∨
   (s < n ∧ ¬ T s = 59 ∧ Let (T s) ∧ s < e ∧ e ≤ n ∧ (∀ j, s ≤ j → j < e → Let (T j)) ∧ (e < n → ¬ Let (T e)) ∧ kd = (if 12 < e - s then 4 else 1)) ∨
   (s < n ∧ ¬ T s = 59 ∧ ¬ Let (T s) ∧ Dig (T s) ∧ s < e ∧ e ≤ n ∧ (∀ j, s ≤ j → j < e → Dig (T j)) ∧ (e < n → ¬ Dig (T e)) ∧ kd = (if 3 < e - s then 4 else 2)) ∨
   (s < n ∧ ¬ T s = 59 ∧ ¬ Let (T s) ∧ ¬ Dig (T s) ∧ kd = 4 ∧ e = s))
theorem tok_ex (T : Nat → Int32) {n p : Nat} (h : p ≤ n) : ∃ s e kd, Tok T n p s e kd := by
  obtain ⟨s, h1, h2, h3, h4⟩ := sp_ex (fun j => T j = 32) n (n - p) p (by omega)
  by_cases c0 : s = n
  · exact ⟨s, s, 0, h1, h2, h3, h4, Or.inl ⟨c0, rfl, rfl⟩⟩
  have hs : s < n := by omega
  by_cases c1 : T s = 59
  · exact ⟨s, s + 1, 3, h1, h2, h3, h4, Or.inr (Or.inl ⟨hs, c1, rfl, rfl⟩)⟩
  by_cases c2 : Let (T s)
  · obtain ⟨e, g1, g2, g3, g4⟩ := sp_ex (fun j => Let (T j)) n (n - s) s (by omega)
    have : s < e := by
      by_cases q : s = e
      · subst q
        exact absurd c2 (g4 hs)
      · omega
    exact ⟨s, e, _, h1, h2, h3, h4, Or.inr (Or.inr (Or.inl ⟨hs, c1, c2, this, g2, g3, g4, rfl⟩))⟩
  by_cases c3 : Dig (T s)
  · obtain ⟨e, g1, g2, g3, g4⟩ := sp_ex (fun j => Dig (T j)) n (n - s) s (by omega)
    have : s < e := by
      by_cases q : s = e
      · subst q
        exact absurd c3 (g4 hs)
      · omega
    exact ⟨s, e, _, h1, h2, h3, h4, Or.inr (Or.inr (Or.inr (Or.inl ⟨hs, c1, c2, c3, this, g2, g3, g4, rfl⟩)))⟩
  exact ⟨s, s, 4, h1, h2, h3, h4, Or.inr (Or.inr (Or.inr (Or.inr ⟨hs, c1, c2, c3, rfl, rfl⟩)))⟩
theorem tok_b {T : Nat → Int32} {n p s e kd : Nat} (h : Tok T n p s e kd) : s ≤ n ∧ e ≤ n ∧ s ≤ e ∧ (kd = 3 → s < e) ∧ (kd = 1 → s < e ∧ e - s ≤ 12) ∧ (kd = 2 → s < e ∧ e - s ≤ 3) ∧ kd ≤ 4 := by
  obtain ⟨h1, h2, h3, h4, h5⟩ := h
  rcases h5 with ⟨q1, q2, q3⟩ | ⟨q1, -, q2, q3⟩ | ⟨q1, -, -, q2, q3, -, -, q4⟩ | ⟨q1, -, -, -, q2, q3, -, -, q4⟩ | ⟨q1, -, -, -, q2, q3⟩
  · omega
  · omega
  · split at q4 <;> omega
  · split at q4 <;> omega
  · omega
/-- what a step of the class may change -/
def StC (w w' : Wd) : Prop := w'.2.2 = w.2.2 ∧ ∀ a i, ¬ (a = 1 ∧ 3 ≤ i ∧ i ≤ 7) → wi w' a i = wi w a i
theorem StC.rf (w : Wd) : StC w w := ⟨rfl, fun _ _ _ => rfl⟩
theorem StC.tr {w w' w2 : Wd} (h1 : StC w w') (h2 : StC w' w2) : StC w w2 := ⟨h2.1.trans h1.1, fun a i q => (h2.2 a i q).trans (h1.2 a i q)⟩
theorem StC.si {w w' : Wd} (h : StC w w') {i : Nat} {v : Int32} (h3 : 3 ≤ i) (h7 : i ≤ 7) : StC w (si w' 1 i v) := ⟨h.1, fun a j q => (wi_ne (by omega)).trans (h.2 a j q)⟩
def TXC (T : Nat → Int32) (n : Nat) (w : Wd) : Prop := n ≤ 600 ∧ wi w 1 2 = nI n ∧ ∀ k, k < n → wi w 2 k = T k
theorem TXC.fr {T : Nat → Int32} {n : Nat} {w w' : Wd} (h : TXC T n w) (hf : StC w w') : TXC T n w' := ⟨h.1, (hf.2 1 2 (by decide)).trans h.2.1, fun k hk => (hf.2 2 k (by omega)).trans (h.2.2 k hk)⟩
def TC (T : Nat → Int32) (s e kd : Nat) (w : Wd) : Prop := wi w 1 5 = nI s ∧ wi w 1 4 = nI kd ∧ (kd ≠ 4 → wi w 1 3 = nI e) ∧ (kd = 1 → wi w 1 6 = nI (e - s)) ∧ (kd = 2 → wi w 1 7 = dI T s (e - s))
theorem nI_if {c : Prop} {hd : Decidable c} (a b : Nat) {C : Prop} {hC : Decidable C} (h : C ↔ c) : (if C then nI a else nI b : Int32) = nI (if c then a else b) := by
  by_cases q : c
  · rw [if_pos q, if_pos (h.mpr q)]
  · rw [if_neg q, if_neg (fun z => q (h.mp z))]
theorem l_tkWord {b : Bool} {w0 : Wd} (hR : w0.2.2 = RTab b) {T : Nat → Int32} {n s e : Nat} (hT : TXC T n w0) (he : e ≤ n) (run : ∀ j, s ≤ j → j < e → Let (T j)) (stop : e < n → ¬ Let (T e)) {Q : Option Value → Wd → Prop} (kk : ∀ w', StC w0 w' → TC T s e (if 12 < e - s then 4 else 1) w' → Q none w') : ∀ (r k : Nat) (w : Wd), k + r = e → s ≤ k → StC w0 w → wi w 1 3 = nI k → wi w 1 5 = nI s → Go SC mX8_takeWord 0 [(0, .ref 1)] [] w Q := by
  have fin : ∀ w, s ≤ e → StC w0 w → wi w 1 3 = nI e → wi w 1 5 = nI s → Q none (si (si w 1 6 ((wi w 1 3) - (wi w 1 5))) 1 4 (if 12 < (wi (si w 1 6 ((wi w 1 3) - (wi w 1 5))) 1 6) then 4 else 1 : Int32)) := by
    intro w hs hf h3 h5
    have hn := hT.1
    rw [h3, h5, nI_sb hs, wi_self]
    have hv : (if 12 < nI (e - s) then 4 else 1 : Int32) = nI (if 12 < e - s then 4 else 1) := nI_if 4 1 (nI_ltI (a := 12) (by decide) (by omega))
    rw [hv]
    refine kk _ ((hf.si (by decide) (by decide)).si (by decide) (by decide)) ⟨(wi_ne (Or.inr (by decide))).trans ((wi_ne (Or.inr (by decide))).trans h5), wi_self _ _ _ _, fun _ => (wi_ne (Or.inr (by decide))).trans ((wi_ne (Or.inr (by decide))).trans h3), fun _ => (wi_ne (Or.inr (by decide))).trans (wi_self _ _ _ _), fun q => ?_⟩
    split at q <;> omega
  intro r
  induction r with
  | zero =>
    intro k w hk hs hf h3 h5
    have e1 : k = e := by omega
    subst e1
    have hT' := hT.fr hf
    have hn := hT.1
    refine BX8_takeWord_0 w b (hf.1.trans hR) Q ⟨fun _ => fin w hs hf h3 h5, fun c => ?_⟩
    have hkn : k < n := by
      by_cases q : k < n
      · exact q
      · exact absurd (show wi w 1 2 ≤ wi w 1 3 by rw [hT'.2.1, h3]; exact nI_le (by omega) (by omega)) c
    rw [h3, gf_in (by omega) (by decide), hT'.2.2 k hkn]
    have := stop hkn
    exact ⟨fun _ => by have := fin w hs hf h3 h5; rw [h3] at this; exact this, fun q => absurd q this⟩
  | succ r ih =>
    intro k w hk hs hf h3 h5
    have hT' := hT.fr hf
    have hn := hT.1
    refine BX8_takeWord_0 w b (hf.1.trans hR) Q ⟨fun c => ?_, fun c => ?_⟩
    · rw [hT'.2.1, h3] at c
      exact absurd c (nI_ge (by omega) (by omega))
    · rw [h3, gf_in (by omega) (by decide), hT'.2.2 k (by omega)]
      refine ⟨fun q => absurd q (run k hs (by omega)), fun _ => ?_⟩
      rw [nI_1]
      exact ih (k + 1) _ (by omega) (by omega) (hf.si (by decide) (by decide)) (wi_self _ _ _ _) ((wi_ne (Or.inr (by decide))).trans h5)
theorem l_tkWhole {b : Bool} {w0 : Wd} (hR : w0.2.2 = RTab b) {T : Nat → Int32} {n s e : Nat} (hT : TXC T n w0) (he : e ≤ n) (run : ∀ j, s ≤ j → j < e → Dig (T j)) (stop : e < n → ¬ Dig (T e)) {Q : Option Value → Wd → Prop} (kk : ∀ w', StC w0 w' → TC T s e (if 3 < e - s then 4 else 2) w' → Q none w') : ∀ (r k : Nat) (w : Wd), k + r = e → s ≤ k → StC w0 w → wi w 1 3 = nI k → wi w 1 5 = nI s → wi w 1 7 = dI T s (k - s) → Go SC mX8_takeWhole 5 [(0, .ref 1)] [] w Q := by
  have fin : ∀ w, s ≤ e → StC w0 w → wi w 1 3 = nI e → wi w 1 5 = nI s → wi w 1 7 = dI T s (e - s) → Q none (si (si w 1 6 ((wi w 1 3) - (wi w 1 5))) 1 4 (if 3 < (wi (si w 1 6 ((wi w 1 3) - (wi w 1 5))) 1 6) then 4 else 2 : Int32)) := by
    intro w hs hf h3 h5 h7
    have hn := hT.1
    rw [h3, h5, nI_sb hs, wi_self]
    have hv : (if 3 < nI (e - s) then 4 else 2 : Int32) = nI (if 3 < e - s then 4 else 2) := nI_if 4 2 (nI_ltI (a := 3) (by decide) (by omega))
    rw [hv]
    refine kk _ ((hf.si (by decide) (by decide)).si (by decide) (by decide)) ⟨(wi_ne (Or.inr (by decide))).trans ((wi_ne (Or.inr (by decide))).trans h5), wi_self _ _ _ _, fun _ => (wi_ne (Or.inr (by decide))).trans ((wi_ne (Or.inr (by decide))).trans h3), fun q => ?_, fun _ => (wi_ne (Or.inr (by decide))).trans ((wi_ne (Or.inr (by decide))).trans h7)⟩
    split at q <;> omega
  intro r
  induction r with
  | zero =>
    intro k w hk hs hf h3 h5 h7
    have e1 : k = e := by omega
    subst e1
    have hT' := hT.fr hf
    have hn := hT.1
    refine BX8_takeWhole_5 w b (hf.1.trans hR) Q ⟨fun _ => fin w hs hf h3 h5 h7, fun c => ?_⟩
    have hkn : k < n := by
      by_cases q : k < n
      · exact q
      · exact absurd (show wi w 1 2 ≤ wi w 1 3 by rw [hT'.2.1, h3]; exact nI_le (by omega) (by omega)) c
    rw [h3, gf_in (by omega) (by decide), hT'.2.2 k hkn]
    have := stop hkn
    exact ⟨fun _ => by have := fin w hs hf h3 h5 h7; rw [h3] at this; exact this, fun q => absurd q this⟩
  | succ r ih =>
    intro k w hk hs hf h3 h5 h7
    have hT' := hT.fr hf
    have hn := hT.1
    refine BX8_takeWhole_5 w b (hf.1.trans hR) Q ⟨fun c => ?_, fun c => ?_⟩
    · rw [hT'.2.1, h3] at c
      exact absurd c (nI_ge (by omega) (by omega))
    · rw [h3, gf_in (by omega) (by decide), hT'.2.2 k (by omega)]
      refine ⟨fun q => absurd q (run k hs (by omega)), fun _ => ?_⟩
      have p3 : ∀ v, wi (si w 1 7 v) 1 3 = nI k := fun v => (wi_ne (Or.inr (by decide))).trans h3
      rw [p3, nI_1, h7]
      refine ih (k + 1) _ (by omega) (by omega) ((hf.si (by decide) (by decide)).si (by decide) (by decide)) (wi_self _ _ _ _) ((wi_ne (Or.inr (by decide))).trans ((wi_ne (Or.inr (by decide))).trans h5)) ?_
      rw [show k + 1 - s = (k - s) + 1 by omega]
      show _ = dI T s (k - s) * 10 + T (s + (k - s)) - 48
      rw [show s + (k - s) = k by omega]
      exact (wi_ne (Or.inr (by decide))).trans (wi_self _ _ _ _)
theorem g_take {b : Bool} {w : Wd} (hR : w.2.2 = RTab b) {T : Nat → Int32} {n p s e kd : Nat} (hT : TXC T n w) (tk : Tok T n p s e kd) {Q : Option Value → Wd → Prop} (kk : ∀ w', StC w w' → TC T s e kd w' → Q none w') : ∀ (r k : Nat) (w1 : Wd), k + r = s → p ≤ k → StC w w1 → wi w1 1 3 = nI k → Go SC mX8_step 0 [(0, .ref 1)] [] w1 Q := by
  obtain ⟨hps, hsn, spc, nsp, tk⟩ := tk
  have hn := hT.1
  intro r
  induction r with
  | succ r ih =>
    intro k w1 hk hp hf h3
    have hT' := hT.fr hf
    refine BX8_step_0 w1 b (hf.1.trans hR) Q ⟨fun c => ?_, fun c => ⟨fun _ => ?_, fun q => ?_⟩⟩
    · rw [hT'.2.1, h3] at c
      exact absurd c (nI_ge (by omega) (by omega))
    · rw [h3, nI_1]
      exact ih (k + 1) _ (by omega) (by omega) (hf.si (by decide) (by decide)) (wi_self _ _ _ _)
    · rw [h3, gf_in (by omega) (by decide), hT'.2.2 k (by omega)] at q
      exact absurd (spc k hp (by omega)) q
  | zero =>
    intro k w1 hk hp hf h3
    have ek : k = s := by omega
    subst ek
    have hT' := hT.fr hf
    have hfs : StC w (si (si w1 1 5 (nI k)) 1 6 0) := (hf.si (by decide) (by decide)).si (by decide) (by decide)
    have hT2 := hT.fr hfs
    have e3 : wi (si (si w1 1 5 (nI k)) 1 6 0) 1 3 = nI k := (wi_ne (Or.inr (by decide))).trans ((wi_ne (Or.inr (by decide))).trans h3)
    have e5 : wi (si (si w1 1 5 (nI k)) 1 6 0) 1 5 = nI k := (wi_ne (Or.inr (by decide))).trans (wi_self _ _ _ _)
    have hR2 := hfs.1.trans hR
    have i3 : ∀ v, wi (si (si (si w1 1 5 (nI k)) 1 6 0) 1 4 v) 1 3 = nI k := fun v => (wi_ne (Or.inr (by decide))).trans e3
    rcases tk with ⟨q1, rfl, rfl⟩ | ⟨q1, q2, rfl, rfl⟩ | ⟨q1, q2, q3, q4, q5, q6, q7, rfl⟩ | ⟨q1, q2, q3, q4, q5, q6, q7, q8, rfl⟩ | ⟨q1, q2, q3, q4, rfl, he⟩
    · refine BX8_step_0 w1 b (hf.1.trans hR) Q ⟨fun c => ?_, fun c => ?_⟩
      · rw [h3, e3, hT2.2.1]
        refine ⟨fun z => absurd z (nI_nlt (by omega) (by omega)), fun _ => kk _ (hfs.si (by decide) (by decide)) ⟨(wi_ne (Or.inr (by decide))).trans e5, wi_self _ _ _ _, fun _ => i3 _, fun z => absurd z (by decide), fun z => absurd z (by decide)⟩⟩
      · rw [hT'.2.1, h3] at c
        exact absurd (nI_le (by omega) (by omega)) c
    all_goals refine BX8_step_0 w1 b (hf.1.trans hR) Q ⟨fun c => ?_, fun c => ?_⟩
    all_goals try (rw [hT'.2.1, h3] at c; exact absurd c (nI_ge (by omega) (by omega)))
    all_goals rw [h3, gf_in (by omega) (by decide), hT'.2.2 k q1]
    all_goals refine ⟨fun z => absurd z (nsp q1), fun _ => ?_⟩
    all_goals rw [e3, hT2.2.1, gf_in (by omega) (by decide), hT2.2.2 k q1]
    all_goals refine ⟨fun _ => ?_, fun z => absurd (nI_lt (by omega) (by omega)) z⟩
    · refine ⟨fun _ => ?_, fun z => absurd q2 z⟩
      rw [i3, nI_1]
      exact kk _ ((hfs.si (by decide) (by decide)).si (by decide) (by decide)) ⟨(wi_ne (Or.inr (by decide))).trans ((wi_ne (Or.inr (by decide))).trans e5), (wi_ne (Or.inr (by decide))).trans (wi_self _ _ _ _), fun _ => wi_self _ _ _ _, fun z => absurd z (by decide), fun z => absurd z (by decide)⟩
    · refine ⟨fun z => absurd z q2, fun _ => ⟨fun z => absurd z q3, fun _ => ?_⟩⟩
      exact TX8_takeWord _ b hR2 _ (l_tkWord hR2 hT2 q5 q6 q7 (fun w' f' t' => ⟨rfl, f'.1.trans hR2, kk w' (hfs.tr f') t'⟩) (e - k) k _ (by omega) (Nat.le_refl k) (StC.rf _) e3 e5)
    · refine ⟨fun z => absurd z q2, fun _ => ⟨fun _ => ⟨fun z => absurd z q4, fun _ => ?_⟩, fun z => absurd z q3⟩⟩
      refine TX8_takeWhole _ b hR2 _ (l_tkWhole hR2 hT2 q6 q7 q8 (fun w' f' t' => ⟨rfl, f'.1.trans hR2, kk w' (hfs.tr f') t'⟩) (e - k) k _ (by omega) (Nat.le_refl k) ((StC.rf _).si (by decide) (by decide)) ((wi_ne (Or.inr (by decide))).trans e3) ((wi_ne (Or.inr (by decide))).trans e5) ?_)
      rw [Nat.sub_self]
      exact wi_self _ _ _ _
    · have nd : vXX8_isDigit (T k) = 0 := by
        by_cases q : vXX8_isDigit (T k) = 0
        · exact q
        · exact absurd q q4
      have nl : vXX8_isLetter (T k) = 0 := by
        by_cases q : vXX8_isLetter (T k) = 0
        · exact q
        · exact absurd q q3
      refine ⟨fun z => absurd z q2, fun _ => ⟨fun _ => ⟨fun _ => ?_, fun z => absurd nd z⟩, fun z => absurd nl z⟩⟩
      exact kk _ (hfs.si (by decide) (by decide)) ⟨(wi_ne (Or.inr (by decide))).trans e5, wi_self _ _ _ _, fun z => absurd rfl z, fun z => absurd z (by decide), fun z => absurd z (by decide)⟩
theorem z_tok {b : Bool} {w : Wd} (hR : w.2.2 = RTab b) {T : Nat → Int32} {n p s e kd : Nat} (hT : TXC T n w) (e3 : wi w 1 3 = nI p) (tk : Tok T n p s e kd) {Q : Wd → Prop} (kk : ∀ w', StC w w' → TC T s e kd w' → Q w') : ClV SC mX8_step [.ref 1] w (fun w2 => w2.2.2 = RTab b ∧ Q w2) :=
  TX8_step w b hR _ (g_take hR hT tk (fun w' f t => ⟨rfl, f.1.trans hR, kk w' f t⟩) (s - p) p w (by have := tk.1; omega) (Nat.le_refl p) (StC.rf w) e3)
