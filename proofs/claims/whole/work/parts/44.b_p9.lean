/-! an image of the hall -/
theorem n55 (g k : Nat) : nI g * 5 + nI k = nI (5 * g + k) := by
  rw [show (5 : Int32) = nI 5 from rfl, nmul, nI_add, Nat.mul_comm]
theorem n10 (g : Nat) : 10 * nI g = nI (10 * g) := nmul 10 g
def DW (b : Bool) (w0 w : Wd) (g k : Nat) : Prop := w.2.2 = w0.2.2 ∧ (∀ a i, a ≠ 53 → a ≠ 54 → wi w a i = wi w0 a i) ∧ (∀ i, i < k → wi w 53 (5 * g + i) = wi w0 (dA (hA b) i + 2) 0 ∧ wi w 54 (5 * g + i) = wi w0 (dA (hA b) i + 2) 1) ∧ ∀ i, i < 5 * g → wi w 53 i = wi w0 53 i ∧ wi w 54 i = wi w0 54 i
theorem l_draw {b : Bool} {w0 : Wd} (hR : w0.2.2 = RTab b) {n g : Nat} (hn : n ≤ 5) (hg : g < 3) (f4 : wi w0 (hA b) 2 = nI n) (p5 : wi w0 49 6 = nI g) {Q : Option Value → Wd → Prop} (kk : ∀ w', DW b w0 w' g n → Q none (si w' 49 6 (nI (g + 1)))) : ∀ (r k : Nat) (w : Wd), k + r = n → DW b w0 w g k → Go SC mX4_draw 2 [(0, .ref 49), (1, .ref (hA b)), (2, .int (nI k))] [] w Q := by
  have hb : hA b = 3 ∨ hA b = 26 := by cases b; exact Or.inl rfl; exact Or.inr rfl
  intro r
  induction r with
  | zero =>
    intro k w hk hD
    have e : k = n := by omega
    rw [e] at hD ⊢
    have e2 : wi w (hA b) 2 = nI n := (hD.2.1 _ 2 (by omega) (by omega)).trans f4
    have e6 : wi w 49 6 = nI g := (hD.2.1 49 6 (by decide) (by decide)).trans p5
    refine BX4_draw_2 b _ w b (hD.1.trans hR) Q ⟨fun _ => ?_, fun z => absurd (by rw [e2]; exact nI_le (Nat.le_refl n) (by omega)) z⟩
    rw [e6, nI_1]
    exact kk w hD
  | succ r ih =>
    intro k w hk hD
    have e2 : wi w (hA b) 2 = nI n := (hD.2.1 _ 2 (by omega) (by omega)).trans f4
    have e6 : wi w 49 6 = nI g := (hD.2.1 49 6 (by decide) (by decide)).trans p5
    have hlt := dA_lq b (d := k) (by omega)
    refine BX4_draw_2 b _ w b (hD.1.trans hR) Q ⟨fun z => absurd z (by rw [e2]; exact nI_ge (by omega) (by omega)), fun _ => ⟨fun _ => ?_, fun z => absurd ?_ z⟩⟩
    · have e7 : ∀ v, wi (si w 53 (5 * g + k) v) 49 6 = nI g := fun v => (wi_ne (Or.inl (by decide))).trans e6
      have e8 : ∀ v, wi (si w 53 (5 * g + k) v) (dA (hA b) k + 2) 1 = wi w (dA (hA b) k + 2) 1 := fun v => wi_ne (Or.inl (by omega))
      rw [e6, n55, pf_in (by omega) (by decide), e7, n55, pf_in (by omega) (by decide), nI_clamp (by omega), e8, nI_1]
      refine ih (k + 1) _ (by omega) ⟨hD.1, fun a i h1 h2 => (wi_ne (Or.inl h2)).trans ((wi_ne (Or.inl h1)).trans (hD.2.1 a i h1 h2)), fun i hi => ?_, fun i hi => ?_⟩
      · by_cases c : i = k
        · subst c
          exact ⟨(wi_ne (Or.inl (by decide))).trans ((wi_self _ _ _ _).trans (hD.2.1 _ 0 (by omega) (by omega))), (wi_self _ _ _ _).trans (hD.2.1 _ 1 (by omega) (by omega))⟩
        · have := hD.2.2.1 i (by omega)
          exact ⟨(wi_ne (Or.inl (by decide))).trans ((wi_ne (Or.inr (by omega))).trans this.1), (wi_ne (Or.inr (by omega))).trans ((wi_ne (Or.inl (by decide))).trans this.2)⟩
      · have := hD.2.2.2 i hi
        exact ⟨(wi_ne (Or.inl (by decide))).trans ((wi_ne (Or.inr (by omega))).trans this.1), (wi_ne (Or.inr (by omega))).trans ((wi_ne (Or.inl (by decide))).trans this.2)⟩
    · rw [e2]
      exact ⟨nI_pos' (by omega), nI_lt (by omega) (by omega), nlt5 (by omega)⟩
theorem z_draw {b : Bool} {w : Wd} (hR : w.2.2 = RTab b) {n g : Nat} (hn : n ≤ 5) (hg : g < 3) (f4 : wi w (hA b) 2 = nI n) (p5 : wi w 49 6 = nI g) {Q : Wd → Prop} (kk : ∀ w', DW b w w' g n → Q (si w' 49 6 (nI (g + 1)))) : ClV SC mX4_draw [.ref 49, .ref (hA b)] w (fun w2 => w2.2.2 = RTab b ∧ Q w2) := by
  refine TX4_draw b w b hR _ ?_
  rw [← nI_0]
  exact l_draw hR hn hg f4 p5 (fun w' h => ⟨rfl, h.1.trans hR, kk w' h⟩) n 0 w (by omega) ⟨rfl, fun _ _ _ _ => rfl, fun i h => absurd h (Nat.not_lt_zero i), fun _ _ => ⟨rfl, rfl⟩⟩
theorem act_congr {wc wr wc' wr' : Wd} {n a j : Nat} (h : ActRel wc wr n a j) (e4 : ∀ i, wi wc' 50 i = wi wc 50 i) (e5 : ∀ i, wi wc' 51 i = wi wc 51 i) (e6 : ∀ i, wi wc' 52 i = wi wc 52 i) (s5 : ∀ i, wi wr' 5 i = wi wr 5 i) (s6 : ∀ i, wi wr' 6 i = wi wr 6 i) : ActRel wc' wr' n a j := by
  unfold ActRel at h ⊢
  simp only [e4, e5, e6, s5, s6]
  exact h
theorem pr_image {wc wr : Wd} (h : RelE wc wr)  : PairI mX10_image mX11_image [] wc wr := by
  obtain ⟨b, hR⟩ := h
  obtain ⟨n, hN⟩ := relN_of hR
  obtain ⟨g1, g2, g3, g4, g5, g6, ⟨u, e, f1, f2, f3, f4, f5, f6, f7, f8, f9, f10, f11, f12, f13, f14, f15, f16, f17⟩, a, g, p1, p2, p3, p4, p5, p6, p7, p8, p9⟩ := id hN
  have e15 : wi (wXX11_anew wr) 0 15 = if n = 0 then 0 else 1 := (an_ne (Or.inr (by decide))).trans f6
  have e22 : wi (wXX11_anew wr) 0 22 = nI g := (an_ne (Or.inr (by decide))).trans p6
  refine TX10_image wc b g1 _ ?_
  rw [hall_n f1 f4, p5]
  by_cases c : n = 0
  · rw [if_pos c]
    exact ⟨fun _ => ⟨_, rfl, TX11_image wr g2 _ ⟨fun _ => ⟨_, rfl, rfl, fin_noA hR (by decide)⟩, fun z => absurd (by rw [e15, if_pos c]) z⟩⟩, fun z => absurd rfl z⟩
  · rw [if_neg c]
    refine ⟨fun z => absurd z no10, fun _ => ⟨fun z => ?_, fun z => ?_⟩⟩
    · have hg : g < 3 := (nI_ltI (b := 3) (by omega) (by decide)).mp z
      refine z_draw g1 f1 hg f4 p5 (fun w' hD => ⟨_, rfl, ?_⟩)
      refine TX11_image wr g2 _ ⟨fun y => absurd y (by rw [e15, if_neg c]; decide), fun _ => ⟨fun y => ?_, fun _ => ?_⟩⟩
      · rw [e22] at y
        have := (nI_eq (b := 3) (by omega) (by decide)).mp y
        omega
      · rw [e22, n10]
        refine z_copy (s := 0) (L := 10) (a1 := 5) (a3 := 7) rfl rfl (by decide) (by decide) (by omega) (by decide) (by decide) (an_R g2) (fun w1 hC => ?_)
        have e1 : wi w1 0 22 = nI g := (hC.2.2 0 22 (Or.inl (by decide))).trans e22
        refine ⟨_, rfl, ?_, b, ?_⟩
        · rw [e1, nI_1]
          show wi (si w' 49 6 (nI (g + 1))) 49 6 - 1 = wi (si w1 0 22 (nI (g + 1))) 0 22 - 1
          rw [wi_self, wi_self]
        · rw [e1, nI_1]
          have c5 : ∀ i, wi (si w1 0 22 (nI (g + 1))) 5 i = wi wr 5 i := fun i => (wi_ne (Or.inl (by decide))).trans ((hC.2.2 5 i (Or.inl (by decide))).trans (an_ne (Or.inl (by decide))))
          have c6 : ∀ i, wi (si w1 0 22 (nI (g + 1))) 6 i = wi wr 6 i := fun i => (wi_ne (Or.inl (by decide))).trans ((hC.2.2 6 i (Or.inl (by decide))).trans (an_ne (Or.inl (by decide))))
          have c1 : ∀ i, wi (si w1 0 22 (nI (g + 1))) 1 i = wi wr 1 i := fun i => (wi_ne (Or.inl (by decide))).trans ((hC.2.2 1 i (Or.inl (by decide))).trans (an_ne (Or.inl (by decide))))
          have c3 : ∀ i, wi (si w1 0 22 (nI (g + 1))) 3 i = wi wr 3 i := fun i => (wi_ne (Or.inl (by decide))).trans ((hC.2.2 3 i (Or.inl (by decide))).trans (an_ne (Or.inl (by decide))))
          have c0 : ∀ i, i ≠ 0 → i ≠ 11 → i ≠ 22 → wi (si w1 0 22 (nI (g + 1))) 0 i = wi wr 0 i := fun i h1 h2 h3 => (wi_ne (Or.inr h3)).trans ((hC.2.2 0 i (Or.inl (by decide))).trans (an_ne (Or.inr ⟨h1, h2⟩)))
          have c11 : wi (si w1 0 22 (nI (g + 1))) 0 11 = 0 := (wi_ne (Or.inr (by decide))).trans ((hC.2.2 0 11 (Or.inl (by decide))).trans (an_11 wr))
          have d0 : ∀ a i, a ≠ 0 → a ≠ 53 → a ≠ 54 → ¬ (a = 49 ∧ i = 6) → wi (wXX10_accept (wi (si w' 49 6 (nI (g + 1))) 49 6 - 1) (si w' 49 6 (nI (g + 1)))) a i = wi wc a i := fun a i h0 h1 h2 h3 => (wi_ne (Or.inl h0)).trans ((wi_ne (by omega)).trans (hD.2.1 a i h1 h2))
          refine rel_past hN hD.1 (fun a i h1 h2 _ => d0 a i (by omega) (by omega) (by omega) (by omega)) hC.1 (c0 2 (by decide) (by decide) (by decide)) (c0 9 (by decide) (by decide) (by decide)) (c0 10 (by decide) (by decide) (by decide)) (c0 15 (by decide) (by decide) (by decide)) c1 c3 ((wi_self _ _ _ _).trans c11.symm) (fun y => by rw [c11] at y; exact absurd y (by decide)) (fun d hd => ?_) ?_
          · have hlt := dA_lq b (d := d) (by omega)
            obtain ⟨m, m1, m2, m3, m4, m5, m6, m7, m8⟩ := f15 d hd
            have hd0 : dA (hA b) d + 2 ≠ 0 := by omega
            rw [d0 _ _ hd0 (by omega) (by omega) (by omega), d0 _ _ hd0 (by omega) (by omega) (by omega), c5, c5]
            exact ⟨m6, m7, m8⟩
          · refine ⟨a, g + 1, p1, by omega, (d0 49 3 (by decide) (by decide) (by decide) (by decide)).trans p3, (c0 21 (by decide) (by decide) (by decide)).trans p4, (wi_ne (Or.inl (by decide))).trans (wi_self _ _ _ _), wi_self _ _ _ _, fun y => absurd y c, fun j hj => act_congr (p8 j hj) (fun i => d0 50 i (by decide) (by decide) (by decide) (by omega)) (fun i => d0 51 i (by decide) (by decide) (by decide) (by omega)) (fun i => d0 52 i (by decide) (by decide) (by decide) (by omega)) c5 c6, fun j hj k hk => ?_⟩
            have x3 : ∀ i, wi (wXX10_accept (wi (si w' 49 6 (nI (g + 1))) 49 6 - 1) (si w' 49 6 (nI (g + 1)))) 53 i = wi w' 53 i := fun i => (wi_ne (Or.inl (by decide))).trans (wi_ne (Or.inl (by decide)))
            have x4 : ∀ i, wi (wXX10_accept (wi (si w' 49 6 (nI (g + 1))) 49 6 - 1) (si w' 49 6 (nI (g + 1)))) 54 i = wi w' 54 i := fun i => (wi_ne (Or.inl (by decide))).trans (wi_ne (Or.inl (by decide)))
            have x7 : ∀ i, wi (si w1 0 22 (nI (g + 1))) 7 i = wi w1 7 i := fun i => wi_ne (Or.inl (by decide))
            rw [x3, x4, x7, x7]
            by_cases cj : j = g
            · subst cj
              obtain ⟨m, m1, m2, m3, m4, m5, m6, m7, m8⟩ := f15 k hk
              have y1 := hD.2.2.1 k hk
              have y2 := hC.2.1 k (by omega)
              have y3 := hC.2.1 (5 + k) (by omega)
              rw [Nat.zero_add, an_ne (Or.inl (by decide))] at y2 y3
              rw [y1.1, y1.2, y2, show 10 * j + 5 + k = 10 * j + (5 + k) by omega, y3]
              exact ⟨m6, m7, m8⟩
            · have y1 := p9 j (by omega) k hk
              have y2 := hD.2.2.2 (5 * j + k) (by omega)
              have y3 := hC.2.2 7 (10 * j + k) (Or.inr (Or.inl (by omega)))
              have y4 := hC.2.2 7 (10 * j + 5 + k) (Or.inr (Or.inl (by omega)))
              rw [an_ne (Or.inl (by decide))] at y3 y4
              rw [y2.1, y2.2, y3, y4]
              exact y1
    · have hg : g = 3 := by
        have : ¬ g < 3 := fun h => z (nI_lt (b := 3) h (by decide))
        omega
      subst hg
      exact ⟨_, rfl, TX11_image wr g2 _ ⟨fun y => absurd y (by rw [e15, if_neg c]; decide), fun _ => ⟨fun _ => ⟨_, rfl, rfl, fin_noA hR (by decide)⟩, fun y => absurd e22 y⟩⟩⟩
