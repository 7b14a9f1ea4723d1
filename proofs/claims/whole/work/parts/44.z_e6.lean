theorem RT_n (b : Bool) (a i : Nat) : (63 ≤ a ∨ 10 ≤ i) → RTab b a i = none := by
  unfold RTab
  split <;> (intro h; first | rfl | omega)
theorem RT_f : ∀ a, a < 63 → ∀ i, i < 10 → ¬ (a = 0 ∧ (i = 1 ∨ i = 2)) → RTab false a i = RTab true a i := by decide +kernel
theorem RT_o (b : Bool) {a i : Nat} (h : ¬ (a = 0 ∧ (i = 1 ∨ i = 2))) : RTab b a i = RTab (!b) a i := by
  have key : RTab false a i = RTab true a i := by
    by_cases c : a < 63 ∧ i < 10
    · exact RT_f a c.1 i c.2 h
    · rw [RT_n false a i (by omega), RT_n true a i (by omega)]
  cases b
  · exact key
  · exact key.symm
theorem RT_sw {b : Bool} {w : Wd} (hR : w.2.2 = RTab b) : (sr (sr w 0 1 (some (hA (!b)))) 0 2 (some (hA b))).2.2 = RTab (!b) := by
  funext a i
  show up2 (up2 w.2.2 0 1 (some (hA (!b)))) 0 2 (some (hA b)) a i = RTab (!b) a i
  by_cases c2 : a = 0 ∧ i = 2
  · rw [c2.1, c2.2, up2_self]
    cases b
    · rfl
    · rfl
  · rw [up2_ne _ _ c2]
    by_cases c1 : a = 0 ∧ i = 1
    · rw [c1.1, c1.2, up2_self]
      cases b
      · rfl
      · rfl
    · rw [up2_ne _ _ c1, hR]
      exact RT_o b (by omega)
theorem CS.ext {c : Bool} {T : Nat → Int32} {n : Nat} {A : AT} {w w' : Wd} (h : CS c T n A w) (h5 : A 9 2 ≤ 5) (e : ∀ a i, 1 ≤ a → a < 49 → wi w' a i = wi w a i) : CS c T n A w' := by
  have hb := hA_2 c
  obtain ⟨h1, ⟨h2, h3⟩, ⟨h4, h5', h6, h7⟩, h8, h9, h10⟩ := h
  refine ⟨⟨h1.1, (e _ _ (by omega) (by omega)).trans h1.2.1, fun k hk => (e _ _ (by omega) (by omega)).trans (h1.2.2 k hk)⟩, ⟨(e _ _ (by omega) (by omega)).trans h2, (e _ _ (by omega) (by omega)).trans h3⟩, ⟨(e _ _ (by omega) (by omega)).trans h4, (e _ _ (by omega) (by omega)).trans h5', (e _ _ (by omega) (by omega)).trans h6, (e _ _ (by omega) (by omega)).trans h7⟩, fun d hd => ?_, fun i hi => ?_, fun i hi => ?_⟩
  · have dd : dA (hA c) d = hA c + 2 + 3 * d := rfl
    exact (h8 d hd).cg (fun i => e _ _ (by omega) (by omega)) (fun i => e _ _ (by omega) (by omega)) (fun i => e _ _ (by omega) (by omega)) rfl rfl rfl (fun _ => rfl)
  · obtain ⟨g1, g2⟩ := h9 i hi
    exact ⟨(e _ _ (by omega) (by omega)).trans g1, (e _ _ (by omega) (by omega)).trans g2⟩
  · obtain ⟨g1, g2, g3, g4⟩ := h10 i hi
    exact ⟨(e _ _ (by omega) (by omega)).trans g1, (e _ _ (by omega) (by omega)).trans g2, (e _ _ (by omega) (by omega)).trans g3, (e _ _ (by omega) (by omega)).trans g4⟩
/-- what begin changes: each dance's tangle -/
def NB (c : Bool) (w w' : Wd) : Prop := ∀ a i, (∀ d, d < 5 → a ≠ dA (hA c) d + 2) → wi w' a i = wi w a i
theorem CS.nb {c : Bool} {T : Nat → Int32} {n : Nat} {A : AT} {w w' : Wd} (h : CS c T n A w) (h5 : A 9 2 ≤ 5) (e : NB c w w') : CS c T n A w' := by
  have hb := hA_2 c
  have dd : ∀ d, dA (hA c) d = hA c + 2 + 3 * d := fun _ => rfl
  have e' : ∀ a i, (∀ d, d < 5 → a ≠ hA c + 2 + 3 * d + 2) → wi w' a i = wi w a i := fun a i q => e a i q
  obtain ⟨h1, ⟨h2, h3⟩, ⟨h4, h5', h6, h7⟩, h8, h9, h10⟩ := h
  refine ⟨⟨h1.1, (e' _ _ (fun d hd => by omega)).trans h1.2.1, fun k hk => (e' _ _ (fun d hd => by omega)).trans (h1.2.2 k hk)⟩, ⟨(e' _ _ (fun d hd => by omega)).trans h2, (e' _ _ (fun d hd => by omega)).trans h3⟩, ⟨(e' _ _ (fun d hd => by omega)).trans h4, (e' _ _ (fun d hd => by omega)).trans h5', (e' _ _ (fun d hd => by omega)).trans h6, (e' _ _ (fun d hd => by omega)).trans h7⟩, fun k hk => ?_, fun i hi => ?_, fun i hi => ?_⟩
  · obtain ⟨k1, k2, k3, k4⟩ := h8 k hk
    have dk := dd k
    exact ⟨(e' _ _ (fun d hd => by omega)).trans k1, (e' _ _ (fun d hd => by omega)).trans k2, (e' _ _ (fun d hd => by omega)).trans k3, fun j hj => (e' _ _ (fun d hd => by omega)).trans (k4 j hj)⟩
  · obtain ⟨g1, g2⟩ := h9 i hi
    exact ⟨(e' _ _ (fun d hd => by omega)).trans g1, (e' _ _ (fun d hd => by omega)).trans g2⟩
  · obtain ⟨g1, g2, g3, g4⟩ := h10 i hi
    exact ⟨(e' _ _ (fun d hd => by omega)).trans g1, (e' _ _ (fun d hd => by omega)).trans g2, (e' _ _ (fun d hd => by omega)).trans g3, (e' _ _ (fun d hd => by omega)).trans g4⟩
/-- where each TANGLE stands behind its whole row -/
def NW (c : Bool) (A : AT) (w : Wd) (d : Nat) : Prop := wi w (dA (hA c) d + 2) 0 = (run (fun i => nI (A (10 + d) i)) (skC 0) (A 2 d)).1 ∧ wi w (dA (hA c) d + 2) 1 = (run (fun i => nI (A (10 + d) i)) (skC 0) (A 2 d)).2
theorem g_begin {b c : Bool} {w0 : Wd} {T : Nat → Int32} {n : Nat} {A : AT} (hB : AB n A) (hC : CS c T n A w0) {Q : Option Value → Wd → Prop} (kk : ∀ w', w'.2.2 = RTab b → NB c w0 w' → (∀ d, d < A 9 2 → NW c A w' d) → Q none w') : ∀ (r d : Nat) (w : Wd), d + r = A 9 2 → w.2.2 = RTab b → NB c w0 w → (∀ k, k < d → NW c A w k) → Go SC mX2_begin 2 [(0, .ref (hA c)), (1, .int (nI d))] [] w Q := by
  have tD := hB.2.2.1
  have hb := hA_2 c
  intro r
  induction r with
  | zero =>
    intro d w hd hw hN hl
    have C := hC.nb tD hN
    refine BX2_begin_2 c _ w b hw Q ⟨fun _ => kk w hw hN (fun k hk => hl k (by omega)), fun z => absurd ?_ z⟩
    rw [C.2.2.1.2.1]
    exact nI_le (by omega) (by omega)
  | succ r ih =>
    intro d w hd hw hN hl
    have C := hC.nb tD hN
    have dl : d < A 9 2 := by omega
    have eD := C.2.2.1.2.1
    obtain ⟨c1, c2, c3, c4⟩ := C.2.2.2.1 d dl
    obtain ⟨y1, y2, y3, y4, y5, y6⟩ := hB.2.2.2.2.2.2.1 d dl
    refine BX2_begin_2 c _ w b hw Q ⟨fun z => ?_, fun _ => ⟨fun _ => ?_, fun z => absurd ⟨nI_pos' (by omega), ?_, nlt5 (by omega)⟩ z⟩⟩
    · rw [eD] at z
      exact absurd z (nI_ge (by omega) (by omega))
    · rw [nI_clamp (by omega), nI_1, c1]
      have d0 : ∀ k, dA (hA c) k = hA c + 2 + 3 * k := fun _ => rfl
      have dd := d0 d
      refine z_walk (c := c) (k := d) (by omega) (sh_dn c (by omega)) (by omega) (by omega) hw c1 (Nat.le_refl _) y5 (fun w' tw => ?_)
      have ex : run (fun i => wi w (dA (hA c) d + 1) i) (skC 0) (A 2 d) = run (fun i => nI (A (10 + d) i)) (skC 0) (A 2 d) := run_ext _ (fun i hi => ⟨c4 i hi, rfl⟩)
      have t3 := tw.2.2.1
      have t4 := tw.2.2.2
      rw [ex] at t3 t4
      refine ih (d + 1) w' (by omega) (tw.1.trans hw) (fun a i q => (tw.2.1 a i (q d (by omega))).trans (hN a i q)) (fun k hk => ?_)
      by_cases q : k = d
      · rw [q]
        exact ⟨t3, t4⟩
      · have dk := d0 k
        obtain ⟨k1, k2⟩ := hl k (by omega)
        exact ⟨(tw.2.1 _ _ (by omega)).trans k1, (tw.2.1 _ _ (by omega)).trans k2⟩
    · rw [eD]
      exact nI_lt (by omega) (by omega)
theorem z_begin {b c : Bool} {w0 : Wd} (hR : w0.2.2 = RTab b) {T : Nat → Int32} {n : Nat} {A : AT} (hB : AB n A) (hC : CS c T n A w0) {Q : Wd → Prop} (kk : ∀ w', w'.2.2 = RTab b → NB c w0 w' → (∀ d, d < A 9 2 → NW c A w' d) → Q w') : ClV SC mX2_begin [.ref (hA c)] w0 (fun w2 => w2.2.2 = RTab b ∧ Q w2) := by
  refine TX2_begin c w0 b hR _ ?_
  rw [← nI_0]
  exact g_begin hB hC (fun w' h1 h2 h3 => ⟨rfl, h1, kk w' h1 h2 h3⟩) (A 9 2) 0 w0 (Nat.zero_add _) hR (fun _ _ _ => rfl) (fun k hk => absurd hk (Nat.not_lt_zero k))
/-- where reading begins -/
def rdC (b : Bool) (n : Nat) (wc : Wd) : Wd := wXX2_clear (!b) (si (si (si (si (si (si wc 1 1 0) 1 2 (nI n)) 1 3 0) 1 8 0) 1 9 0) 1 10 (-1))
def rdR (n : Nat) (wr : Wd) : Wd := si (si (si (si (si (wXX11_anew wr) 0 2 0) 0 9 0) 0 13 0) 0 14 0) 0 3 (nI n)
theorem rdC_o {b : Bool} {n : Nat} {wc : Wd} {a i : Nat} (h1 : a ≠ 1) (h2 : a ≠ hA (!b)) : wi (rdC b n wc) a i = wi wc a i :=
  (wi_ne (Or.inl h2)).trans ((wi_ne (Or.inl h2)).trans ((wi_ne (Or.inl h2)).trans ((wi_ne (Or.inl h2)).trans ((wi_ne (Or.inl h1)).trans ((wi_ne (Or.inl h1)).trans ((wi_ne (Or.inl h1)).trans ((wi_ne (Or.inl h1)).trans ((wi_ne (Or.inl h1)).trans (wi_ne (Or.inl h1))))))))))
theorem rdC_1 {b : Bool} {n : Nat} {wc : Wd} {i : Nat} : wi (rdC b n wc) 1 i = wi (si (si (si (si (si (si wc 1 1 0) 1 2 (nI n)) 1 3 0) 1 8 0) 1 9 0) 1 10 (-1)) 1 i := by
  have h2 : 1 ≠ hA (!b) := by
    have := hA_2 b
    omega
  exact (wi_ne (Or.inl h2)).trans ((wi_ne (Or.inl h2)).trans ((wi_ne (Or.inl h2)).trans (wi_ne (Or.inl h2))))
theorem rdC_s {b : Bool} {n : Nat} {T : Nat → Int32} {wc : Wd} (hn : n ≤ 600) (hT : ∀ k, k < n → wi wc 2 k = T k) : CS (!b) T n (fun _ _ => 0) (rdC b n wc) := by
  have hb := hA_2 b
  have o : ∀ {i j : Nat} {w : Wd} {v : Int32}, i ≠ j → wi (si w 1 j v) 1 i = wi w 1 i := fun h => wi_ne (Or.inr h)
  have p : ∀ {i j : Nat} {w : Wd} {v : Int32}, i ≠ j → wi (si w (hA (!b)) j v) (hA (!b)) i = wi w (hA (!b)) i := fun h => wi_ne (Or.inr h)
  refine ⟨⟨hn, rdC_1.trans ((o (by decide)).trans ((o (by decide)).trans ((o (by decide)).trans ((o (by decide)).trans (wi_self _ _ _ _))))), fun k hk => (rdC_o (by decide) (by omega)).trans (hT k hk)⟩, ⟨rdC_1.trans ((o (by decide)).trans ((o (by decide)).trans (wi_self _ _ _ _))), rdC_1.trans ((o (by decide)).trans (wi_self _ _ _ _))⟩, ⟨?_, ?_, ?_, ?_⟩, fun d hd => absurd hd (Nat.not_lt_zero d), fun i hi => absurd hi (Nat.not_lt_zero i), fun i hi => absurd hi (Nat.not_lt_zero i)⟩
  · exact (p (by decide)).trans ((p (by decide)).trans ((p (by decide)).trans (wi_self _ _ _ _)))
  · exact (p (by decide)).trans ((p (by decide)).trans (wi_self _ _ _ _))
  · exact (p (by decide)).trans (wi_self _ _ _ _)
  · exact wi_self _ _ _ _
theorem rdR_o {n : Nat} {wr : Wd} {a i : Nat} (h : ¬ (a = 0 ∧ (i = 0 ∨ i = 2 ∨ i = 3 ∨ i = 9 ∨ i = 11 ∨ i = 13 ∨ i = 14))) : wi (rdR n wr) a i = wi wr a i :=
  (wi_ne (by omega)).trans ((wi_ne (by omega)).trans ((wi_ne (by omega)).trans ((wi_ne (by omega)).trans ((wi_ne (by omega)).trans (an_ne (by omega))))))
theorem AB0 (n : Nat) : AB n (fun _ _ => 0) := ⟨Nat.zero_le _, Nat.zero_le _, Nat.zero_le _, Nat.zero_le _, Nat.zero_le _, fun _ => ⟨rfl, rfl, rfl, rfl⟩, fun d hd => absurd hd (Nat.not_lt_zero d), fun i hi => absurd hi (Nat.not_lt_zero i), fun i hi => absurd hi (Nat.not_lt_zero i)⟩
/-- the reference as far as its first line -/
theorem r_begin {n : Nat} {wr : Wd} (hR : wr.2.2 = RM) (hn : n ≤ 600) {hh : Nat} (h6 : hh ≤ 600) (h2 : wi wr 0 2 = nI hh) (hnh : n ≤ hh) (hT : ∀ k, k < n → ¬ wi wr 1 k = -1) {QR : Option Value → Wd → Prop} (hq : ∀ wr', wr'.2.2 = RM → RS (fun k => wi wr 1 k) n (fun _ _ => 0) wr' → wi wr' 0 5 = nI 0 → FrR (rdR n wr) wr' → ClV SR mX11_next [.ref 0] wr' (fun w25 => w25.2.2 = RM ∧ ClV SR mX11_readLine [.ref 0] w25 (fun w26 => w26.2.2 = RM ∧ Go SR mX11_hall 82 [(0, .ref 0), (1, .int (nI n)), (2, .int (nI 146))] [] w26 QR))) : Cl SR mX11_hall [.ref 0, .int (nI n)] wr QR := by
  have e0 : wi (wXX11_anew wr) 0 2 = nI hh := (an_ne (Or.inr (by decide))).trans h2
  have hin : ¬ vXX11_in (nI n) 0 (wi (wXX11_anew wr) 0 2) = 0 := by
    rw [e0, v_in, if_neg (nI_pos (by omega)), if_neg (nI_nlt hnh (by omega))]
    decide
  refine TX11_hall (nI n) wr hR _ ⟨fun z => absurd z hin, fun _ => ?_⟩
  have o : ∀ {w : Wd} {i j : Nat} {v : Int32}, i ≠ j → wi (si w 0 j v) 0 i = wi w 0 i := fun h => wi_ne (Or.inr h)
  have w13 : wi (si (si (si (si (wXX11_anew wr) 0 2 0) 0 9 0) 0 13 0) 0 14 0) 0 13 = 0 := (o (by decide)).trans (wi_self _ _ _ _)
  have w14 : wi (si (si (si (si (wXX11_anew wr) 0 2 0) 0 9 0) 0 13 0) 0 14 0) 0 14 = 0 := wi_self _ _ _ _
  have w9 : wi (si (si (si (si (wXX11_anew wr) 0 2 0) 0 9 0) 0 13 0) 0 14 0) 0 9 = 0 := (o (by decide)).trans ((o (by decide)).trans (wi_self _ _ _ _))
  have w1 : ∀ k, wi (si (si (si (si (wXX11_anew wr) 0 2 0) 0 9 0) 0 13 0) 0 14 0) 1 k = wi wr 1 k := fun k => (wi_ne (Or.inl (by decide))).trans ((wi_ne (Or.inl (by decide))).trans ((wi_ne (Or.inl (by decide))).trans ((wi_ne (Or.inl (by decide))).trans (an_ne (Or.inl (by decide))))))
  have := g_zero (w0 := si (si (si (si (wXX11_anew wr) 0 2 0) 0 9 0) 0 13 0) 0 14 0) (n := n) (Q := QR) (fun w' hw hf hz => ?_) 146 0 (si (si (si (si (wXX11_anew wr) 0 2 0) 0 9 0) 0 13 0) 0 14 0) (by decide) hR (fun _ _ _ => rfl) (fun i hi => absurd hi (Nat.not_lt_zero i))
  · rw [nI_0] at this
    exact this
  · have x4 : ∀ i, i < 146 → wi (si (si w' 0 3 (nI n)) 0 5 0) 4 i = nI 0 := fun i hi => (wi_ne (Or.inl (by decide))).trans ((wi_ne (Or.inl (by decide))).trans (hz i hi))
    have x0 : ∀ i, i ≠ 3 → i ≠ 5 → wi (si (si w' 0 3 (nI n)) 0 5 0) 0 i = wi w' 0 i := fun i q1 q2 => (o q2).trans (o q1)
    refine hq _ hw ⟨⟨hn, (o (by decide)).trans (wi_self _ _ _ _), fun k hk => ⟨(wi_ne (Or.inl (by decide))).trans ((wi_ne (Or.inl (by decide))).trans ((hf 1 k (by decide)).trans (w1 k))), hT k hk⟩⟩, ⟨(x0 13 (by decide) (by decide)).trans ((hf 0 13 (by decide)).trans w13), (x0 14 (by decide) (by decide)).trans ((hf 0 14 (by decide)).trans w14), (x0 9 (by decide) (by decide)).trans ((hf 0 9 (by decide)).trans w9)⟩, ⟨x4 0 (by decide), x4 1 (by decide), x4 2 (by decide), x4 3 (by decide)⟩, fun d hd => absurd hd (Nat.not_lt_zero d), fun d _ hd5 => x4 (101 + d) (by omega), fun i hi => absurd hi (Nat.not_lt_zero i), fun i hi => absurd hi (Nat.not_lt_zero i)⟩ (wi_self _ _ _ _) ⟨hw.trans hR.symm, fun a i q1 q2 q3 => ?_⟩
    by_cases c : a = 0 ∧ i = 3
    · rw [c.1, c.2]
      exact ((o (by decide)).trans (wi_self _ _ _ _)).trans (wi_self _ _ _ _).symm
    · exact (wi_ne (by omega)).trans ((wi_ne (by omega)).trans ((hf a i q2).trans (wi_ne (by omega)).symm))
theorem z_read {b : Bool} {n : Nat} {wc wr : Wd} (hRc : wc.2.2 = RTab b) (hR : wr.2.2 = RM) (hn : n ≤ 600) {hh : Nat} (h6 : hh ≤ 600) (h2 : wi wr 0 2 = nI hh) (hnh : n ≤ hh) (hT : ∀ k, k < n → wi wc 2 k = wi wr 1 k ∧ ¬ wi wr 1 k = -1) {Q : Int32 → Wd → Prop}
    (kF : ∀ f q wc', wc'.2.2 = RTab b → FlC (!b) (rdC b n wc) wc' f q → (∀ QR : Option Value → Wd → Prop, (∀ wr', wr'.2.2 = RM → FlR (rdR n wr) wr' f q → QR (some (.int (-1))) (wXX11_no 4 wr')) → Cl SR mX11_hall [.ref 0, .int (nI n)] wr QR) → Q 0 wc')
    (kO : ∀ A wc', wc'.2.2 = RTab b → AB n A → 0 < A 9 2 → CS (!b) (fun k => wi wr 1 k) n A wc' → FrC (!b) (rdC b n wc) wc' → (∀ QR : Option Value → Wd → Prop, (∀ wr', wr'.2.2 = RM → RS (fun k => wi wr 1 k) n A wr' → FrR (rdR n wr) wr' → ClV SR mX11_copy [.ref 4, .int 0, .ref 3, .int 0, .int 146] wr' (fun w19 => w19.2.2 = RM ∧ Go SR mX11_hall 201 [(0, .ref 0), (1, .int (nI n)), (2, .int 0)] [] (si w19 0 15 1) QR)) → Cl SR mX11_hall [.ref 0, .int (nI n)] wr QR) → Q 1 wc') :
    ClI SC mX8_read [.ref 1, .ref (hA (!b)), .int (nI n)] wc (fun x w1 => w1.2.2 = RTab b ∧ Q x w1) := by
  have hk : ∀ f q wc', wc'.2.2 = RTab b → FlC (!b) (rdC b n wc) wc' f q → (∀ QR : Option Value → Wd → Prop, (∀ wr', wr'.2.2 = RM → FlR (rdR n wr) wr' f q → QR (some (.int (-1))) (wXX11_no 4 wr')) → Cl SR mX11_hall [.ref 0, .int (nI n)] wr QR) → (fun (r : Option Value) (w' : Wd) => ∃ x, r = some (.int x) ∧ w'.2.2 = RTab b ∧ Q x w') (some (.int 0)) wc' := fun f q wc' h1 h2 h3 => ⟨_, rfl, h1, kF f q wc' h1 h2 h3⟩
  have ho : ∀ A wc', wc'.2.2 = RTab b → AB n A → 0 < A 9 2 → CS (!b) (fun k => wi wr 1 k) n A wc' → FrC (!b) (rdC b n wc) wc' → (∀ QR : Option Value → Wd → Prop, (∀ wr', wr'.2.2 = RM → RS (fun k => wi wr 1 k) n A wr' → FrR (rdR n wr) wr' → ClV SR mX11_copy [.ref 4, .int 0, .ref 3, .int 0, .int 146] wr' (fun w19 => w19.2.2 = RM ∧ Go SR mX11_hall 201 [(0, .ref 0), (1, .int (nI n)), (2, .int 0)] [] (si w19 0 15 1) QR)) → Cl SR mX11_hall [.ref 0, .int (nI n)] wr QR) → (fun (r : Option Value) (w' : Wd) => ∃ x, r = some (.int x) ∧ w'.2.2 = RTab b ∧ Q x w') (some (.int 1)) wc' := fun A wc' h1 h2 h3 h4 h5 h7 => ⟨_, rfl, h1, kO A wc' h1 h2 h3 h4 h5 h7⟩
  have hC0 := rdC_s (b := b) (wc := wc) hn (fun k hk => (hT k hk).1)
  have e3 : wi (rdC b n wc) 1 3 = nI 0 := rdC_1.trans ((wi_ne (Or.inr (by decide))).trans ((wi_ne (Or.inr (by decide))).trans ((wi_ne (Or.inr (by decide))).trans (wi_self _ _ _ _))))
  have R0 : (rdC b n wc).2.2 = RTab b := hRc
  refine TX8_read (!b) (nI n) wc b hRc _ ?_
  refine h_ln (T := fun k => wi wr 1 k) (n := n) (wc0 := rdC b n wc) (wr0 := rdR n wr) (l1 := nI n) (l2 := nI 146) (G := fun QR => Cl SR mX11_hall [.ref 0, .int (nI n)] wr QR) hk (AB0 n) (Nat.zero_le n) R0 hC0 e3 (FrC.rf _ _) (fun QR hq => r_begin hR hn h6 h2 hnh (fun k hk => (hT k hk).2) hq) (fun s' e' k' p' A' wc' hs hB' tk' R' C' T' F' hG' => ?_)
  have := h_loop (Q := fun (r : Option Value) (w' : Wd) => ∃ x, r = some (.int x) ∧ w'.2.2 = RTab b ∧ Q x w') (T := fun k => wi wr 1 k) (n := n) (wc0 := rdC b n wc) (wr0 := rdR n wr) (l1 := nI n) (l2 := nI 146) (l2c := nI n) (G := fun QR => Cl SR mX11_hall [.ref 0, .int (nI n)] wr QR) hk ho (n + 1) s' e' k' p' A' 0 wc' (by omega) (Nat.zero_le _) hB' tk' R' C' T' F' hG'
  rw [nI_0] at this
  exact this
theorem z_dances {w0 : Wd} {n : Nat} {A : AT} (hB : AB n A) (hR : w0.2.2 = RM) (s1 : wi w0 3 1 = nI (A 9 2)) (s2 : wi w0 3 2 = nI (A 9 3)) (sd : ∀ d, d < A 9 2 → wi w0 3 (4 + d) = nI (A 2 d) ∧ ∀ j, j < A 2 d → wi w0 3 (9 + 12 * d + j) = nI (A (10 + d) j)) {l1 : Int32} {Q : Option Value → Wd → Prop} (kk : ∀ w', w'.2.2 = RM → (∀ a i, a ≠ 5 → ¬ (a = 0 ∧ (i = 23 ∨ i = 24)) → wi w' a i = wi w0 a i) → (∀ d, d < A 9 2 → wi w' 5 d = (run (fun i => nI (A (10 + d) i)) (skC 0) (A 2 d)).1 ∧ wi w' 5 (5 + d) = (run (fun i => nI (A (10 + d) i)) (skC 0) (A 2 d)).2) → Q (some (.int (nI (A 9 2)))) (si (si w' 0 21 0) 0 22 0)) : Go SR mX11_hall 201 [(0, .ref 0), (1, .int l1), (2, .int 0)] [] w0 Q := by
  have := g_dances hB s1 s2 sd (l1 := l1) kk (A 9 2) 0 w0 (Nat.zero_add _) hR (fun _ _ _ _ => rfl) (fun d' hd' => absurd hd' (Nat.not_lt_zero d'))
  rw [nI_0] at this
  exact this
theorem pr_hall {wc wr : Wd} (h : RelE wc wr) (a1 : Int32)  : PairI mX10_hall mX11_hall [a1] wc wr := by
  obtain ⟨b, hR⟩ := h
  have g1 := hR.1
  have g2 := hR.2.1
  have hb := hA_2 b
  obtain ⟨hh, t1, t2, t3, t4⟩ := hR.2.2.2.2.2.1
  have e0 : wi (wXX11_anew wr) 0 2 = nI hh := (an_ne (Or.inr (by decide))).trans t3
  have K2 : vXX11_in a1 0 (wi (wXX11_anew wr) 0 2) = 0 → ClI SR mX11_hall [.ref 0, .int a1] wr (fun y wr' => (-1 : Int32) = y ∧ RelE (wXX10_refuse 2 (-1) wc) wr') := fun z => TX11_hall a1 wr g2 _ ⟨fun _ => ⟨_, rfl, rfl, fin_noA hR (by decide)⟩, fun y => absurd z y⟩
  refine TX10_hall a1 wc b g1 _ ⟨fun z => ⟨_, rfl, K2 ?_⟩, fun z => ⟨fun z2 => ?_, fun z2 => ⟨_, rfl, K2 ?_⟩⟩⟩
  · rw [v_in, if_pos z]
  rotate_left
  · rw [v_in, if_neg z, if_pos]
    rw [e0]
    rw [t2] at z2
    exact Int32.not_le.mp z2
  · rw [t2] at z2
    obtain ⟨n, hn, rfl⟩ := nI_of z
    have hnh : n ≤ hh := (nI_leI (by omega) (by omega)).mp z2
    refine z_read g1 g2 (by omega) t1 t3 hnh (fun k hk => ⟨(t4 k (by omega)).1, fun y => ?_⟩) (fun f q wc' hRc' fl hq => ⟨fun _ => ⟨_, rfl, hq _ (fun wr' hR' flr => ⟨_, rfl, rfl, b, ?_⟩)⟩, fun z => absurd rfl z⟩) (fun A wc' hRc' hB hD hC hF hq => ⟨fun z => absurd z (by decide), fun _ => ⟨RT_sw hRc', z_begin (T := fun k => wi wr 1 k) (n := n) (A := A) (w0 := sr (sr wc' 0 1 (some (hA (!b)))) 0 2 (some (hA b))) (RT_sw hRc') hB (hC.ext hB.2.2.1 (fun _ _ _ _ => rfl)) (fun w4 hR4 hN4 hW4 => ⟨_, rfl, hq _ (fun wr' hR' hS hFr => ?_)⟩)⟩⟩)
    · have := (t4 k (by omega)).2.1
      rw [y] at this
      exact absurd this (by decide)
    · have r0 : ∀ a i, a ≠ 2 → a ≠ 4 → ¬ (a = 0 ∧ (i = 0 ∨ i = 2 ∨ i = 3 ∨ (4 ≤ i ∧ i ≤ 10) ∨ i = 11 ∨ i = 13 ∨ i = 14)) → wi (wXX11_no 4 wr') a i = wi wr a i := fun a i q1 q2 q3 => (wi_ne (by omega)).trans ((flr.1.2 a i q1 q2 (by omega)).trans (rdR_o (by omega)))
      refine rel_fail hR (hRc'.trans g1.symm) (fun a i q1 q2 => (wi_ne (by omega)).trans ((fl.1.2 a i (by omega) q2).trans (rdC_o (by omega) (by omega)))) ((wi_self _ _ _ _).trans (wi_self _ _ _ _).symm) (((wi_ne (by omega)).trans fl.2.1).trans ((wi_ne (by omega)).trans flr.2.2.1).symm) (((wi_ne (by omega)).trans fl.2.2).trans ((wi_ne (by omega)).trans flr.2.2.2).symm) (hR'.trans g2.symm) (r0 _ _ (by decide) (by decide) (by decide)) (r0 _ _ (by decide) (by decide) (by decide)) (r0 _ _ (by decide) (by decide) (by decide)) (fun i => r0 _ _ (by decide) (by decide) (by omega)) (fun i => r0 _ _ (by decide) (by decide) (by omega)) (fun i => r0 _ _ (by decide) (by decide) (by omega)) (fun i => r0 _ _ (by decide) (by decide) (by omega)) ⟨0, by decide, ?_, ?_, fun k hk => absurd hk (Nat.not_lt_zero k)⟩
      · refine (wi_ne (by omega)).trans ((fl.1.2 1 1 (by omega) (by omega)).trans (rdC_1.trans ?_))
        exact (wi_ne (Or.inr (by decide))).trans ((wi_ne (Or.inr (by decide))).trans ((wi_ne (Or.inr (by decide))).trans ((wi_ne (Or.inr (by decide))).trans ((wi_ne (Or.inr (by decide))).trans (wi_self _ _ _ _)))))
      · refine (wi_ne (by omega)).trans ((flr.1.2 0 2 (by decide) (by decide) (by omega)).trans ?_)
        exact (wi_ne (Or.inr (by decide))).trans ((wi_ne (Or.inr (by decide))).trans ((wi_ne (Or.inr (by decide))).trans ((wi_ne (Or.inr (by decide))).trans (wi_self _ _ _ _))))
    · have tD := hB.2.2.1
      have hC4 : CS (!b) (fun k => wi wr 1 k) n A w4 := (hC.ext tD (fun _ _ _ _ => rfl)).nb tD hN4
      have d0 : ∀ k, dA (hA (!b)) k = hA (!b) + 2 + 3 * k := fun _ => rfl
      refine z_copy (a1 := 4) (na1 := 146) rfl (a3 := 3) (na3 := 146) rfl (by decide) (s := 0) (t := 0) (L := 146) (by decide) (by decide) (by decide) (by decide) hR' (fun w2 cp => ?_)
      have c3 : ∀ i, i < 146 → wi (si w2 0 15 1) 3 i = wi wr' 4 i := fun i hi => (wi_ne (Or.inl (by decide))).trans (by
        have := cp.2.1 i hi
        rw [Nat.zero_add] at this
        exact this)
      have co : ∀ a i, a ≠ 3 → ¬ (a = 0 ∧ i = 15) → wi (si w2 0 15 1) a i = wi wr' a i := fun a i q1 q2 => (wi_ne (by omega)).trans (cp.2.2 a i (Or.inl q1))
      have sd : ∀ d, d < A 9 2 → wi (si w2 0 15 1) 3 (4 + d) = nI (A 2 d) ∧ ∀ j, j < A 2 d → wi (si w2 0 15 1) 3 (9 + 12 * d + j) = nI (A (10 + d) j) := fun d hd => by
        have gd := hS.2.2.2.1 d hd
        have bd := (hB.2.2.2.2.2.2.1 d hd).2.2.2.2.1
        exact ⟨(c3 _ (by omega)).trans gd.1, fun j hj => (c3 _ (by omega)).trans (gd.2.2.2 j hj)⟩
      refine z_dances (w0 := si w2 0 15 1) hB (cp.1.trans hR') ((c3 1 (by decide)).trans hS.2.2.1.2.1) ((c3 2 (by decide)).trans hS.2.2.1.2.2.1) sd (fun w3 hw hf hl => ⟨_, rfl, ?_, !b, ?_⟩)
      · exact ((wi_ne (by omega)).trans (wi_ne (by omega))).trans hC4.2.2.1.2.1
      · have f3 : ∀ i, wi (si (si w3 0 21 0) 0 22 0) 3 i = wi (si w2 0 15 1) 3 i := fun i => (wi_ne (Or.inl (by decide))).trans ((wi_ne (Or.inl (by decide))).trans (hf 3 i (by decide) (by omega)))
        have f0 : ∀ i, i ≠ 21 → i ≠ 22 → i ≠ 23 → i ≠ 24 → i ≠ 15 → wi (si (si w3 0 21 0) 0 22 0) 0 i = wi wr' 0 i := fun i q1 q2 q3 q4 q5 => (wi_ne (Or.inr q2)).trans ((wi_ne (Or.inr q1)).trans ((hf 0 i (by decide) (by omega)).trans (co 0 i (by decide) (by omega))))
        have f5 : ∀ i, wi (si (si w3 0 21 0) 0 22 0) 5 i = wi w3 5 i := fun i => (wi_ne (Or.inl (by decide))).trans (wi_ne (Or.inl (by decide)))
        have tU := hB.2.2.2.1
        have tE := hB.2.2.2.2.1
        refine rel_made hB hD hR4 hw (wi_self _ _ _ _) ?_ ((f0 9 (by decide) (by decide) (by decide) (by decide) (by decide)).trans hS.2.1.2.2) ?_ ?_ ?_ ?_ ?_ ?_ ?_ (hC4.ext tD (fun a i q1 q2 => (wi_ne (by omega)).trans ((wi_ne (by omega)).trans (wi_ne (by omega))))) ((f3 0).trans ((c3 0 (by decide)).trans hS.2.2.1.1)) ((f3 1).trans ((c3 1 (by decide)).trans hS.2.2.1.2.1)) ((f3 2).trans ((c3 2 (by decide)).trans hS.2.2.1.2.2.1)) ((f3 3).trans ((c3 3 (by decide)).trans hS.2.2.1.2.2.2)) (fun d hd => ⟨(f3 _).trans (sd d hd).1, fun j hj => (f3 _).trans ((sd d hd).2 j hj)⟩) (fun i hi => ?_) (fun i hi => ?_) (fun d hd => ⟨(f5 _).trans (hl d hd).1, (f5 _).trans (hl d hd).2⟩) (fun d hd => ⟨((wi_ne (by omega)).trans ((wi_ne (by omega)).trans (wi_ne (by omega)))).trans (hW4 d hd).1, ((wi_ne (by omega)).trans ((wi_ne (by omega)).trans (wi_ne (by omega)))).trans (hW4 d hd).2⟩)
        · refine (f0 11 (by decide) (by decide) (by decide) (by decide) (by decide)).trans ((hFr.2 0 11 (by decide) (by decide) (by decide)).trans ?_)
          exact (wi_ne (Or.inr (by decide))).trans ((wi_ne (Or.inr (by decide))).trans ((wi_ne (Or.inr (by decide))).trans ((wi_ne (Or.inr (by decide))).trans ((wi_ne (Or.inr (by decide))).trans (an_11 wr)))))
        · refine (wi_ne (by omega)).trans ((wi_ne (by omega)).trans ((wi_ne (by omega)).trans ((hN4 1 1 (fun d hd => by have := d0 d; omega)).trans ((hF.2 1 1 (by omega) (by omega)).trans (rdC_1.trans ?_)))))
          exact (wi_ne (Or.inr (by decide))).trans ((wi_ne (Or.inr (by decide))).trans ((wi_ne (Or.inr (by decide))).trans ((wi_ne (Or.inr (by decide))).trans ((wi_ne (Or.inr (by decide))).trans (wi_self _ _ _ _)))))
        · refine (f0 2 (by decide) (by decide) (by decide) (by decide) (by decide)).trans ((hFr.2 0 2 (by decide) (by decide) (by decide)).trans ?_)
          exact (wi_ne (Or.inr (by decide))).trans ((wi_ne (Or.inr (by decide))).trans ((wi_ne (Or.inr (by decide))).trans ((wi_ne (Or.inr (by decide))).trans (wi_self _ _ _ _))))
        · exact (wi_ne (Or.inl (by decide))).trans ((wi_ne (Or.inr (by decide))).trans (wi_self _ _ _ _))
        · exact (wi_ne (Or.inl (by decide))).trans (wi_self _ _ _ _)
        · exact (wi_ne (Or.inr (by decide))).trans (wi_self _ _ _ _)
        · exact wi_self _ _ _ _
        · exact (wi_ne (Or.inr (by decide))).trans ((wi_ne (Or.inr (by decide))).trans ((hf 0 15 (by decide) (by omega)).trans (wi_self _ _ _ _)))
        · have gi := hS.2.2.2.2.2.1 i hi
          exact ⟨(f3 _).trans ((c3 _ (by omega)).trans gi.1), (f3 _).trans ((c3 _ (by omega)).trans gi.2)⟩
        · have gi := hS.2.2.2.2.2.2 i hi
          exact ⟨(f3 _).trans ((c3 _ (by omega)).trans gi.1), (f3 _).trans ((c3 _ (by omega)).trans gi.2.1), (f3 _).trans ((c3 _ (by omega)).trans gi.2.2.1), (f3 _).trans ((c3 _ (by omega)).trans gi.2.2.2)⟩
