/-! the hall: refused, or taken -/
theorem run_fb {F : Nat → Int32} {sk : Nat → Bool} : ∀ k : Nat, k ≤ 12 → (∀ i, i < k → Fig (F i)) → FrB ((2 ^ k : Nat) : Int) (run F sk k) := by
  intro k
  induction k with
  | zero =>
    intro _ _
    have h : FrB ((2 ^ 0 : Nat) : Int) ((0 : Int32), (1 : Int32)) := ⟨by decide, by decide, by decide, by decide, by decide, fun y => absurd y (by decide)⟩
    exact h
  | succ k ih =>
    intro hk hf
    have h := ih (by omega) (fun i hi => hf i (by omega))
    have hp : 2 ^ (k + 1) = 2 * 2 ^ k := by rw [Nat.pow_succ, Nat.mul_comm]
    have hp2 : 2 ^ k ≤ 2 ^ 12 := Nat.pow_le_pow_right (by decide) (by omega)
    have hp1 : 0 < 2 ^ k := Nat.pow_pos (by decide)
    rw [hp]
    generalize 2 ^ k = P at h hp1 hp2 ⊢
    have e : ((2 * P : Nat) : Int) = 2 * (P : Int) := by omega
    rw [e]
    unfold run
    cases sk k
    · exact fo_fr (by omega) (by omega) (hf k (by omega)) h
    · rw [if_pos rfl]
      exact h.mono (by omega)
theorem fig_n {x : Nat} (h : x ≤ 2) : Fig (nI x) := by
  have h3 : x = 0 ∨ x = 1 ∨ x = 2 := by omega
  rcases h3 with rfl | rfl | rfl
  · exact Or.inl rfl
  · exact Or.inr (Or.inl rfl)
  · exact Or.inr (Or.inr rfl)
theorem hA_2 (b : Bool) : (hA b = 3 ∧ hA (!b) = 26) ∨ (hA b = 26 ∧ hA (!b) = 3) := by
  cases b
  · exact Or.inl ⟨rfl, rfl⟩
  · exact Or.inr ⟨rfl, rfl⟩
theorem rel_fail {b : Bool} {wc wr wc' wr' : Wd} (h : Rel b wc wr) (hc0 : wc'.2.2 = wc.2.2) (hc : ∀ a i, 3 ≤ a → ¬ (hA (!b) ≤ a ∧ a < hA (!b) + 23) → wi wc' a i = wi wc a i) (c1 : wi wc' 0 10 = wi wr' 0 11) (c2 : wi wc' 1 9 = wi wr' 0 9) (c3 : wi wc' 1 10 = wi wr' 0 10) (hr0 : wr'.2.2 = wr.2.2) (r15 : wi wr' 0 15 = wi wr 0 15) (r21 : wi wr' 0 21 = wi wr 0 21) (r22 : wi wr' 0 22 = wi wr 0 22) (s3 : ∀ i, wi wr' 3 i = wi wr 3 i) (s5 : ∀ i, wi wr' 5 i = wi wr 5 i) (s6 : ∀ i, wi wr' 6 i = wi wr 6 i) (s7 : ∀ i, wi wr' 7 i = wi wr 7 i) (hT : TapeRel wc' wr') : Rel b wc' wr' := by
  have hb := hA_2 b
  have e3 : ∀ i, wi wc' 49 i = wi wc 49 i := fun i => hc 49 i (by decide) (by omega)
  have e4 : ∀ i, wi wc' 50 i = wi wc 50 i := fun i => hc 50 i (by decide) (by omega)
  have e5 : ∀ i, wi wc' 51 i = wi wc 51 i := fun i => hc 51 i (by decide) (by omega)
  have e6 : ∀ i, wi wc' 52 i = wi wc 52 i := fun i => hc 52 i (by decide) (by omega)
  have e7 : ∀ i, wi wc' 53 i = wi wc 53 i := fun i => hc 53 i (by decide) (by omega)
  have e8 : ∀ i, wi wc' 54 i = wi wc 54 i := fun i => hc 54 i (by decide) (by omega)
  have eh : ∀ i, wi wc' (hA b) i = wi wc (hA b) i := fun i => hc _ i (by omega) (by omega)
  have h17 : ∀ i, wi wc' (hA b + 17) i = wi wc (hA b + 17) i := fun i => hc _ i (by omega) (by omega)
  have h18 : ∀ i, wi wc' (hA b + 18) i = wi wc (hA b + 18) i := fun i => hc _ i (by omega) (by omega)
  have h19 : ∀ i, wi wc' (hA b + 19) i = wi wc (hA b + 19) i := fun i => hc _ i (by omega) (by omega)
  have h20 : ∀ i, wi wc' (hA b + 20) i = wi wc (hA b + 20) i := fun i => hc _ i (by omega) (by omega)
  have h21 : ∀ i, wi wc' (hA b + 21) i = wi wc (hA b + 21) i := fun i => hc _ i (by omega) (by omega)
  have h22 : ∀ i, wi wc' (hA b + 22) i = wi wc (hA b + 22) i := fun i => hc _ i (by omega) (by omega)
  obtain ⟨g1, g2, g3, g4, g5, g6, n, g7, g8⟩ := h
  refine ⟨hc0.trans g1, hr0.trans g2, c1, c2, fun _ => c3, hT, n, ?_, ?_⟩
  · obtain ⟨u, e, f1, f2, f3, f4, f5, f6, f7, f8, f9, f10, f11, f12, f13, f14, f15, f16, f17⟩ := g7
    refine ⟨u, e, f1, f2, f3, by rw [eh]; exact f4, by rw [s3]; exact f5, by rw [r15]; exact f6, by rw [eh, s3]; exact f7, by rw [s3]; exact f8, by rw [s3]; exact f9, by rw [eh]; exact f10, by rw [s3]; exact f11, by rw [eh]; exact f12, by rw [s3]; exact f13, by rw [s3]; exact f14, fun d hd => ?_, fun i hi => ?_, fun i hi => ?_⟩
    · have hd5 : d < 5 := Nat.lt_of_lt_of_le hd f1
      have dd : dA (hA b) d = hA b + 2 + 3 * d := rfl
      have d0 : ∀ i, wi wc' (dA (hA b) d) i = wi wc (dA (hA b) d) i := fun i => hc _ i (by omega) (by omega)
      have d1 : ∀ i, wi wc' (dA (hA b) d + 1) i = wi wc (dA (hA b) d + 1) i := fun i => hc _ i (by omega) (by omega)
      have d2 : ∀ i, wi wc' (dA (hA b) d + 2) i = wi wc (dA (hA b) d + 2) i := fun i => hc _ i (by omega) (by omega)
      have := f15 d hd
      unfold DanceRel at this ⊢
      simp only [d0, d1, d2, s3, s5]
      exact this
    · have := f16 i hi
      unfold UnsRel at this ⊢
      simp only [h17, h18, s3]
      exact this
    · have := f17 i hi
      unfold SeenRel at this ⊢
      simp only [h19, h20, h21, h22, s3]
      exact this
  · unfold PastRel ActRel ImgRel at g8 ⊢
    simp only [e3, e4, e5, e6, e7, e8, s5, s6, s7, r21, r22]
    exact g8
theorem rel_made {c : Bool} {T : Nat → Int32} {n : Nat} {A : AT} {wc wr : Wd} (hB : AB n A) (hD : 0 < A 9 2) (g1 : wc.2.2 = RTab c) (g2 : wr.2.2 = RM) (g3 : wi wc 0 10 = 0) (g4 : wi wr 0 11 = 0) (g5 : wi wr 0 9 = 0) (g6 : wi wc 1 1 = nI 0) (g7 : wi wr 0 2 = nI 0) (g8 : wi wc 49 3 = nI 0) (g9 : wi wc 49 6 = nI 0) (g10 : wi wr 0 21 = nI 0) (g11 : wi wr 0 22 = nI 0) (g12 : wi wr 0 15 = 1) (hC : CS c T n A wc) (s0 : wi wr 3 0 = nI (A 9 1)) (s1 : wi wr 3 1 = nI (A 9 2)) (s2 : wi wr 3 2 = nI (A 9 3)) (s3 : wi wr 3 3 = nI (A 9 4)) (sd : ∀ d, d < A 9 2 → wi wr 3 (4 + d) = nI (A 2 d) ∧ ∀ j, j < A 2 d → wi wr 3 (9 + 12 * d + j) = nI (A (10 + d) j)) (su : ∀ i, i < A 9 3 → wi wr 3 (69 + 2 * i) = nI (A 3 i) ∧ wi wr 3 (70 + 2 * i) = nI (A 4 i)) (se : ∀ i, i < A 9 4 → wi wr 3 (77 + 4 * i) = nI (A 5 i) ∧ wi wr 3 (78 + 4 * i) = nI (A 6 i) ∧ wi wr 3 (79 + 4 * i) = nI (A 7 i) ∧ wi wr 3 (80 + 4 * i) = nI (A 8 i)) (st : ∀ d, d < A 9 2 → wi wr 5 d = (run (fun i => nI (A (10 + d) i)) (skC 0) (A 2 d)).1 ∧ wi wr 5 (5 + d) = (run (fun i => nI (A (10 + d) i)) (skC 0) (A 2 d)).2) (sn : ∀ d, d < A 9 2 → wi wc (dA (hA c) d + 2) 0 = (run (fun i => nI (A (10 + d) i)) (skC 0) (A 2 d)).1 ∧ wi wc (dA (hA c) d + 2) 1 = (run (fun i => nI (A (10 + d) i)) (skC 0) (A 2 d)).2) : Rel c wc wr := by
  obtain ⟨b0, b1, b2, b3, b4, b5, b6, b7, b8⟩ := hB
  obtain ⟨h1, ⟨h2, h3⟩, ⟨h4, h5, h6, h7⟩, h8, h9, h10⟩ := hC
  have z1 : (nI (A 9 1)).toInt = (A 9 1 : Int) := nI_toInt (by omega)
  refine ⟨g1, g2, g3.trans g4.symm, h3.trans g5.symm, fun q => ?_, ⟨0, by decide, g6, g7, fun k hk => absurd hk (Nat.not_lt_zero k)⟩, A 9 2, ⟨A 9 3, A 9 4, b2, b3, b4, h5, s1, ?_, h4.trans s0.symm, ?_, ?_, h6, s2, h7, s3, fun q => ?_, fun d hd => ?_, fun i hi => ?_, fun i hi => ?_⟩, ⟨0, 0, by decide, by decide, g8, g10, g9, g11, fun _ => ⟨rfl, rfl⟩, fun j hj => absurd hj (Nat.not_lt_zero j), fun j hj => absurd hj (Nat.not_lt_zero j)⟩⟩
  · rw [g4] at q
    exact absurd q (by decide)
  · rw [if_neg (by omega)]
    exact g12
  · rw [s0, z1]
    omega
  · rw [s0, z1]
    omega
  · omega
  · obtain ⟨y1, y2, y3, y4, y5, y6⟩ := b6 d hd
    obtain ⟨k1, k2, k3, k4⟩ := h8 d hd
    obtain ⟨k5, k6⟩ := sn d hd
    obtain ⟨t1, t2⟩ := sd d hd
    obtain ⟨t3, t4⟩ := st d hd
    have hf : ∀ j, j < A 2 d → Fig (nI (A (10 + d) j)) := fun j hj => fig_n (y6 j hj)
    have fr := (run_fb (F := fun i => nI (A (10 + d) i)) (sk := skC 0) (A 2 d) y5 hf).mono (B := 9999) (by
      have : 2 ^ A 2 d ≤ 2 ^ 12 := Nat.pow_le_pow_right (by decide) y5
      generalize 2 ^ A 2 d = P at this ⊢
      omega)
    refine ⟨A 2 d, y4, y5, k1, t1, fun j hj => ⟨(k4 j hj).trans (t2 j hj).symm, by rw [t2 j hj]; exact hf j hj⟩, k5.trans t3.symm, k6.trans t4.symm, ?_⟩
    rw [t3, t4]
    exact fr.frac
  · obtain ⟨y1, y2⟩ := b7 i hi
    obtain ⟨k1, k2⟩ := h9 i hi
    obtain ⟨t1, t2⟩ := su i hi
    exact ⟨A 3 i, A 4 i, A 2 (A 3 i), y1, y2, (b6 _ y1).2.2.2.2.1, (sd _ y1).1, k1, t1, k2, t2⟩
  · obtain ⟨y1, y2, y3, y4, y5⟩ := b8 i hi
    obtain ⟨k1, k2, k3, k4⟩ := h10 i hi
    obtain ⟨t1, t2, t3, t4⟩ := se i hi
    exact ⟨A 5 i, A 6 i, A 2 (A 5 i), A 7 i, A 8 i, y1, y2, (b6 _ y1).2.2.2.2.1, y3, y4, y5, (sd _ y1).1, k1, t1, k2, t2, k3, t3, k4, t4⟩
/-- the reference's dances, each to where it stands -/
theorem g_dances {w0 : Wd} {n : Nat} {A : AT} (hB : AB n A) (s1 : wi w0 3 1 = nI (A 9 2)) (s2 : wi w0 3 2 = nI (A 9 3)) (sd : ∀ d, d < A 9 2 → wi w0 3 (4 + d) = nI (A 2 d) ∧ ∀ j, j < A 2 d → wi w0 3 (9 + 12 * d + j) = nI (A (10 + d) j)) {l1 : Int32} {Q : Option Value → Wd → Prop} (kk : ∀ w', w'.2.2 = RM → (∀ a i, a ≠ 5 → ¬ (a = 0 ∧ (i = 23 ∨ i = 24)) → wi w' a i = wi w0 a i) → (∀ d, d < A 9 2 → wi w' 5 d = (run (fun i => nI (A (10 + d) i)) (skC 0) (A 2 d)).1 ∧ wi w' 5 (5 + d) = (run (fun i => nI (A (10 + d) i)) (skC 0) (A 2 d)).2) → Q (some (.int (nI (A 9 2)))) (si (si w' 0 21 0) 0 22 0)) : ∀ (r d : Nat) (w : Wd), d + r = A 9 2 → w.2.2 = RM → (∀ a i, a ≠ 5 → ¬ (a = 0 ∧ (i = 23 ∨ i = 24)) → wi w a i = wi w0 a i) → (∀ d', d' < d → wi w 5 d' = (run (fun i => nI (A (10 + d') i)) (skC 0) (A 2 d')).1 ∧ wi w 5 (5 + d') = (run (fun i => nI (A (10 + d') i)) (skC 0) (A 2 d')).2) → Go SR mX11_hall 201 [(0, .ref 0), (1, .int l1), (2, .int (nI d))] [] w Q := by
  have tD := hB.2.2.1
  have tU := hB.2.2.2.1
  intro r
  induction r with
  | zero =>
    intro d w hd hw hf hl
    have ed : d = A 9 2 := by omega
    have e1 : wi w 3 1 = nI (A 9 2) := (hf 3 1 (by decide) (by omega)).trans s1
    refine BX11_hall_201 _ _ w hw Q ⟨fun _ => ?_, fun z => absurd (by rw [e1]; exact nI_le (by omega) (by omega)) z⟩
    have e2 : wi (si (si w 0 21 0) 0 22 0) 3 1 = nI (A 9 2) := (wi_ne (Or.inl (by decide))).trans ((wi_ne (Or.inl (by decide))).trans e1)
    rw [e2]
    exact kk w hw hf (fun d' hd' => hl d' (by omega))
  | succ r ih =>
    intro d w hd hw hf hl
    have e1 : wi w 3 1 = nI (A 9 2) := (hf 3 1 (by decide) (by omega)).trans s1
    have e2 : wi w 3 2 = nI (A 9 3) := (hf 3 2 (by decide) (by omega)).trans s2
    have dl : d < A 9 2 := by omega
    obtain ⟨t1, t2⟩ := sd d dl
    obtain ⟨y1, y2, y3, y4, y5, y6⟩ := hB.2.2.2.2.2.2.1 d dl
    have e4 : wi w 3 (4 + d) = nI (A 2 d) := (hf 3 _ (by decide) (by omega)).trans t1
    have e9 : ∀ j, j < A 2 d → wi w 3 (9 + 12 * d + j) = nI (A (10 + d) j) := fun j hj => (hf 3 _ (by decide) (by omega)).trans (t2 j hj)
    refine BX11_hall_201 _ _ w hw Q ⟨fun z => absurd z (by rw [e1]; exact nI_ge (by omega) (by omega)), fun _ => ?_⟩
    rw [n4, nI_clamp (by omega), e4, n5, nI_clamp (by omega), nI_clamp (by omega), nI_1]
    refine ⟨nI_in (by omega) (by decide), ?_⟩
    refine z_dance (u := A 9 3) (by omega) y5 tU hw e2 (fun j hj => by rw [e9 j hj]; exact fig_n (y6 j hj)) (fun w2 tr => ?_)
    have ex : run (fun i => wi w 3 (9 + 12 * d + i)) (skR w 0 0 d (A 9 3)) (A 2 d) = run (fun i => nI (A (10 + d) i)) (skC 0) (A 2 d) := run_ext _ (fun i hi => ⟨e9 i hi, (skR0 tU (by omega)).trans (skC0 (by omega)).symm⟩)
    have t3 := tr.2.2.1
    have t4 := tr.2.2.2
    rw [ex] at t3 t4
    refine ⟨nI_in (by omega) (by decide), nI_in (by omega) (by decide), ih (d + 1) _ (by omega) (tr.1.trans hw) (fun a i q1 q2 => (wi_ne (Or.inl q1)).trans ((wi_ne (Or.inl q1)).trans ((tr.2.1 a i q2).trans (hf a i q1 q2)))) (fun d' hd' => ?_)⟩
    by_cases q : d' = d
    · rw [q]
      refine ⟨(wi_ne (Or.inr (by omega))).trans ((wi_self _ _ _ _).trans t3), (wi_self _ _ _ _).trans ((wi_ne (Or.inl (by decide))).trans t4)⟩
    · obtain ⟨k1, k2⟩ := hl d' (by omega)
      exact ⟨(wi_ne (Or.inr (by omega))).trans ((wi_ne (Or.inr (by omega))).trans ((tr.2.1 _ _ (by omega)).trans k1)), (wi_ne (Or.inr (by omega))).trans ((wi_ne (Or.inr (by omega))).trans ((tr.2.1 _ _ (by omega)).trans k2))⟩
theorem g_zero {w0 : Wd} {n : Nat} {Q : Option Value → Wd → Prop} (kk : ∀ w', w'.2.2 = RM → (∀ a i, a ≠ 4 → wi w' a i = wi w0 a i) → (∀ i, i < 146 → wi w' 4 i = 0) → ClV SR mX11_next [.ref 0] (si (si w' 0 3 (nI n)) 0 5 0) (fun w1 => w1.2.2 = RM ∧ ClV SR mX11_readLine [.ref 0] w1 (fun w2 => w2.2.2 = RM ∧ Go SR mX11_hall 82 [(0, .ref 0), (1, .int (nI n)), (2, .int (nI 146))] [] w2 Q))) : ∀ (r j : Nat) (w : Wd), j + r = 146 → w.2.2 = RM → (∀ a i, a ≠ 4 → wi w a i = wi w0 a i) → (∀ i, i < j → wi w 4 i = 0) → Go SR mX11_hall 44 [(0, .ref 0), (1, .int (nI n)), (2, .int (nI j))] [] w Q := by
  intro r
  induction r with
  | zero =>
    intro j w hj hw hf hz
    have ej : j = 146 := by omega
    rw [ej]
    exact BX11_hall_44 _ _ w hw Q ⟨fun _ => kk w hw hf (fun i hi => hz i (by omega)), fun z => absurd (show (146 : Int32) ≤ nI 146 by decide) z⟩
  | succ r ih =>
    intro j w hj hw hf hz
    refine BX11_hall_44 _ _ w hw Q ⟨fun z => absurd z (nI_ge (b := 146) (by omega) (by decide)), fun _ => ?_⟩
    rw [nI_1, nI_clamp (by omega)]
    refine ⟨nI_in (by omega) (by decide), ih (j + 1) _ (by omega) hw (fun a i q => (wi_ne (Or.inl q)).trans (hf a i q)) (fun i hi => ?_)⟩
    by_cases c : i = j
    · rw [c]
      exact wi_self _ _ _ _
    · exact (wi_ne (Or.inr c)).trans (hz i (by omega))
