/-! THE TAPE is fed -/
theorem rel_tape {b : Bool} {wc wr wc' wr' : Wd} (h : Rel b wc wr) (hc0 : wc'.2.2 = wc.2.2) (hc : ∀ a i, 3 ≤ a → a < 55 → wi wc' a i = wi wc a i) (c1 : wi wc' 0 10 = wi wc 0 10) (c2 : wi wc' 1 9 = wi wc 1 9) (c3 : wi wc' 1 10 = wi wc 1 10) (hr0 : wr'.2.2 = wr.2.2) (r9 : wi wr' 0 9 = wi wr 0 9) (r10 : wi wr' 0 10 = wi wr 0 10) (r11 : wi wr' 0 11 = wi wr 0 11) (r15 : wi wr' 0 15 = wi wr 0 15) (r21 : wi wr' 0 21 = wi wr 0 21) (r22 : wi wr' 0 22 = wi wr 0 22) (s3 : ∀ i, wi wr' 3 i = wi wr 3 i) (s5 : ∀ i, wi wr' 5 i = wi wr 5 i) (s6 : ∀ i, wi wr' 6 i = wi wr 6 i) (s7 : ∀ i, wi wr' 7 i = wi wr 7 i) (hT : TapeRel wc' wr') : Rel b wc' wr' := by
  have hb : hA b = 3 ∨ hA b = 26 := by cases b; exact Or.inl rfl; exact Or.inr rfl
  have e3 : ∀ i, wi wc' 49 i = wi wc 49 i := fun i => hc 49 i (by decide) (by decide)
  have e4 : ∀ i, wi wc' 50 i = wi wc 50 i := fun i => hc 50 i (by decide) (by decide)
  have e5 : ∀ i, wi wc' 51 i = wi wc 51 i := fun i => hc 51 i (by decide) (by decide)
  have e6 : ∀ i, wi wc' 52 i = wi wc 52 i := fun i => hc 52 i (by decide) (by decide)
  have e7 : ∀ i, wi wc' 53 i = wi wc 53 i := fun i => hc 53 i (by decide) (by decide)
  have e8 : ∀ i, wi wc' 54 i = wi wc 54 i := fun i => hc 54 i (by decide) (by decide)
  have eh : ∀ i, wi wc' (hA b) i = wi wc (hA b) i := fun i => hc _ i (by omega) (by omega)
  have h17 : ∀ i, wi wc' (hA b + 17) i = wi wc (hA b + 17) i := fun i => hc _ i (by omega) (by omega)
  have h18 : ∀ i, wi wc' (hA b + 18) i = wi wc (hA b + 18) i := fun i => hc _ i (by omega) (by omega)
  have h19 : ∀ i, wi wc' (hA b + 19) i = wi wc (hA b + 19) i := fun i => hc _ i (by omega) (by omega)
  have h20 : ∀ i, wi wc' (hA b + 20) i = wi wc (hA b + 20) i := fun i => hc _ i (by omega) (by omega)
  have h21 : ∀ i, wi wc' (hA b + 21) i = wi wc (hA b + 21) i := fun i => hc _ i (by omega) (by omega)
  have h22 : ∀ i, wi wc' (hA b + 22) i = wi wc (hA b + 22) i := fun i => hc _ i (by omega) (by omega)
  obtain ⟨g1, g2, g3, g4, g5, g6, n, g7, g8⟩ := h
  refine ⟨hc0.trans g1, hr0.trans g2, by rw [c1, r11]; exact g3, by rw [c2, r9]; exact g4, fun q => by rw [c3, r10]; exact g5 (r11.symm.trans q), hT, n, ?_, ?_⟩
  · obtain ⟨u, e, f1, f2, f3, f4, f5, f6, f7, f8, f9, f10, f11, f12, f13, f14, f15, f16, f17⟩ := g7
    refine ⟨u, e, f1, f2, f3, by rw [eh]; exact f4, by rw [s3]; exact f5, by rw [r15]; exact f6, by rw [eh, s3]; exact f7, by rw [s3]; exact f8, by rw [s3]; exact f9, by rw [eh]; exact f10, by rw [s3]; exact f11, by rw [eh]; exact f12, by rw [s3]; exact f13, by rw [s3]; exact f14, fun d hd => ?_, fun i hi => ?_, fun i hi => ?_⟩
    · have hd5 : d < 5 := Nat.lt_of_lt_of_le hd f1
      have hlt := dA_lq b hd5
      have hge := dA_ge b d
      have d0 : ∀ i, wi wc' (dA (hA b) d) i = wi wc (dA (hA b) d) i := fun i => hc _ i (by omega) (by omega)
      have d1 : ∀ i, wi wc' (dA (hA b) d + 1) i = wi wc (dA (hA b) d + 1) i := fun i => hc _ i (by omega) (by omega)
      have d2 : ∀ i, wi wc' (dA (hA b) d + 2) i = wi wc (dA (hA b) d + 2) i := fun i => hc _ i (by omega) (by omega)
      have := f15 d hd
      unfold DanceRel at this ⊢
      simp only [d0, d1, d2, s3, s5]
      exact this
    · have := f16 i hi
      unfold UnsRel at this ⊢
      simp only [h17, h18, s3]
      exact this
    · have := f17 i hi
      unfold SeenRel at this ⊢
      simp only [h19, h20, h21, h22, s3]
      exact this
  · unfold PastRel ActRel ImgRel at g8 ⊢
    simp only [e3, e4, e5, e6, e7, e8, s5, s6, s7, r21, r22]
    exact g8
def byt (x : Int32) (j : Nat) : Int32 := (x >>> (nI (24 - 8 * j) &&& 31)) &&& 255
theorem byt_r (x : Int32) (j : Nat) : 0 ≤ (byt x j).toInt ∧ (byt x j).toInt ≤ 255 := by
  unfold byt
  rw [pk_and _ (m := 255) 8 (by decide +kernel)]
  have h := Nat.mod_lt (x >>> (nI (24 - 8 * j) &&& 31)).toBitVec.toNat (show 0 < 2 ^ 8 by decide)
  rw [nI_toInt (by omega)]
  omega
def TK (w w' : Wd) (h : Nat) (f : Nat → Int32) (m : Nat) : Prop := w'.2.2 = w.2.2 ∧ (∀ a i, ¬ (a = 2 ∧ h ≤ i) → ¬ (a = 1 ∧ i = 1) → wi w' a i = wi w a i) ∧ wi w' 1 1 = nI (h + m) ∧ ∀ j, j < m → wi w' 2 (h + j) = f j
theorem TK.app {w w1 w2 : Wd} {h m k : Nat} {f g : Nat → Int32} (h1 : TK w w1 h f m) (h2 : TK w1 w2 (h + m) g k) : TK w w2 h (fun j => if j < m then f j else g (j - m)) (m + k) := by
  refine ⟨h2.1.trans h1.1, fun a i q1 q2 => (h2.2.1 a i (by omega) q2).trans (h1.2.1 a i q1 q2), by rw [h2.2.2.1, Nat.add_assoc], fun j hj => ?_⟩
  by_cases c : j < m
  · show wi w2 2 (h + j) = if j < m then f j else g (j - m)
    rw [if_pos c, h2.2.1 2 (h + j) (by omega) (by omega)]
    exact h1.2.2.2 j c
  · show wi w2 2 (h + j) = if j < m then f j else g (j - m)
    rw [if_neg c]
    have := h2.2.2.2 (j - m) (by omega)
    rw [show h + m + (j - m) = h + j by omega] at this
    exact this
theorem z_takeT {b : Bool} {w : Wd} (hR : w.2.2 = RTab b) {h : Nat} (hh : h + 4 ≤ 600) (e1 : wi w 1 1 = nI h) {x : Int32} {Q : Wd → Prop} (kk : ∀ w', TK w w' h (byt x) 4 → Q w') : ClV SC mX8_take [.ref 1, .int x] w (fun w2 => w2.2.2 = RTab b ∧ Q w2) := by
  have stop : ∀ w', TK w w' h (byt x) 4 → Go SC mX8_take 3 [(0, .ref 1), (1, .int x), (2, .int (-8))] [] w' (fun r w' => r = none ∧ w'.2.2 = RTab b ∧ Q w') := fun w' hT => BX8_take_3 _ _ w' b (hT.1.trans hR) _ ⟨fun _ => ⟨rfl, hT.1.trans hR, kk w' hT⟩, fun z => absurd (show (-8 : Int32) < 0 by decide) z⟩
  have loop : ∀ (r j : Nat) (w1 : Wd), j + r = 4 → TK w w1 h (byt x) j → ∀ l2 : Int32, l2 = 24 - 8 * nI j → Go SC mX8_take 3 [(0, .ref 1), (1, .int x), (2, .int l2)] [] w1 (fun r w' => r = none ∧ w'.2.2 = RTab b ∧ Q w') := by
    intro r
    induction r with
    | zero =>
      intro j w1 hj hT l2 hl
      have e : j = 4 := by omega
      subst e
      subst hl
      exact stop w1 hT
    | succ r ih =>
      intro j w1 hj hT l2 hl
      have hj4 : j < 4 := by omega
      have el : l2 = nI (24 - 8 * j) := by
        rw [hl]
        exact (by decide : ∀ j, j < 4 → (24 : Int32) - 8 * nI j = nI (24 - 8 * j)) j hj4
      have hw := hT.1.trans hR
      refine BX8_take_3 _ _ w1 b hw _ ⟨fun z => absurd z (by rw [el]; exact nI_pos (by omega)), fun _ => ?_⟩
      rw [hT.2.2.1, pf_in (by omega) (by decide)]
      have p1 : ∀ v, wi (si w1 2 (h + j) v) 1 1 = nI (h + j) := fun v => (wi_ne (Or.inl (by decide))).trans hT.2.2.1
      rw [p1, nI_1]
      have hX : TK w (si (si w1 2 (h + j) (byt x j)) 1 1 (nI (h + j + 1))) h (byt x) (j + 1) := by
        refine ⟨hT.1, fun a i q1 q2 => (wi_ne (by omega)).trans ((wi_ne (by omega)).trans (hT.2.1 a i q1 q2)), wi_self _ _ _ _, fun k hk => ?_⟩
        by_cases c : k = j
        · subst c
          exact (wi_ne (Or.inl (by decide))).trans (wi_self _ _ _ _)
        · exact (wi_ne (Or.inl (by decide))).trans ((wi_ne (Or.inr (by omega))).trans (hT.2.2.2 k (by omega)))
      have hn : l2 + -8 = 24 - 8 * nI (j + 1) := by
        rw [hl]
        exact (by decide : ∀ j, j < 4 → (24 : Int32) - 8 * nI j + -8 = 24 - 8 * nI (j + 1)) j hj4
      have hy := ih (j + 1) _ (by omega) hX _ hn
      unfold byt at hy
      rw [← el] at hy
      exact hy
  refine TX8_take x w b hR _ ?_
  exact loop 4 0 w (by decide) ⟨rfl, fun _ _ _ _ => rfl, e1, fun j hj => absurd hj (Nat.not_lt_zero j)⟩ 24 (by decide)
/-- which of the five -/
def ar5 (a1 a2 a3 a4 a5 : Int32) (k : Nat) : Int32 := if 4 ≤ k then (if 8 ≤ k then (if 12 ≤ k then (if 16 ≤ k then a5 else a4) else a3) else a2) else a1
theorem ar5_I (a1 a2 a3 a4 a5 : Int32) {k : Nat} (hk : k < 1000) : (if 4 ≤ nI k then (if 8 ≤ nI k then (if 12 ≤ nI k then (if 16 ≤ nI k then a5 else a4 : Int32) else a3 : Int32) else a2 : Int32) else a1 : Int32) = ar5 a1 a2 a3 a4 a5 k := by
  have q : ∀ m : Nat, m < 1000 → (nI m ≤ nI k ↔ m ≤ k) := fun m hm => nI_leI (by omega) (by omega)
  have q4 : (4 : Int32) ≤ nI k ↔ 4 ≤ k := q 4 (by decide)
  have q8 : (8 : Int32) ≤ nI k ↔ 8 ≤ k := q 8 (by decide)
  have q12 : (12 : Int32) ≤ nI k ↔ 12 ≤ k := q 12 (by decide)
  have q16 : (16 : Int32) ≤ nI k ↔ 16 ≤ k := q 16 (by decide)
  unfold ar5
  simp only [q4, q8, q12, q16]
def TKR (w w' : Wd) (h : Nat) (f : Nat → Int32) (m : Nat) : Prop := w'.2.2 = w.2.2 ∧ (∀ a i, ¬ (a = 1 ∧ h ≤ i) → ¬ (a = 0 ∧ i = 2) → wi w' a i = wi w a i) ∧ wi w' 0 2 = nI (h + m) ∧ ∀ j, j < m → wi w' 1 (h + j) = f j
theorem l_feedR {w0 : Wd} (hR : w0.2.2 = RM) {h : Nat} (hh : h + 20 ≤ 600) {a1 a2 a3 a4 a5 : Int32} {Q : Option Value → Wd → Prop} (kk : ∀ w', TKR w0 w' h (fun k => byt (ar5 a1 a2 a3 a4 a5 k) (k % 4)) 20 → Q (some (.int (nI (h + 20)))) w') : ∀ (r k : Nat) (w : Wd), k + r = 20 → TKR w0 w h (fun k => byt (ar5 a1 a2 a3 a4 a5 k) (k % 4)) k → Go SR mX11_feed 23 [(0, .ref 0), (1, .int a1), (2, .int a2), (3, .int a3), (4, .int a4), (5, .int a5), (6, .int (nI k))] [] w Q := by
  intro r
  induction r with
  | zero =>
    intro k w hk hT
    have e : k = 20 := by omega
    subst e
    refine BX11_feed_23 _ _ _ _ _ _ w (hT.1.trans hR) Q ⟨fun _ => ?_, fun z => absurd (show (20 : Int32) ≤ nI 20 by decide) z⟩
    rw [hT.2.2.1]
    exact kk w hT
  | succ r ih =>
    intro k w hk hT
    have hk20 : k < 20 := by omega
    have es : (24 : Int32) - 8 * (nI k % 4) = nI (24 - 8 * (k % 4)) := (by decide +kernel : ∀ k, k < 20 → (24 : Int32) - 8 * (nI k % 4) = nI (24 - 8 * (k % 4))) k hk20
    refine BX11_feed_23 _ _ _ _ _ _ w (hT.1.trans hR) Q ⟨fun z => absurd z (nI_ge (b := 20) hk20 (by decide)), fun _ => ?_⟩
    rw [hT.2.2.1]
    refine ⟨nI_in (by omega) (by decide), ?_⟩
    rw [ar5_I _ _ _ _ _ (by omega), es, nI_clamp (by omega)]
    have p1 : ∀ v, wi (si w 1 (h + k) v) 0 2 = nI (h + k) := fun v => (wi_ne (Or.inl (by decide))).trans hT.2.2.1
    rw [p1, nI_1, nI_1]
    refine ih (k + 1) _ (by omega) ⟨hT.1, fun a i q1 q2 => (wi_ne (by omega)).trans ((wi_ne (by omega)).trans (hT.2.1 a i q1 q2)), wi_self _ _ _ _, fun j hj => ?_⟩
    by_cases c : j = k
    · subst c
      exact (wi_ne (Or.inl (by decide))).trans (wi_self _ _ _ _)
    · exact (wi_ne (Or.inl (by decide))).trans ((wi_ne (Or.inr (by omega))).trans (hT.2.2.2 j (by omega)))
theorem pr_feed {wc wr : Wd} (h : RelE wc wr) (a1 a2 a3 a4 a5 : Int32)  : PairI mX10_feed mX11_feed [a1, a2, a3, a4, a5] wc wr := by
  obtain ⟨b, hR⟩ := h
  have g1 := hR.1
  have g2 := hR.2.1
  obtain ⟨hh, t1, t2, t3, t4⟩ := hR.2.2.2.2.2.1
  have e0 : wi (si wr 0 0 0) 0 2 = nI hh := (wi_ne (Or.inr (by decide))).trans t3
  have a20 : ∀ n : Nat, nI n + 20 = nI (n + 20) := fun n => nI_add n 20
  have room : vXX8_hasRoom wc = 0 ↔ ¬ hh + 20 ≤ 600 := by
    unfold vXX8_hasRoom
    rw [t2, a20]
    by_cases c : hh + 20 ≤ 600
    · rw [if_neg (show ¬ (600 : Int32) < nI (hh + 20) from nI_nlt (a := 600) c (by decide))]
      exact ⟨fun z => absurd z (by decide), fun z => absurd c z⟩
    · rw [if_pos (show (600 : Int32) < nI (hh + 20) from nI_lt (a := 600) (by omega) (by omega))]
      exact ⟨fun _ => c, fun _ => rfl⟩
  refine TX10_feed _ _ _ _ _ wc b g1 _ ⟨fun z => ⟨_, rfl, TX11_feed _ _ _ _ _ wr g2 _ ?_⟩, fun z => ?_⟩
  · have hno := room.mp z
    rw [e0, a20]
    exact ⟨fun y => absurd y (nI_ge (a := 600) (by omega) (by omega)), fun _ => ⟨_, rfl, rfl, b, rel_scr hR (SameC.rf _) ((SameR.rf wr).si (nrR (by decide))) hR.2.2.1 hR.2.2.2.2.1⟩⟩
  · have hyes : hh + 20 ≤ 600 := by
      by_cases c : hh + 20 ≤ 600
      · exact c
      · exact absurd (room.mpr c) z
    refine z_takeT g1 (h := hh) (by omega) t2 (fun w1 k1 => z_takeT (k1.1.trans g1) (h := hh + 4) (by omega) k1.2.2.1 (fun w2 k2 => z_takeT (k2.1.trans (k1.1.trans g1)) (h := hh + 4 + 4) (by omega) k2.2.2.1 (fun w3 k3 => z_takeT (k3.1.trans (k2.1.trans (k1.1.trans g1))) (h := hh + 4 + 4 + 4) (by omega) k3.2.2.1 (fun w4 k4 => z_takeT (k4.1.trans (k3.1.trans (k2.1.trans (k1.1.trans g1)))) (h := hh + 4 + 4 + 4 + 4) (by omega) k4.2.2.1 (fun w5 k5 => ⟨_, rfl, ?_⟩)))))
    have k25 : TK w3 w5 (hh + 4 + 4 + 4) _ (4 + 4) := k4.app k5
    have k15 : TK w2 w5 (hh + 4 + 4) _ (4 + (4 + 4)) := k3.app k25
    have k05 : TK w1 w5 (hh + 4) _ (4 + (4 + (4 + 4))) := k2.app k15
    have k : TK wc w5 hh _ (4 + (4 + (4 + (4 + 4)))) := k1.app k05
    refine TX11_feed _ _ _ _ _ wr g2 _ ?_
    rw [e0, a20]
    refine ⟨fun _ => ?_, fun y => absurd (nI_le (b := 600) hyes (by decide)) y⟩
    have hw0 : (si wr 0 0 0).2.2 = RM := g2
    rw [← nI_0]
    refine l_feedR (w0 := si wr 0 (0 : Nat) (nI 0)) hw0 hyes (fun w' hT => ⟨_, rfl, k.2.2.1, b, ?_⟩) 20 0 _ (by decide) ⟨rfl, fun _ _ _ _ => rfl, by rw [nI_0]; exact e0, fun j hj => absurd hj (Nat.not_lt_zero j)⟩
    have rO : ∀ a i, ¬ (a = 1 ∧ hh ≤ i) → ¬ (a = 0 ∧ (i = 2 ∨ i = 0)) → wi w' a i = wi wr a i := fun a i q1 q2 => (hT.2.1 a i q1 (by omega)).trans (wi_ne (by omega))
    refine rel_tape hR k.1 (fun a i q1 q2 => k.2.1 a i (by omega) (by omega)) (k.2.1 0 10 (by omega) (by omega)) (k.2.1 1 9 (by omega) (by omega)) (k.2.1 1 10 (by omega) (by omega)) hT.1 (rO 0 9 (by omega) (by omega)) (rO 0 10 (by omega) (by omega)) (rO 0 11 (by omega) (by omega)) (rO 0 15 (by omega) (by omega)) (rO 0 21 (by omega) (by omega)) (rO 0 22 (by omega) (by omega)) (fun i => rO 3 i (by omega) (by omega)) (fun i => rO 5 i (by omega) (by omega)) (fun i => rO 6 i (by omega) (by omega)) (fun i => rO 7 i (by omega) (by omega)) ⟨hh + 20, hyes, k.2.2.1, hT.2.2.1, fun i hi => ?_⟩
    by_cases c : i < hh
    · rw [k.2.1 2 i (by omega) (by omega), rO 1 i (by omega) (by omega)]
      exact t4 i c
    · obtain ⟨j, rfl⟩ : ∃ j, i = hh + j := ⟨i - hh, by omega⟩
      have q1 := k.2.2.2 j (by omega)
      have q2 := hT.2.2.2 j (by omega)
      have hr := byt_r (ar5 a1 a2 a3 a4 a5 j) (j % 4)
      rw [q1, q2]
      refine ⟨?_, hr⟩
      have hj : j < 20 := by omega
      show (if j < 4 then byt a1 j else (if j - 4 < 4 then byt a2 (j - 4) else (if j - 4 - 4 < 4 then byt a3 (j - 4 - 4) else (if j - 4 - 4 - 4 < 4 then byt a4 (j - 4 - 4 - 4) else byt a5 (j - 4 - 4 - 4 - 4))))) = byt (ar5 a1 a2 a3 a4 a5 j) (j % 4)
      unfold ar5
      by_cases q4 : 4 ≤ j
      · rw [if_neg (show ¬ j < 4 by omega), if_pos q4]
        by_cases q8 : 8 ≤ j
        · rw [if_neg (show ¬ j - 4 < 4 by omega), if_pos q8]
          by_cases q12 : 12 ≤ j
          · rw [if_neg (show ¬ j - 4 - 4 < 4 by omega), if_pos q12]
            by_cases q16 : 16 ≤ j
            · rw [if_neg (show ¬ j - 4 - 4 - 4 < 4 by omega), if_pos q16, show j - 4 - 4 - 4 - 4 = j % 4 by omega]
            · rw [if_pos (show j - 4 - 4 - 4 < 4 by omega), if_neg q16, show j - 4 - 4 - 4 = j % 4 by omega]
          · rw [if_pos (show j - 4 - 4 < 4 by omega), if_neg q12, show j - 4 - 4 = j % 4 by omega]
        · rw [if_pos (show j - 4 < 4 by omega), if_neg q8, show j - 4 = j % 4 by omega]
      · rw [if_pos (show j < 4 by omega), if_neg q4, show j = j % 4 by omega]
        rw [show j % 4 % 4 = j % 4 by omega]
