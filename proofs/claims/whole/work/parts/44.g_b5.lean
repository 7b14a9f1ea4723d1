/-! a row danced again and again -/
def dw (F : Nat → Int32) : Nat → Nat → Int32 × Int32 → Bool × Int32 × Int32
  | 0, _, x => (true, x)
  | r + 1, j, x => if vXX7_isTooGreat (fo (F j) x).1 (fo (F j) x).2 = 0 then dw F r (j + 1) (fo (F j) x) else (false, fo (F j) x)
def ag (F : Nat → Int32) (m : Nat) : Nat → Nat → Int32 × Int32 → Int32
  | 0, _, _ => -2
  | r + 1, t, x => if (dw F m 0 x).1 then (if (dw F m 0 x).2.1 = 0 then nI t else ag F m r (t + 1) (dw F m 0 x).2) else -2
theorem dw_fr {F : Nat → Int32} : ∀ (r j : Nat) (x : Int32 × Int32), (∀ i, i < j + r → Fig (F i)) → Frac x.1 x.2 → (dw F r j x).1 = true → Frac (dw F r j x).2.1 (dw F r j x).2.2 := by
  intro r
  induction r with
  | zero => exact fun j x _ h _ => h
  | succ r ih =>
    intro j x hF h ht
    rw [dw] at ht ⊢
    by_cases c : vXX7_isTooGreat (fo (F j) x).1 (fo (F j) x).2 = 0
    · rw [if_pos c] at ht ⊢
      exact ih (j + 1) _ (fun i hi => hF i (by omega)) ((great_c (fo_fr (A := 9999) (by decide) (by decide) (hF j (by omega)) h)).mp c) ht
    · rw [if_neg c] at ht
      exact absurd ht (show ¬ (false = true) by decide)
theorem l_within {b c : Bool} {d : Nat} (hd : d < 5) {w0 : Wd} (hR : w0.2.2 = RTab b) {m : Nat} (hm : wi w0 (dA (hA c) d) 1 = nI m) (hm12 : m ≤ 12) {Q : Option Value → Wd → Prop} {V : Bool × Int32 × Int32} (kk : ∀ w', TW 55 w0 w' V.2 → Q (some (.int (bI V.1))) w') : ∀ (r j : Nat) (x : Int32 × Int32) (w : Wd), j + r = m → TW 55 w0 w x → dw (fun i => wi w0 (dA (hA c) d + 1) i) r j x = V → Go SC mX1_danceWithin 2 [(0, .ref (dA (hA c) d)), (1, .ref 55), (2, .int (nI j))] [] w Q := by
  have hlt := dA_lt c hd
  intro r
  induction r with
  | zero =>
    intro j x w hj hT hV
    have e : j = m := by omega
    subst e
    rw [dw] at hV
    subst hV
    refine BX1_danceWithin_2 c d hd 55 rfl _ w b (hT.1.trans hR) Q ⟨fun _ => kk w hT, fun z => absurd ?_ z⟩
    rw [hT.2.1 _ _ (by omega), hm]
    exact nI_le (Nat.le_refl j) (by omega)
  | succ r ih =>
    intro j x w hj hT hV
    have hT2 : TW 55 w0 (wXX7_step 55 (wi w0 (dA (hA c) d + 1) j) w) (fo (wi w0 (dA (hA c) d + 1) j) x) := hT.step
    rw [dw] at hV
    refine BX1_danceWithin_2 c d hd 55 rfl _ w b (hT.1.trans hR) Q ⟨fun z => ?_, fun _ => ?_⟩
    · rw [hT.2.1 _ _ (by omega), hm] at z
      exact absurd z (nI_ge (by omega) (by omega))
    · rw [gf_in (by omega) (by decide), hT.2.1 _ _ (by omega), hT2.2.2.1, hT2.2.2.2, nI_1]
      refine ⟨fun z => ?_, fun z => ?_⟩
      · rw [if_pos z] at hV
        exact ih (j + 1) _ _ (by omega) hT2 hV
      · rw [if_neg z] at hV
        subst hV
        exact kk _ hT2
theorem z_within {b c : Bool} {d : Nat} (hd : d < 5) {w0 w : Wd} (hR : w0.2.2 = RTab b) {m : Nat} (hm : wi w0 (dA (hA c) d) 1 = nI m) (hm12 : m ≤ 12) {x : Int32 × Int32} (hT : TW 55 w0 w x) {Q : Int32 → Wd → Prop} (kk : ∀ w', TW 55 w0 w' (dw (fun i => wi w0 (dA (hA c) d + 1) i) m 0 x).2 → Q (bI (dw (fun i => wi w0 (dA (hA c) d + 1) i) m 0 x).1) w') : ClI SC mX1_danceWithin [.ref (dA (hA c) d), .ref 55] w (fun y w2 => w2.2.2 = RTab b ∧ Q y w2) := by
  refine TX1_danceWithin c d hd 55 rfl w b (hT.1.trans hR) _ ?_
  rw [← nI_0]
  exact l_within hd hR hm hm12 (fun w' h => ⟨_, rfl, h.1.trans hR, kk w' h⟩) m 0 x w (by omega) hT rfl
theorem l_againC {b : Bool} {d : Nat} (hd : d < 5) {w0 : Wd} (hR : w0.2.2 = RTab b) {m : Nat} (hm : wi w0 (dA (hA b) d) 1 = nI m) (hm12 : m ≤ 12) {l1 : Int32} {Q : Option Value → Wd → Prop} {V : Int32} (kk : ∀ w' x, TW 55 w0 w' x → Q (some (.int V)) (wXX10_accept V w')) : ∀ (r t : Nat) (x : Int32 × Int32) (w : Wd), t + r = 61 → TW 55 w0 w x → ag (fun i => wi w0 (dA (hA b) d + 1) i) m r t x = V → Go SC mX10_again 31 [(0, .ref 0), (1, .int l1), (2, .ref (dA (hA b) d)), (3, .int (nI t))] [] w Q := by
  intro r
  induction r with
  | zero =>
    intro t x w ht hT hV
    rw [ag] at hV
    subst hV
    exact BX10_again_31 _ d hd _ w b (hT.1.trans hR) Q ⟨fun _ => kk w x hT, fun z => absurd (nI_lt (a := 60) (by omega) (by omega)) z⟩
  | succ r ih =>
    intro t x w ht hT hV
    rw [ag] at hV
    refine BX10_again_31 _ d hd _ w b (hT.1.trans hR) Q ⟨fun z => absurd z (nI_nlt (a := 60) (by omega) (by decide)), fun _ => z_within hd hR hm hm12 hT (fun w1 h1 => ⟨fun z => ?_, fun z => ⟨fun z2 => ?_, fun z2 => ?_⟩⟩)⟩
    · rw [bI_0.mp z, if_neg (by decide)] at hV
      subst hV
      exact kk w1 _ h1
    · have e : (dw (fun i => wi w0 (dA (hA b) d + 1) i) m 0 x).1 = true := by
        cases h : (dw (fun i => wi w0 (dA (hA b) d + 1) i) m 0 x).1
        · exact absurd (bI_0.mpr h) z
        · rfl
      rw [e, if_pos rfl, if_neg ((tw_iu h1).mp z2)] at hV
      rw [nI_1]
      exact ih (t + 1) _ w1 (by omega) h1 hV
    · have e : (dw (fun i => wi w0 (dA (hA b) d + 1) i) m 0 x).1 = true := by
        cases h : (dw (fun i => wi w0 (dA (hA b) d + 1) i) m 0 x).1
        · exact absurd (bI_0.mpr h) z
        · rfl
      have e2 : (dw (fun i => wi w0 (dA (hA b) d + 1) i) m 0 x).2.1 = 0 := by
        by_cases c : (dw (fun i => wi w0 (dA (hA b) d + 1) i) m 0 x).2.1 = 0
        · exact c
        · exact absurd ((tw_iu h1).mpr c) z2
      rw [e, if_pos rfl, if_pos e2] at hV
      subst hV
      exact kk w1 _ h1
theorem l_againR {d m : Nat} (hd : d < 5) (hm12 : m ≤ 12) {F : Nat → Int32} {w0 : Wd} (hR : w0.2.2 = RM) (hm : wi w0 3 (4 + d) = nI m) (hF : ∀ i, i < m → wi w0 3 (9 + 12 * d + i) = F i ∧ Fig (F i)) {Q : Option Value → Wd → Prop} {V : Int32} (kk : ∀ w' x, TR w0 w' x → Q (some (.int V)) w') : ∀ (r t : Nat) (x : Int32 × Int32) (w : Wd), t + r = 61 → TR w0 w x → Frac x.1 x.2 → ag F m r t x = V → Go SR mX11_again 30 [(0, .ref 0), (1, .int (nI d)), (2, .int (nI t))] [] w Q := by
  have h4 : vp_in (4 + nI d) 146 := by rw [n4]; exact nI_in (by omega) (by decide)
  intro r
  induction r with
  | zero =>
    intro t x w ht hT hx hV
    rw [ag] at hV
    subst hV
    exact BX11_again_30 _ _ w (hT.1.trans hR) Q ⟨fun _ => kk w x hT, fun z => absurd (nI_lt (a := 60) (by omega) (by omega)) z⟩
  | succ r ih =>
    intro t x w ht hT hx hV
    rw [ag] at hV
    have inner : ∀ (s j : Nat) (y : Int32 × Int32) (w1 : Wd), j + s = m → TR w0 w1 y → Frac y.1 y.2 → dw F s j y = dw F m 0 x → Go SR mX11_again 38 [(0, .ref 0), (1, .int (nI d)), (2, .int (nI t)), (3, .int (nI j))] [] w1 Q := by
      intro s
      induction s with
      | zero =>
        intro j y w1 hj hT1 hy hD
        have e : j = m := by omega
        subst e
        rw [dw] at hD
        rw [← hD, if_pos rfl] at hV
        have e4 : wi w1 3 (4 + nI d).toNatClampNeg = nI j := by
          rw [n4, nI_clamp (by omega)]
          exact (hT1.2.1 3 _ (fun h => absurd h.1 (by decide))).trans hm
        refine BX11_again_38 _ _ _ w1 (hT1.1.trans hR) Q ⟨h4, fun _ => ⟨fun z => ?_, fun z => ?_⟩, fun z => absurd (by rw [e4]; exact nI_le (Nat.le_refl j) (by omega)) z⟩
        · have hne := iz.mp z
          rw [hT1.2.2.1] at hne
          rw [if_neg hne] at hV
          rw [nI_1]
          exact ih (t + 1) y w1 (by omega) hT1 hy hV
        · have he : wi w1 0 23 = 0 := by
            by_cases c : wi w1 0 23 = 0
            · exact c
            · exact absurd (iz.mpr c) z
          rw [hT1.2.2.1] at he
          rw [if_pos he] at hV
          subst hV
          exact kk w1 y hT1
      | succ s ihs =>
        intro j y w1 hj hT1 hy hD
        have hf := hF j (by omega)
        rw [dw] at hD
        have e4 : wi w1 3 (4 + nI d).toNatClampNeg = nI m := by
          rw [n4, nI_clamp (by omega)]
          exact (hT1.2.1 3 _ (fun h => absurd h.1 (by decide))).trans hm
        have e9 : wi w1 3 ((9 + 12 * nI d) + nI j).toNatClampNeg = F j := by
          rw [n9, nI_clamp (by omega)]
          exact (hT1.2.1 3 _ (fun h => absurd h.1 (by decide))).trans hf.1
        have hfr : FrB 19998 (fo (F j) y) := fo_fr (A := 9999) (by decide) (by decide) hf.2 hy
        refine BX11_again_38 _ _ _ w1 (hT1.1.trans hR) Q ⟨h4, fun z => absurd z (by rw [e4]; exact nI_ge (by omega) (by omega)), fun _ => ⟨by rw [n9]; exact nI_in (by omega) (by decide), ?_⟩⟩
        rw [e9]
        refine z_calls hf.2 (hT1.1.trans hR) hT1.2.2.1 hT1.2.2.2 hy (fun hg w2 h2 => ⟨fun z => absurd z no10, fun _ => ?_⟩) (fun hg w2 h2 => ⟨fun _ => ?_, fun z => absurd rfl z⟩)
        · rw [if_pos ((great_c hfr).mpr hg)] at hD
          rw [nI_1]
          exact ihs (j + 1) _ w2 (by omega) (hT1.tr h2) hg hD
        · rw [if_neg (fun z => hg ((great_c hfr).mp z))] at hD
          rw [← hD] at hV
          have hV2 : (-2 : Int32) = V := hV
          subst hV2
          exact kk w2 y (hT1.tr h2)
    refine BX11_again_30 _ _ w (hT.1.trans hR) Q ⟨fun z => absurd z (nI_nlt (a := 60) (by omega) (by decide)), fun _ => ?_⟩
    rw [← nI_0]
    exact inner m 0 x w (by omega) hT hx rfl
theorem ag_ext {F G : Nat → Int32} {m : Nat} (h : ∀ i, i < m → F i = G i) : ∀ r t x, ag F m r t x = ag G m r t x := by
  have hd : ∀ s j x, j + s = m → dw F s j x = dw G s j x := by
    intro s
    induction s with
    | zero => exact fun _ _ _ => rfl
    | succ s ih =>
      intro j x hj
      rw [dw, dw, h j (by omega), ih (j + 1) _ (by omega)]
  intro r
  induction r with
  | zero => exact fun _ _ => rfl
  | succ r ih =>
    intro t x
    rw [ag, ag, hd m 0 x (by omega), ih]
theorem pr_again {wc wr : Wd} (h : RelE wc wr) (a1 : Int32)  : PairI mX10_again mX11_again [a1] wc wr := by
  obtain ⟨b, hR⟩ := h
  obtain ⟨n, hn, f4, f5, f6, fD⟩ := cx hR
  have g1 := hR.1
  have g2 := hR.2.1
  refine TX10_again _ wc b g1 _ ⟨fun q => ?_, fun q => ⟨_, rfl, TX11_again _ wr g2 _ (isdA g2 hn f5 f6 (fun z => absurd ((din_c hn f4).mpr z) q) fun _ => ⟨fun _ => ⟨_, rfl, rfl, fin_noA hR (by decide)⟩, fun q => absurd rfl q⟩)⟩⟩
  obtain ⟨d, hd, rfl⟩ := (din_c hn f4).mp q
  obtain ⟨m, m1, m2, m3, m4, m5, m6, m7, m8⟩ := fD d hd
  have hd5 : d < 5 := by omega
  rw [d_clamp hn hd]
  refine l_againC (V := ag (fun i => wi wc (dA (hA b) d + 1) i) m 60 1 (0, 1)) hd5 g1 m3 m2 (fun w' x hT => ⟨_, rfl, ?_⟩) 60 1 (0, 1) _ (by decide) (TW.put0 wc 0 1) rfl
  refine TX11_again _ wr g2 _ (isdA g2 hn f5 f6 (fun _ => ⟨fun q => absurd q no10, fun _ => ?_⟩) fun q => absurd ⟨d, hd, rfl⟩ q)
  exact l_againR (F := fun i => wi wc (dA (hA b) d + 1) i) (w0 := wXX11_anew wr) hd5 m2 (an_R g2) ((an_ne (Or.inl (by decide))).trans m4) (fun i hi => ⟨(an_ne (Or.inl (by decide))).trans (m5 i hi).1.symm, by
    show Fig (wi wc (dA (hA b) d + 1) i)
    rw [(m5 i hi).1]
    exact (m5 i hi).2⟩) (fun w'' y hU => ⟨_, rfl, rfl, fin_ok hR (hT.same nr55) ((an_same wr).tr hU.same) ((hU.2.1 0 11 (by decide)).trans (an_11 wr))⟩) 60 1 (0, 1) _ (by decide) (TR.put _ 0 1) ⟨by decide, by decide, by decide, by decide, by decide, fun y => absurd y (by decide)⟩ rfl
