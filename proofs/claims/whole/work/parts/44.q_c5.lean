/-! the reference's search: rows by their numbers -/
theorem un_step {r : Nat} : (if 3 ^ r ≤ 1 then 1 else 3 ^ r / 3) = 3 ^ (r - 1) := by
  cases r with
  | zero => rfl
  | succ r =>
    have h0 : 0 < 3 ^ r := Nat.pow_pos (by decide)
    have e : 3 ^ (r + 1) = 3 ^ r * 3 := Nat.pow_succ 3 r
    rw [if_neg (by omega), e, Nat.mul_div_cancel _ (by decide)]
    rfl
theorem l_makes {n c : Nat} (hn : n ≤ 7) (hc : c < 2187) {x : Int32 × Int32} {w0 : Wd} (hR : w0.2.2 = RM) {Q : Int32 → Wd → Prop} (k1 : ∀ w' y, TR w0 w' y → mk3 n c x = some y → Q 1 w') (k0 : ∀ w' y, TR w0 w' y → mk3 n c x = none → Q 0 w') : ∀ (r k : Nat) (z : Int32 × Int32) (w : Wd), k + r = n → TR w0 w z → Frac z.1 z.2 → mk3 r c z = mk3 n c x → Go SR mX11_makes 24 [(0, .ref 0), (1, .int (nI c)), (2, .int (nI n)), (3, .int (nI (3 ^ (r - 1)))), (4, .int (nI k))] [] w (fun r w' => ∃ v, r = some (.int v) ∧ w'.2.2 = RM ∧ Q v w') := by
  intro r
  induction r with
  | zero =>
    intro k z w hk hT hF he
    have e1 : k = n := by omega
    subst e1
    exact BX11_makes_24 _ _ _ _ w (hT.1.trans hR) _ ⟨fun _ => ⟨_, rfl, hT.1.trans hR, k1 w z hT he.symm⟩, fun y => absurd (nI_le (Nat.le_refl k) (by omega)) y⟩
  | succ r ih =>
    intro k z w hk hT hF he
    have hP := p3_7 (n := r) (by omega)
    have h0 : 0 < 3 ^ r := Nat.pow_pos (by decide)
    have hf : c / 3 ^ r % 3 < 3 := Nat.mod_lt _ (by decide)
    have hd := Nat.div_le_self c (3 ^ r)
    rw [mk3] at he
    refine BX11_makes_24 _ _ _ _ w (hT.1.trans hR) _ ⟨fun y => absurd y (nI_ge (by omega) (by omega)), fun _ => ⟨nI_ne0 (by rw [Nat.add_sub_cancel]; exact h0) (by rw [Nat.add_sub_cancel]; omega), ?_⟩⟩
    rw [Nat.add_sub_cancel, nI_dv (by omega) (by omega), show (3 : Int32) = nI 3 from rfl, nI_mo (by omega) (by decide)]
    have eun : (if nI (3 ^ r) ≤ 1 then 1 else nI (3 ^ r) / nI 3 : Int32) = nI (3 ^ (r - 1)) := by
      have h1 : nI (3 ^ r) ≤ 1 ↔ 3 ^ r ≤ 1 := nI_leI (b := 1) (by omega) (by decide)
      rw [← un_step]
      by_cases c1 : 3 ^ r ≤ 1
      · rw [if_pos (h1.mpr c1), if_pos c1]
        rfl
      · rw [if_neg (fun y => c1 (h1.mp y)), if_neg c1, nI_dv (by omega) (by decide)]
    rw [eun, nI_1]
    refine z_calls (figJ hf) (hT.1.trans hR) hT.2.2.1 hT.2.2.2 hF (fun hg w1 h1 => ⟨fun y => absurd y no10, fun _ => ?_⟩) (fun hg w1 h1 => ⟨fun _ => ⟨_, rfl, (hT.tr h1).1.trans hR, ?_⟩, fun y => absurd rfl y⟩)
    · rw [if_pos ((great_f (figJ hf) hF).mpr hg)] at he
      exact ih (k + 1) _ w1 (by omega) (hT.tr h1) hg he
    · rw [if_neg (fun y => hg ((great_f (figJ hf) hF).mp y))] at he
      exact k0 w1 _ (hT.tr h1) he.symm
theorem z_makes {n c : Nat} (hn : n ≤ 7) (hc : c < 2187) {x : Int32 × Int32} {w : Wd} (hR : w.2.2 = RM) (e1 : wi w 0 23 = x.1) (e2 : wi w 0 24 = x.2) (hF : Frac x.1 x.2) {Q : Int32 → Wd → Prop} (k1 : ∀ w' y, TR w w' y → mk3 n c x = some y → Q 1 w') (k0 : ∀ w' y, TR w w' y → mk3 n c x = none → Q 0 w') : ClI SR mX11_makes [.ref 0, .int (nI c), .int (nI n)] w (fun v w2 => w2.2.2 = RM ∧ Q v w2) := by
  have hT : TR w w x := by
    have := TR.rf w
    rw [e1, e2] at this
    exact this
  have fin : ∀ k, k - 1 = n - 1 → n ≤ k → Go SR mX11_makes 5 [(0, .ref 0), (1, .int (nI c)), (2, .int (nI n)), (3, .int (nI (3 ^ (n - 1)))), (4, .int (nI k))] [] w (fun r w' => ∃ v, r = some (.int v) ∧ w'.2.2 = RM ∧ Q v w') := fun k hk hnk => by
    refine BX11_makes_5 _ _ _ _ w hR _ ⟨fun _ => ?_, fun y => absurd (nI_le hnk (by omega)) y⟩
    rw [← nI_0]
    exact l_makes hn hc hR k1 k0 n 0 x w (by omega) hT hF rfl
  have loop : ∀ (r k : Nat), 1 ≤ k → k + r = max n 1 → Go SR mX11_makes 5 [(0, .ref 0), (1, .int (nI c)), (2, .int (nI n)), (3, .int (nI (3 ^ (k - 1)))), (4, .int (nI k))] [] w (fun r w' => ∃ v, r = some (.int v) ∧ w'.2.2 = RM ∧ Q v w') := by
    intro r
    induction r with
    | zero =>
      intro k h1 hk
      have e : k - 1 = n - 1 := by omega
      rw [e]
      exact fin k e (by omega)
    | succ r ih =>
      intro k h1 hk
      have hP := p3_7 (n := k - 1) (by omega)
      refine BX11_makes_5 _ _ _ _ w hR _ ⟨fun y => absurd y (nI_ge (by omega) (by omega)), fun _ => ?_⟩
      have e : nI (3 ^ (k - 1)) * 3 = nI (3 ^ (k + 1 - 1)) := by
        rw [show (3 : Int32) = nI 3 from rfl, nmul, ← Nat.pow_succ, show (k - 1).succ = k + 1 - 1 by omega]
      rw [e, nI_1]
      exact ih (k + 1) (by omega) (by omega)
  exact TX11_makes _ _ w hR _ (loop (max n 1 - 1) 1 (by decide) (by omega))
theorem z_comeCode {d : Nat} (hd : d < 5) {x g : Int32 × Int32} {w0 : Wd} (hR : w0.2.2 = RM) (e1 : wi w0 5 d = x.1) (e2 : wi w0 5 (5 + d) = x.2) (hF : Frac x.1 x.2) {Q : Int32 → Wd → Prop} (kN : NoH x g → ∀ w' y, TR w0 w' y → Q (-2) (si w' 0 33 (-2))) (kF : ∀ n c, Fnd x g n c → ∀ w' y, TR w0 w' y → Q (nI c) (si w' 0 33 (nI n))) : ClI SR mX11_comeCode [.ref 0, .int (nI d), .int g.1, .int g.2] w0 (fun v w2 => w2.2.2 = RM ∧ Q v w2) := by
  have outer : ∀ (r n : Nat) (z : Int32 × Int32) (w : Wd), n + r = 8 → TR w0 w z → (∀ m, m < n → ∀ e, e < 3 ^ m → mk3 m e x ≠ some g) → Go SR mX11_comeCode 6 [(0, .ref 0), (1, .int (nI d)), (2, .int g.1), (3, .int g.2), (4, .int (nI (3 ^ n))), (5, .int (nI n))] [] w (fun r w' => ∃ v, r = some (.int v) ∧ w'.2.2 = RM ∧ Q v w') := by
    intro r
    induction r with
    | zero =>
      intro n z w hn hT hno
      have e : n = 8 := by omega
      subst e
      exact BX11_comeCode_6 _ _ _ _ _ w (hT.1.trans hR) _ ⟨fun _ => ⟨_, rfl, hT.1.trans hR, kN (fun n hn c hc => hno n (by omega) c hc) w z hT⟩, fun y => absurd (show (7 : Int32) < nI 8 by decide) y⟩
    | succ r ih =>
      intro n z w hn hT hno
      have hn7 : n ≤ 7 := by omega
      have hP := p3_7 hn7
      have inner : ∀ (s c : Nat) (z : Int32 × Int32) (w : Wd), c + s = 3 ^ n → TR w0 w z → (∀ e, e < c → mk3 n e x ≠ some g) → Go SR mX11_comeCode 16 [(0, .ref 0), (1, .int (nI d)), (2, .int g.1), (3, .int g.2), (4, .int (nI (3 ^ n))), (5, .int (nI n)), (6, .int (nI c))] [] w (fun r w' => ∃ v, r = some (.int v) ∧ w'.2.2 = RM ∧ Q v w') := by
        intro s
        induction s with
        | zero =>
          intro c z w hc hT hno2
          have e : c = 3 ^ n := by omega
          refine BX11_comeCode_16 _ _ _ _ _ _ w (hT.1.trans hR) _ ⟨fun _ => ?_, fun y => absurd (nI_le (show 3 ^ n ≤ c by omega) (by omega)) y⟩
          rw [show (3 : Int32) = nI 3 from rfl, nmul, ← Nat.pow_succ, nI_1]
          refine ih (n + 1) z w (by omega) hT fun m hm e' he => ?_
          by_cases cm : m = n
          · subst cm
            exact hno2 e' (by omega)
          · exact hno m (by omega) e' he
        | succ s ihs =>
          intro c z w hc hT hno2
          have hw : w.2.2 = RM := hT.1.trans hR
          have f1 : wi w 5 d = x.1 := (hT.2.1 5 d (fun h => absurd h.1 (by decide))).trans e1
          have f2 : wi w 5 (5 + d) = x.2 := (hT.2.1 5 (5 + d) (fun h => absurd h.1 (by decide))).trans e2
          refine BX11_comeCode_16 _ _ _ _ _ _ w hw _ ⟨fun y => absurd y (nI_ge (by omega) (by omega)), fun _ => lookd hd hw ?_⟩
          rw [f1, f2]
          have hP2 := hT.tr (TR.put w x.1 x.2)
          refine z_makes (n := n) (c := c) (x := x) hn7 (by omega) (hP2.1.trans hR) hP2.2.2.1 hP2.2.2.2 hF (fun w1 y h1 hm => ⟨fun q => absurd q no10, fun _ => ?_⟩) (fun w1 y h1 hm => ⟨fun _ => ?_, fun q => absurd rfl q⟩)
          · have hT1 := hP2.tr h1
            have hno3 : ¬ y = g → ∀ e, e < c + 1 → mk3 n e x ≠ some g := fun hy e he => by
              by_cases ce : e = c
              · subst ce
                rw [hm]
                exact fun q => hy (Option.some.inj q)
              · exact hno2 e (by omega)
            rw [hT1.2.2.1, hT1.2.2.2, nI_1]
            refine ⟨fun q1 => ⟨fun q2 => ⟨_, rfl, hT1.1.trans hR, kF n c ⟨hn7, by omega, by rw [hm, show y = g from Prod.ext q1 q2], hno2, hno⟩ w1 y hT1⟩, fun q2 => ?_⟩, fun q1 => ?_⟩
            · exact ihs (c + 1) y w1 (by omega) hT1 (hno3 fun q => q2 (congrArg (fun p : Int32 × Int32 => p.2) q))
            · exact ihs (c + 1) y w1 (by omega) hT1 (hno3 fun q => q1 (congrArg (fun p : Int32 × Int32 => p.1) q))
          · rw [nI_1]
            refine ihs (c + 1) y w1 (by omega) (hP2.tr h1) fun e he => ?_
            by_cases ce : e = c
            · subst ce
              rw [hm]
              exact fun q => by cases q
            · exact hno2 e (by omega)
      refine BX11_comeCode_6 _ _ _ _ _ w (hT.1.trans hR) _ ⟨fun y => absurd y (nI_nlt (a := 7) (by omega) (by decide)), fun _ => ?_⟩
      rw [← nI_0]
      exact inner (3 ^ n) 0 z w (by omega) hT (fun e he => absurd he (Nat.not_lt_zero e))
  refine TX11_comeCode _ _ _ w0 hR _ ?_
  have := outer 8 0 _ w0 (by decide) (TR.rf w0) (fun m hm => absurd hm (Nat.not_lt_zero m))
  rw [Nat.pow_zero] at this
  exact this
theorem l_rowR {w : Wd} (hR : w.2.2 = RM) {n c : Nat} (hn : n ≤ 7) (hc : c < 2187) (h33 : wi w 0 33 = nI n) {l1 l2 l3 l4 : Int32} {Q : Option Value → Wd → Prop} (kk : Q (some (.int (nI (digN n c)))) w) : ∀ (r k : Nat), k + r = n → Go SR mX11_comeRow 51 [(0, .ref 0), (1, .int l1), (2, .int l2), (3, .int l3), (4, .int l4), (5, .int (nI (c / 3 ^ k))), (6, .int (nI (digN k c))), (7, .int (nI (10 ^ k))), (8, .int (nI k))] [] w Q := by
  intro r
  induction r with
  | zero =>
    intro k hk
    have e : k = n := by omega
    subst e
    exact BX11_comeRow_51 _ _ _ _ _ _ _ _ w hR Q ⟨fun _ => kk, fun y => absurd (by rw [h33]; exact nI_le (Nat.le_refl k) (by omega)) y⟩
  | succ r ih =>
    intro k hk
    have hd := Nat.div_le_self c (3 ^ k)
    have hT := p10_7 (n := k) (by omega)
    refine BX11_comeRow_51 _ _ _ _ _ _ _ _ w hR Q ⟨fun y => absurd y (by rw [h33]; exact nI_ge (by omega) (by omega)), fun _ => ?_⟩
    have e1 : nI (c / 3 ^ k) / 3 = nI (c / 3 ^ (k + 1)) := by
      rw [show (3 : Int32) = nI 3 from rfl, nI_dv (by omega) (by decide), Nat.div_div_eq_div_mul, Nat.pow_succ]
    have e2 : nI (digN k c) + nI (10 ^ k) * (1 + nI (c / 3 ^ k) % 3) = nI (digN (k + 1) c) := by
      rw [show (3 : Int32) = nI 3 from rfl, nI_mo (by omega) (by decide), show (1 : Int32) = nI 1 from rfl, nI_add, nmul, nI_add, digN]
      congr 1
      rw [Nat.add_comm 1, Nat.mul_comm, Nat.add_comm]
    have e3 : nI (10 ^ k) * 10 = nI (10 ^ (k + 1)) := by
      rw [show (10 : Int32) = nI 10 from rfl, nmul, ← Nat.pow_succ]
    rw [e1, e2, e3, nI_1]
    exact ih (k + 1) (by omega)
/-- both sides' trouble with a goal -/
theorem gT {b : Bool} {wc wr : Wd} (hR : Rel b wc wr) (a1 a2 a3 : Int32) {K : Int32 → Wd → Prop}
    (k1 : ∀ t : Int32, t = 1 ∨ t = 2 → (∀ K' : Int32 → Wd → Prop, K' t (wXX11_anew wr) → ClI SR mX11_comeWhy [.ref 0, .int a1, .int a2, .int a3] (wXX11_anew wr) (fun y w => w.2.2 = RM ∧ K' y w)) → K t wc)
    (k0 : ∀ n d : Nat, n ≤ 5 → d < n → a1 = nI d → wi wc (hA b) 2 = nI n → wi wc (dA (hA b) d + 2) 0 = wi wr 5 d → wi wc (dA (hA b) d + 2) 1 = wi wr 5 (5 + d) → Frac (wi wr 5 d) (wi wr 5 (5 + d)) → (∀ K' : Int32 → Wd → Prop, K' 0 (wXX11_anew wr) → ClI SR mX11_comeWhy [.ref 0, .int a1, .int a2, .int a3] (wXX11_anew wr) (fun y w => w.2.2 = RM ∧ K' y w)) → K 0 wc) :
    ClI SC mX10_goalTrouble [.ref 0, .int a1, .int a2, .int a3] wc (fun x w => w.2.2 = RTab b ∧ K x w) := by
  obtain ⟨n, hn, f4, f5, f6, fD⟩ := cx hR
  have g1 := hR.1
  have g2 := hR.2.1
  refine TX10_goalTrouble _ _ _ wc b g1 _ ⟨fun q => ?_, fun q => ⟨_, rfl, g1, k1 1 (Or.inl rfl) fun K' hk => TX11_comeWhy _ _ _ _ (an_R g2) _ (isdA g2 hn f5 f6 (fun y => absurd ((din_c hn f4).mpr y) q) fun _ => z_isFracR (an_R g2) (fun _ => ⟨_, rfl, an_R g2, hk⟩) (fun _ => ⟨_, rfl, an_R g2, hk⟩))⟩⟩
  obtain ⟨d, hd, rfl⟩ := (din_c hn f4).mp q
  obtain ⟨m, m1, m2, m3, m4, m5, m6, m7, m8⟩ := fD d hd
  refine z_isFracC g1 (fun hf => ⟨_, rfl, g1, k0 n d hn hd rfl f4 m6 m7 m8 fun K' hk => TX11_comeWhy _ _ _ _ (an_R g2) _ (isdA g2 hn f5 f6 (fun _ => z_isFracR (an_R g2) (fun _ => ⟨_, rfl, an_R g2, hk⟩) (fun hf' => absurd hf hf')) fun q => absurd ⟨d, hd, rfl⟩ q)⟩) (fun hf => ⟨_, rfl, g1, k1 2 (Or.inr rfl) fun K' hk => TX11_comeWhy _ _ _ _ (an_R g2) _ (isdA g2 hn f5 f6 (fun _ => z_isFracR (an_R g2) (fun hf' => absurd hf' hf) (fun _ => ⟨_, rfl, an_R g2, hk⟩)) fun q => absurd ⟨d, hd, rfl⟩ q)⟩)
theorem z_rowFrom {b : Bool} {wc : Wd} (g1 : wc.2.2 = RTab b) {n d : Nat} (hn : n ≤ 5) (hd : d < n) (f4 : wi wc (hA b) 2 = nI n) {x : Int32 × Int32} (m6 : wi wc (dA (hA b) d + 2) 0 = x.1) (m7 : wi wc (dA (hA b) d + 2) 1 = x.2) {a2 a3 : Int32} {Q : Int32 → Wd → Prop} (kN : NoH x (a2, a3) → Q (-2) wc) (kF : ∀ n c, Fnd x (a2, a3) n c → Q (nI (digN n c)) wc) : ClI SC mX10_rowFrom [.ref 0, .int (nI d), .int a2, .int a3] wc (fun v w2 => w2.2.2 = RTab b ∧ Q v w2) := by
  refine TX10_rowFrom _ _ _ wc b g1 _ ⟨fun _ => ?_, fun q => absurd ((din_c hn f4).mpr ⟨d, hd, rfl⟩) q⟩
  rw [d_clamp hn hd]
  exact z_fewest (g := (a2, a3)) (sh_dn b (by omega)) g1 m6 m7 (fun h => ⟨_, rfl, g1, kN h⟩) (fun n c h => ⟨_, rfl, g1, kF n c h⟩)
theorem s33 {wr w' : Wd} {y : Int32 × Int32} {v : Int32} (h : TR (wXX11_anew wr) w' y) : SameR wr (si w' 0 33 v) ∧ wi (si w' 0 33 v) 0 11 = 0 := ⟨((an_same wr).tr h.same).si (nrR (by decide)), (wi_ne (Or.inr (by decide))).trans h.k11⟩
theorem cc5 {wr : Wd} (d : Nat) : wi (wXX11_anew wr) 5 d = wi wr 5 d := an_ne (Or.inl (by decide))
theorem pr_come {wc wr : Wd} (h : RelE wc wr) (a1 a2 a3 : Int32)  : PairI mX10_come mX11_come [a1, a2, a3] wc wr := by
  obtain ⟨b, hR⟩ := h
  have g1 := hR.1
  have g2 := hR.2.1
  refine TX10_come _ _ _ wc b g1 _ (gT hR a1 a2 a3 (fun t ht hr => ⟨fun q => absurd q (t12 ht).1, fun _ => ⟨_, rfl, TX11_come _ _ _ wr g2 _ (hr _ ⟨fun q => absurd q (t12 ht).1, fun _ => ⟨_, rfl, rfl, fin_noA hR (t12 ht).2⟩⟩)⟩⟩) (fun n d hn hd e f4 m6 m7 hF hr => ⟨fun _ => ?_, fun q => absurd rfl q⟩))
  subst e
  refine z_rowFrom (x := (wi wr 5 d, wi wr 5 (5 + d))) g1 hn hd f4 m6 m7 (fun hN => ⟨fun _ => ⟨_, rfl, ?_⟩, fun q => absurd rfl q⟩) (fun i c hf => ⟨fun q => ?_, fun _ => z_digits g1 hf.1 ⟨_, rfl, ?_⟩⟩)
  · refine TX11_come _ _ _ wr g2 _ (hr _ ⟨fun _ => z_comeCode (g := (a2, a3)) (x := (wi wr 5 d, wi wr 5 (5 + d))) (by omega) (an_R g2) (cc5 d) (cc5 (5 + d)) hF (fun _ w' y hT => ⟨_, rfl, (wi_self _ _ _ _).symm, fin_ok hR (SameC.rf _) (s33 hT).1 (s33 hT).2⟩) (fun i c hf w' y hT => absurd hN fun q => fnd_no hf q), fun q => absurd rfl q⟩)
  · have hl := digN_lt i c
    have hT := p10_7 hf.1
    exact absurd q (nI_ne2 (by omega))
  · refine TX11_come _ _ _ wr g2 _ (hr _ ⟨fun _ => z_comeCode (g := (a2, a3)) (x := (wi wr 5 d, wi wr 5 (5 + d))) (by omega) (an_R g2) (cc5 d) (cc5 (5 + d)) hF (fun hN w' y hT => absurd hN fun q => fnd_no hf q) (fun i' c' hf' w' y hT => ⟨_, rfl, ?_, fin_ok hR (SameC.rf _) (s33 hT).1 (s33 hT).2⟩), fun q => absurd rfl q⟩)
    rw [wi_self, (fnd_u hf hf').1]
    rfl
theorem pr_comeRow {wc wr : Wd} (h : RelE wc wr) (a1 a2 a3 : Int32)  : PairI mX10_comeRow mX11_comeRow [a1, a2, a3] wc wr := by
  obtain ⟨b, hR⟩ := h
  have g1 := hR.1
  have g2 := hR.2.1
  refine TX10_comeRow _ _ _ wc b g1 _ (gT hR a1 a2 a3 (fun t ht hr => ⟨fun q => absurd q (t12 ht).1, fun _ => ⟨_, rfl, TX11_comeRow _ _ _ wr g2 _ (hr _ ⟨fun q => absurd q (t12 ht).1, fun _ => ⟨_, rfl, rfl, fin_noA hR (t12 ht).2⟩⟩)⟩⟩) (fun n d hn hd e f4 m6 m7 hF hr => ⟨fun _ => ?_, fun q => absurd rfl q⟩))
  subst e
  refine z_rowFrom (x := (wi wr 5 d, wi wr 5 (5 + d))) g1 hn hd f4 m6 m7 (fun hN => ⟨_, rfl, ?_⟩) (fun i c hf => ⟨_, rfl, ?_⟩)
  · refine TX11_comeRow _ _ _ wr g2 _ (hr _ ⟨fun _ => z_comeCode (g := (a2, a3)) (x := (wi wr 5 d, wi wr 5 (5 + d))) (by omega) (an_R g2) (cc5 d) (cc5 (5 + d)) hF (fun _ w' y hT => ⟨fun q => absurd q (by decide), fun _ => ⟨_, rfl, rfl, fin_ok hR (SameC.rf _) (s33 hT).1 (s33 hT).2⟩⟩) (fun i c hf w' y hT => absurd hN fun q => fnd_no hf q), fun q => absurd rfl q⟩)
  · have hc := p3_7 hf.1
    have hc2 := hf.2.1
    refine TX11_comeRow _ _ _ wr g2 _ (hr _ ⟨fun _ => z_comeCode (g := (a2, a3)) (x := (wi wr 5 d, wi wr 5 (5 + d))) (by omega) (an_R g2) (cc5 d) (cc5 (5 + d)) hF (fun hN w' y hT => absurd hN fun q => fnd_no hf q) (fun i' c' hf' w' y hT => ?_), fun q => absurd rfl q⟩)
    obtain ⟨e1, e2⟩ := fnd_u hf hf'
    subst e1 e2
    refine ⟨fun _ => ?_, fun q => absurd (nI_pos' (by omega)) q⟩
    have := l_rowR (w := si w' 0 33 (nI i)) (n := i) (c := c) (l1 := nI d) (l2 := a2) (l3 := a3) (l4 := 0) (Q := fun r w2 => ∃ y, r = some (.int y) ∧ (vXX10_accept (nI (digN i c)) = y ∧ RelE (wXX10_accept (nI (digN i c)) wc) w2)) (hT.1.trans (an_R g2)) hf.1 (by omega) (wi_self _ _ _ _) ⟨_, rfl, rfl, fin_ok hR (SameC.rf _) (s33 hT).1 (s33 hT).2⟩ i 0 (by omega)
    rw [Nat.pow_zero, Nat.div_one] at this
    exact this
