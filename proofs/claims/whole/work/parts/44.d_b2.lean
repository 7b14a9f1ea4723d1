/-! the acts -/
theorem fin_dn {b : Bool} {wc wr wc' wr' : Wd} {t : Int32} (hR : Rel b wc wr) (hc : SameC wc wc') (hr : SameR wr wr') (ht : t ≠ 4) : RelE (wXX10_deny t wc') (wXX11_isNot t wr') := fin_no (v := 0) hR hc hr ht
theorem pr_flip {wc wr : Wd} (h : RelE wc wr) (a1 : Int32)  : PairI mX10_flip mX11_flip [a1] wc wr := by
  obtain ⟨b, hR⟩ := h
  obtain ⟨n, hN⟩ := relN_of hR
  obtain ⟨hn, f4, f5, f6, fD, a, ha, h3, h21⟩ := relN_a hN
  have g1 := hR.1
  have g2 := hR.2.1
  refine TX10_flip _ wc b g1 _ ⟨fun q => ?_, fun q => ⟨_, rfl, TX11_flip _ wr g2 _ (isdA g2 hn f5 f6 (fun z => absurd ((din_c hn f4).mpr z) q) fun _ => ⟨fun _ => ⟨_, rfl, rfl, fin_dn hR (SameC.rf _) (an_same _) (by decide)⟩, fun q => absurd rfl q⟩)⟩⟩
  obtain ⟨d, hd, rfl⟩ := (din_c hn f4).mp q
  obtain ⟨m, m1, m2, m3, m4, m5, m6, m7, m8⟩ := fD d hd
  have hd5 : d < 5 := by omega
  have e23 := lk_23 wr d
  have e24 := lk_24 wr d
  rw [d_clamp hn hd, m6, m7]
  refine ⟨fun z => ⟨_, rfl, TX11_flip _ wr g2 _ (isdA g2 hn f5 f6 (fun _ => ⟨fun q => absurd q no10, fun _ => lookA hd5 g2 ⟨fun _ => ⟨_, rfl, rfl, fin_dn hR (SameC.rf _) (lk_same wr d) (by decide)⟩, fun y => absurd (e23.trans z) y⟩⟩) fun q => absurd ⟨d, hd, rfl⟩ q)⟩, fun z => ⟨fun z2 => ⟨_, rfl, TX11_flip _ wr g2 _ (isdA g2 hn f5 f6 (fun _ => ⟨fun q => absurd q no10, fun _ => lookA hd5 g2 ⟨fun y => absurd (e23.symm.trans y) z, fun _ => ⟨fun _ => ⟨_, rfl, rfl, fin_dn hR (SameC.rf _) (lk_same wr d) (by decide)⟩, fun y => absurd (e24.trans z2) y⟩⟩⟩) fun q => absurd ⟨d, hd, rfl⟩ q)⟩, fun z2 => ?_⟩⟩
  have E23 : wi (si (lk wr d) 0 23 (-(wi (lk wr d) 0 23))) 0 23 = -(wi wr 5 d) := (wi_self _ _ _ _).trans (by rw [e23])
  have E24 : wi (si (lk wr d) 0 23 (-(wi (lk wr d) 0 23))) 0 24 = wi wr 5 (5 + d) := (wi_ne (Or.inr (by decide))).trans e24
  have hF : Frac (-(wi wr 5 d)) (wi wr 5 (5 + d)) := by
    have := m8.1
    have := m8.2.1
    have en := i_neg (A := 9999) ⟨m8.1, m8.2.1⟩ (by decide)
    unfold Frac
    rw [en, Int.neg_gcd]
    exact ⟨by omega, by omega, m8.2.2.1, m8.2.2.2.1, m8.2.2.2.2.1, fun y => absurd y z2⟩
  have hS : SameR wr (si (lk wr d) 0 23 (-(wi (lk wr d) 0 23))) := (lk_same wr d).si (nrR (by decide))
  have hW : (si (lk wr d) 0 23 (-(wi (lk wr d) 0 23))).2.2 = RM := hS.1.trans g2
  have hW21 : wi (si (lk wr d) 0 23 (-(wi (lk wr d) 0 23))) 0 21 = nI a := (hS.2 0 21 (by unfold relR; decide)).trans h21
  have hWs : Sm (wi (si (lk wr d) 0 23 (-(wi (lk wr d) 0 23))) 0 23) (wi (si (lk wr d) 0 23 (-(wi (lk wr d) 0 23))) 0 24) := by rw [E23, E24]; exact hF.sm
  refine z_become g1 hd5 ha h3 (fun w' hC => ⟨_, rfl, TX11_flip _ wr g2 _ (isdA g2 hn f5 f6 (fun _ => ⟨fun q => absurd q no10, fun _ => lookA hd5 g2 ⟨fun y => absurd (e23.symm.trans y) z, fun _ => ⟨fun y => absurd (e24.symm.trans y) z2, fun _ => z_becomes (w := si (lk wr d) 0 23 (-(wi (lk wr d) 0 23))) (a := a) hW hd5 ha hW21 hWs (fun w'' hB => ⟨_, rfl, rfl, b, ?_⟩)⟩⟩⟩) fun q => absurd ⟨d, hd, rfl⟩ q)⟩)
  exact act_rel hN hd ha h3 hC hS hB E23 E24 hF ((hB.2.1 0 11 (by decide) (by decide) (by decide) (by decide)).trans ((wi_ne (Or.inr (by decide))).trans (lk_11 wr d))) (fun x i hx => wi_ne (Or.inl hx)) rfl (wi_self _ _ _ _)
theorem pr_reset {wc wr : Wd} (h : RelE wc wr) (a1 : Int32)  : PairI mX10_reset mX11_reset [a1] wc wr := by
  obtain ⟨b, hR⟩ := h
  obtain ⟨n, hN⟩ := relN_of hR
  obtain ⟨hn, f4, f5, f6, fD, a, ha, h3, h21⟩ := relN_a hN
  have g1 := hR.1
  have g2 := hR.2.1
  refine TX10_reset _ wc b g1 _ ⟨fun q => ?_, fun q => ⟨_, rfl, TX11_reset _ wr g2 _ (isdA g2 hn f5 f6 (fun z => absurd ((din_c hn f4).mpr z) q) fun _ => ⟨fun _ => ⟨_, rfl, rfl, fin_dn hR (SameC.rf _) (an_same _) (by decide)⟩, fun q => absurd rfl q⟩)⟩⟩
  obtain ⟨d, hd, rfl⟩ := (din_c hn f4).mp q
  obtain ⟨m, m1, m2, m3, m4, m5, m6, m7, m8⟩ := fD d hd
  have hd5 : d < 5 := by omega
  have e5 : wi (wXX11_anew wr) 5 (nI d).toNatClampNeg = wi wr 5 d := by rw [d_clamp hn hd]; exact an_ne (Or.inl (by decide))
  have hin : vp_in (nI d) 10 := nI_in (by omega) (by decide)
  unfold vXX7_isUntied
  rw [d_clamp hn hd, m6]
  refine ⟨fun z => ?_, fun z => ?_⟩
  · have z0 : ¬ wi wr 5 d = 0 := fun y => by
      rw [if_pos y] at z
      exact absurd z (by decide)
    have E23 : wi (si (si (wXX11_anew wr) 0 23 0) 0 24 1) 0 23 = 0 := (wi_ne (Or.inr (by decide))).trans (wi_self _ _ _ _)
    have E24 : wi (si (si (wXX11_anew wr) 0 23 0) 0 24 1) 0 24 = 1 := wi_self _ _ _ _
    have hF : Frac 0 1 := ⟨by decide, by decide, by decide, by decide, by decide, fun y => absurd y (by decide)⟩
    have hS : SameR wr (si (si (wXX11_anew wr) 0 23 0) 0 24 1) := ((an_same wr).si (nrR (by decide))).si (nrR (by decide))
    have hW : (si (si (wXX11_anew wr) 0 23 0) 0 24 1).2.2 = RM := hS.1.trans g2
    have hW21 : wi (si (si (wXX11_anew wr) 0 23 0) 0 24 1) 0 21 = nI a := (hS.2 0 21 (by unfold relR; decide)).trans h21
    have hWs : Sm (wi (si (si (wXX11_anew wr) 0 23 0) 0 24 1) 0 23) (wi (si (si (wXX11_anew wr) 0 23 0) 0 24 1) 0 24) := by rw [E23, E24]; exact hF.sm
    refine z_become g1 hd5 ha h3 (fun w' hC => ⟨_, rfl, TX11_reset _ wr g2 _ (isdA g2 hn f5 f6 (fun _ => ⟨fun q => absurd q no10, fun _ => ⟨hin, fun y => absurd (e5.symm.trans y) z0, fun _ => z_becomes (w := si (si (wXX11_anew wr) 0 23 0) 0 24 1) (a := a) hW hd5 ha hW21 hWs (fun w'' hB => ⟨_, rfl, rfl, b, ?_⟩)⟩⟩) fun q => absurd ⟨d, hd, rfl⟩ q)⟩)
    exact act_rel hN hd ha h3 hC hS hB E23 E24 hF ((hB.2.1 0 11 (by decide) (by decide) (by decide) (by decide)).trans ((wi_ne (Or.inr (by decide))).trans ((wi_ne (Or.inr (by decide))).trans (an_11 wr)))) (fun x i hx => wi_ne (Or.inl hx)) rfl (wi_self _ _ _ _)
  · have z0 : wi wr 5 d = 0 := by
      by_cases y : wi wr 5 d = 0
      · exact y
      · rw [if_neg y] at z
        exact absurd rfl z
    exact ⟨_, rfl, TX11_reset _ wr g2 _ (isdA g2 hn f5 f6 (fun _ => ⟨fun q => absurd q no10, fun _ => ⟨hin, fun _ => ⟨_, rfl, rfl, fin_dn hR (SameC.rf _) (an_same _) (by decide)⟩, fun y => absurd (e5.trans z0) y⟩⟩) fun q => absurd ⟨d, hd, rfl⟩ q)⟩
theorem fig_in {f : Int32} : Fig f ↔ ¬ f < 0 ∧ f ≤ 2 := by
  constructor
  · rintro (rfl | rfl | rfl) <;> decide
  · exact fun h => fig_of h.1 h.2
theorem why_1 (y : Int32) : vXX11_why 1 y = if y = 0 then 2 else 0 := rfl
theorem why_0 (y : Int32) : vXX11_why 0 y = 1 := rfl
theorem in_02 {f : Int32} (h : Fig f) : vXX11_in f 0 2 = 1 := by
  rcases h with rfl | rfl | rfl <;> decide
theorem in_02n {f : Int32} (h : ¬ Fig f) : vXX11_in f 0 2 = 0 := by
  rw [v_in]
  by_cases c : f < 0
  · rw [if_pos c]
  · rw [if_neg c, if_pos (Int32.not_le.mp fun c2 => h (fig_of c c2))]
theorem pr_call {wc wr : Wd} (h : RelE wc wr) (a1 a2 : Int32)  : PairI mX10_call mX11_call [a1, a2] wc wr := by
  obtain ⟨b, hR⟩ := h
  obtain ⟨n, hN⟩ := relN_of hR
  obtain ⟨hn, f4, f5, f6, fD, a, ha, h3, h21⟩ := relN_a hN
  have g1 := hR.1
  have g2 := hR.2.1
  refine TX10_call _ _ wc b g1 _ ⟨fun q => ?_, fun q => ⟨_, rfl, TX11_call _ _ wr g2 _ (isdA g2 hn f5 f6 (fun z => absurd ((din_c hn f4).mpr z) q) fun _ => ⟨fun y => absurd y (by rw [why_0]; decide), fun _ => ⟨_, rfl, rfl, fin_noA hR (by decide)⟩⟩)⟩⟩
  obtain ⟨d, hd, rfl⟩ := (din_c hn f4).mp q
  obtain ⟨m, m1, m2, m3, m4, m5, m6, m7, m8⟩ := fD d hd
  have hd5 : d < 5 := by omega
  have e23 := lk_23 wr d
  have e24 := lk_24 wr d
  rw [d_clamp hn hd, m6, m7]
  have bad : ¬ Fig a2 → ∃ x, some (Value.int (vXX10_refuse 2 (-1))) = some (.int x) ∧ ClI SR mX11_call [.ref 0, .int (nI d), .int a2] wr (fun y wr' => x = y ∧ RelE (wXX10_refuse 2 (-1) wc) wr') := fun z => ⟨_, rfl, TX11_call _ _ wr g2 _ (isdA g2 hn f5 f6 (fun _ => ⟨fun y => absurd y (by rw [why_1, in_02n z]; decide), fun _ => ⟨_, rfl, rfl, by rw [why_1, in_02n z]; exact fin_noA hR (by decide)⟩⟩) fun q => absurd ⟨d, hd, rfl⟩ q)⟩
  refine ⟨fun z => bad fun hf => (fig_in.mp hf).1 z, fun z1 => ⟨fun z2 => ?_, fun z2 => bad fun hf => z2 (fig_in.mp hf).2⟩⟩
  have hf : Fig a2 := fig_of z1 z2
  have hw : vXX11_why 1 (vXX11_in a2 0 2) = 0 := by rw [why_1, in_02 hf]; decide
  have hfr : FrB 19998 (fo a2 (wi wr 5 d, wi wr 5 (5 + d))) := fo_fr (A := 9999) (by decide) (by decide) hf m8
  refine ⟨fun z => ?_, fun z => ?_⟩
  · have hF := (great_c hfr).mp z
    refine z_become g1 hd5 ha h3 (fun w' hC => z_crossedX (x := fo a2 (wi wr 5 d, wi wr 5 (5 + d))) (sh_dn b hd5) (hC.1.trans g1) hC.2.2.1 hC.2.2.2.1 hF.sm ⟨_, rfl, TX11_call _ _ wr g2 _ (isdA g2 hn f5 f6 (fun _ => ⟨fun _ => lookA hd5 g2 (z_calls hf (lk_R d g2) (x := (wi wr 5 d, wi wr 5 (5 + d))) e23 e24 m8 (fun _ w1 hT => ⟨fun y => absurd y no10, fun _ => z_becomes (a := a) (hT.1.trans (lk_R d g2)) hd5 ha ((((lk_same wr d).tr hT.same).2 0 21 (by unfold relR; decide)).trans h21) (by rw [hT.2.2.1, hT.2.2.2]; exact hF.sm) (fun w'' hB => ⟨_, rfl, ?_, b, ?_⟩)⟩) (fun y => absurd hF y)), fun y => absurd hw y⟩) fun q => absurd ⟨d, hd, rfl⟩ q)⟩)
    · rw [hT.2.2.1, hT.2.2.2]
      rfl
    · exact act_rel hN hd ha h3 hC ((lk_same wr d).tr hT.same) hB hT.2.2.1 hT.2.2.2 hF ((hB.2.1 0 11 (by decide) (by decide) (by decide) (by decide)).trans ((hT.2.1 0 11 (by decide)).trans (lk_11 wr d))) (fun x i hx => wi_ne (Or.inl hx)) rfl (wi_self _ _ _ _)
  · have hF : ¬ Frac (fo a2 (wi wr 5 d, wi wr 5 (5 + d))).1 (fo a2 (wi wr 5 d, wi wr 5 (5 + d))).2 := fun y => z ((great_c hfr).mpr y)
    exact ⟨_, rfl, TX11_call _ _ wr g2 _ (isdA g2 hn f5 f6 (fun _ => ⟨fun _ => lookA hd5 g2 (z_calls hf (lk_R d g2) (x := (wi wr 5 d, wi wr 5 (5 + d))) e23 e24 m8 (fun y => absurd y hF) (fun _ w1 hT => ⟨fun _ => ⟨_, rfl, rfl, fin_no hR (SameC.rf _) ((lk_same wr d).tr hT.same) (by decide)⟩, fun y => absurd rfl y⟩)), fun y => absurd hw y⟩) fun q => absurd ⟨d, hd, rfl⟩ q)⟩
theorem fr_join {x y u : Int32} (h1 : Frac x u) (h2 : -9999 ≤ y.toInt ∧ y.toInt ≤ 9999) (hu : ¬ u = 0) : FrB 200000000 (x + y * u, u) := by
  obtain ⟨x1, x2, u1, u2, hg, -⟩ := h1
  have p1 : y.toInt * u.toInt ≤ 9999 * 9999 := by
    have := Int.mul_le_mul_of_nonneg_right h2.2 u1
    omega
  have p2 : -(9999 * 9999) ≤ y.toInt * u.toInt := by
    have := Int.mul_le_mul_of_nonneg_right h2.1 u1
    omega
  have em : (y * u).toInt = y.toInt * u.toInt := by
    rw [Int32.toInt_mul, Int.bmod_eq_of_le (by omega) (by omega)]
  have ea : (x + y * u).toInt = x.toInt + y.toInt * u.toInt := by
    rw [i_add (A := 100000000) ⟨by omega, by omega⟩ (by rw [em]; omega) (by decide), em]
  unfold FrB
  refine ⟨?_, ?_, u1, ?_, ?_, fun z => absurd z hu⟩
  · show _ ≤ (x + y * u).toInt
    rw [ea]
    omega
  · show (x + y * u).toInt ≤ _
    rw [ea]
    omega
  · show u.toInt ≤ _
    omega
  · show Int.gcd (x + y * u).toInt u.toInt = 1
    rw [ea, Int.gcd_add_mul_right_left]
    exact hg
theorem pr_join {wc wr : Wd} (h : RelE wc wr) (a1 a2 : Int32)  : PairI mX10_join mX11_join [a1, a2] wc wr := by
  obtain ⟨b, hR⟩ := h
  obtain ⟨n, hN⟩ := relN_of hR
  obtain ⟨hn, f4, f5, f6, fD, a, ha, h3, h21⟩ := relN_a hN
  have g1 := hR.1
  have g2 := hR.2.1
  have no2 : ∀ d : Nat, d < n → (¬ ∃ e : Nat, e < n ∧ a2 = nI e) → ClI SR mX11_join [.ref 0, .int (nI d), .int a2] wr (fun y wr' => -1 = y ∧ RelE (wXX10_refuse 1 (-1) wc) wr') := fun d hd z => TX11_join _ _ wr g2 _ (isdA g2 hn f5 f6 (fun _ => ⟨fun q => absurd q no10, fun _ => isdA g2 hn f5 f6 (fun q => absurd q z) fun _ => ⟨fun _ => ⟨_, rfl, rfl, fin_noA hR (by decide)⟩, fun q => absurd rfl q⟩⟩) fun q => absurd ⟨d, hd, rfl⟩ q)
  have no1 : (¬ ∃ e : Nat, e < n ∧ a1 = nI e) → ClI SR mX11_join [.ref 0, .int a1, .int a2] wr (fun y wr' => -1 = y ∧ RelE (wXX10_refuse 1 (-1) wc) wr') := fun z => TX11_join _ _ wr g2 _ (isdA g2 hn f5 f6 (fun q => absurd q z) fun _ => ⟨fun _ => ⟨_, rfl, rfl, fin_noA hR (by decide)⟩, fun q => absurd rfl q⟩)
  refine TX10_join _ _ wc b g1 _ ⟨fun q => ?_, fun q => ⟨fun _ => ⟨_, rfl, no1 fun z => q ((din_c hn f4).mpr z)⟩, fun _ => ⟨_, rfl, no1 fun z => q ((din_c hn f4).mpr z)⟩⟩⟩
  obtain ⟨d, hd, rfl⟩ := (din_c hn f4).mp q
  refine ⟨fun q2 => ?_, fun q2 => ⟨_, rfl, no2 d hd fun z => q2 ((din_c hn f4).mpr z)⟩⟩
  obtain ⟨e, he, rfl⟩ := (din_c hn f4).mp q2
  obtain ⟨m, m1, m2, m3, m4, m5, m6, m7, m8⟩ := fD d hd
  obtain ⟨k, k1, k2, k3, k4, k5, k6, k7, k8⟩ := fD e he
  have hd5 : d < 5 := by omega
  have he5 : e < 5 := by omega
  have e23 := lk_23 wr d
  have e24 := lk_24 wr d
  have i1 : vp_in (5 + nI e) 10 := by rw [n5]; exact nI_in (by omega) (by decide)
  have i2 : vp_in (nI e) 10 := nI_in (by omega) (by decide)
  have i3 : vp_in (5 + nI d) 10 := by rw [n5]; exact nI_in (by omega) (by decide)
  have t1 : wi (wXX11_anew wr) 5 (5 + nI e).toNatClampNeg = wi wr 5 (5 + e) := by rw [n5, nI_clamp (by omega)]; exact an_ne (Or.inl (by decide))
  have t2 : wi (wXX11_anew wr) 5 (nI e).toNatClampNeg = wi wr 5 e := by rw [nI_clamp (by omega)]; exact an_ne (Or.inl (by decide))
  have t3 : wi (wXX11_anew wr) 5 (5 + nI d).toNatClampNeg = wi wr 5 (5 + d) := by rw [n5, nI_clamp (by omega)]; exact an_ne (Or.inl (by decide))
  have t4 : wi (lk wr d) 5 (nI e).toNatClampNeg = wi wr 5 e := by rw [nI_clamp (by omega)]; exact (lk_same wr d).2 5 e (Or.inr (by decide))
  rw [d_clamp hn hd, d_clamp hn he, m6, m7, k6, k7]
  refine ⟨fun z => ⟨_, rfl, TX11_join _ _ wr g2 _ (isdA g2 hn f5 f6 (fun _ => ⟨fun q => absurd q no10, fun _ => isdA g2 hn f5 f6 (fun _ => ⟨fun q => absurd q no10, fun _ => ⟨fun _ => ⟨_, rfl, rfl, fin_noA hR (by decide)⟩, fun y => absurd z y⟩⟩) fun q => absurd ⟨e, he, rfl⟩ q⟩) fun q => absurd ⟨d, hd, rfl⟩ q)⟩, fun z => ⟨fun z1 => ⟨fun z2 => ⟨_, rfl, TX11_join _ _ wr g2 _ (isdA g2 hn f5 f6 (fun _ => ⟨fun q => absurd q no10, fun _ => isdA g2 hn f5 f6 (fun _ => ⟨fun q => absurd q no10, fun _ => ⟨fun y => absurd y z, fun _ => ⟨i1, fun _ => ⟨i2, fun _ => ⟨_, rfl, rfl, fin_noA hR (by decide)⟩, fun y => absurd (t2.trans z2) y⟩, fun y => absurd (t1.trans z1) y⟩⟩⟩) fun q => absurd ⟨e, he, rfl⟩ q⟩) fun q => absurd ⟨d, hd, rfl⟩ q)⟩, fun z2 => ⟨fun z3 => ⟨_, rfl, TX11_join _ _ wr g2 _ (isdA g2 hn f5 f6 (fun _ => ⟨fun q => absurd q no10, fun _ => isdA g2 hn f5 f6 (fun _ => ⟨fun q => absurd q no10, fun _ => ⟨fun y => absurd y z, fun _ => ⟨i1, fun _ => ⟨i2, fun y => absurd (t2.symm.trans y) z2, fun _ => ⟨i3, fun _ => ⟨_, rfl, rfl, fin_noA hR (by decide)⟩, fun y => absurd (t3.trans z3) y⟩⟩, fun y => absurd (t1.trans z1) y⟩⟩⟩) fun q => absurd ⟨e, he, rfl⟩ q⟩) fun q => absurd ⟨d, hd, rfl⟩ q)⟩, fun z3 => ?_⟩⟩, fun z1 => ⟨_, rfl, TX11_join _ _ wr g2 _ (isdA g2 hn f5 f6 (fun _ => ⟨fun q => absurd q no10, fun _ => isdA g2 hn f5 f6 (fun _ => ⟨fun q => absurd q no10, fun _ => ⟨fun y => absurd y z, fun _ => ⟨i1, fun y => absurd (t1.symm.trans y) z1, fun _ => ⟨_, rfl, rfl, fin_noA hR (by decide)⟩⟩⟩⟩) fun q => absurd ⟨e, he, rfl⟩ q⟩) fun q => absurd ⟨d, hd, rfl⟩ q)⟩⟩⟩
  have hfr := fr_join m8 ⟨k8.1, k8.2.1⟩ z3
  have E23 : wi (si (lk wr d) 0 23 (wi wr 5 d + wi wr 5 e * wi wr 5 (5 + d))) 0 23 = wi wr 5 d + wi wr 5 e * wi wr 5 (5 + d) := wi_self _ _ _ _
  have E24 : wi (si (lk wr d) 0 23 (wi wr 5 d + wi wr 5 e * wi wr 5 (5 + d))) 0 24 = wi wr 5 (5 + d) := (wi_ne (Or.inr (by decide))).trans e24
  have hS : SameR wr (si (lk wr d) 0 23 (wi wr 5 d + wi wr 5 e * wi wr 5 (5 + d))) := (lk_same wr d).si (nrR (by decide))
  have hb1 : -200000000 ≤ (wi wr 5 d + wi wr 5 e * wi wr 5 (5 + d)).toInt := hfr.1
  have hb2 : (wi wr 5 d + wi wr 5 e * wi wr 5 (5 + d)).toInt ≤ 200000000 := hfr.2.1
  have hW : (si (lk wr d) 0 23 (wi wr 5 d + wi wr 5 e * wi wr 5 (5 + d))).2.2 = RM := hS.1.trans g2
  have hW21 : wi (si (lk wr d) 0 23 (wi wr 5 d + wi wr 5 e * wi wr 5 (5 + d))) 0 21 = nI a := (hS.2 0 21 (by unfold relR; decide)).trans h21
  have hH := high_c (w := si (lk wr d) 0 23 (wi wr 5 d + wi wr 5 e * wi wr 5 (5 + d))) (by rw [E23]; exact ⟨by omega, by omega⟩)
  rw [E23, E24] at hH
  refine ⟨fun z4 => ?_, fun z4 => ?_⟩
  · have hF : Frac _ _ := (great_c hfr).mp z4
    refine z_become g1 hd5 ha h3 (fun w' hC => z_crossedX (x := (wi wr 5 d + wi wr 5 e * wi wr 5 (5 + d), wi wr 5 (5 + d))) (sh_dn b hd5) (hC.1.trans g1) hC.2.2.1 hC.2.2.2.1 hF.sm ⟨_, rfl, TX11_join _ _ wr g2 _ (isdA g2 hn f5 f6 (fun _ => ⟨fun q => absurd q no10, fun _ => isdA g2 hn f5 f6 (fun _ => ⟨fun q => absurd q no10, fun _ => ⟨fun y => absurd y z, fun _ => ⟨i1, fun _ => ⟨i2, fun y => absurd (t2.symm.trans y) z2, fun _ => ⟨i3, fun y => absurd (t3.symm.trans y) z3, fun _ => lookA hd5 g2 ⟨i2, ?_⟩⟩⟩, fun y => absurd (t1.trans z1) y⟩⟩⟩) fun q => absurd ⟨e, he, rfl⟩ q⟩) fun q => absurd ⟨d, hd, rfl⟩ q)⟩)
    rw [e23, e24, t4, hH]
    refine ⟨fun _ => z_becomes (w := si (lk wr d) 0 23 (wi wr 5 d + wi wr 5 e * wi wr 5 (5 + d))) (a := a) hW hd5 ha hW21 (by rw [E23, E24]; exact hF.sm) (fun w'' hB => ⟨_, rfl, ?_, b, ?_⟩), fun y => absurd z4 y⟩
    · rw [E23, E24]
      rfl
    · exact act_rel hN hd ha h3 hC hS hB E23 E24 hF ((hB.2.1 0 11 (by decide) (by decide) (by decide) (by decide)).trans ((wi_ne (Or.inr (by decide))).trans (lk_11 wr d))) (fun x i hx => wi_ne (Or.inl hx)) rfl (wi_self _ _ _ _)
  · refine ⟨_, rfl, TX11_join _ _ wr g2 _ (isdA g2 hn f5 f6 (fun _ => ⟨fun q => absurd q no10, fun _ => isdA g2 hn f5 f6 (fun _ => ⟨fun q => absurd q no10, fun _ => ⟨fun y => absurd y z, fun _ => ⟨i1, fun _ => ⟨i2, fun y => absurd (t2.symm.trans y) z2, fun _ => ⟨i3, fun y => absurd (t3.symm.trans y) z3, fun _ => lookA hd5 g2 ⟨i2, ?_⟩⟩⟩, fun y => absurd (t1.trans z1) y⟩⟩⟩) fun q => absurd ⟨e, he, rfl⟩ q⟩) fun q => absurd ⟨d, hd, rfl⟩ q)⟩
    rw [e23, e24, t4, hH]
    exact ⟨fun y => absurd y z4, fun _ => ⟨_, rfl, rfl, fin_no hR (SameC.rf _) hS (by decide)⟩⟩
/-- the relation when the latest act is taken back -/
theorem undo_rel {b : Bool} {wc wr wc' wr' : Wd} {n k d : Nat} (hN : RelN b wc wr n) (p3 : wi wc 49 3 = nI (k + 1)) (hk16 : k < 16) (hd : d < n) (q1 : wi wc 50 k = nI d) (hcR : wc'.2.2 = wc.2.2) (hrR : wr'.2.2 = wr.2.2) (k10 : wi wc' 0 10 = 0)
    (kC : ∀ x i, x ≠ 0 → ¬ (x = 49 ∧ i = 3) → x ≠ dA (hA b) d + 2 → wi wc' x i = wi wc x i) (k0 : wi wc' (dA (hA b) d + 2) 0 = wi wc 51 k) (k1 : wi wc' (dA (hA b) d + 2) 1 = wi wc 52 k) (k3 : wi wc' 49 3 = nI k)
    (kR : ∀ x i, x ≠ 5 → ¬ (x = 0 ∧ (i = 0 ∨ i = 11 ∨ i = 21)) → wi wr' x i = wi wr x i) (k11 : wi wr' 0 11 = 0) (k21 : wi wr' 0 21 = nI k) (k5 : ∀ i, i < 10 → wi wr' 5 i = wi wr 6 (10 * k + i)) : Rel b wc' wr' := by
  obtain ⟨g1, g2, g3, g4, g5, g6, ⟨uu, ee, f1, f2, f3, f4, f5, f6, f7, f8, f9, f10, f11, f12, f13, f14, f15, f16, f17⟩, a, g, p1, p2, p3', p4, p5, p6, p7, p8, p9⟩ := id hN
  have hak : a = k + 1 := by
    rw [p3] at p3'
    exact ((nI_eq (by omega) (by omega)).mp p3').symm
  subst hak
  obtain ⟨d0, hd0, q10, q2⟩ := p8 k (by omega)
  have hdd : d0 = d := by
    rw [q1] at q10
    exact ((nI_eq (by omega) (by omega)).mp q10).symm
  subst hdd
  have hd5 : d0 < 5 := by omega
  have hlt := dA_lq b hd5
  have hge := dA_ge b d0
  have tan : ∀ j, j < n → wi wc' (dA (hA b) j + 2) 0 = wi wr' 5 j ∧ wi wc' (dA (hA b) j + 2) 1 = wi wr' 5 (5 + j) ∧ Frac (wi wr' 5 j) (wi wr' 5 (5 + j)) := fun j hj => by
    have hj5 : j < 5 := by omega
    have hltj := dA_lq b hj5
    obtain ⟨q3, q4, q5⟩ := q2 j hj
    rw [if_neg (show ¬ k + 1 < k + 1 by omega)] at q4 q5
    rw [k5 j (by omega), k5 (5 + j) (by omega), ← Nat.add_assoc]
    refine ⟨?_, ?_, q3⟩
    · by_cases c : j = d0
      · rw [if_pos c] at q4
        rw [q4, c]
        exact k0
      · rw [if_neg c] at q4
        obtain ⟨m, m1, m2, m3, m4, m5, m6, m7, m8⟩ := f15 j hj
        rw [q4, kC _ 0 (by omega) (by omega) (by unfold dA; omega)]
        exact m6
    · by_cases c : j = d0
      · rw [if_pos c] at q5
        rw [q5, c]
        exact k1
      · rw [if_neg c] at q5
        obtain ⟨m, m1, m2, m3, m4, m5, m6, m7, m8⟩ := f15 j hj
        rw [q5, kC _ 1 (by omega) (by omega) (by unfold dA; omega)]
        exact m7
  refine rel_past hN hcR (fun x i h1 h2 h3 => kC x i (by omega) (by omega) (h3 d0 hd5)) hrR (kR 0 2 (by decide) (by decide)) (kR 0 9 (by decide) (by decide)) (kR 0 10 (by decide) (by decide)) (kR 0 15 (by decide) (by decide)) (fun i => kR 1 i (by decide) (by omega)) (fun i => kR 3 i (by decide) (by omega)) (k10.trans k11.symm) (fun y => by rw [k11] at y; exact absurd y (by decide)) tan ?_
  refine ⟨k, g, by omega, p2, k3, k21, (kC 49 6 (by decide) (by omega) (by omega)).trans p5, (kR 0 22 (by decide) (by decide)).trans p6, fun y => by omega, fun j hj => ?_, fun j hj i hi => ?_⟩
  · obtain ⟨d2, hd2, r1, r2⟩ := p8 j (by omega)
    refine ⟨d2, hd2, (kC 50 j (by decide) (by omega) (by omega)).trans r1, fun i hi => ?_⟩
    obtain ⟨r3, r4, r5⟩ := r2 i hi
    rw [if_pos (show j + 1 < k + 1 by omega)] at r4 r5
    rw [kR 6 _ (by decide) (by omega), kR 6 _ (by decide) (by omega), kR 6 _ (by decide) (by omega), kR 6 _ (by decide) (by omega), kC 51 j (by decide) (by omega) (by omega), kC 52 j (by decide) (by omega) (by omega), k5 i (by omega), k5 (5 + i) (by omega)]
    refine ⟨r3, ?_, ?_⟩
    · rw [r4]
      by_cases c : j + 1 < k
      · rw [if_pos c]
      · rw [if_neg c, show j + 1 = k by omega]
    · rw [r5]
      by_cases c : j + 1 < k
      · rw [if_pos c]
      · rw [if_neg c, show j + 1 = k by omega, Nat.add_assoc]
  · have y := p9 j hj i hi
    rw [kC 53 _ (by decide) (by omega) (by omega), kC 54 _ (by decide) (by omega) (by omega), kR 7 _ (by decide) (by omega), kR 7 _ (by decide) (by omega)]
    exact y
theorem pr_undo {wc wr : Wd} (h : RelE wc wr)  : PairI mX10_undo mX11_undo [] wc wr := by
  obtain ⟨b, hR⟩ := h
  obtain ⟨n, hN⟩ := relN_of hR
  obtain ⟨g1, g2, g3, g4, g5, g6, ⟨uu, ee, f1, f2, f3, f4, f5, f6, f7, f8, f9, f10, f11, f12, f13, f14, f15, f16, f17⟩, a, g, p1, p2, p3, p4, p5, p6, p7, p8, p9⟩ := id hN
  have e21 : wi (wXX11_anew wr) 0 21 = nI a := (an_ne (Or.inr (by decide))).trans p4
  refine TX10_undo wc b g1 _ ⟨fun z => ⟨_, rfl, TX11_undo wr g2 _ ⟨fun _ => ⟨_, rfl, rfl, fin_dn hR (SameC.rf _) (an_same _) (by decide)⟩, fun y => absurd (e21.trans (p3.symm.trans z)) y⟩⟩, fun z => ?_⟩
  have ha0 : a ≠ 0 := fun e => z (by rw [p3, e]; rfl)
  obtain ⟨k, rfl⟩ : ∃ k, a = k + 1 := ⟨a - 1, by omega⟩
  obtain ⟨d, hd, q1, q2⟩ := p8 k (by omega)
  have hd5 : d < 5 := by omega
  have hlt := dA_lq b hd5
  have hge := dA_ge b d
  have hb : hA b = 3 ∨ hA b = 26 := by cases b; exact Or.inl rfl; exact Or.inr rfl
  refine TX4_takeBack b wc b g1 _ ?_
  rw [p3, nI_pred]
  have s3 : wi (si wc 49 3 (nI k)) 49 3 = nI k := wi_self _ _ _ _
  have s0 : wi (si wc 49 3 (nI k)) 50 k = nI d := (wi_ne (Or.inl (by decide))).trans q1
  have s1 : wi (si wc 49 3 (nI k)) 51 k = wi wc 51 k := wi_ne (Or.inl (by decide))
  have s4 : wi (si wc 49 3 (nI k)) 52 k = wi wc 52 k := wi_ne (Or.inl (by decide))
  have s2 : wi (si wc 49 3 (nI k)) (hA b) 2 = nI n := (wi_ne (Or.inl (by omega))).trans f4
  rw [s3, gf_in (by omega) (by decide), gf_in (by omega) (by decide), gf_in (by omega) (by decide), s0, s1, s4, s2, nI_clamp (by omega)]
  refine ⟨fun _ => ⟨rfl, g1, _, rfl, ?_⟩, fun y => absurd ⟨nI_pos' (by omega), nI_lt hd (by omega), nlt5 hd5⟩ y⟩
  refine TX11_undo wr g2 _ ⟨fun y => absurd (e21.symm.trans y) (nI_ne0 (by omega) (by omega)), fun _ => ?_⟩
  rw [e21, nI_pred, wi_self, n10]
  have hw0 : (si (wXX11_anew wr) 0 21 (nI k)).2.2 = RM := g2
  refine z_copy (s := 10 * k) (t := 0) (L := 10) (a1 := 6) (a3 := 5) (w := si (wXX11_anew wr) 0 21 (nI k)) rfl rfl (by decide) (by omega) (by decide) (by decide) (by decide) hw0 (fun w1 hC => ⟨_, rfl, rfl, b, ?_⟩)
  have pN : ∀ (o u : Int32) (x i : Nat), x ≠ 0 → x ≠ dA (hA b) d + 2 → wi (wXX10_grant (wXX7_put (dA (hA b) d + 2) o u (si wc 49 3 (nI k)))) x i = wi (si wc 49 3 (nI k)) x i := fun o u x i h1 h2 => (wi_ne (Or.inl h1)).trans ((wi_ne (Or.inl h2)).trans (wi_ne (Or.inl h2)))
  have p0 : ∀ (o u : Int32), wi (wXX10_grant (wXX7_put (dA (hA b) d + 2) o u (si wc 49 3 (nI k)))) (dA (hA b) d + 2) 0 = o := fun o u => (wi_ne (Or.inl (by omega))).trans ((wi_ne (Or.inr (by decide))).trans (wi_self _ _ _ _))
  have p1' : ∀ (o u : Int32), wi (wXX10_grant (wXX7_put (dA (hA b) d + 2) o u (si wc 49 3 (nI k)))) (dA (hA b) d + 2) 1 = u := fun o u => (wi_ne (Or.inl (by omega))).trans (wi_self _ _ _ _)
  refine undo_rel (k := k) hN p3 (by omega) hd q1 rfl hC.1 (wi_self _ _ _ _) (fun x i h0 h1 h2 => (pN _ _ x i h0 h2).trans (wi_ne (by omega))) (p0 _ _) (p1' _ _) ((pN _ _ 49 3 (by decide) (by omega)).trans s3) (fun x i h1 h2 => (hC.2.2 x i (Or.inl h1)).trans ((wi_ne (by omega)).trans (an_ne (by omega)))) ((hC.2.2 0 11 (Or.inl (by decide))).trans ((wi_ne (Or.inr (by decide))).trans (an_11 wr))) ((hC.2.2 0 21 (Or.inl (by decide))).trans (wi_self _ _ _ _)) (fun i hi => ?_)
  have := hC.2.1 i hi
  rw [Nat.zero_add] at this
  exact this.trans ((wi_ne (Or.inl (by decide))).trans (an_ne (Or.inl (by decide))))
/-! back to an image -/
def GB (b : Bool) (w0 w : Wd) (g k : Nat) : Prop := w.2.2 = w0.2.2 ∧ (∀ x i, (∀ e, e < k → x ≠ dA (hA b) e + 2) → wi w x i = wi w0 x i) ∧ ∀ e, e < k → wi w (dA (hA b) e + 2) 0 = wi w0 53 (5 * g + e) ∧ wi w (dA (hA b) e + 2) 1 = wi w0 54 (5 * g + e)
theorem l_goBack {b : Bool} {w0 : Wd} (hR : w0.2.2 = RTab b) {n g : Nat} (hn : n ≤ 5) (hg : g < 3) (f4 : wi w0 (hA b) 2 = nI n) {Q : Option Value → Wd → Prop} (kk : ∀ w', GB b w0 w' g n → Q none (si w' 49 3 0)) : ∀ (r k : Nat) (w : Wd), k + r = n → GB b w0 w g k → Go SC mX4_goBack 2 [(0, .ref 49), (1, .int (nI g)), (2, .ref (hA b)), (3, .int (nI k))] [] w Q := by
  have hb : hA b = 3 ∨ hA b = 26 := by cases b; exact Or.inl rfl; exact Or.inr rfl
  have hh : ∀ e, e < 5 → hA b ≠ dA (hA b) e + 2 := fun e he => by unfold dA; omega
  intro r
  induction r with
  | zero =>
    intro k w hk hD
    have e : k = n := by omega
    rw [e] at hD ⊢
    have e2 : wi w (hA b) 2 = nI n := (hD.2.1 _ 2 (fun e he => hh e (by omega))).trans f4
    exact BX4_goBack_2 b _ _ w b (hD.1.trans hR) Q ⟨fun _ => kk w hD, fun z => absurd (by rw [e2]; exact nI_le (Nat.le_refl n) (by omega)) z⟩
  | succ r ih =>
    intro k w hk hD
    have e2 : wi w (hA b) 2 = nI n := (hD.2.1 _ 2 (fun e he => hh e (by omega))).trans f4
    have hlt := dA_lq b (d := k) (by omega)
    refine BX4_goBack_2 b _ _ w b (hD.1.trans hR) Q ⟨fun z => absurd z (by rw [e2]; exact nI_ge (by omega) (by omega)), fun _ => ⟨fun _ => ?_, fun z => absurd ?_ z⟩⟩
    · have q : ∀ x i, 49 ≤ x → wi w x i = wi w0 x i := fun x i hx => hD.2.1 x i (fun e he => by have := dA_lq b (d := e) (by omega); omega)
      rw [n55, gf_in (by omega) (by decide), gf_in (by omega) (by decide), nI_clamp (by omega), nI_1, q 53 _ (by decide), q 54 _ (by decide)]
      refine ih (k + 1) _ (by omega) ⟨hD.1, fun x i hx => ?_, fun e he => ?_⟩
      · have h1 := hx k (by omega)
        exact (wi_ne (Or.inl h1)).trans ((wi_ne (Or.inl h1)).trans (hD.2.1 x i fun e he => hx e (by omega)))
      · by_cases c : e = k
        · subst c
          exact ⟨(wi_ne (Or.inr (by decide))).trans (wi_self _ _ _ _), wi_self _ _ _ _⟩
        · have hne : dA (hA b) e + 2 ≠ dA (hA b) k + 2 := by unfold dA; omega
          have := hD.2.2 e (by omega)
          exact ⟨(wi_ne (Or.inl hne)).trans ((wi_ne (Or.inl hne)).trans this.1), (wi_ne (Or.inl hne)).trans ((wi_ne (Or.inl hne)).trans this.2)⟩
    · rw [e2]
      exact ⟨nI_pos' (by omega), nI_lt (by omega) (by omega), nlt5 (by omega)⟩
theorem z_goBack {b : Bool} {w : Wd} (hR : w.2.2 = RTab b) {n g : Nat} (hn : n ≤ 5) (hg : g < 3) (f4 : wi w (hA b) 2 = nI n) {Q : Wd → Prop} (kk : ∀ w', GB b w w' g n → Q (si w' 49 3 0)) : ClV SC mX4_goBack [.ref 49, .int (nI g), .ref (hA b)] w (fun w2 => w2.2.2 = RTab b ∧ Q w2) := by
  refine TX4_goBack _ b w b hR _ ?_
  rw [← nI_0]
  exact l_goBack hR hn hg f4 (fun w' h => ⟨rfl, h.1.trans hR, kk w' h⟩) n 0 w (by omega) ⟨rfl, fun _ _ _ => rfl, fun e h => absurd h (Nat.not_lt_zero e)⟩
theorem pr_back {wc wr : Wd} (h : RelE wc wr) (a1 : Int32)  : PairI mX10_back mX11_back [a1] wc wr := by
  obtain ⟨b, hR⟩ := h
  obtain ⟨n, hN⟩ := relN_of hR
  obtain ⟨g1, g2, g3, g4, g5, g6, ⟨uu, ee, f1, f2, f3, f4, f5, f6, f7, f8, f9, f10, f11, f12, f13, f14, f15, f16, f17⟩, a, g, p1, p2, p3, p4, p5, p6, p7, p8, p9⟩ := id hN
  have e22 : wi (wXX11_anew wr) 0 22 = nI g := (an_ne (Or.inr (by decide))).trans p6
  have bad : ¬ (0 ≤ a1 ∧ a1 < nI g) → ClI SR mX11_back [.ref 0, .int a1] wr (fun y wr' => 0 = y ∧ RelE (wXX10_deny 1 wc) wr') := fun z => by
    refine TX11_back _ wr g2 _ ?_
    rw [e22, in_noL (by omega) z]
    exact ⟨fun _ => ⟨_, rfl, rfl, fin_dn hR (SameC.rf _) (an_same _) (by decide)⟩, fun y => absurd rfl y⟩
  refine TX10_back _ wc b g1 _ ⟨fun z => ⟨_, rfl, bad fun y => Int32.not_le.mpr z y.1⟩, fun z => ⟨fun z2 => ?_, fun z2 => ⟨_, rfl, bad fun y => z2 (by rw [p5]; exact y.2)⟩⟩⟩
  obtain ⟨j, hj, rfl⟩ := nI_of z
  rw [p5] at z2
  have hjg := (nI_ltI hj (by omega)).mp z2
  have hb : hA b = 3 ∨ hA b = 26 := by cases b; exact Or.inl rfl; exact Or.inr rfl
  refine z_goBack g1 f1 (by omega) f4 (fun w' hD => ⟨_, rfl, ?_⟩)
  refine TX11_back _ wr g2 _ ?_
  rw [e22, in_yes (nI_pos' hj) z2 (by omega)]
  refine ⟨fun y => absurd y no10, fun _ => ?_⟩
  rw [n10]
  refine z_copy (s := 10 * j) (t := 0) (L := 10) (a1 := 7) (a3 := 5) rfl rfl (by decide) (by omega) (by decide) (by decide) (by decide) (an_R g2) (fun w1 hC => ⟨_, rfl, rfl, b, ?_⟩)
  have kC : ∀ x i, x ≠ 0 → ¬ (x = 49 ∧ i = 3) → (∀ e, e < 5 → x ≠ dA (hA b) e + 2) → wi (wXX10_grant (si w' 49 3 0)) x i = wi wc x i := fun x i h0 h1 h2 => (wi_ne (Or.inl h0)).trans ((wi_ne (by omega)).trans (hD.2.1 x i fun e he => h2 e (by omega)))
  have o49 : ∀ x, 49 ≤ x → ∀ e, e < 5 → x ≠ dA (hA b) e + 2 := fun x hx e he => by have := dA_lq b he; omega
  have kR : ∀ x i, x ≠ 5 → ¬ (x = 0 ∧ (i = 0 ∨ i = 11 ∨ i = 21)) → wi (si w1 0 21 0) x i = wi wr x i := fun x i h1 h2 => (wi_ne (by omega)).trans ((hC.2.2 x i (Or.inl h1)).trans (an_ne (by omega)))
  have k11 : wi (si w1 0 21 0) 0 11 = 0 := (wi_ne (Or.inr (by decide))).trans ((hC.2.2 0 11 (Or.inl (by decide))).trans (an_11 wr))
  have k5 : ∀ i, i < 10 → wi (si w1 0 21 0) 5 i = wi wr 7 (10 * j + i) := fun i hi => by
    have := hC.2.1 i hi
    rw [Nat.zero_add] at this
    exact (wi_ne (Or.inl (by decide))).trans (this.trans (an_ne (Or.inl (by decide))))
  refine rel_past hN hD.1 (fun x i h1 h2 h3 => kC x i (by omega) (by omega) h3) hC.1 (kR 0 2 (by decide) (by decide)) (kR 0 9 (by decide) (by decide)) (kR 0 10 (by decide) (by decide)) (kR 0 15 (by decide) (by decide)) (fun i => kR 1 i (by decide) (by omega)) (fun i => kR 3 i (by decide) (by omega)) ((wi_self _ _ _ _).trans k11.symm) (fun y => by rw [k11] at y; exact absurd y (by decide)) (fun k hk => ?_) ?_
  · have hlt := dA_lq b (d := k) (by omega)
    have y := hD.2.2 k hk
    have y2 := p9 j hjg k hk
    rw [k5 k (by omega), k5 (5 + k) (by omega), ← Nat.add_assoc]
    exact ⟨(wi_ne (Or.inl (by omega))).trans ((wi_ne (Or.inl (by omega))).trans (y.1.trans y2.1)), (wi_ne (Or.inl (by omega))).trans ((wi_ne (Or.inl (by omega))).trans (y.2.trans y2.2.1)), y2.2.2⟩
  · refine ⟨0, g, by decide, p2, (wi_ne (Or.inl (by decide))).trans (wi_self _ _ _ _), wi_self _ _ _ _, (kC 49 6 (by decide) (by omega) (o49 49 (by decide))).trans p5, (kR 0 22 (by decide) (by decide)).trans p6, fun y => ⟨rfl, (p7 y).2⟩, fun i hi => absurd hi (Nat.not_lt_zero i), fun i hi k hk => ?_⟩
    have y := p9 i hi k hk
    rw [kC 53 _ (by decide) (by omega) (o49 53 (by decide)), kC 54 _ (by decide) (by omega) (o49 54 (by decide)), kR 7 _ (by decide) (by omega), kR 7 _ (by decide) (by omega)]
    exact y
