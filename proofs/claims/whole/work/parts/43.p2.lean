theorem pr_figure {wc wr : Wd} (h : RelE wc wr) (a1 a2 : Int32) : PairI mX10_figure mX11_figure [a1, a2] wc wr := by
  obtain ⟨b, hR⟩ := h
  obtain ⟨n, hn, f4, f5, f6, fD⟩ := cx hR
  have g1 := hR.1
  have g2 := hR.2.1
  refine TX10_figure _ _ wc b g1 _ ⟨fun q => ?_, fun q => ?_⟩
  · obtain ⟨d, hd, rfl⟩ := (din_c hn f4).mp q
    obtain ⟨m, m1, m2, m3, m4, m5, m6, m7, m8⟩ := fD d hd
    have hd5 : d < 5 := by omega
    have hcl := d_clamp hn hd
    refine ⟨fun q2 => ?_, fun q2 => ⟨fun q3 => ?_, fun q3 => ?_⟩⟩
    · refine ⟨_, rfl, TX11_figure _ _ wr g2 _ (isdA g2 hn f5 f6 (fun _ => ⟨fun q => absurd q no10, fun _ => ⟨by rw [n4]; exact nI_in (by omega) (by decide), ?_⟩⟩) fun q => absurd ⟨d, hd, rfl⟩ q)⟩
      rw [n4, nI_clamp (by omega), an_ne (Or.inl (by decide)), m4, in_no m1 (by omega) (fun z => Int32.not_le.mpr q2 z.1)]
      exact ⟨fun _ => ⟨_, rfl, rfl, fin_noA hR (by decide)⟩, fun z => absurd rfl z⟩
    · obtain ⟨i, hi, rfl⟩ := nI_of q2
      rw [hcl, m3] at q3
      have hi2 := (nI_ltI hi (by omega)).mp q3
      refine ⟨_, rfl, TX11_figure _ _ wr g2 _ (isdA g2 hn f5 f6 (fun _ => ⟨fun q => absurd q no10, fun _ => ⟨by rw [n4]; exact nI_in (by omega) (by decide), ?_⟩⟩) fun q => absurd ⟨d, hd, rfl⟩ q)⟩
      rw [n4, nI_clamp (by omega), an_ne (Or.inl (by decide)), m4, in_yes (nI_pos' hi) q3 (by omega)]
      refine ⟨fun z => absurd z no10, fun _ => ⟨by rw [n9]; exact nI_in (by omega) (by decide), _, rfl, ?_, fin_okA hR⟩⟩
      rw [hcl, n9, nI_clamp (by omega), an_ne (Or.inl (by decide))]
      show gf wc (dA (hA b) d + 1) 12 (nI i) = _
      unfold gf
      rw [if_pos ⟨nI_pos' hi, nI_lt (b := 12) (by omega) (by decide)⟩, nI_clamp hi]
      exact (m5 i hi2).1
    · rw [hcl, m3] at q3
      refine ⟨_, rfl, TX11_figure _ _ wr g2 _ (isdA g2 hn f5 f6 (fun _ => ⟨fun q => absurd q no10, fun _ => ⟨by rw [n4]; exact nI_in (by omega) (by decide), ?_⟩⟩) fun q => absurd ⟨d, hd, rfl⟩ q)⟩
      rw [n4, nI_clamp (by omega), an_ne (Or.inl (by decide)), m4, in_no m1 (by omega) (fun z => q3 z.2)]
      exact ⟨fun _ => ⟨_, rfl, rfl, fin_noA hR (by decide)⟩, fun z => absurd rfl z⟩
  · have q2 : ¬ ∃ d : Nat, d < n ∧ a1 = nI d := fun z => q ((din_c hn f4).mpr z)
    refine ⟨_, rfl, TX11_figure _ _ wr g2 _ (isdA g2 hn f5 f6 (fun q => absurd q q2) fun _ => ⟨fun _ => ⟨_, rfl, rfl, fin_noA hR (by decide)⟩, fun q => absurd rfl q⟩)⟩
theorem pr_knot {wc wr : Wd} (h : RelE wc wr) (a1 a2 : Int32) (h2 : a2 = 0 ∨ a2 = 1) : PairI mX10_knot mX11_knot [a1, a2] wc wr := by
  obtain ⟨b, hR⟩ := h
  obtain ⟨n, hn, f4, f5, f6, fD⟩ := cx hR
  have g1 := hR.1
  have g2 := hR.2.1
  refine TX10_knot _ _ wc b g1 _ ⟨fun q => ?_, fun q => ?_⟩
  · obtain ⟨d, hd, rfl⟩ := (din_c hn f4).mp q
    obtain ⟨m, m1, m2, m3, m4, m5, m6, m7, m8⟩ := fD d hd
    have hd5 : d < 5 := by omega
    have hcl := d_clamp hn hd
    refine ⟨_, rfl, TX11_knot _ _ wr g2 _ (isdA g2 hn f5 f6 (fun _ => ⟨fun q => absurd q no10, fun _ => TX11_knotOf _ _ _ (an_R g2) _ ⟨fun q2 => ?_, fun q2 => ?_⟩⟩) fun q => absurd ⟨d, hd, rfl⟩ q)⟩
    · refine ⟨nI_in (by omega) (by decide), _, rfl, an_R g2, _, rfl, ?_, fin_okA hR⟩
      rw [hcl, an_ne (Or.inl (by decide)), ← m6]
      unfold vXX10_accept vXX6_numberOf
      rw [if_pos q2, absAway]
    · refine ⟨by rw [n5]; exact nI_in (by omega) (by decide), _, rfl, an_R g2, _, rfl, ?_, fin_okA hR⟩
      rw [hcl, n5, nI_clamp (by omega), an_ne (Or.inl (by decide)), ← m7]
      unfold vXX10_accept vXX6_numberOf
      rw [if_neg q2]
  · have q2 : ¬ ∃ d : Nat, d < n ∧ a1 = nI d := fun z => q ((din_c hn f4).mpr z)
    refine ⟨_, rfl, TX11_knot _ _ wr g2 _ (isdA g2 hn f5 f6 (fun q => absurd q q2) fun _ => ⟨fun _ => ⟨_, rfl, rfl, fin_noA hR (by decide)⟩, fun q => absurd rfl q⟩)⟩
theorem pr_rings {wc wr : Wd} (h : RelE wc wr) (a1 a2 : Int32) (h2 : a2 = 0 ∨ a2 = 1) : PairI mX10_rings mX11_rings [a1, a2] wc wr := by
  obtain ⟨b, hR⟩ := h
  obtain ⟨n, hn, f4, f5, f6, fD⟩ := cx hR
  have g1 := hR.1
  have g2 := hR.2.1
  refine TX10_rings _ _ wc b g1 _ ⟨fun q => ?_, fun q => ?_⟩
  · obtain ⟨d, hd, rfl⟩ := (din_c hn f4).mp q
    obtain ⟨m, m1, m2, m3, m4, m5, m6, m7, m8⟩ := fD d hd
    have hd5 : d < 5 := by omega
    have hcl := d_clamp hn hd
    refine ⟨_, rfl, TX11_rings _ _ wr g2 _ (isdA g2 hn f5 f6 (fun _ => ⟨fun q => absurd q no10, fun _ => TX11_knotOf _ _ _ (an_R g2) _ ⟨fun q2 => ?_, fun q2 => ?_⟩⟩) fun q => absurd ⟨d, hd, rfl⟩ q)⟩
    · refine ⟨nI_in (by omega) (by decide), _, rfl, an_R g2, _, rfl, ?_, fin_okA hR⟩
      rw [hcl, an_ne (Or.inl (by decide)), ← m6]
      unfold vXX10_accept vXX6_numberOf
      rw [if_pos q2, absAway]
      exact ring2 _ (away_nn (by rw [m6]; exact ⟨m8.1, m8.2.1⟩))
    · refine ⟨by rw [n5]; exact nI_in (by omega) (by decide), _, rfl, an_R g2, _, rfl, ?_, fin_okA hR⟩
      rw [hcl, n5, nI_clamp (by omega), an_ne (Or.inl (by decide)), ← m7]
      unfold vXX10_accept vXX6_numberOf
      rw [if_neg q2]
      exact ring2 _ (by rw [m7]; exact m8.2.2.1)
  · have q2 : ¬ ∃ d : Nat, d < n ∧ a1 = nI d := fun z => q ((din_c hn f4).mpr z)
    refine ⟨_, rfl, TX11_rings _ _ wr g2 _ (isdA g2 hn f5 f6 (fun q => absurd q q2) fun _ => ⟨fun _ => ⟨_, rfl, rfl, fin_noA hR (by decide)⟩, fun q => absurd rfl q⟩)⟩
theorem pr_beside {wc wr : Wd} (h : RelE wc wr) (a1 a2 : Int32)  : PairI mX10_beside mX11_beside [a1, a2] wc wr := by
  obtain ⟨b, hR⟩ := h
  obtain ⟨n, hn, f4, f5, f6, fD⟩ := cx hR
  have g1 := hR.1
  have g2 := hR.2.1
  have hno : ∀ x : Int32, ¬ (∃ d : Nat, d < n ∧ a1 = nI d) → ClI SR mX11_beside [.ref 0, .int a1, .int a2] wr (fun y wr' => -1 = y ∧ RelE (wXX10_refuse 1 (-1) wc) wr') := fun x q => TX11_beside _ _ wr g2 _ (isdA g2 hn f5 f6 (fun z => absurd z q) fun _ => ⟨fun _ => ⟨_, rfl, rfl, fin_noA hR (by decide)⟩, fun q => absurd rfl q⟩)
  refine TX10_beside _ _ wc b g1 _ ⟨fun q => ⟨fun r => ?_, fun r => ?_⟩, fun q => ⟨fun r => ⟨_, rfl, hno 0 fun z => q ((din_c hn f4).mpr z)⟩, fun r => ⟨_, rfl, hno 0 fun z => q ((din_c hn f4).mpr z)⟩⟩⟩
  · obtain ⟨d, hd, rfl⟩ := (din_c hn f4).mp q
    obtain ⟨d', hd', rfl⟩ := (din_c hn f4).mp r
    obtain ⟨m, m1, m2, m3, m4, m5, m6, m7, m8⟩ := fD d hd
    obtain ⟨m', m1', m2', m3', m4', m5', m6', m7', m8'⟩ := fD d' hd'
    refine ⟨_, rfl, TX11_beside _ _ wr g2 _ (isdA g2 hn f5 f6 (fun _ => ⟨fun q => absurd q no10, fun _ => isdA g2 hn f5 f6 (fun _ => ⟨fun q => absurd q no10, fun _ => ⟨nI_in (by omega) (by decide), by rw [n5]; exact nI_in (by omega) (by decide), nI_in (by omega) (by decide), by rw [n5]; exact nI_in (by omega) (by decide), ⟨_, rfl, ?_, fin_okA hR⟩⟩⟩) fun q => absurd ⟨d', hd', rfl⟩ q⟩) fun q => absurd ⟨d, hd, rfl⟩ q)⟩
    rw [d_clamp hn hd, d_clamp hn hd', n5, n5, nI_clamp (n := 5 + d) (by omega), nI_clamp (n := 5 + d') (by omega), m6, m7, m6', m7']
    repeat rw [an_ne (Or.inl (by decide))]
    rfl
  · obtain ⟨d, hd, rfl⟩ := (din_c hn f4).mp q
    exact ⟨_, rfl, TX11_beside _ _ wr g2 _ (isdA g2 hn f5 f6 (fun _ => ⟨fun q => absurd q no10, fun _ => isdA g2 hn f5 f6 (fun z => absurd ((din_c hn f4).mpr z) r) fun _ => ⟨fun _ => ⟨_, rfl, rfl, fin_noA hR (by decide)⟩, fun q => absurd rfl q⟩⟩) fun q => absurd ⟨d, hd, rfl⟩ q)⟩
theorem pr_apart {wc wr : Wd} (h : RelE wc wr) (a1 a2 : Int32)  : PairI mX10_apart mX11_apart [a1, a2] wc wr := by
  obtain ⟨b, hR⟩ := h
  obtain ⟨n, hn, f4, f5, f6, fD⟩ := cx hR
  have g1 := hR.1
  have g2 := hR.2.1
  have hno : ∀ x : Int32, ¬ (∃ d : Nat, d < n ∧ a1 = nI d) → ClI SR mX11_apart [.ref 0, .int a1, .int a2] wr (fun y wr' => -1 = y ∧ RelE (wXX10_refuse 1 (-1) wc) wr') := fun x q => TX11_apart _ _ wr g2 _ (isdA g2 hn f5 f6 (fun z => absurd z q) fun _ => ⟨fun _ => ⟨_, rfl, rfl, fin_noA hR (by decide)⟩, fun q => absurd rfl q⟩)
  refine TX10_apart _ _ wc b g1 _ ⟨fun q => ⟨fun r => ?_, fun r => ?_⟩, fun q => ⟨fun r => ⟨_, rfl, hno 0 fun z => q ((din_c hn f4).mpr z)⟩, fun r => ⟨_, rfl, hno 0 fun z => q ((din_c hn f4).mpr z)⟩⟩⟩
  · obtain ⟨d, hd, rfl⟩ := (din_c hn f4).mp q
    obtain ⟨d', hd', rfl⟩ := (din_c hn f4).mp r
    obtain ⟨m, m1, m2, m3, m4, m5, m6, m7, m8⟩ := fD d hd
    obtain ⟨m', m1', m2', m3', m4', m5', m6', m7', m8'⟩ := fD d' hd'
    refine ⟨_, rfl, TX11_apart _ _ wr g2 _ (isdA g2 hn f5 f6 (fun _ => ⟨fun q => absurd q no10, fun _ => isdA g2 hn f5 f6 (fun _ => ⟨fun q => absurd q no10, fun _ => ⟨nI_in (by omega) (by decide), by rw [n5]; exact nI_in (by omega) (by decide), nI_in (by omega) (by decide), by rw [n5]; exact nI_in (by omega) (by decide), ⟨_, rfl, ?_, fin_okA hR⟩⟩⟩) fun q => absurd ⟨d', hd', rfl⟩ q⟩) fun q => absurd ⟨d, hd, rfl⟩ q)⟩
    rw [d_clamp hn hd, d_clamp hn hd', n5, n5, nI_clamp (n := 5 + d) (by omega), nI_clamp (n := 5 + d') (by omega), m6, m7, m6', m7']
    repeat rw [an_ne (Or.inl (by decide))]
    rfl
  · obtain ⟨d, hd, rfl⟩ := (din_c hn f4).mp q
    exact ⟨_, rfl, TX11_apart _ _ wr g2 _ (isdA g2 hn f5 f6 (fun _ => ⟨fun q => absurd q no10, fun _ => isdA g2 hn f5 f6 (fun z => absurd ((din_c hn f4).mpr z) r) fun _ => ⟨fun _ => ⟨_, rfl, rfl, fin_noA hR (by decide)⟩, fun q => absurd rfl q⟩⟩) fun q => absurd ⟨d, hd, rfl⟩ q)⟩
theorem pr_bows {wc wr : Wd} (h : RelE wc wr) (a1 a2 a3 a4 : Int32) (h2 : a2 = 0 ∨ a2 = 1) (h3 : a3 = 0 ∨ a3 = 1) (h4 : a4 = 0 ∨ a4 = 1) : PairI mX10_bows mX11_bows [a1, a2, a3, a4] wc wr := by
  obtain ⟨b, hR⟩ := h
  refine zX10_bows hR.1 ⟨_, rfl, zX11_bows hR.2.1 ⟨_, rfl, ?_⟩⟩
  unfold vXX10_bows vXX11_bows wXX10_bows wXX11_bows
  rw [numT hR]
  by_cases c : vXX11_why (wi (wXX11_anew wr) 0 15) (vXX11_in a1 0 9) = 0
  · rw [if_pos c, if_pos c, if_pos c, if_pos c]
    by_cases c4 : a4 = 0
    · rw [if_pos c4, if_pos c4, if_pos c4]
      exact ⟨rfl, fin_okA hR⟩
    · rw [if_neg c4, if_neg c4, if_neg c4]
      exact ⟨rfl, fin_okA hR⟩
  · rw [if_neg c, if_neg c, if_neg c, if_neg c]
    exact ⟨rfl, fin_noA hR (why4 _ _)⟩
theorem pr_end {wc wr : Wd} (h : RelE wc wr) (a1 a2 : Int32) : PairI mX10_end mX11_end [a1, a2] wc wr := by
  obtain ⟨b, hR⟩ := h
  obtain ⟨n, hn, f4, f5, f6, fD⟩ := cx hR
  have g1 := hR.1
  have g2 := hR.2.1
  refine TX10_end _ _ wc b g1 _ ⟨fun q => ?_, fun q => ?_⟩
  · obtain ⟨d, hd, rfl⟩ := (din_c hn f4).mp q
    obtain ⟨m, m1, m2, m3, m4, m5, m6, m7, m8⟩ := fD d hd
    have hd5 : d < 5 := by omega
    have hcl := d_clamp hn hd
    rw [corner_in]
    refine ⟨fun q2 => ⟨_, rfl, TX11_end _ _ wr g2 _ (isdA g2 hn f5 f6 (fun _ => ⟨fun q => absurd q no10, fun _ => ⟨fun _ => ⟨_, rfl, rfl, fin_noA hR (by decide)⟩, fun z => absurd q2 z⟩⟩) fun q => absurd ⟨d, hd, rfl⟩ q)⟩, fun q2 => ⟨_, rfl, TX11_end _ _ wr g2 _ (isdA g2 hn f5 f6 (fun _ => ⟨fun q => absurd q no10, fun _ => ⟨fun z => absurd z q2, fun _ => lookd hd5 (an_R g2) ⟨_, rfl, ?_, fin_ok hR (SameC.rf _) (((an_same _).si (nrR (by decide))).si (nrR (by decide))) (an_11 wr)⟩⟩⟩) fun q => absurd ⟨d, hd, rfl⟩ q)⟩⟩
    unfold vXX10_accept vXX7_goalOf vXX11_endOf
    rw [hcl, m6, m7, wi_self, wi_ne (by decide), wi_self, an_ne (Or.inl (by decide)), an_ne (Or.inl (by decide))]
  · have q2 : ¬ ∃ d : Nat, d < n ∧ a1 = nI d := fun z => q ((din_c hn f4).mpr z)
    refine ⟨_, rfl, TX11_end _ _ wr g2 _ (isdA g2 hn f5 f6 (fun q => absurd q q2) fun _ => ⟨fun _ => ⟨_, rfl, rfl, fin_noA hR (by decide)⟩, fun q => absurd rfl q⟩)⟩
