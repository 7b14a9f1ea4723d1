theorem pr_trouble {wc wr : Wd} (h : RelE wc wr)  : PairI mX10_trouble mX11_trouble [] wc wr := by
  obtain ⟨b, hR⟩ := h
  refine zX10_trouble hR.1 ⟨_, rfl, zX11_trouble hR.2.1 ⟨_, rfl, hR.2.2.1, b, rel_scr hR (SameC.rf _) ((SameR.rf wr).si (nrR (by decide))) hR.2.2.1 hR.2.2.2.2.1⟩⟩
theorem pr_fault {wc wr : Wd} (h : RelE wc wr)  : PairI mX10_fault mX11_fault [] wc wr := by
  obtain ⟨b, hR⟩ := h
  refine zX10_fault hR.1 ⟨_, rfl, zX11_fault hR.2.1 ⟨_, rfl, hR.2.2.2.1, b, rel_scr hR (SameC.rf _) ((SameR.rf wr).si (nrR (by decide))) hR.2.2.1 hR.2.2.2.2.1⟩⟩
theorem pr_where {wc wr : Wd} (h : RelE wc wr)  : PairI mX10_where mX11_where [] wc wr := by
  obtain ⟨b, hR⟩ := h
  refine zX10_where hR.1 ⟨_, rfl, zX11_where hR.2.1 ⟨_, rfl, ?_, b, rel_scr hR (SameC.rf _) ((SameR.rf wr).si (nrR (by decide))) hR.2.2.1 hR.2.2.2.2.1⟩⟩
  have e1 : wi (si wr 0 0 0) 0 11 = wi wr 0 11 := rfl
  have e2 : wi (si wr 0 0 0) 0 10 = wi wr 0 10 := rfl
  unfold vXX10_where vXX11_where
  rw [e1, e2, hR.2.2.1]
  by_cases c : wi wr 0 11 = 4
  · rw [if_pos c, if_pos c]
    exact hR.2.2.2.2.1 c
  · rw [if_neg c, if_neg c]
theorem pr_upper {wc wr : Wd} (h : RelE wc wr) (a1 : Int32) : PairI mX10_upper mX11_upper [a1] wc wr := by
  obtain ⟨b, hR⟩ := h
  obtain ⟨n, hn, f4, f5, f6, fD⟩ := cx hR
  have g1 := hR.1
  have g2 := hR.2.1
  refine TX10_upper _ wc b g1 _ ⟨fun q => ?_, fun q => ?_⟩
  · obtain ⟨d, hd, rfl⟩ := (din_c hn f4).mp q
    obtain ⟨m, m1, m2, m3, m4, m5, m6, m7, m8⟩ := fD d hd
    have hd5 : d < 5 := by omega
    have hcl := d_clamp hn hd
    refine ⟨_, rfl, TX11_upper _ wr g2 _ (isdA g2 hn f5 f6 (fun _ => ⟨fun q => absurd q no10, fun _ => ⟨nI_in (by omega) (by decide), ⟨_, rfl, ?_, fin_okA hR⟩⟩⟩) fun q => absurd ⟨d, hd, rfl⟩ q)⟩
    rw [hcl, an_ne (Or.inl (by decide))]
    exact m6
  · have q2 : ¬ ∃ d : Nat, d < n ∧ a1 = nI d := fun z => q ((din_c hn f4).mpr z)
    refine ⟨_, rfl, TX11_upper _ wr g2 _ (isdA g2 hn f5 f6 (fun q => absurd q q2) fun _ => ⟨fun _ => ⟨_, rfl, rfl, fin_noA hR (by decide)⟩, fun q => absurd rfl q⟩)⟩
theorem pr_lower {wc wr : Wd} (h : RelE wc wr) (a1 : Int32) : PairI mX10_lower mX11_lower [a1] wc wr := by
  obtain ⟨b, hR⟩ := h
  obtain ⟨n, hn, f4, f5, f6, fD⟩ := cx hR
  have g1 := hR.1
  have g2 := hR.2.1
  refine TX10_lower _ wc b g1 _ ⟨fun q => ?_, fun q => ?_⟩
  · obtain ⟨d, hd, rfl⟩ := (din_c hn f4).mp q
    obtain ⟨m, m1, m2, m3, m4, m5, m6, m7, m8⟩ := fD d hd
    have hd5 : d < 5 := by omega
    have hcl := d_clamp hn hd
    refine ⟨_, rfl, TX11_lower _ wr g2 _ (isdA g2 hn f5 f6 (fun _ => ⟨fun q => absurd q no10, fun _ => ⟨by rw [n5]; exact nI_in (by omega) (by decide), ⟨_, rfl, ?_, fin_okA hR⟩⟩⟩) fun q => absurd ⟨d, hd, rfl⟩ q)⟩
    rw [hcl, n5, nI_clamp (by omega), an_ne (Or.inl (by decide))]
    exact m7
  · have q2 : ¬ ∃ d : Nat, d < n ∧ a1 = nI d := fun z => q ((din_c hn f4).mpr z)
    refine ⟨_, rfl, TX11_lower _ wr g2 _ (isdA g2 hn f5 f6 (fun q => absurd q q2) fun _ => ⟨fun _ => ⟨_, rfl, rfl, fin_noA hR (by decide)⟩, fun q => absurd rfl q⟩)⟩
theorem pr_figures {wc wr : Wd} (h : RelE wc wr) (a1 : Int32) : PairI mX10_figures mX11_figures [a1] wc wr := by
  obtain ⟨b, hR⟩ := h
  obtain ⟨n, hn, f4, f5, f6, fD⟩ := cx hR
  have g1 := hR.1
  have g2 := hR.2.1
  refine TX10_figures _ wc b g1 _ ⟨fun q => ?_, fun q => ?_⟩
  · obtain ⟨d, hd, rfl⟩ := (din_c hn f4).mp q
    obtain ⟨m, m1, m2, m3, m4, m5, m6, m7, m8⟩ := fD d hd
    have hd5 : d < 5 := by omega
    have hcl := d_clamp hn hd
    refine ⟨_, rfl, TX11_figures _ wr g2 _ (isdA g2 hn f5 f6 (fun _ => ⟨fun q => absurd q no10, fun _ => ⟨by rw [n4]; exact nI_in (by omega) (by decide), ⟨_, rfl, ?_, fin_okA hR⟩⟩⟩) fun q => absurd ⟨d, hd, rfl⟩ q)⟩
    rw [hcl, n4, nI_clamp (by omega), an_ne (Or.inl (by decide))]
    exact m3.trans m4.symm
  · have q2 : ¬ ∃ d : Nat, d < n ∧ a1 = nI d := fun z => q ((din_c hn f4).mpr z)
    refine ⟨_, rfl, TX11_figures _ wr g2 _ (isdA g2 hn f5 f6 (fun q => absurd q q2) fun _ => ⟨fun _ => ⟨_, rfl, rfl, fin_noA hR (by decide)⟩, fun q => absurd rfl q⟩)⟩
