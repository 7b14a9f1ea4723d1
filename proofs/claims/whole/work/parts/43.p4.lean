theorem pr_crossings {wc wr : Wd} (h : RelE wc wr) (a1 : Int32) : PairI mX10_crossings mX11_crossings [a1] wc wr := by
  obtain ⟨b, hR⟩ := h
  obtain ⟨n, hn, f4, f5, f6, fD⟩ := cx hR
  have g1 := hR.1
  have g2 := hR.2.1
  refine TX10_crossings _ wc b g1 _ ⟨fun q => ?_, fun q => ?_⟩
  · obtain ⟨d, hd, rfl⟩ := (din_c hn f4).mp q
    obtain ⟨m, m1, m2, m3, m4, m5, m6, m7, m8⟩ := fD d hd
    have hd5 : d < 5 := by omega
    have hcl := d_clamp hn hd
    have hsm : Sm (wi wc (dA (hA b) d + 2) 0) (wi wc (dA (hA b) d + 2) 1) := by rw [m6, m7]; exact m8.sm
    have hsr : Sm (wi (lk wr d) 0 23) (wi (lk wr d) 0 24) := by rw [lk_23, lk_24]; exact m8.sm
    have hfp : fparts (wi wc (dA (hA b) d + 2) 0) (wi wc (dA (hA b) d + 2) 1) = fparts (wi (lk wr d) 0 23) (wi (lk wr d) 0 24) := by rw [m6, m7, lk_23, lk_24]
    have h11 : ∀ w', LPs (lk wr d) w' → wi w' 0 11 = 0 := fun w' h => (h.2 0 11 (by decide) (by decide)).trans (lk_11 wr d)
    rw [hcl]
    refine z_crossed (sh_dn b hd5) g1 hsm ⟨_, rfl, TX11_crossings _ wr g2 _ (isdA g2 hn f5 f6 (fun _ => ⟨fun q => absurd q no10, fun _ => lookA hd5 g2 (z_lay (lk_R d g2) hsr fun w' e1 e2 e3 => ⟨_, rfl, ?_, fin_ok hR (SameC.rf _) ((lk_same wr d).tr e1.same) (h11 w' e1)⟩)⟩) fun q => absurd ⟨d, hd, rfl⟩ q)⟩
    rw [← hfp]
    rfl
  · have q2 : ¬ ∃ d : Nat, d < n ∧ a1 = nI d := fun z => q ((din_c hn f4).mpr z)
    refine ⟨_, rfl, TX11_crossings _ wr g2 _ (isdA g2 hn f5 f6 (fun q => absurd q q2) fun _ => ⟨fun _ => ⟨_, rfl, rfl, fin_noA hR (by decide)⟩, fun q => absurd rfl q⟩)⟩
theorem pr_parts {wc wr : Wd} (h : RelE wc wr) (a1 : Int32) : PairI mX10_parts mX11_parts [a1] wc wr := by
  obtain ⟨b, hR⟩ := h
  obtain ⟨n, hn, f4, f5, f6, fD⟩ := cx hR
  have g1 := hR.1
  have g2 := hR.2.1
  refine TX10_parts _ wc b g1 _ ⟨fun q => ?_, fun q => ?_⟩
  · obtain ⟨d, hd, rfl⟩ := (din_c hn f4).mp q
    obtain ⟨m, m1, m2, m3, m4, m5, m6, m7, m8⟩ := fD d hd
    have hd5 : d < 5 := by omega
    have hcl := d_clamp hn hd
    have hsm : Sm (wi wc (dA (hA b) d + 2) 0) (wi wc (dA (hA b) d + 2) 1) := by rw [m6, m7]; exact m8.sm
    have hsr : Sm (wi (lk wr d) 0 23) (wi (lk wr d) 0 24) := by rw [lk_23, lk_24]; exact m8.sm
    have hfp : fparts (wi wc (dA (hA b) d + 2) 0) (wi wc (dA (hA b) d + 2) 1) = fparts (wi (lk wr d) 0 23) (wi (lk wr d) 0 24) := by rw [m6, m7, lk_23, lk_24]
    have h11 : ∀ w', LPs (lk wr d) w' → wi w' 0 11 = 0 := fun w' h => (h.2 0 11 (by decide) (by decide)).trans (lk_11 wr d)
    rw [hcl]
    refine z_whole (sh_dn b hd5) g1 hsm ⟨_, rfl, TX11_parts _ wr g2 _ (isdA g2 hn f5 f6 (fun _ => ⟨fun q => absurd q no10, fun _ => lookA hd5 g2 (z_lay (lk_R d g2) hsr fun w' e1 e2 e3 => ⟨_, rfl, ?_, fin_ok hR (SameC.rf _) ((lk_same wr d).tr e1.same) (h11 w' e1)⟩)⟩) fun q => absurd ⟨d, hd, rfl⟩ q)⟩
    rw [e2, ← hfp]
    rfl
  · have q2 : ¬ ∃ d : Nat, d < n ∧ a1 = nI d := fun z => q ((din_c hn f4).mpr z)
    refine ⟨_, rfl, TX11_parts _ wr g2 _ (isdA g2 hn f5 f6 (fun q => absurd q q2) fun _ => ⟨fun _ => ⟨_, rfl, rfl, fin_noA hR (by decide)⟩, fun q => absurd rfl q⟩)⟩
theorem pr_part {wc wr : Wd} (h : RelE wc wr) (a1 a2 : Int32) : PairI mX10_part mX11_part [a1, a2] wc wr := by
  obtain ⟨b, hR⟩ := h
  obtain ⟨n, hn, f4, f5, f6, fD⟩ := cx hR
  have g1 := hR.1
  have g2 := hR.2.1
  refine TX10_part _ _ wc b g1 _ ⟨fun q => ?_, fun q => ?_⟩
  · obtain ⟨d, hd, rfl⟩ := (din_c hn f4).mp q
    obtain ⟨m, m1, m2, m3, m4, m5, m6, m7, m8⟩ := fD d hd
    have hd5 : d < 5 := by omega
    have hcl := d_clamp hn hd
    have hsm : Sm (wi wc (dA (hA b) d + 2) 0) (wi wc (dA (hA b) d + 2) 1) := by rw [m6, m7]; exact m8.sm
    have hsr : Sm (wi (lk wr d) 0 23) (wi (lk wr d) 0 24) := by rw [lk_23, lk_24]; exact m8.sm
    have hfp : fparts (wi wc (dA (hA b) d + 2) 0) (wi wc (dA (hA b) d + 2) 1) = fparts (wi (lk wr d) 0 23) (wi (lk wr d) 0 24) := by rw [m6, m7, lk_23, lk_24]
    have h11 : ∀ w', LPs (lk wr d) w' → wi w' 0 11 = 0 := fun w' h => (h.2 0 11 (by decide) (by decide)).trans (lk_11 wr d)
    have hl := hsm.len
    have href : ¬ (0 ≤ a2 ∧ a2 < nI (fparts (wi wc (dA (hA b) d + 2) 0) (wi wc (dA (hA b) d + 2) 1)).length) → ClI SR mX11_part [.ref 0, .int (nI d), .int a2] wr (fun y wr' => -1 = y ∧ RelE (wXX10_refuse 1 (-1) wc) wr') := fun hbad => by
      refine TX11_part _ _ wr g2 _ (isdA g2 hn f5 f6 (fun _ => ⟨fun q => absurd q no10, fun _ => lookA hd5 g2 (z_lay (lk_R d g2) hsr fun w' e1 e2 e3 => ?_)⟩) fun q => absurd ⟨d, hd, rfl⟩ q)
      rw [e2, ← hfp, in_noL (by omega) hbad]
      exact ⟨fun _ => ⟨_, rfl, rfl, fin_no hR (SameC.rf _) ((lk_same wr d).tr e1.same) (by decide)⟩, fun z => absurd rfl z⟩
    rw [hcl]
    refine ⟨fun z => ⟨_, rfl, href fun y => Int32.not_le.mpr z y.1⟩, fun z => z_whole (sh_dn b hd5) g1 hsm ⟨fun z2 => ?_, fun z2 => ⟨_, rfl, href fun y => z2 y.2⟩⟩⟩
    obtain ⟨i, hi, rfl⟩ := nI_of z
    have hi2 := (nI_ltI hi (by omega)).mp z2
    refine z_part (sh_dn b hd5) g1 hsm hi2 ⟨_, rfl, ?_⟩
    refine TX11_part _ _ wr g2 _ (isdA g2 hn f5 f6 (fun _ => ⟨fun q => absurd q no10, fun _ => lookA hd5 g2 (z_lay (lk_R d g2) hsr fun w' e1 e2 e3 => ?_)⟩) fun q => absurd ⟨d, hd, rfl⟩ q)
    rw [e2, ← hfp, in_yes (nI_pos' hi) z2 (by omega)]
    refine ⟨fun y => absurd y no10, fun _ => ⟨nI_in (by omega) (by decide), _, rfl, ?_, fin_ok hR (SameC.rf _) ((lk_same wr d).tr e1.same) (h11 w' e1)⟩⟩
    rw [nI_clamp hi, e3 i (by rw [← hfp]; exact hi2), ← hfp]
    rfl
  · have q2 : ¬ ∃ d : Nat, d < n ∧ a1 = nI d := fun z => q ((din_c hn f4).mpr z)
    refine ⟨_, rfl, TX11_part _ _ wr g2 _ (isdA g2 hn f5 f6 (fun q => absurd q q2) fun _ => ⟨fun _ => ⟨_, rfl, rfl, fin_noA hR (by decide)⟩, fun q => absurd rfl q⟩)⟩
