theorem pr_upperAfter {wc wr : Wd} (h : RelE wc wr) (a1 a2 : Int32)  : PairI mX10_upperAfter mX11_upperAfter [a1, a2] wc wr := by
  obtain ⟨b, hR⟩ := h
  obtain ⟨n, hn, f4, f5, f6, fD⟩ := cx hR
  have g1 := hR.1
  have g2 := hR.2.1
  by_cases hin : ∃ d : Nat, d < n ∧ a1 = nI d
  · obtain ⟨d, hd, rfl⟩ := hin
    obtain ⟨m, hc⟩ := ctx_of hn hd f4 f5 f6 (fD d hd)
    have hm : m < 2 ^ 30 := by have := hc.2.2.2.1; omega
    obtain ⟨u, hu, h2⟩ := uns_n hR
    rcases row_ask hm a2 with ⟨i, hi, rfl⟩ | ⟨r1, r2⟩
    · refine TX10_upperAfter _ _ wc b g1 _ (wT3 g1 hc hi fun w' h => ⟨fun _ => ⟨_, rfl, TX11_upperAfter _ _ wr g2 _ (rW3 g2 hc hi ⟨fun _ => rD (w := wXX11_anew wr) g2 hc hu h2 hi rfl (fun j => an_ne (Or.inl (by decide))) fun w'' h2 => ⟨_, rfl, ?_, fin_ok hR (h.same nr55) ((an_same wr).tr h2.same) ((h2.2.1 0 11 (by decide)).trans (an_11 wr))⟩, fun q => absurd rfl q⟩)⟩, fun q => absurd rfl q⟩)
      exact h.2.2.1.trans h2.2.2.1.symm
    · exact TX10_upperAfter _ _ wc b g1 _ (wT2 g1 hc r2 ⟨fun q => absurd q (by decide), fun _ => ⟨_, rfl, TX11_upperAfter _ _ wr g2 _ (rW2 g2 hc r1 ⟨fun q => absurd q (by decide), fun _ => rW2 g2 hc r1 ⟨_, rfl, rfl, fin_noA hR (by decide)⟩⟩)⟩⟩)
  · exact TX10_upperAfter _ _ wc b g1 _ (wT1 g1 hn f4 hin ⟨fun q => absurd q no10, fun _ => ⟨_, rfl, TX11_upperAfter _ _ wr g2 _ (rW1 g2 hn f5 f6 hin ⟨fun q => absurd q no10, fun _ => rW1 g2 hn f5 f6 hin ⟨_, rfl, rfl, fin_noA hR (by decide)⟩⟩)⟩⟩)
theorem pr_lowerAfter {wc wr : Wd} (h : RelE wc wr) (a1 a2 : Int32)  : PairI mX10_lowerAfter mX11_lowerAfter [a1, a2] wc wr := by
  obtain ⟨b, hR⟩ := h
  obtain ⟨n, hn, f4, f5, f6, fD⟩ := cx hR
  have g1 := hR.1
  have g2 := hR.2.1
  by_cases hin : ∃ d : Nat, d < n ∧ a1 = nI d
  · obtain ⟨d, hd, rfl⟩ := hin
    obtain ⟨m, hc⟩ := ctx_of hn hd f4 f5 f6 (fD d hd)
    have hm : m < 2 ^ 30 := by have := hc.2.2.2.1; omega
    obtain ⟨u, hu, h2⟩ := uns_n hR
    rcases row_ask hm a2 with ⟨i, hi, rfl⟩ | ⟨r1, r2⟩
    · refine TX10_lowerAfter _ _ wc b g1 _ (wT3 g1 hc hi fun w' h => ⟨fun _ => ⟨_, rfl, TX11_lowerAfter _ _ wr g2 _ (rW3 g2 hc hi ⟨fun _ => rD (w := wXX11_anew wr) g2 hc hu h2 hi rfl (fun j => an_ne (Or.inl (by decide))) fun w'' h2 => ⟨_, rfl, ?_, fin_ok hR (h.same nr55) ((an_same wr).tr h2.same) ((h2.2.1 0 11 (by decide)).trans (an_11 wr))⟩, fun q => absurd rfl q⟩)⟩, fun q => absurd rfl q⟩)
      exact h.2.2.2.trans h2.2.2.2.symm
    · exact TX10_lowerAfter _ _ wc b g1 _ (wT2 g1 hc r2 ⟨fun q => absurd q (by decide), fun _ => ⟨_, rfl, TX11_lowerAfter _ _ wr g2 _ (rW2 g2 hc r1 ⟨fun q => absurd q (by decide), fun _ => rW2 g2 hc r1 ⟨_, rfl, rfl, fin_noA hR (by decide)⟩⟩)⟩⟩)
  · exact TX10_lowerAfter _ _ wc b g1 _ (wT1 g1 hn f4 hin ⟨fun q => absurd q no10, fun _ => ⟨_, rfl, TX11_lowerAfter _ _ wr g2 _ (rW1 g2 hn f5 f6 hin ⟨fun q => absurd q no10, fun _ => rW1 g2 hn f5 f6 hin ⟨_, rfl, rfl, fin_noA hR (by decide)⟩⟩)⟩⟩)
