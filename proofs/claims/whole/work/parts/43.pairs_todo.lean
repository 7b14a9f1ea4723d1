theorem pr_feed {wc wr : Wd} (h : RelE wc wr) (a1 a2 a3 a4 a5 : Int32)  : PairI mX10_feed mX11_feed [a1, a2, a3, a4, a5] wc wr := sorry
theorem pr_hall {wc wr : Wd} (h : RelE wc wr) (a1 : Int32)  : PairI mX10_hall mX11_hall [a1] wc wr := sorry
theorem pr_again {wc wr : Wd} (h : RelE wc wr) (a1 : Int32)  : PairI mX10_again mX11_again [a1] wc wr := sorry
theorem pr_trace {wc wr : Wd} (h : RelE wc wr) (a1 : Int32)  : PairI mX10_trace mX11_trace [a1] wc wr := sorry
theorem pr_sameDance {wc wr : Wd} (h : RelE wc wr) (a1 a2 : Int32)  : PairI mX10_sameDance mX11_sameDance [a1, a2] wc wr := sorry
theorem pr_untie {wc wr : Wd} (h : RelE wc wr) (a1 : Int32)  : PairI mX10_untie mX11_untie [a1] wc wr := sorry
theorem pr_turnsOf {wc wr : Wd} (h : RelE wc wr) (a1 : Int32)  : PairI mX10_turnsOf mX11_turnsOf [a1] wc wr := sorry
theorem pr_untieAt {wc wr : Wd} (h : RelE wc wr) (a1 a2 : Int32)  : PairI mX10_untieAt mX11_untieAt [a1, a2] wc wr := sorry
theorem pr_widest {wc wr : Wd} (h : RelE wc wr) (a1 : Int32)  : PairI mX10_widest mX11_widest [a1] wc wr := sorry
theorem pr_come {wc wr : Wd} (h : RelE wc wr) (a1 a2 a3 : Int32)  : PairI mX10_come mX11_come [a1, a2, a3] wc wr := sorry
theorem pr_comeRow {wc wr : Wd} (h : RelE wc wr) (a1 a2 a3 : Int32)  : PairI mX10_comeRow mX11_comeRow [a1, a2, a3] wc wr := sorry
theorem pr_reach {wc wr : Wd} (h : RelE wc wr) (a1 : Int32)  : PairI mX10_reach mX11_reach [a1] wc wr := sorry
theorem pr_upperBetween {wc wr : Wd} (h : RelE wc wr) (a1 a2 : Int32)  : PairI mX10_upperBetween mX11_upperBetween [a1, a2] wc wr := sorry
theorem pr_lowerBetween {wc wr : Wd} (h : RelE wc wr) (a1 a2 : Int32)  : PairI mX10_lowerBetween mX11_lowerBetween [a1, a2] wc wr := sorry
theorem pr_rungs {wc wr : Wd} (h : RelE wc wr) (a1 : Int32)  : PairI mX10_rungs mX11_rungs [a1] wc wr := sorry
theorem pr_rungUpper {wc wr : Wd} (h : RelE wc wr) (a1 a2 : Int32)  : PairI mX10_rungUpper mX11_rungUpper [a1, a2] wc wr := sorry
theorem pr_rungLower {wc wr : Wd} (h : RelE wc wr) (a1 a2 : Int32)  : PairI mX10_rungLower mX11_rungLower [a1, a2] wc wr := sorry
theorem pr_colours {wc wr : Wd} (h : RelE wc wr) (a1 a2 a3 : Int32) (h2 : a2 = 0 ∨ a2 = 1) : PairI mX10_colours mX11_colours [a1, a2, a3] wc wr := sorry
theorem pr_alike {wc wr : Wd} (h : RelE wc wr) (a1 a2 : Int32)  : PairI mX10_alike mX11_alike [a1, a2] wc wr := sorry
theorem pr_mirrored {wc wr : Wd} (h : RelE wc wr) (a1 a2 : Int32)  : PairI mX10_mirrored mX11_mirrored [a1, a2] wc wr := sorry
theorem pr_kinds {wc wr : Wd} (h : RelE wc wr) (a1 a2 : Int32) (h2 : a2 = 0 ∨ a2 = 1) : PairI mX10_kinds mX11_kinds [a1, a2] wc wr := sorry
theorem pr_fits {wc wr : Wd} (h : RelE wc wr)  : PairI mX10_fits mX11_fits [] wc wr := sorry
theorem pr_fitAt {wc wr : Wd} (h : RelE wc wr) (a1 : Int32)  : PairI mX10_fitAt mX11_fitAt [a1] wc wr := sorry
theorem pr_could {wc wr : Wd} (h : RelE wc wr)  : PairI mX10_could mX11_could [] wc wr := sorry
theorem pr_surely {wc wr : Wd} (h : RelE wc wr)  : PairI mX10_surely mX11_surely [] wc wr := sorry
theorem pr_ask {wc wr : Wd} (h : RelE wc wr)  : PairI mX10_ask mX11_ask [] wc wr := sorry
theorem pr_askLeaves {wc wr : Wd} (h : RelE wc wr)  : PairI mX10_askLeaves mX11_askLeaves [] wc wr := sorry
theorem pr_judge {wc wr : Wd} (h : RelE wc wr)  : PairI mX10_judge mX11_judge [] wc wr := sorry
theorem pr_callers {wc wr : Wd} (h : RelE wc wr) (a1 a2 : Int32)  : PairI mX10_callers mX11_callers [a1, a2] wc wr := sorry
theorem pr_callsBy {wc wr : Wd} (h : RelE wc wr) (a1 a2 : Int32)  : PairI mX10_callsBy mX11_callsBy [a1, a2] wc wr := sorry
theorem pr_odds {wc wr : Wd} (h : RelE wc wr) (a1 a2 a3 a4 a5 : Int32) (h5 : a5 = 0 ∨ a5 = 1) : PairL mX10_odds mX11_odds [a1, a2, a3, a4, a5] wc wr := sorry
theorem pr_untied {wc wr : Wd} (h : RelE wc wr) (a1 a2 a3 : Int32) (h3 : a3 = 0 ∨ a3 = 1) : PairL mX10_untied mX11_untied [a1, a2, a3] wc wr := sorry
theorem pr_mean {wc wr : Wd} (h : RelE wc wr) (a1 a2 a3 : Int32) (h3 : a3 = 0 ∨ a3 = 1) : PairL mX10_mean mX11_mean [a1, a2, a3] wc wr := sorry
theorem pr_drawnUpper {wc wr : Wd} (h : RelE wc wr) (a1 a2 a3 : Int32)  : PairI mX10_drawnUpper mX11_drawnUpper [a1, a2, a3] wc wr := sorry
theorem pr_drawnLower {wc wr : Wd} (h : RelE wc wr) (a1 a2 a3 : Int32)  : PairI mX10_drawnLower mX11_drawnLower [a1, a2, a3] wc wr := sorry
theorem pr_call {wc wr : Wd} (h : RelE wc wr) (a1 a2 : Int32)  : PairI mX10_call mX11_call [a1, a2] wc wr := sorry
theorem pr_flip {wc wr : Wd} (h : RelE wc wr) (a1 : Int32)  : PairI mX10_flip mX11_flip [a1] wc wr := sorry
theorem pr_reset {wc wr : Wd} (h : RelE wc wr) (a1 : Int32)  : PairI mX10_reset mX11_reset [a1] wc wr := sorry
theorem pr_join {wc wr : Wd} (h : RelE wc wr) (a1 a2 : Int32)  : PairI mX10_join mX11_join [a1, a2] wc wr := sorry
theorem pr_undo {wc wr : Wd} (h : RelE wc wr)  : PairI mX10_undo mX11_undo [] wc wr := sorry
theorem pr_image {wc wr : Wd} (h : RelE wc wr)  : PairI mX10_image mX11_image [] wc wr := sorry
theorem pr_back {wc wr : Wd} (h : RelE wc wr) (a1 : Int32)  : PairI mX10_back mX11_back [a1] wc wr := sorry
theorem lc_63 {L t : Nat} {xs : Nat → Int32} {wc wr : Wd} {o : Int64} (hn9 : t ≤ 1000) (hI : ∀ j : Nat, j < 6 → vp_in (nI (6 * t) + Int32.ofNat j) L) (hR : RelE wc wr) (k : ∀ wc' wr' o', RelE wc' wr' → GoL L xs 2620 [(0, .ref 3), (1, .ref 0), (2, .ref 1), (3, .ref 2), (4, .int (nI (6 * t)))] [] (t + 1) wc' wr' o') : GoL L xs 2526 [(0, .ref 3), (1, .ref 0), (2, .ref 1), (3, .ref 2), (4, .int (nI (6 * t)))] [] t wc wr o := sorry
