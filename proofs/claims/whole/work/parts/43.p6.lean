theorem pr_size {wc wr : Wd} (h : RelE wc wr) (a1 : Int32)  : PairI mX10_size mX11_size [a1] wc wr := by
  obtain ⟨b, hR⟩ := h
  obtain ⟨g1, g2, g3, g4, g5, ⟨h, t1, t2, t3, t4⟩, n, ⟨u, e, f1, f2, f3, f4, f5, f6, f7, f8, f9, f10, f11, f12, f13, f14, f15, f16, f17⟩, a, g, p1, p2, p3, p4, p5, p6, p7, p8, p9⟩ := id hR
  have fin : RelE wc (si wr 0 0 0) := ⟨b, rel_scr hR (SameC.rf _) ((SameR.rf wr).si (nrR (by decide))) g3 g5⟩
  have e15 : wi (si wr 0 0 0) 0 15 = if n = 0 then 0 else 1 := (wi_ne (Or.inr (by decide))).trans f6
  have hz : wi (si wr 0 0 0) 0 15 = 0 → n = 0 := fun z => by
    by_cases c : n = 0
    · exact c
    · rw [e15, if_neg c] at z
      exact absurd z (by decide)
  refine TX10_size a1 wc b g1 _ ⟨fun q => ⟨_, rfl, ?_⟩, fun q => ⟨_, rfl, ?_⟩, fun q => ⟨_, rfl, ?_⟩, fun q => ⟨_, rfl, ?_⟩, fun q => ⟨_, rfl, ?_⟩, fun q => ⟨_, rfl, ?_⟩, fun q => ⟨_, rfl, ?_⟩, fun q => ⟨_, rfl, ?_⟩⟩
  · subst q
    refine TX11_size _ wr g2 _ ⟨fun q => absurd q (by decide), fun _ => ⟨fun z => ⟨_, rfl, ?_, fin⟩, fun z => ⟨fun y => absurd y (by decide), fun _ => ⟨show vp_in (nI 0) 146 from nI_in (by decide) (by decide), _, rfl, ?_, fin⟩⟩⟩⟩
    · exact f7.trans (f14 (hz z)).2.2
    · exact f7
  · subst q
    refine TX11_size _ wr g2 _ ⟨fun q => absurd q (by decide), fun _ => ⟨fun z => ⟨_, rfl, ?_, fin⟩, fun z => ⟨fun y => absurd y (by decide), fun _ => ⟨show vp_in (nI 1) 146 from nI_in (by decide) (by decide), _, rfl, ?_, fin⟩⟩⟩⟩
    · rw [f4, hz z]
      decide
    · exact f4.trans f5.symm
  · subst q
    refine TX11_size _ wr g2 _ ⟨fun q => absurd q (by decide), fun _ => ⟨fun z => ⟨_, rfl, ?_, fin⟩, fun z => ⟨fun y => absurd y (by decide), fun _ => ⟨show vp_in (nI 2) 146 from nI_in (by decide) (by decide), _, rfl, ?_, fin⟩⟩⟩⟩
    · rw [f10, (f14 (hz z)).1]
      decide
    · exact f10.trans f11.symm
  · subst q
    refine TX11_size _ wr g2 _ ⟨fun q => absurd q (by decide), fun _ => ⟨fun z => ⟨_, rfl, ?_, fin⟩, fun z => ⟨fun y => absurd y (by decide), fun _ => ⟨show vp_in (nI 3) 146 from nI_in (by decide) (by decide), _, rfl, ?_, fin⟩⟩⟩⟩
    · rw [f12, (f14 (hz z)).2.1]
      decide
    · exact f12.trans f13.symm
  · subst q
    refine TX11_size _ wr g2 _ ⟨fun q => absurd q (by decide), fun _ => ⟨fun z => ⟨_, rfl, ?_, fin⟩, fun z => ⟨fun y => ⟨_, rfl, ?_, fin⟩, fun y => absurd (by decide) y⟩⟩⟩
    · rw [p3, (p7 (hz z)).1]
      decide
    · exact p3.trans p4.symm
  · subst q
    refine TX11_size _ wr g2 _ ⟨fun q => absurd q (by decide), fun _ => ⟨fun z => ⟨_, rfl, ?_, fin⟩, fun z => ⟨fun y => ⟨_, rfl, ?_, fin⟩, fun y => absurd (by decide) y⟩⟩⟩
    · rw [p5, (p7 (hz z)).2]
      decide
    · exact p5.trans p6.symm
  · subst q
    exact TX11_size _ wr g2 _ ⟨fun q => ⟨_, rfl, t2.trans t3.symm, fin⟩, fun q => absurd rfl q⟩
  · obtain ⟨q0, q1, q2, q3, q4, q5, q6⟩ := q
    have e5 : vXX11_in a1 0 5 = 0 := by
      rcases row_ask (m := 5) (by decide) a1 with ⟨j, hj, rfl⟩ | ⟨r, -⟩
      · rcases (show j = 0 ∨ j = 1 ∨ j = 2 ∨ j = 3 ∨ j = 4 ∨ j = 5 by omega) with rfl | rfl | rfl | rfl | rfl | rfl
        · exact absurd rfl q0
        · exact absurd rfl q1
        · exact absurd rfl q2
        · exact absurd rfl q3
        · exact absurd rfl q4
        · exact absurd rfl q5
      · exact r
    have e3 : vXX11_in a1 0 3 = 0 := by
      rcases row_ask (m := 3) (by decide) a1 with ⟨j, hj, rfl⟩ | ⟨r, -⟩
      · rcases (show j = 0 ∨ j = 1 ∨ j = 2 ∨ j = 3 by omega) with rfl | rfl | rfl | rfl
        · exact absurd rfl q0
        · exact absurd rfl q1
        · exact absurd rfl q2
        · exact absurd rfl q3
      · exact r
    refine TX11_size _ wr g2 _ ⟨fun q => absurd q q6, fun _ => ⟨fun z => ⟨_, rfl, ?_, fin⟩, fun z => ⟨fun y => ⟨_, rfl, ?_, fin⟩, fun y => absurd e3 y⟩⟩⟩
    · rw [e5, if_pos rfl]
    · rw [if_neg q4, if_neg q5]
