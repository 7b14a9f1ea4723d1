theorem bA_01 (xs : Nat → Int32) (i : Int32) (j : Nat) : bA xs i j = 0 ∨ bA xs i j = 1 := by
  unfold bA
  split
  · exact Or.inl rfl
  · exact Or.inr rfl
theorem gl_widen {L n pc : Nat} {xs : Nat → Int32} {lv : List (Nat × Value)} {st : List Value} {wc wr : Wd} {o : Int64} (k : GoL L xs pc lv st (n + 1) wc wr o) : GoL L xs pc lv st n wc wr o := by
  intro p l e s m below meth c b E1 E2 oA cO H locs ls G h1 h2 ho hS h3
  exact W.widen (k := 2000 + (n + 1)) (n := 20000 + 10 * (n + 1)) (by omega) (by omega) (k p l e s m below meth c b E1 E2 oA cO H locs ls G h1 h2 ho hS h3)
theorem nI_toI {k : Nat} (h : k < 2 ^ 31) : (Int32.ofNat k).toInt = (k : Int) := Int32.toInt_ofNat_of_lt h
theorem six_in {L t : Nat} (hL : L ≤ 3072) (h : ¬ (Int32.ofNat L - 6) < nI (6 * t)) (ht : t ≤ 512) : 6 * t + 6 ≤ L := by
  rw [Int32.lt_iff_toInt_lt, nI_toInt (by omega), Int32.toInt_sub, nI_toI (by omega), show (6 : Int32).toInt = 6 by decide, Int.bmod_eq_of_le (by omega) (by omega)] at h
  omega
theorem six_vp {L t : Nat} (hL : L ≤ 3072) (h : 6 * t + 6 ≤ L) : ∀ j : Nat, j < 6 → vp_in (nI (6 * t) + Int32.ofNat j) L := by
  intro j hj
  have e : nI (6 * t) + Int32.ofNat j = nI (6 * t + j) := by
    show Int32.ofNat _ + Int32.ofNat j = Int32.ofNat _
    rw [Int32.ofNat_add]
  rw [e]
  exact nI_in (by omega) (by omega)
theorem six_next (t : Nat) : nI (6 * t) + Int32.ofInt 6 = nI (6 * (t + 1)) := by
  rw [Nat.mul_add, Nat.mul_one]
  show Int32.ofNat _ + Int32.ofInt 6 = Int32.ofNat _
  rw [Int32.ofNat_add]
  rfl
theorem sw_at {x : Int32} {v : Nat} (h : x = Int32.ofNat v) (hv : v < 66) : ¬ x.toInt < 0 ∧ ¬ (65 : Int) < x.toInt ∧ (x.toInt - 0).toNat = v := by
  rw [h, nI_toI (by omega)]
  omega
set_option maxHeartbeats 4000000 in
set_option maxRecDepth 100000 in
theorem law_round {L t : Nat} {xs : Nat → Int32} {wc wr : Wd} {o : Int64} (hL : L ≤ 3072) (ht : t ≤ 512) (h6 : 6 * t + 6 ≤ L) (hR : RelE wc wr) (k : ∀ wc' wr' o', RelE wc' wr' → GoL L xs 2620 [(0, .ref 3), (1, .ref 0), (2, .ref 1), (3, .ref 2), (4, .int (nI (6 * t)))] [] (t + 1) wc' wr' o') : GoL L xs 33 [(0, .ref 3), (1, .ref 0), (2, .ref 1), (3, .ref 2), (4, .int (nI (6 * t)))] [] t wc wr o := by
  refine gl_aload_n (pc := 33) dL_law_33 rfl 0 rfl ?_
  refine gl_iload (pc := 34) dL_law_34 4 rfl ?_
  refine gl_sld (pc := 36) dL_law_36 (nI_in (by omega) (by omega)) ?_
  refine gl_bipush (pc := 37) (v := 127) dL_law_37 (by decide) ?_
  refine gl_iand (pc := 39) dL_law_39 ?_
  have hI := six_vp hL h6
  have hn9 : t ≤ 1000 := by omega
  have k0 : ∀ wc' wr', RelE wc' wr' → GoL L xs 2620 [(0, .ref 3), (1, .ref 0), (2, .ref 1), (3, .ref 2), (4, .int (nI (6 * t)))] [] t wc' wr' o := fun wc' wr' h => gl_widen (k wc' wr' o h)
  generalize xs (nI (6 * t)).toNatClampNeg &&& 127 = v
  by_cases q0 : v = Int32.ofNat 0
  · obtain ⟨s1, s2, s3⟩ := sw_at q0 (by decide)
    refine gl_tabIn (pc := 40) (tgt := 320) dL_law_40 s1 s2 (by rw [s3]; rfl) (by decide) ?_
    exact lc_0 hn9 hI (pr_feed hR _ _ _ _ _ ) k0
  by_cases q1 : v = Int32.ofNat 1
  · obtain ⟨s1, s2, s3⟩ := sw_at q1 (by decide)
    refine gl_tabIn (pc := 40) (tgt := 393) dL_law_40 s1 s2 (by rw [s3]; rfl) (by decide) ?_
    exact lc_1 hn9 hI (pr_hall hR _ ) k0
  by_cases q2 : v = Int32.ofNat 2
  · obtain ⟨s1, s2, s3⟩ := sw_at q2 (by decide)
    refine gl_tabIn (pc := 40) (tgt := 418) dL_law_40 s1 s2 (by rw [s3]; rfl) (by decide) ?_
    exact lc_2 hn9 hI (pr_fault hR  ) k0
  by_cases q3 : v = Int32.ofNat 3
  · obtain ⟨s1, s2, s3⟩ := sw_at q3 (by decide)
    refine gl_tabIn (pc := 40) (tgt := 431) dL_law_40 s1 s2 (by rw [s3]; rfl) (by decide) ?_
    exact lc_3 hn9 hI (pr_where hR  ) k0
  by_cases q4 : v = Int32.ofNat 4
  · obtain ⟨s1, s2, s3⟩ := sw_at q4 (by decide)
    refine gl_tabIn (pc := 40) (tgt := 444) dL_law_40 s1 s2 (by rw [s3]; rfl) (by decide) ?_
    exact lc_4 hn9 hI (pr_upper hR _ ) k0
  by_cases q5 : v = Int32.ofNat 5
  · obtain ⟨s1, s2, s3⟩ := sw_at q5 (by decide)
    refine gl_tabIn (pc := 40) (tgt := 469) dL_law_40 s1 s2 (by rw [s3]; rfl) (by decide) ?_
    exact lc_5 hn9 hI (pr_lower hR _ ) k0
  by_cases q6 : v = Int32.ofNat 6
  · obtain ⟨s1, s2, s3⟩ := sw_at q6 (by decide)
    refine gl_tabIn (pc := 40) (tgt := 494) dL_law_40 s1 s2 (by rw [s3]; rfl) (by decide) ?_
    exact lc_6 hn9 hI (pr_end hR _ _ ) k0
  by_cases q7 : v = Int32.ofNat 7
  · obtain ⟨s1, s2, s3⟩ := sw_at q7 (by decide)
    refine gl_tabIn (pc := 40) (tgt := 531) dL_law_40 s1 s2 (by rw [s3]; rfl) (by decide) ?_
    exact lc_7 hn9 hI (pr_parts hR _ ) k0
  by_cases q8 : v = Int32.ofNat 8
  · obtain ⟨s1, s2, s3⟩ := sw_at q8 (by decide)
    refine gl_tabIn (pc := 40) (tgt := 556) dL_law_40 s1 s2 (by rw [s3]; rfl) (by decide) ?_
    exact lc_8 hn9 hI (pr_part hR _ _ ) k0
  by_cases q9 : v = Int32.ofNat 9
  · obtain ⟨s1, s2, s3⟩ := sw_at q9 (by decide)
    refine gl_tabIn (pc := 40) (tgt := 593) dL_law_40 s1 s2 (by rw [s3]; rfl) (by decide) ?_
    exact lc_9 hn9 hI (pr_crossings hR _ ) k0
  by_cases q10 : v = Int32.ofNat 10
  · obtain ⟨s1, s2, s3⟩ := sw_at q10 (by decide)
    refine gl_tabIn (pc := 40) (tgt := 618) dL_law_40 s1 s2 (by rw [s3]; rfl) (by decide) ?_
    exact lc_10 hn9 hI (pr_figures hR _ ) k0
  by_cases q11 : v = Int32.ofNat 11
  · obtain ⟨s1, s2, s3⟩ := sw_at q11 (by decide)
    refine gl_tabIn (pc := 40) (tgt := 643) dL_law_40 s1 s2 (by rw [s3]; rfl) (by decide) ?_
    exact lc_11 hn9 hI (pr_figure hR _ _ ) k0
  by_cases q12 : v = Int32.ofNat 12
  · obtain ⟨s1, s2, s3⟩ := sw_at q12 (by decide)
    refine gl_tabIn (pc := 40) (tgt := 680) dL_law_40 s1 s2 (by rw [s3]; rfl) (by decide) ?_
    exact lc_12 hn9 hI (pr_upperAfter hR _ _ ) k0
  by_cases q13 : v = Int32.ofNat 13
  · obtain ⟨s1, s2, s3⟩ := sw_at q13 (by decide)
    refine gl_tabIn (pc := 40) (tgt := 717) dL_law_40 s1 s2 (by rw [s3]; rfl) (by decide) ?_
    exact lc_13 hn9 hI (pr_lowerAfter hR _ _ ) k0
  by_cases q14 : v = Int32.ofNat 14
  · obtain ⟨s1, s2, s3⟩ := sw_at q14 (by decide)
    refine gl_tabIn (pc := 40) (tgt := 754) dL_law_40 s1 s2 (by rw [s3]; rfl) (by decide) ?_
    exact lc_14 hn9 hI (pr_mostAt hR _ ) k0
  by_cases q15 : v = Int32.ofNat 15
  · obtain ⟨s1, s2, s3⟩ := sw_at q15 (by decide)
    refine gl_tabIn (pc := 40) (tgt := 779) dL_law_40 s1 s2 (by rw [s3]; rfl) (by decide) ?_
    exact lc_15 hn9 hI (pr_goesFirst hR _ _ _ ) k0
  by_cases q16 : v = Int32.ofNat 16
  · obtain ⟨s1, s2, s3⟩ := sw_at q16 (by decide)
    refine gl_tabIn (pc := 40) (tgt := 828) dL_law_40 s1 s2 (by rw [s3]; rfl) (by decide) ?_
    exact lc_16 hn9 hI (pr_again hR _ ) k0
  by_cases q17 : v = Int32.ofNat 17
  · obtain ⟨s1, s2, s3⟩ := sw_at q17 (by decide)
    refine gl_tabIn (pc := 40) (tgt := 853) dL_law_40 s1 s2 (by rw [s3]; rfl) (by decide) ?_
    exact lc_17 hn9 hI (pr_trace hR _ ) k0
  by_cases q18 : v = Int32.ofNat 18
  · obtain ⟨s1, s2, s3⟩ := sw_at q18 (by decide)
    refine gl_tabIn (pc := 40) (tgt := 878) dL_law_40 s1 s2 (by rw [s3]; rfl) (by decide) ?_
    exact lc_18 hn9 hI (pr_sameDance hR _ _ ) k0
  by_cases q19 : v = Int32.ofNat 19
  · obtain ⟨s1, s2, s3⟩ := sw_at q19 (by decide)
    refine gl_tabIn (pc := 40) (tgt := 915) dL_law_40 s1 s2 (by rw [s3]; rfl) (by decide) ?_
    exact lc_19 hn9 hI (pr_untie hR _ ) k0
  by_cases q20 : v = Int32.ofNat 20
  · obtain ⟨s1, s2, s3⟩ := sw_at q20 (by decide)
    refine gl_tabIn (pc := 40) (tgt := 940) dL_law_40 s1 s2 (by rw [s3]; rfl) (by decide) ?_
    exact lc_20 hn9 hI (pr_turnsOf hR _ ) k0
  by_cases q21 : v = Int32.ofNat 21
  · obtain ⟨s1, s2, s3⟩ := sw_at q21 (by decide)
    refine gl_tabIn (pc := 40) (tgt := 965) dL_law_40 s1 s2 (by rw [s3]; rfl) (by decide) ?_
    exact lc_21 hn9 hI (pr_untieAt hR _ _ ) k0
  by_cases q22 : v = Int32.ofNat 22
  · obtain ⟨s1, s2, s3⟩ := sw_at q22 (by decide)
    refine gl_tabIn (pc := 40) (tgt := 1002) dL_law_40 s1 s2 (by rw [s3]; rfl) (by decide) ?_
    exact lc_22 hn9 hI (pr_widest hR _ ) k0
  by_cases q23 : v = Int32.ofNat 23
  · obtain ⟨s1, s2, s3⟩ := sw_at q23 (by decide)
    refine gl_tabIn (pc := 40) (tgt := 1027) dL_law_40 s1 s2 (by rw [s3]; rfl) (by decide) ?_
    exact lc_23 hn9 hI (pr_come hR _ _ _ ) k0
  by_cases q24 : v = Int32.ofNat 24
  · obtain ⟨s1, s2, s3⟩ := sw_at q24 (by decide)
    refine gl_tabIn (pc := 40) (tgt := 1076) dL_law_40 s1 s2 (by rw [s3]; rfl) (by decide) ?_
    exact lc_24 hn9 hI (pr_comeRow hR _ _ _ ) k0
  by_cases q25 : v = Int32.ofNat 25
  · obtain ⟨s1, s2, s3⟩ := sw_at q25 (by decide)
    refine gl_tabIn (pc := 40) (tgt := 1125) dL_law_40 s1 s2 (by rw [s3]; rfl) (by decide) ?_
    exact lc_25 hn9 hI (pr_reach hR _ ) k0
  by_cases q26 : v = Int32.ofNat 26
  · obtain ⟨s1, s2, s3⟩ := sw_at q26 (by decide)
    refine gl_tabIn (pc := 40) (tgt := 1150) dL_law_40 s1 s2 (by rw [s3]; rfl) (by decide) ?_
    exact lc_26 hn9 hI (pr_apart hR _ _ ) k0
  by_cases q27 : v = Int32.ofNat 27
  · obtain ⟨s1, s2, s3⟩ := sw_at q27 (by decide)
    refine gl_tabIn (pc := 40) (tgt := 1187) dL_law_40 s1 s2 (by rw [s3]; rfl) (by decide) ?_
    exact lc_27 hn9 hI (pr_upperBetween hR _ _ ) k0
  by_cases q28 : v = Int32.ofNat 28
  · obtain ⟨s1, s2, s3⟩ := sw_at q28 (by decide)
    refine gl_tabIn (pc := 40) (tgt := 1224) dL_law_40 s1 s2 (by rw [s3]; rfl) (by decide) ?_
    exact lc_28 hn9 hI (pr_lowerBetween hR _ _ ) k0
  by_cases q29 : v = Int32.ofNat 29
  · obtain ⟨s1, s2, s3⟩ := sw_at q29 (by decide)
    refine gl_tabIn (pc := 40) (tgt := 1261) dL_law_40 s1 s2 (by rw [s3]; rfl) (by decide) ?_
    exact lc_29 hn9 hI (pr_rungs hR _ ) k0
  by_cases q30 : v = Int32.ofNat 30
  · obtain ⟨s1, s2, s3⟩ := sw_at q30 (by decide)
    refine gl_tabIn (pc := 40) (tgt := 1286) dL_law_40 s1 s2 (by rw [s3]; rfl) (by decide) ?_
    exact lc_30 hn9 hI (pr_rungUpper hR _ _ ) k0
  by_cases q31 : v = Int32.ofNat 31
  · obtain ⟨s1, s2, s3⟩ := sw_at q31 (by decide)
    refine gl_tabIn (pc := 40) (tgt := 1323) dL_law_40 s1 s2 (by rw [s3]; rfl) (by decide) ?_
    exact lc_31 hn9 hI (pr_rungLower hR _ _ ) k0
  by_cases q32 : v = Int32.ofNat 32
  · obtain ⟨s1, s2, s3⟩ := sw_at q32 (by decide)
    refine gl_tabIn (pc := 40) (tgt := 1360) dL_law_40 s1 s2 (by rw [s3]; rfl) (by decide) ?_
    exact lc_32 hn9 hI (pr_knot hR _ _ (bA_01 _ _ _)) k0
  by_cases q33 : v = Int32.ofNat 33
  · obtain ⟨s1, s2, s3⟩ := sw_at q33 (by decide)
    refine gl_tabIn (pc := 40) (tgt := 1413) dL_law_40 s1 s2 (by rw [s3]; rfl) (by decide) ?_
    exact lc_33 hn9 hI (pr_rings hR _ _ (bA_01 _ _ _)) k0
  by_cases q34 : v = Int32.ofNat 34
  · obtain ⟨s1, s2, s3⟩ := sw_at q34 (by decide)
    refine gl_tabIn (pc := 40) (tgt := 1466) dL_law_40 s1 s2 (by rw [s3]; rfl) (by decide) ?_
    exact lc_34 hn9 hI (pr_colours hR _ _ _ (bA_01 _ _ _)) k0
  by_cases q35 : v = Int32.ofNat 35
  · obtain ⟨s1, s2, s3⟩ := sw_at q35 (by decide)
    refine gl_tabIn (pc := 40) (tgt := 1531) dL_law_40 s1 s2 (by rw [s3]; rfl) (by decide) ?_
    exact lc_35 hn9 hI (pr_beside hR _ _ ) k0
  by_cases q36 : v = Int32.ofNat 36
  · obtain ⟨s1, s2, s3⟩ := sw_at q36 (by decide)
    refine gl_tabIn (pc := 40) (tgt := 1568) dL_law_40 s1 s2 (by rw [s3]; rfl) (by decide) ?_
    exact lc_36 hn9 hI (pr_alike hR _ _ ) k0
  by_cases q37 : v = Int32.ofNat 37
  · obtain ⟨s1, s2, s3⟩ := sw_at q37 (by decide)
    refine gl_tabIn (pc := 40) (tgt := 1605) dL_law_40 s1 s2 (by rw [s3]; rfl) (by decide) ?_
    exact lc_37 hn9 hI (pr_mirrored hR _ _ ) k0
  by_cases q38 : v = Int32.ofNat 38
  · obtain ⟨s1, s2, s3⟩ := sw_at q38 (by decide)
    refine gl_tabIn (pc := 40) (tgt := 1642) dL_law_40 s1 s2 (by rw [s3]; rfl) (by decide) ?_
    exact lc_38 hn9 hI (pr_kinds hR _ _ (bA_01 _ _ _)) k0
  by_cases q39 : v = Int32.ofNat 39
  · obtain ⟨s1, s2, s3⟩ := sw_at q39 (by decide)
    refine gl_tabIn (pc := 40) (tgt := 1695) dL_law_40 s1 s2 (by rw [s3]; rfl) (by decide) ?_
    exact lc_39 hn9 hI (pr_fits hR  ) k0
  by_cases q40 : v = Int32.ofNat 40
  · obtain ⟨s1, s2, s3⟩ := sw_at q40 (by decide)
    refine gl_tabIn (pc := 40) (tgt := 1708) dL_law_40 s1 s2 (by rw [s3]; rfl) (by decide) ?_
    exact lc_40 hn9 hI (pr_fitAt hR _ ) k0
  by_cases q41 : v = Int32.ofNat 41
  · obtain ⟨s1, s2, s3⟩ := sw_at q41 (by decide)
    refine gl_tabIn (pc := 40) (tgt := 1733) dL_law_40 s1 s2 (by rw [s3]; rfl) (by decide) ?_
    exact lc_41 hn9 hI (pr_could hR  ) k0
  by_cases q42 : v = Int32.ofNat 42
  · obtain ⟨s1, s2, s3⟩ := sw_at q42 (by decide)
    refine gl_tabIn (pc := 40) (tgt := 1746) dL_law_40 s1 s2 (by rw [s3]; rfl) (by decide) ?_
    exact lc_42 hn9 hI (pr_surely hR  ) k0
  by_cases q43 : v = Int32.ofNat 43
  · obtain ⟨s1, s2, s3⟩ := sw_at q43 (by decide)
    refine gl_tabIn (pc := 40) (tgt := 1759) dL_law_40 s1 s2 (by rw [s3]; rfl) (by decide) ?_
    exact lc_43 hn9 hI (pr_ask hR  ) k0
  by_cases q44 : v = Int32.ofNat 44
  · obtain ⟨s1, s2, s3⟩ := sw_at q44 (by decide)
    refine gl_tabIn (pc := 40) (tgt := 1772) dL_law_40 s1 s2 (by rw [s3]; rfl) (by decide) ?_
    exact lc_44 hn9 hI (pr_askLeaves hR  ) k0
  by_cases q45 : v = Int32.ofNat 45
  · obtain ⟨s1, s2, s3⟩ := sw_at q45 (by decide)
    refine gl_tabIn (pc := 40) (tgt := 1785) dL_law_40 s1 s2 (by rw [s3]; rfl) (by decide) ?_
    exact lc_45 hn9 hI (pr_judge hR  ) k0
  by_cases q46 : v = Int32.ofNat 46
  · obtain ⟨s1, s2, s3⟩ := sw_at q46 (by decide)
    refine gl_tabIn (pc := 40) (tgt := 1798) dL_law_40 s1 s2 (by rw [s3]; rfl) (by decide) ?_
    exact lc_46 hn9 hI (pr_callers hR _ _ ) k0
  by_cases q47 : v = Int32.ofNat 47
  · obtain ⟨s1, s2, s3⟩ := sw_at q47 (by decide)
    refine gl_tabIn (pc := 40) (tgt := 1835) dL_law_40 s1 s2 (by rw [s3]; rfl) (by decide) ?_
    exact lc_47 hn9 hI (pr_callsBy hR _ _ ) k0
  by_cases q48 : v = Int32.ofNat 48
  · obtain ⟨s1, s2, s3⟩ := sw_at q48 (by decide)
    refine gl_tabIn (pc := 40) (tgt := 1872) dL_law_40 s1 s2 (by rw [s3]; rfl) (by decide) ?_
    exact lc_48 hn9 hI (pr_bows hR _ _ _ _ (bA_01 _ _ _) (bA_01 _ _ _) (bA_01 _ _ _)) k0
  by_cases q49 : v = Int32.ofNat 49
  · obtain ⟨s1, s2, s3⟩ := sw_at q49 (by decide)
    refine gl_tabIn (pc := 40) (tgt := 1981) dL_law_40 s1 s2 (by rw [s3]; rfl) (by decide) ?_
    exact lc_49 hn9 hI (pr_rests hR _ ) k0
  by_cases q50 : v = Int32.ofNat 50
  · obtain ⟨s1, s2, s3⟩ := sw_at q50 (by decide)
    refine gl_tabIn (pc := 40) (tgt := 2006) dL_law_40 s1 s2 (by rw [s3]; rfl) (by decide) ?_
    exact lc_50 hn9 hI (pr_rest hR _ ) k0
  by_cases q51 : v = Int32.ofNat 51
  · obtain ⟨s1, s2, s3⟩ := sw_at q51 (by decide)
    refine gl_tabIn (pc := 40) (tgt := 2031) dL_law_40 s1 s2 (by rw [s3]; rfl) (by decide) ?_
    exact lc_51 hn9 hI (pr_odds hR _ _ _ _ _ (bA_01 _ _ _)) k0
  by_cases q52 : v = Int32.ofNat 52
  · obtain ⟨s1, s2, s3⟩ := sw_at q52 (by decide)
    refine gl_tabIn (pc := 40) (tgt := 2121) dL_law_40 s1 s2 (by rw [s3]; rfl) (by decide) ?_
    exact lc_52 hn9 hI (pr_untied hR _ _ _ (bA_01 _ _ _)) k0
  by_cases q53 : v = Int32.ofNat 53
  · obtain ⟨s1, s2, s3⟩ := sw_at q53 (by decide)
    refine gl_tabIn (pc := 40) (tgt := 2187) dL_law_40 s1 s2 (by rw [s3]; rfl) (by decide) ?_
    exact lc_53 hn9 hI (pr_mean hR _ _ _ (bA_01 _ _ _)) k0
  by_cases q54 : v = Int32.ofNat 54
  · obtain ⟨s1, s2, s3⟩ := sw_at q54 (by decide)
    refine gl_tabIn (pc := 40) (tgt := 2253) dL_law_40 s1 s2 (by rw [s3]; rfl) (by decide) ?_
    exact lc_54 hn9 hI (pr_drawnUpper hR _ _ _ ) k0
  by_cases q55 : v = Int32.ofNat 55
  · obtain ⟨s1, s2, s3⟩ := sw_at q55 (by decide)
    refine gl_tabIn (pc := 40) (tgt := 2302) dL_law_40 s1 s2 (by rw [s3]; rfl) (by decide) ?_
    exact lc_55 hn9 hI (pr_drawnLower hR _ _ _ ) k0
  by_cases q56 : v = Int32.ofNat 56
  · obtain ⟨s1, s2, s3⟩ := sw_at q56 (by decide)
    refine gl_tabIn (pc := 40) (tgt := 2351) dL_law_40 s1 s2 (by rw [s3]; rfl) (by decide) ?_
    exact lc_56 hn9 hI (pr_call hR _ _ ) k0
  by_cases q57 : v = Int32.ofNat 57
  · obtain ⟨s1, s2, s3⟩ := sw_at q57 (by decide)
    refine gl_tabIn (pc := 40) (tgt := 2388) dL_law_40 s1 s2 (by rw [s3]; rfl) (by decide) ?_
    exact lc_57 hn9 hI (pr_flip hR _ ) k0
  by_cases q58 : v = Int32.ofNat 58
  · obtain ⟨s1, s2, s3⟩ := sw_at q58 (by decide)
    refine gl_tabIn (pc := 40) (tgt := 2413) dL_law_40 s1 s2 (by rw [s3]; rfl) (by decide) ?_
    exact lc_58 hn9 hI (pr_reset hR _ ) k0
  by_cases q59 : v = Int32.ofNat 59
  · obtain ⟨s1, s2, s3⟩ := sw_at q59 (by decide)
    refine gl_tabIn (pc := 40) (tgt := 2438) dL_law_40 s1 s2 (by rw [s3]; rfl) (by decide) ?_
    exact lc_59 hn9 hI (pr_join hR _ _ ) k0
  by_cases q60 : v = Int32.ofNat 60
  · obtain ⟨s1, s2, s3⟩ := sw_at q60 (by decide)
    refine gl_tabIn (pc := 40) (tgt := 2475) dL_law_40 s1 s2 (by rw [s3]; rfl) (by decide) ?_
    exact lc_60 hn9 hI (pr_undo hR  ) k0
  by_cases q61 : v = Int32.ofNat 61
  · obtain ⟨s1, s2, s3⟩ := sw_at q61 (by decide)
    refine gl_tabIn (pc := 40) (tgt := 2488) dL_law_40 s1 s2 (by rw [s3]; rfl) (by decide) ?_
    exact lc_61 hn9 hI (pr_image hR  ) k0
  by_cases q62 : v = Int32.ofNat 62
  · obtain ⟨s1, s2, s3⟩ := sw_at q62 (by decide)
    refine gl_tabIn (pc := 40) (tgt := 2501) dL_law_40 s1 s2 (by rw [s3]; rfl) (by decide) ?_
    exact lc_62 hn9 hI (pr_back hR _ ) k0
  by_cases q63 : v = Int32.ofNat 63
  · obtain ⟨s1, s2, s3⟩ := sw_at q63 (by decide)
    refine gl_tabIn (pc := 40) (tgt := 2526) dL_law_40 s1 s2 (by rw [s3]; rfl) (by decide) ?_
    exact lc_63 (by omega) hI hR k
  by_cases q64 : v = Int32.ofNat 64
  · obtain ⟨s1, s2, s3⟩ := sw_at q64 (by decide)
    refine gl_tabIn (pc := 40) (tgt := 2582) dL_law_40 s1 s2 (by rw [s3]; rfl) (by decide) ?_
    exact lc_64 hn9 hI (pr_size hR _ ) k0
  by_cases q65 : v = Int32.ofNat 65
  · obtain ⟨s1, s2, s3⟩ := sw_at q65 (by decide)
    refine gl_tabIn (pc := 40) (tgt := 2607) dL_law_40 s1 s2 (by rw [s3]; rfl) (by decide) ?_
    exact lc_65 hn9 hI (pr_trouble hR  ) k0
  refine gl_tabOut (pc := 40) (tgt := 2620) dL_law_40 (sw_out 65 (by decide) (fun z hz => ?_)) (by decide) (k0 _ _ hR)
  rcases (show z = 0 ∨ z = 1 ∨ z = 2 ∨ z = 3 ∨ z = 4 ∨ z = 5 ∨ z = 6 ∨ z = 7 ∨ z = 8 ∨ z = 9 ∨ z = 10 ∨ z = 11 ∨ z = 12 ∨ z = 13 ∨ z = 14 ∨ z = 15 ∨ z = 16 ∨ z = 17 ∨ z = 18 ∨ z = 19 ∨ z = 20 ∨ z = 21 ∨ z = 22 ∨ z = 23 ∨ z = 24 ∨ z = 25 ∨ z = 26 ∨ z = 27 ∨ z = 28 ∨ z = 29 ∨ z = 30 ∨ z = 31 ∨ z = 32 ∨ z = 33 ∨ z = 34 ∨ z = 35 ∨ z = 36 ∨ z = 37 ∨ z = 38 ∨ z = 39 ∨ z = 40 ∨ z = 41 ∨ z = 42 ∨ z = 43 ∨ z = 44 ∨ z = 45 ∨ z = 46 ∨ z = 47 ∨ z = 48 ∨ z = 49 ∨ z = 50 ∨ z = 51 ∨ z = 52 ∨ z = 53 ∨ z = 54 ∨ z = 55 ∨ z = 56 ∨ z = 57 ∨ z = 58 ∨ z = 59 ∨ z = 60 ∨ z = 61 ∨ z = 62 ∨ z = 63 ∨ z = 64 ∨ z = 65 by omega) with rfl | rfl | rfl | rfl | rfl | rfl | rfl | rfl | rfl | rfl | rfl | rfl | rfl | rfl | rfl | rfl | rfl | rfl | rfl | rfl | rfl | rfl | rfl | rfl | rfl | rfl | rfl | rfl | rfl | rfl | rfl | rfl | rfl | rfl | rfl | rfl | rfl | rfl | rfl | rfl | rfl | rfl | rfl | rfl | rfl | rfl | rfl | rfl | rfl | rfl | rfl | rfl | rfl | rfl | rfl | rfl | rfl | rfl | rfl | rfl | rfl | rfl | rfl | rfl | rfl | rfl <;> assumption
set_option maxHeartbeats 4000000 in
set_option maxRecDepth 100000 in
theorem law_loop {L : Nat} {xs : Nat → Int32} (hL : L ≤ 3072) : ∀ (r t : Nat) (wc wr : Wd) (o : Int64), t + r = 513 → 6 * t ≤ L → RelE wc wr → GoL L xs 23 [(0, .ref 3), (1, .ref 0), (2, .ref 1), (3, .ref 2), (4, .int (nI (6 * t)))] [] t wc wr o := by
  intro r
  induction r with
  | zero => intro t wc wr o h1 h2 _; omega
  | succ r ih =>
    intro t wc wr o h1 h2 hR
    refine gl_iload (pc := 23) dL_law_23 4 rfl ?_
    refine gl_aload_n (pc := 25) dL_law_25 rfl 0 rfl ?_
    refine gl_slen (pc := 26) dL_law_26 ?_
    refine gl_bipush (pc := 27) (v := 6) dL_law_27 (by decide) ?_
    refine gl_isub (pc := 29) dL_law_29 ?_
    refine gl_icmp_gt (pc := 30) (tgt := 2626) dL_law_30 (by decide) (fun q => ?_) (fun q => ?_)
    · refine gl_iconst (pc := 2626) dL_law_2626 c_1 ?_
      exact gl_ret1 (pc := 2627) (by omega) dL_law_2627
    · have h6 := six_in hL q (by omega)
      refine law_round hL (by omega) h6 hR (fun wc' wr' o' h' => ?_)
      refine gl_iinc (pc := 2620) (v := nI (6 * (t + 1))) (lv2 := [(0, .ref 3), (1, .ref 0), (2, .ref 1), (3, .ref 2), (4, .int (nI (6 * (t + 1))))]) dL_law_2620 4 rfl (by decide) (six_next t) rfl ?_
      refine gl_goto (pc := 2623) (tgt := 23) dL_law_2623 (by decide) ?_
      exact ih (t + 1) wc' wr' o' (by omega) (by omega) h'
