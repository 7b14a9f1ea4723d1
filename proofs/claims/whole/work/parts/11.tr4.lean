set_option maxHeartbeats 4000000 in
set_option maxRecDepth 100000 in
theorem TX11_slipWhy (a1 : Int32) (a2 : Int32) (a3 : Int32) (w : Wd) (hR : w.2.2 = RM) (Q : Option Value → Wd → Prop) (h : ((a1 = 0 → Q (some (.int 1)) w) ∧ (¬ (a1 = 0) → (((vXX11_in a3 0 8) = 0 → Q (some (.int 2)) w) ∧ (¬ ((vXX11_in a3 0 8) = 0) → vp_in (4 + a2) 146 ∧ Q (some (.int (if (wi w 3 ((4 + a2).toNatClampNeg)) < a3 then 2 else 0 : Int32))) w))))) : Cl SR mX11_slipWhy [.ref 0, .int a1, .int a2, .int a3] w Q := by
  refine cl_of (by decide) (Nat.le_of_ble_eq_true rfl) ?_
  show Go SR mX11_slipWhy 0 [(0, .ref 0), (1, .int a1), (2, .int a2), (3, .int a3)] [] w Q
  refine g_iload_n (pc := 0) dX11_slipWhy_0 rfl 1 rfl ?_
  refine g_if_ne (pc := 1) (tgt := 8) dX11_slipWhy_1 (by decide) (fun q => ?_) (fun q => ?_)
  · have h := h.2 q
    refine g_iload_n (pc := 8) dX11_slipWhy_8 rfl 3 rfl ?_
    refine g_iconst (pc := 9) dX11_slipWhy_9 c_0 ?_
    refine g_bipush (pc := 10) (v := 8) dX11_slipWhy_10 (by decide) ?_
    refine g_callS (pc := 12) (M' := mX11_in) (n := 3) (as := [.int a3, .int 0, .int 8]) (st := []) dX11_slipWhy_12 rfl kX11_143 sX11_in (Nat.le_of_ble_eq_true rfl) rfl rfl (Nat.le_of_ble_eq_true rfl) ?_
    refine zX11_in (a1 := a3) (a2 := 0) (a3 := 8) (w := w) (hR := hR) ?_
    show Go SR mX11_slipWhy 15 [(0, .ref 0), (1, .int a1), (2, .int a2), (3, .int a3)] [.int (vXX11_in a3 0 8)] w Q
    refine g_if_eq (pc := 15) (tgt := 34) dX11_slipWhy_15 (by decide) (fun q => ?_) (fun q => ?_)
    · have h := h.1 q
      refine g_iconst (pc := 34) dX11_slipWhy_34 c_2 ?_
      exact g_iret (pc := 35) dX11_slipWhy_35 rfl h
    · have h := h.2 q
      refine g_iload_n (pc := 18) dX11_slipWhy_18 rfl 3 rfl ?_
      refine g_aload_n (pc := 19) dX11_slipWhy_19 rfl 0 rfl ?_
      refine g_getR (pc := 20) (a := 0) (b := 3) dX11_slipWhy_20 rfl fX11_20 rfl (rm_16 hR) ?_
      refine g_iconst (pc := 23) dX11_slipWhy_23 c_4 ?_
      refine g_iload_n (pc := 24) dX11_slipWhy_24 rfl 2 rfl ?_
      refine g_iadd (pc := 25) dX11_slipWhy_25 ?_
      obtain ⟨hi1, h⟩ := h
      refine g_iald (pc := 26) (a := 3) (j := (4 + a2).toNatClampNeg) dX11_slipWhy_26 rfl hi1 rfl ?_
      have hJ : Go SR mX11_slipWhy 35 [(0, .ref 0), (1, .int a1), (2, .int a2), (3, .int a3)] [.int (if (wi w 3 ((4 + a2).toNatClampNeg)) < a3 then 2 else 0 : Int32)] w Q := by
        exact g_iret (pc := 35) dX11_slipWhy_35 rfl h
      refine g_icmp_gt (pc := 27) (tgt := 34) dX11_slipWhy_27 (by decide) (fun q27 => ?_) (fun q27 => ?_)
      · refine g_iconst (pc := 34) dX11_slipWhy_34 c_2 ?_
        first | (exfalso; contradiction) | exact cast (by simp only [if_pos q27]) hJ
      · refine g_iconst (pc := 30) dX11_slipWhy_30 c_0 ?_
        refine g_goto (pc := 31) (tgt := 35) dX11_slipWhy_31 (by decide) ?_
        first | (exfalso; contradiction) | exact cast (by simp only [if_neg q27]) hJ
  · have h := h.1 q
    refine g_iconst (pc := 4) dX11_slipWhy_4 c_1 ?_
    refine g_goto (pc := 5) (tgt := 35) dX11_slipWhy_5 (by decide) ?_
    exact g_iret (pc := 35) dX11_slipWhy_35 rfl h
set_option maxHeartbeats 4000000 in
set_option maxRecDepth 100000 in
theorem TX11_odds (a1 : Int32) (a2 : Int32) (a3 : Int32) (a4 : Int32) (a5 : Int32) (w : Wd) (hR : w.2.2 = RM) (Q : Option Value → Wd → Prop) (h : ClI SR mX11_isDance [.ref 0, .int a1] (wXX11_anew w) (fun x2 w1 => w1.2.2 = RM ∧ ClI SR mX11_slipWhy [.ref 0, .int (if x2 = 0 then 0 else (if (vXX11_areCorners a3 a4) = 0 then 0 else 1 : Int32) : Int32), .int a1, .int a2] w1 (fun x4 w3 => w3.2.2 = RM ∧ ((x4 = 0 → ClV SR mX11_trySlips [.ref 0, .int a1, .int a2, .int a3, .int a4] w3 (fun w5 => w5.2.2 = RM ∧ ClL SR mX11_lowest [.long (wl w5 0 47), .long (wl w5 0 46), .int a5] w5 (fun x7 w6 => w6.2.2 = RM ∧ Q (some (.long x7)) w6))) ∧ (¬ (x4 = 0) → Q (some (.long ((vXX11_no x4).toInt64))) (wXX11_no x4 w3)))))) : Cl SR mX11_odds [.ref 0, .int a1, .int a2, .int a3, .int a4, .int a5] w Q := by
  refine cl_of (by decide) (Nat.le_of_ble_eq_true rfl) ?_
  show Go SR mX11_odds 0 [(0, .ref 0), (1, .int a1), (2, .int a2), (3, .int a3), (4, .int a4), (5, .int a5)] [] w Q
  refine g_aload_n (pc := 0) dX11_odds_0 rfl 0 rfl ?_
  refine g_callV (pc := 1) (M' := mX11_anew) (n := 0) (a := 0) (as := []) (st := []) dX11_odds_1 rfl kX11_147 vX11_anew (Nat.le_of_ble_eq_true rfl) rfl qX11 rfl rfl (Nat.le_of_ble_eq_true rfl) ?_
  refine zX11_anew (w := w) (hR := hR) ?_
  show Go SR mX11_odds 4 [(0, .ref 0), (1, .int a1), (2, .int a2), (3, .int a3), (4, .int a4), (5, .int a5)] [] (wXX11_anew w) Q
  refine g_aload_n (pc := 4) dX11_odds_4 rfl 0 rfl ?_
  refine g_aload_n (pc := 5) dX11_odds_5 rfl 0 rfl ?_
  refine g_iload_n (pc := 6) dX11_odds_6 rfl 1 rfl ?_
  refine g_callV (pc := 7) (M' := mX11_isDance) (n := 1) (a := 0) (as := [.int a1]) (st := [.ref 0]) dX11_odds_7 rfl kX11_239 vX11_isDance (Nat.le_of_ble_eq_true rfl) rfl qX11 rfl rfl (Nat.le_of_ble_eq_true rfl) ?_
  refine cl_mono (fun r w1 hr => ?_) h
  obtain ⟨x2, rfl, hw1, h⟩ := hr
  show Go SR mX11_odds 10 [(0, .ref 0), (1, .int a1), (2, .int a2), (3, .int a3), (4, .int a4), (5, .int a5)] [.int x2, .ref 0] w1 Q
  have hJ : Go SR mX11_odds 28 [(0, .ref 0), (1, .int a1), (2, .int a2), (3, .int a3), (4, .int a4), (5, .int a5)] [.int (if x2 = 0 then 0 else (if (vXX11_areCorners a3 a4) = 0 then 0 else 1 : Int32) : Int32), .ref 0] w1 Q := by
    refine g_iload_n (pc := 28) dX11_odds_28 rfl 1 rfl ?_
    refine g_iload_n (pc := 29) dX11_odds_29 rfl 2 rfl ?_
    refine g_callV (pc := 30) (M' := mX11_slipWhy) (n := 3) (a := 0) (as := [.int (if x2 = 0 then 0 else (if (vXX11_areCorners a3 a4) = 0 then 0 else 1 : Int32) : Int32), .int a1, .int a2]) (st := []) dX11_odds_30 rfl kX11_403 vX11_slipWhy (Nat.le_of_ble_eq_true rfl) rfl qX11 rfl rfl (Nat.le_of_ble_eq_true rfl) ?_
    refine cl_mono (fun r w3 hr => ?_) h
    obtain ⟨x4, rfl, hw3, h⟩ := hr
    show Go SR mX11_odds 33 [(0, .ref 0), (1, .int a1), (2, .int a2), (3, .int a3), (4, .int a4), (5, .int a5)] [.int x4] w3 Q
    refine g_istore (pc := 33) (lv2 := [(0, .ref 0), (1, .int a1), (2, .int a2), (3, .int a3), (4, .int a4), (5, .int a5), (6, .int x4)]) dX11_odds_33 (Nat.le_of_ble_eq_true rfl) rfl ?_
    refine g_iload (pc := 35) dX11_odds_35 6 rfl ?_
    refine g_if_eq (pc := 37) (tgt := 48) dX11_odds_37 (by decide) (fun q => ?_) (fun q => ?_)
    · have h := h.1 q
      refine g_aload_n (pc := 48) dX11_odds_48 rfl 0 rfl ?_
      refine g_iload_n (pc := 49) dX11_odds_49 rfl 1 rfl ?_
      refine g_iload_n (pc := 50) dX11_odds_50 rfl 2 rfl ?_
      refine g_iload_n (pc := 51) dX11_odds_51 rfl 3 rfl ?_
      refine g_iload (pc := 52) dX11_odds_52 4 rfl ?_
      refine g_callV (pc := 54) (M' := mX11_trySlips) (n := 4) (a := 0) (as := [.int a1, .int a2, .int a3, .int a4]) (st := []) dX11_odds_54 rfl kX11_407 vX11_trySlips (Nat.le_of_ble_eq_true rfl) rfl qX11 rfl rfl (Nat.le_of_ble_eq_true rfl) ?_
      refine cl_mono (fun r w5 hr => ?_) h
      obtain ⟨rfl, hw5, h⟩ := hr
      show Go SR mX11_odds 57 [(0, .ref 0), (1, .int a1), (2, .int a2), (3, .int a3), (4, .int a4), (5, .int a5), (6, .int x4)] [] w5 Q
      refine g_aload_n (pc := 57) dX11_odds_57 rfl 0 rfl ?_
      refine g_getL (pc := 58) (a := 0) dX11_odds_58 rfl fX11_394 rfl ?_
      refine g_aload_n (pc := 61) dX11_odds_61 rfl 0 rfl ?_
      refine g_getL (pc := 62) (a := 0) dX11_odds_62 rfl fX11_390 rfl ?_
      refine g_iload (pc := 65) dX11_odds_65 5 rfl ?_
      refine g_callS (pc := 67) (M' := mX11_lowest) (n := 3) (as := [.long (wl w5 0 47), .long (wl w5 0 46), .int a5]) (st := []) dX11_odds_67 rfl kX11_410 sX11_lowest (Nat.le_of_ble_eq_true rfl) rfl rfl (Nat.le_of_ble_eq_true rfl) ?_
      refine cl_mono (fun r w6 hr => ?_) h
      obtain ⟨x7, rfl, hw6, h⟩ := hr
      show Go SR mX11_odds 70 [(0, .ref 0), (1, .int a1), (2, .int a2), (3, .int a3), (4, .int a4), (5, .int a5), (6, .int x4)] [.long x7] w6 Q
      exact g_lret (pc := 70) dX11_odds_70 rfl h
    · have h := h.2 q
      refine g_aload_n (pc := 40) dX11_odds_40 rfl 0 rfl ?_
      refine g_iload (pc := 41) dX11_odds_41 6 rfl ?_
      refine g_callV (pc := 43) (M' := mX11_no) (n := 1) (a := 0) (as := [.int x4]) (st := []) dX11_odds_43 rfl kX11_150 vX11_no (Nat.le_of_ble_eq_true rfl) rfl qX11 rfl rfl (Nat.le_of_ble_eq_true rfl) ?_
      refine zX11_no (a1 := x4) (w := w3) (hR := hw3) ?_
      show Go SR mX11_odds 46 [(0, .ref 0), (1, .int a1), (2, .int a2), (3, .int a3), (4, .int a4), (5, .int a5), (6, .int x4)] [.int (vXX11_no x4)] (wXX11_no x4 w3) Q
      refine g_i2l (pc := 46) dX11_odds_46 ?_
      exact g_lret (pc := 47) dX11_odds_47 rfl h
  refine g_if_eq (pc := 10) (tgt := 27) dX11_odds_10 (by decide) (fun q10 => ?_) (fun q10 => ?_)
  · refine g_iconst (pc := 27) dX11_odds_27 c_0 ?_
    first | (exfalso; contradiction) | exact cast (by simp only [if_pos q10]) hJ
  · refine g_aload_n (pc := 13) dX11_odds_13 rfl 0 rfl ?_
    refine g_iload_n (pc := 14) dX11_odds_14 rfl 3 rfl ?_
    refine g_iload (pc := 15) dX11_odds_15 4 rfl ?_
    refine g_callV (pc := 17) (M' := mX11_areCorners) (n := 2) (a := 0) (as := [.int a3, .int a4]) (st := [.ref 0]) dX11_odds_17 rfl kX11_257 vX11_areCorners (Nat.le_of_ble_eq_true rfl) rfl qX11 rfl rfl (Nat.le_of_ble_eq_true rfl) ?_
    refine zX11_areCorners (a1 := a3) (a2 := a4) (w := w1) (hR := hw1) ?_
    show Go SR mX11_odds 20 [(0, .ref 0), (1, .int a1), (2, .int a2), (3, .int a3), (4, .int a4), (5, .int a5)] [.int (vXX11_areCorners a3 a4), .ref 0] w1 Q
    refine g_if_eq (pc := 20) (tgt := 27) dX11_odds_20 (by decide) (fun q20 => ?_) (fun q20 => ?_)
    · refine g_iconst (pc := 27) dX11_odds_27 c_0 ?_
      first | (exfalso; contradiction) | exact cast (by simp only [if_neg q10, if_pos q20]) hJ
    · refine g_iconst (pc := 23) dX11_odds_23 c_1 ?_
      refine g_goto (pc := 24) (tgt := 28) dX11_odds_24 (by decide) ?_
      first | (exfalso; contradiction) | exact cast (by simp only [if_neg q10, if_neg q20]) hJ
set_option maxHeartbeats 4000000 in
set_option maxRecDepth 100000 in
theorem TX11_untied (a1 : Int32) (a2 : Int32) (a3 : Int32) (w : Wd) (hR : w.2.2 = RM) (Q : Option Value → Wd → Prop) (h : ClI SR mX11_isDance [.ref 0, .int a1] (wXX11_anew w) (fun x2 w1 => w1.2.2 = RM ∧ ClI SR mX11_slipWhy [.ref 0, .int x2, .int a1, .int a2] w1 (fun x4 w3 => w3.2.2 = RM ∧ ((x4 = 0 → ClV SR mX11_trySlips [.ref 0, .int a1, .int a2, .int 0, .int 1] w3 (fun w5 => w5.2.2 = RM ∧ ClL SR mX11_lowest [.long (wl w5 0 48), .long (wl w5 0 46), .int a3] w5 (fun x7 w6 => w6.2.2 = RM ∧ Q (some (.long x7)) w6))) ∧ (¬ (x4 = 0) → Q (some (.long ((vXX11_no x4).toInt64))) (wXX11_no x4 w3)))))) : Cl SR mX11_untied [.ref 0, .int a1, .int a2, .int a3] w Q := by
  refine cl_of (by decide) (Nat.le_of_ble_eq_true rfl) ?_
  show Go SR mX11_untied 0 [(0, .ref 0), (1, .int a1), (2, .int a2), (3, .int a3)] [] w Q
  refine g_aload_n (pc := 0) dX11_untied_0 rfl 0 rfl ?_
  refine g_callV (pc := 1) (M' := mX11_anew) (n := 0) (a := 0) (as := []) (st := []) dX11_untied_1 rfl kX11_147 vX11_anew (Nat.le_of_ble_eq_true rfl) rfl qX11 rfl rfl (Nat.le_of_ble_eq_true rfl) ?_
  refine zX11_anew (w := w) (hR := hR) ?_
  show Go SR mX11_untied 4 [(0, .ref 0), (1, .int a1), (2, .int a2), (3, .int a3)] [] (wXX11_anew w) Q
  refine g_aload_n (pc := 4) dX11_untied_4 rfl 0 rfl ?_
  refine g_aload_n (pc := 5) dX11_untied_5 rfl 0 rfl ?_
  refine g_iload_n (pc := 6) dX11_untied_6 rfl 1 rfl ?_
  refine g_callV (pc := 7) (M' := mX11_isDance) (n := 1) (a := 0) (as := [.int a1]) (st := [.ref 0]) dX11_untied_7 rfl kX11_239 vX11_isDance (Nat.le_of_ble_eq_true rfl) rfl qX11 rfl rfl (Nat.le_of_ble_eq_true rfl) ?_
  refine cl_mono (fun r w1 hr => ?_) h
  obtain ⟨x2, rfl, hw1, h⟩ := hr
  show Go SR mX11_untied 10 [(0, .ref 0), (1, .int a1), (2, .int a2), (3, .int a3)] [.int x2, .ref 0] w1 Q
  refine g_iload_n (pc := 10) dX11_untied_10 rfl 1 rfl ?_
  refine g_iload_n (pc := 11) dX11_untied_11 rfl 2 rfl ?_
  refine g_callV (pc := 12) (M' := mX11_slipWhy) (n := 3) (a := 0) (as := [.int x2, .int a1, .int a2]) (st := []) dX11_untied_12 rfl kX11_403 vX11_slipWhy (Nat.le_of_ble_eq_true rfl) rfl qX11 rfl rfl (Nat.le_of_ble_eq_true rfl) ?_
  refine cl_mono (fun r w3 hr => ?_) h
  obtain ⟨x4, rfl, hw3, h⟩ := hr
  show Go SR mX11_untied 15 [(0, .ref 0), (1, .int a1), (2, .int a2), (3, .int a3)] [.int x4] w3 Q
  refine g_istore (pc := 15) (lv2 := [(0, .ref 0), (1, .int a1), (2, .int a2), (3, .int a3), (4, .int x4)]) dX11_untied_15 (Nat.le_of_ble_eq_true rfl) rfl ?_
  refine g_iload (pc := 17) dX11_untied_17 4 rfl ?_
  refine g_if_eq (pc := 19) (tgt := 30) dX11_untied_19 (by decide) (fun q => ?_) (fun q => ?_)
  · have h := h.1 q
    refine g_aload_n (pc := 30) dX11_untied_30 rfl 0 rfl ?_
    refine g_iload_n (pc := 31) dX11_untied_31 rfl 1 rfl ?_
    refine g_iload_n (pc := 32) dX11_untied_32 rfl 2 rfl ?_
    refine g_iconst (pc := 33) dX11_untied_33 c_0 ?_
    refine g_iconst (pc := 34) dX11_untied_34 c_1 ?_
    refine g_callV (pc := 35) (M' := mX11_trySlips) (n := 4) (a := 0) (as := [.int a1, .int a2, .int 0, .int 1]) (st := []) dX11_untied_35 rfl kX11_407 vX11_trySlips (Nat.le_of_ble_eq_true rfl) rfl qX11 rfl rfl (Nat.le_of_ble_eq_true rfl) ?_
    refine cl_mono (fun r w5 hr => ?_) h
    obtain ⟨rfl, hw5, h⟩ := hr
    show Go SR mX11_untied 38 [(0, .ref 0), (1, .int a1), (2, .int a2), (3, .int a3), (4, .int x4)] [] w5 Q
    refine g_aload_n (pc := 38) dX11_untied_38 rfl 0 rfl ?_
    refine g_getL (pc := 39) (a := 0) dX11_untied_39 rfl fX11_397 rfl ?_
    refine g_aload_n (pc := 42) dX11_untied_42 rfl 0 rfl ?_
    refine g_getL (pc := 43) (a := 0) dX11_untied_43 rfl fX11_390 rfl ?_
    refine g_iload_n (pc := 46) dX11_untied_46 rfl 3 rfl ?_
    refine g_callS (pc := 47) (M' := mX11_lowest) (n := 3) (as := [.long (wl w5 0 48), .long (wl w5 0 46), .int a3]) (st := []) dX11_untied_47 rfl kX11_410 sX11_lowest (Nat.le_of_ble_eq_true rfl) rfl rfl (Nat.le_of_ble_eq_true rfl) ?_
    refine cl_mono (fun r w6 hr => ?_) h
    obtain ⟨x7, rfl, hw6, h⟩ := hr
    show Go SR mX11_untied 50 [(0, .ref 0), (1, .int a1), (2, .int a2), (3, .int a3), (4, .int x4)] [.long x7] w6 Q
    exact g_lret (pc := 50) dX11_untied_50 rfl h
  · have h := h.2 q
    refine g_aload_n (pc := 22) dX11_untied_22 rfl 0 rfl ?_
    refine g_iload (pc := 23) dX11_untied_23 4 rfl ?_
    refine g_callV (pc := 25) (M' := mX11_no) (n := 1) (a := 0) (as := [.int x4]) (st := []) dX11_untied_25 rfl kX11_150 vX11_no (Nat.le_of_ble_eq_true rfl) rfl qX11 rfl rfl (Nat.le_of_ble_eq_true rfl) ?_
    refine zX11_no (a1 := x4) (w := w3) (hR := hw3) ?_
    show Go SR mX11_untied 28 [(0, .ref 0), (1, .int a1), (2, .int a2), (3, .int a3), (4, .int x4)] [.int (vXX11_no x4)] (wXX11_no x4 w3) Q
    refine g_i2l (pc := 28) dX11_untied_28 ?_
    exact g_lret (pc := 29) dX11_untied_29 rfl h
set_option maxHeartbeats 4000000 in
set_option maxRecDepth 100000 in
theorem TX11_mean (a1 : Int32) (a2 : Int32) (a3 : Int32) (w : Wd) (hR : w.2.2 = RM) (Q : Option Value → Wd → Prop) (h : ClI SR mX11_isDance [.ref 0, .int a1] (wXX11_anew w) (fun x2 w1 => w1.2.2 = RM ∧ ClI SR mX11_slipWhy [.ref 0, .int x2, .int a1, .int a2] w1 (fun x4 w3 => w3.2.2 = RM ∧ ((x4 = 0 → ClV SR mX11_trySlips [.ref 0, .int a1, .int a2, .int 0, .int 1] w3 (fun w5 => w5.2.2 = RM ∧ ClL SR mX11_lowest [.long (wl w5 0 49), .long (wl w5 0 46), .int a3] w5 (fun x7 w6 => w6.2.2 = RM ∧ Q (some (.long x7)) w6))) ∧ (¬ (x4 = 0) → Q (some (.long ((vXX11_no x4).toInt64))) (wXX11_no x4 w3)))))) : Cl SR mX11_mean [.ref 0, .int a1, .int a2, .int a3] w Q := by
  refine cl_of (by decide) (Nat.le_of_ble_eq_true rfl) ?_
  show Go SR mX11_mean 0 [(0, .ref 0), (1, .int a1), (2, .int a2), (3, .int a3)] [] w Q
  refine g_aload_n (pc := 0) dX11_mean_0 rfl 0 rfl ?_
  refine g_callV (pc := 1) (M' := mX11_anew) (n := 0) (a := 0) (as := []) (st := []) dX11_mean_1 rfl kX11_147 vX11_anew (Nat.le_of_ble_eq_true rfl) rfl qX11 rfl rfl (Nat.le_of_ble_eq_true rfl) ?_
  refine zX11_anew (w := w) (hR := hR) ?_
  show Go SR mX11_mean 4 [(0, .ref 0), (1, .int a1), (2, .int a2), (3, .int a3)] [] (wXX11_anew w) Q
  refine g_aload_n (pc := 4) dX11_mean_4 rfl 0 rfl ?_
  refine g_aload_n (pc := 5) dX11_mean_5 rfl 0 rfl ?_
  refine g_iload_n (pc := 6) dX11_mean_6 rfl 1 rfl ?_
  refine g_callV (pc := 7) (M' := mX11_isDance) (n := 1) (a := 0) (as := [.int a1]) (st := [.ref 0]) dX11_mean_7 rfl kX11_239 vX11_isDance (Nat.le_of_ble_eq_true rfl) rfl qX11 rfl rfl (Nat.le_of_ble_eq_true rfl) ?_
  refine cl_mono (fun r w1 hr => ?_) h
  obtain ⟨x2, rfl, hw1, h⟩ := hr
  show Go SR mX11_mean 10 [(0, .ref 0), (1, .int a1), (2, .int a2), (3, .int a3)] [.int x2, .ref 0] w1 Q
  refine g_iload_n (pc := 10) dX11_mean_10 rfl 1 rfl ?_
  refine g_iload_n (pc := 11) dX11_mean_11 rfl 2 rfl ?_
  refine g_callV (pc := 12) (M' := mX11_slipWhy) (n := 3) (a := 0) (as := [.int x2, .int a1, .int a2]) (st := []) dX11_mean_12 rfl kX11_403 vX11_slipWhy (Nat.le_of_ble_eq_true rfl) rfl qX11 rfl rfl (Nat.le_of_ble_eq_true rfl) ?_
  refine cl_mono (fun r w3 hr => ?_) h
  obtain ⟨x4, rfl, hw3, h⟩ := hr
  show Go SR mX11_mean 15 [(0, .ref 0), (1, .int a1), (2, .int a2), (3, .int a3)] [.int x4] w3 Q
  refine g_istore (pc := 15) (lv2 := [(0, .ref 0), (1, .int a1), (2, .int a2), (3, .int a3), (4, .int x4)]) dX11_mean_15 (Nat.le_of_ble_eq_true rfl) rfl ?_
  refine g_iload (pc := 17) dX11_mean_17 4 rfl ?_
  refine g_if_eq (pc := 19) (tgt := 30) dX11_mean_19 (by decide) (fun q => ?_) (fun q => ?_)
  · have h := h.1 q
    refine g_aload_n (pc := 30) dX11_mean_30 rfl 0 rfl ?_
    refine g_iload_n (pc := 31) dX11_mean_31 rfl 1 rfl ?_
    refine g_iload_n (pc := 32) dX11_mean_32 rfl 2 rfl ?_
    refine g_iconst (pc := 33) dX11_mean_33 c_0 ?_
    refine g_iconst (pc := 34) dX11_mean_34 c_1 ?_
    refine g_callV (pc := 35) (M' := mX11_trySlips) (n := 4) (a := 0) (as := [.int a1, .int a2, .int 0, .int 1]) (st := []) dX11_mean_35 rfl kX11_407 vX11_trySlips (Nat.le_of_ble_eq_true rfl) rfl qX11 rfl rfl (Nat.le_of_ble_eq_true rfl) ?_
    refine cl_mono (fun r w5 hr => ?_) h
    obtain ⟨rfl, hw5, h⟩ := hr
    show Go SR mX11_mean 38 [(0, .ref 0), (1, .int a1), (2, .int a2), (3, .int a3), (4, .int x4)] [] w5 Q
    refine g_aload_n (pc := 38) dX11_mean_38 rfl 0 rfl ?_
    refine g_getL (pc := 39) (a := 0) dX11_mean_39 rfl fX11_400 rfl ?_
    refine g_aload_n (pc := 42) dX11_mean_42 rfl 0 rfl ?_
    refine g_getL (pc := 43) (a := 0) dX11_mean_43 rfl fX11_390 rfl ?_
    refine g_iload_n (pc := 46) dX11_mean_46 rfl 3 rfl ?_
    refine g_callS (pc := 47) (M' := mX11_lowest) (n := 3) (as := [.long (wl w5 0 49), .long (wl w5 0 46), .int a3]) (st := []) dX11_mean_47 rfl kX11_410 sX11_lowest (Nat.le_of_ble_eq_true rfl) rfl rfl (Nat.le_of_ble_eq_true rfl) ?_
    refine cl_mono (fun r w6 hr => ?_) h
    obtain ⟨x7, rfl, hw6, h⟩ := hr
    show Go SR mX11_mean 50 [(0, .ref 0), (1, .int a1), (2, .int a2), (3, .int a3), (4, .int x4)] [.long x7] w6 Q
    exact g_lret (pc := 50) dX11_mean_50 rfl h
  · have h := h.2 q
    refine g_aload_n (pc := 22) dX11_mean_22 rfl 0 rfl ?_
    refine g_iload (pc := 23) dX11_mean_23 4 rfl ?_
    refine g_callV (pc := 25) (M' := mX11_no) (n := 1) (a := 0) (as := [.int x4]) (st := []) dX11_mean_25 rfl kX11_150 vX11_no (Nat.le_of_ble_eq_true rfl) rfl qX11 rfl rfl (Nat.le_of_ble_eq_true rfl) ?_
    refine zX11_no (a1 := x4) (w := w3) (hR := hw3) ?_
    show Go SR mX11_mean 28 [(0, .ref 0), (1, .int a1), (2, .int a2), (3, .int a3), (4, .int x4)] [.int (vXX11_no x4)] (wXX11_no x4 w3) Q
    refine g_i2l (pc := 28) dX11_mean_28 ?_
    exact g_lret (pc := 29) dX11_mean_29 rfl h
set_option maxHeartbeats 4000000 in
set_option maxRecDepth 100000 in
theorem TX11_drawWhy (a1 : Int32) (a2 : Int32) (a3 : Int32) (w : Wd) (hR : w.2.2 = RM) (Q : Option Value → Wd → Prop) (h : ClI SR mX11_isDance [.ref 0, .int a1] w (fun x2 w1 => w1.2.2 = RM ∧ ((x2 = 0 → (((1 : Int32) = (0 : Int32) → Go SR mX11_drawWhy 63 [(0, .ref 0), (1, .int a1), (2, .int a2), (3, .int a3), (4, .int 1), (5, .int a2), (6, .int 0), (7, .int 0)] [] w1 Q) ∧ (¬ ((1 : Int32) = (0 : Int32)) → Q (some (.int 1)) w1))) ∧ (¬ (x2 = 0) → (((vXX11_in a2 0 65536) = 0 → (((2 : Int32) = (0 : Int32) → Go SR mX11_drawWhy 63 [(0, .ref 0), (1, .int a1), (2, .int a2), (3, .int a3), (4, .int 2), (5, .int a2), (6, .int 0), (7, .int 0)] [] w1 Q) ∧ (¬ ((2 : Int32) = (0 : Int32)) → Q (some (.int 2)) w1))) ∧ (¬ ((vXX11_in a2 0 65536) = 0) → vp_in (4 + a1) 146 ∧ (((if (vXX11_in a3 0 (wi w1 3 ((4 + a1).toNatClampNeg))) = 0 then 2 else 0 : Int32) = (0 : Int32) → Go SR mX11_drawWhy 63 [(0, .ref 0), (1, .int a1), (2, .int a2), (3, .int a3), (4, .int (if (vXX11_in a3 0 (wi w1 3 ((4 + a1).toNatClampNeg))) = 0 then 2 else 0 : Int32)), (5, .int a2), (6, .int 0), (7, .int 0)] [] w1 Q) ∧ (¬ ((if (vXX11_in a3 0 (wi w1 3 ((4 + a1).toNatClampNeg))) = 0 then 2 else 0 : Int32) = (0 : Int32)) → Q (some (.int (if (vXX11_in a3 0 (wi w1 3 ((4 + a1).toNatClampNeg))) = 0 then 2 else 0 : Int32))) w1)))))))) : Cl SR mX11_drawWhy [.ref 0, .int a1, .int a2, .int a3] w Q := by
  refine cl_of (by decide) (Nat.le_of_ble_eq_true rfl) ?_
  show Go SR mX11_drawWhy 0 [(0, .ref 0), (1, .int a1), (2, .int a2), (3, .int a3)] [] w Q
  refine g_aload_n (pc := 0) dX11_drawWhy_0 rfl 0 rfl ?_
  refine g_iload_n (pc := 1) dX11_drawWhy_1 rfl 1 rfl ?_
  refine g_callV (pc := 2) (M' := mX11_isDance) (n := 1) (a := 0) (as := [.int a1]) (st := []) dX11_drawWhy_2 rfl kX11_239 vX11_isDance (Nat.le_of_ble_eq_true rfl) rfl qX11 rfl rfl (Nat.le_of_ble_eq_true rfl) ?_
  refine cl_mono (fun r w1 hr => ?_) h
  obtain ⟨x2, rfl, hw1, h⟩ := hr
  show Go SR mX11_drawWhy 5 [(0, .ref 0), (1, .int a1), (2, .int a2), (3, .int a3)] [.int x2] w1 Q
  refine g_if_ne (pc := 5) (tgt := 12) dX11_drawWhy_5 (by decide) (fun q => ?_) (fun q => ?_)
  · have h := h.2 q
    refine g_iload_n (pc := 12) dX11_drawWhy_12 rfl 2 rfl ?_
    refine g_iconst (pc := 13) dX11_drawWhy_13 c_0 ?_
    refine g_ldcw (pc := 14) dX11_drawWhy_14 rfl nX11_414 ?_
    refine g_callS (pc := 17) (M' := mX11_in) (n := 3) (as := [.int a2, .int 0, .int 65536]) (st := []) dX11_drawWhy_17 rfl kX11_143 sX11_in (Nat.le_of_ble_eq_true rfl) rfl rfl (Nat.le_of_ble_eq_true rfl) ?_
    refine zX11_in (a1 := a2) (a2 := 0) (a3 := 65536) (w := w1) (hR := hw1) ?_
    show Go SR mX11_drawWhy 20 [(0, .ref 0), (1, .int a1), (2, .int a2), (3, .int a3)] [.int (vXX11_in a2 0 65536)] w1 Q
    refine g_if_eq (pc := 20) (tgt := 43) dX11_drawWhy_20 (by decide) (fun q => ?_) (fun q => ?_)
    · have h := h.1 q
      refine g_iconst (pc := 43) dX11_drawWhy_43 c_2 ?_
      refine g_istore (pc := 44) (lv2 := [(0, .ref 0), (1, .int a1), (2, .int a2), (3, .int a3), (4, .int 2)]) dX11_drawWhy_44 (Nat.le_of_ble_eq_true rfl) rfl ?_
      refine g_iload (pc := 46) dX11_drawWhy_46 4 rfl ?_
      refine g_if_eq (pc := 48) (tgt := 54) dX11_drawWhy_48 (by decide) (fun q => ?_) (fun q => ?_)
      · have h := h.1 q
        refine g_iload_n (pc := 54) dX11_drawWhy_54 rfl 2 rfl ?_
        refine g_istore (pc := 55) (lv2 := [(0, .ref 0), (1, .int a1), (2, .int a2), (3, .int a3), (4, .int 2), (5, .int a2)]) dX11_drawWhy_55 (Nat.le_of_ble_eq_true rfl) rfl ?_
        refine g_iconst (pc := 57) dX11_drawWhy_57 c_0 ?_
        refine g_istore (pc := 58) (lv2 := [(0, .ref 0), (1, .int a1), (2, .int a2), (3, .int a3), (4, .int 2), (5, .int a2), (6, .int 0)]) dX11_drawWhy_58 (Nat.le_of_ble_eq_true rfl) rfl ?_
        refine g_iconst (pc := 60) dX11_drawWhy_60 c_0 ?_
        refine g_istore (pc := 61) (lv2 := [(0, .ref 0), (1, .int a1), (2, .int a2), (3, .int a3), (4, .int 2), (5, .int a2), (6, .int 0), (7, .int 0)]) dX11_drawWhy_61 (Nat.le_of_ble_eq_true rfl) rfl ?_
        exact h
      · have h := h.2 q
        refine g_iload (pc := 51) dX11_drawWhy_51 4 rfl ?_
        exact g_iret (pc := 53) dX11_drawWhy_53 rfl h
    · have h := h.2 q
      refine g_iload_n (pc := 23) dX11_drawWhy_23 rfl 3 rfl ?_
      refine g_iconst (pc := 24) dX11_drawWhy_24 c_0 ?_
      refine g_aload_n (pc := 25) dX11_drawWhy_25 rfl 0 rfl ?_
      refine g_getR (pc := 26) (a := 0) (b := 3) dX11_drawWhy_26 rfl fX11_20 rfl (rm_16 hw1) ?_
      refine g_iconst (pc := 29) dX11_drawWhy_29 c_4 ?_
      refine g_iload_n (pc := 30) dX11_drawWhy_30 rfl 1 rfl ?_
      refine g_iadd (pc := 31) dX11_drawWhy_31 ?_
      obtain ⟨hi3, h⟩ := h
      refine g_iald (pc := 32) (a := 3) (j := (4 + a1).toNatClampNeg) dX11_drawWhy_32 rfl hi3 rfl ?_
      refine g_callS (pc := 33) (M' := mX11_in) (n := 3) (as := [.int a3, .int 0, .int (wi w1 3 ((4 + a1).toNatClampNeg))]) (st := []) dX11_drawWhy_33 rfl kX11_143 sX11_in (Nat.le_of_ble_eq_true rfl) rfl rfl (Nat.le_of_ble_eq_true rfl) ?_
      refine zX11_in (a1 := a3) (a2 := 0) (a3 := (wi w1 3 ((4 + a1).toNatClampNeg))) (w := w1) (hR := hw1) ?_
      show Go SR mX11_drawWhy 36 [(0, .ref 0), (1, .int a1), (2, .int a2), (3, .int a3)] [.int (vXX11_in a3 0 (wi w1 3 ((4 + a1).toNatClampNeg)))] w1 Q
      have hJ : Go SR mX11_drawWhy 44 [(0, .ref 0), (1, .int a1), (2, .int a2), (3, .int a3)] [.int (if (vXX11_in a3 0 (wi w1 3 ((4 + a1).toNatClampNeg))) = 0 then 2 else 0 : Int32)] w1 Q := by
        refine g_istore (pc := 44) (lv2 := [(0, .ref 0), (1, .int a1), (2, .int a2), (3, .int a3), (4, .int (if (vXX11_in a3 0 (wi w1 3 ((4 + a1).toNatClampNeg))) = 0 then 2 else 0 : Int32))]) dX11_drawWhy_44 (Nat.le_of_ble_eq_true rfl) rfl ?_
        refine g_iload (pc := 46) dX11_drawWhy_46 4 rfl ?_
        refine g_if_eq (pc := 48) (tgt := 54) dX11_drawWhy_48 (by decide) (fun q => ?_) (fun q => ?_)
        · have h := h.1 q
          refine g_iload_n (pc := 54) dX11_drawWhy_54 rfl 2 rfl ?_
          refine g_istore (pc := 55) (lv2 := [(0, .ref 0), (1, .int a1), (2, .int a2), (3, .int a3), (4, .int (if (vXX11_in a3 0 (wi w1 3 ((4 + a1).toNatClampNeg))) = 0 then 2 else 0 : Int32)), (5, .int a2)]) dX11_drawWhy_55 (Nat.le_of_ble_eq_true rfl) rfl ?_
          refine g_iconst (pc := 57) dX11_drawWhy_57 c_0 ?_
          refine g_istore (pc := 58) (lv2 := [(0, .ref 0), (1, .int a1), (2, .int a2), (3, .int a3), (4, .int (if (vXX11_in a3 0 (wi w1 3 ((4 + a1).toNatClampNeg))) = 0 then 2 else 0 : Int32)), (5, .int a2), (6, .int 0)]) dX11_drawWhy_58 (Nat.le_of_ble_eq_true rfl) rfl ?_
          refine g_iconst (pc := 60) dX11_drawWhy_60 c_0 ?_
          refine g_istore (pc := 61) (lv2 := [(0, .ref 0), (1, .int a1), (2, .int a2), (3, .int a3), (4, .int (if (vXX11_in a3 0 (wi w1 3 ((4 + a1).toNatClampNeg))) = 0 then 2 else 0 : Int32)), (5, .int a2), (6, .int 0), (7, .int 0)]) dX11_drawWhy_61 (Nat.le_of_ble_eq_true rfl) rfl ?_
          exact h
        · have h := h.2 q
          refine g_iload (pc := 51) dX11_drawWhy_51 4 rfl ?_
          exact g_iret (pc := 53) dX11_drawWhy_53 rfl h
      refine g_if_eq (pc := 36) (tgt := 43) dX11_drawWhy_36 (by decide) (fun q36 => ?_) (fun q36 => ?_)
      · refine g_iconst (pc := 43) dX11_drawWhy_43 c_2 ?_
        first | (exfalso; contradiction) | exact cast (by simp only [if_pos q36]) hJ
      · refine g_iconst (pc := 39) dX11_drawWhy_39 c_0 ?_
        refine g_goto (pc := 40) (tgt := 44) dX11_drawWhy_40 (by decide) ?_
        first | (exfalso; contradiction) | exact cast (by simp only [if_neg q36]) hJ
  · have h := h.1 q
    refine g_iconst (pc := 8) dX11_drawWhy_8 c_1 ?_
    refine g_goto (pc := 9) (tgt := 44) dX11_drawWhy_9 (by decide) ?_
    refine g_istore (pc := 44) (lv2 := [(0, .ref 0), (1, .int a1), (2, .int a2), (3, .int a3), (4, .int 1)]) dX11_drawWhy_44 (Nat.le_of_ble_eq_true rfl) rfl ?_
    refine g_iload (pc := 46) dX11_drawWhy_46 4 rfl ?_
    refine g_if_eq (pc := 48) (tgt := 54) dX11_drawWhy_48 (by decide) (fun q => ?_) (fun q => ?_)
    · have h := h.1 q
      refine g_iload_n (pc := 54) dX11_drawWhy_54 rfl 2 rfl ?_
      refine g_istore (pc := 55) (lv2 := [(0, .ref 0), (1, .int a1), (2, .int a2), (3, .int a3), (4, .int 1), (5, .int a2)]) dX11_drawWhy_55 (Nat.le_of_ble_eq_true rfl) rfl ?_
      refine g_iconst (pc := 57) dX11_drawWhy_57 c_0 ?_
      refine g_istore (pc := 58) (lv2 := [(0, .ref 0), (1, .int a1), (2, .int a2), (3, .int a3), (4, .int 1), (5, .int a2), (6, .int 0)]) dX11_drawWhy_58 (Nat.le_of_ble_eq_true rfl) rfl ?_
      refine g_iconst (pc := 60) dX11_drawWhy_60 c_0 ?_
      refine g_istore (pc := 61) (lv2 := [(0, .ref 0), (1, .int a1), (2, .int a2), (3, .int a3), (4, .int 1), (5, .int a2), (6, .int 0), (7, .int 0)]) dX11_drawWhy_61 (Nat.le_of_ble_eq_true rfl) rfl ?_
      exact h
    · have h := h.2 q
      refine g_iload (pc := 51) dX11_drawWhy_51 4 rfl ?_
      exact g_iret (pc := 53) dX11_drawWhy_53 rfl h
set_option maxHeartbeats 4000000 in
set_option maxRecDepth 100000 in
theorem BX11_drawWhy_63  (l1 : Int32) (l2 : Int32) (l3 : Int32) (l4 : Int32) (l5 : Int32) (l6 : Int32) (l7 : Int32) (w : Wd) (hR : w.2.2 = RM) (Q : Option Value → Wd → Prop) (h : ((l3 ≤ l7 → ClV SR mX11_dance [.ref 0, .int l1, .int l3, .int 0, .int l6] w (fun w1 => w1.2.2 = RM ∧ Q (some (.int 0)) w1)) ∧ (¬ (l3 ≤ l7) → Go SR mX11_drawWhy 63 [(0, .ref 0), (1, .int l1), (2, .int l2), (3, .int l3), (4, .int l4), (5, .int (((75 * l5) + 74) % 65537)), (6, .int (l6 ||| (if (wi w 3 0) ≤ ((((75 * l5) + 74) % 65537) % 100) then 0 else 1 <<< (l7 &&& 31) : Int32))), (7, .int (l7 + 1))] [] w Q))) : Go SR mX11_drawWhy 63 [(0, .ref 0), (1, .int l1), (2, .int l2), (3, .int l3), (4, .int l4), (5, .int l5), (6, .int l6), (7, .int l7)] [] w Q := by
  refine g_iload (pc := 63) dX11_drawWhy_63 7 rfl ?_
  refine g_iload_n (pc := 65) dX11_drawWhy_65 rfl 3 rfl ?_
  refine g_icmp_ge (pc := 66) (tgt := 116) dX11_drawWhy_66 (by decide) (fun q => ?_) (fun q => ?_)
  · have h := h.1 q
    refine g_aload_n (pc := 116) dX11_drawWhy_116 rfl 0 rfl ?_
    refine g_iload_n (pc := 117) dX11_drawWhy_117 rfl 1 rfl ?_
    refine g_iload_n (pc := 118) dX11_drawWhy_118 rfl 3 rfl ?_
    refine g_iconst (pc := 119) dX11_drawWhy_119 c_0 ?_
    refine g_iload (pc := 120) dX11_drawWhy_120 6 rfl ?_
    refine g_callV (pc := 122) (M' := mX11_dance) (n := 4) (a := 0) (as := [.int l1, .int l3, .int 0, .int l6]) (st := []) dX11_drawWhy_122 rfl kX11_166 vX11_dance (Nat.le_of_ble_eq_true rfl) rfl qX11 rfl rfl (Nat.le_of_ble_eq_true rfl) ?_
    refine cl_mono (fun r w1 hr => ?_) h
    obtain ⟨rfl, hw1, h⟩ := hr
    show Go SR mX11_drawWhy 125 [(0, .ref 0), (1, .int l1), (2, .int l2), (3, .int l3), (4, .int l4), (5, .int l5), (6, .int l6), (7, .int l7)] [] w1 Q
    refine g_iconst (pc := 125) dX11_drawWhy_125 c_0 ?_
    exact g_iret (pc := 126) dX11_drawWhy_126 rfl h
  · have h := h.2 q
    refine g_bipush (pc := 69) (v := 75) dX11_drawWhy_69 (by decide) ?_
    refine g_iload (pc := 71) dX11_drawWhy_71 5 rfl ?_
    refine g_imul (pc := 73) dX11_drawWhy_73 ?_
    refine g_bipush (pc := 74) (v := 74) dX11_drawWhy_74 (by decide) ?_
    refine g_iadd (pc := 76) dX11_drawWhy_76 ?_
    refine g_ldcw (pc := 77) dX11_drawWhy_77 rfl nX11_415 ?_
    refine g_irem (pc := 80) dX11_drawWhy_80 (by decide) ?_
    refine g_istore (pc := 81) (lv2 := [(0, .ref 0), (1, .int l1), (2, .int l2), (3, .int l3), (4, .int l4), (5, .int (((75 * l5) + 74) % 65537)), (6, .int l6), (7, .int l7)]) dX11_drawWhy_81 (Nat.le_of_ble_eq_true rfl) rfl ?_
    refine g_iload (pc := 83) dX11_drawWhy_83 6 rfl ?_
    refine g_iload (pc := 85) dX11_drawWhy_85 5 rfl ?_
    refine g_bipush (pc := 87) (v := 100) dX11_drawWhy_87 (by decide) ?_
    refine g_irem (pc := 89) dX11_drawWhy_89 (by decide) ?_
    refine g_aload_n (pc := 90) dX11_drawWhy_90 rfl 0 rfl ?_
    refine g_getR (pc := 91) (a := 0) (b := 3) dX11_drawWhy_91 rfl fX11_20 rfl (rm_16 hR) ?_
    refine g_iconst (pc := 94) dX11_drawWhy_94 c_0 ?_
    refine g_iald (pc := 95) (a := 3) (j := 0) dX11_drawWhy_95 rfl (vin (by decide) (by decide)) (by decide) ?_
    have hJ : Go SR mX11_drawWhy 107 [(0, .ref 0), (1, .int l1), (2, .int l2), (3, .int l3), (4, .int l4), (5, .int (((75 * l5) + 74) % 65537)), (6, .int l6), (7, .int l7)] [.int (if (wi w 3 0) ≤ ((((75 * l5) + 74) % 65537) % 100) then 0 else 1 <<< (l7 &&& 31) : Int32), .int l6] w Q := by
      refine g_ior (pc := 107) dX11_drawWhy_107 ?_
      refine g_istore (pc := 108) (lv2 := [(0, .ref 0), (1, .int l1), (2, .int l2), (3, .int l3), (4, .int l4), (5, .int (((75 * l5) + 74) % 65537)), (6, .int (l6 ||| (if (wi w 3 0) ≤ ((((75 * l5) + 74) % 65537) % 100) then 0 else 1 <<< (l7 &&& 31) : Int32))), (7, .int l7)]) dX11_drawWhy_108 (Nat.le_of_ble_eq_true rfl) rfl ?_
      refine g_iinc (pc := 110) (v := l7 + 1) (lv2 := [(0, .ref 0), (1, .int l1), (2, .int l2), (3, .int l3), (4, .int l4), (5, .int (((75 * l5) + 74) % 65537)), (6, .int (l6 ||| (if (wi w 3 0) ≤ ((((75 * l5) + 74) % 65537) % 100) then 0 else 1 <<< (l7 &&& 31) : Int32))), (7, .int (l7 + 1))]) dX11_drawWhy_110 7 rfl (Nat.le_of_ble_eq_true rfl) rfl rfl ?_
      refine g_goto (pc := 113) (tgt := 63) dX11_drawWhy_113 (by decide) ?_
      exact h
    refine g_icmp_ge (pc := 96) (tgt := 106) dX11_drawWhy_96 (by decide) (fun q96 => ?_) (fun q96 => ?_)
    · refine g_iconst (pc := 106) dX11_drawWhy_106 c_0 ?_
      first | (exfalso; contradiction) | exact cast (by simp only [if_pos q96]) hJ
    · refine g_iconst (pc := 99) dX11_drawWhy_99 c_1 ?_
      refine g_iload (pc := 100) dX11_drawWhy_100 7 rfl ?_
      refine g_ishl (pc := 102) dX11_drawWhy_102 ?_
      refine g_goto (pc := 103) (tgt := 107) dX11_drawWhy_103 (by decide) ?_
      first | (exfalso; contradiction) | exact cast (by simp only [if_neg q96]) hJ
set_option maxHeartbeats 4000000 in
set_option maxRecDepth 100000 in
theorem TX11_drawnUpper (a1 : Int32) (a2 : Int32) (a3 : Int32) (w : Wd) (hR : w.2.2 = RM) (Q : Option Value → Wd → Prop) (h : ClI SR mX11_drawWhy [.ref 0, .int a1, .int a2, .int a3] (wXX11_anew w) (fun x2 w1 => w1.2.2 = RM ∧ ((x2 = 0 → Q (some (.int (wi w1 0 23))) w1) ∧ (¬ (x2 = 0) → Q (some (.int (vXX11_nowhere x2))) (wXX11_nowhere x2 w1))))) : Cl SR mX11_drawnUpper [.ref 0, .int a1, .int a2, .int a3] w Q := by
  refine cl_of (by decide) (Nat.le_of_ble_eq_true rfl) ?_
  show Go SR mX11_drawnUpper 0 [(0, .ref 0), (1, .int a1), (2, .int a2), (3, .int a3)] [] w Q
  refine g_aload_n (pc := 0) dX11_drawnUpper_0 rfl 0 rfl ?_
  refine g_callV (pc := 1) (M' := mX11_anew) (n := 0) (a := 0) (as := []) (st := []) dX11_drawnUpper_1 rfl kX11_147 vX11_anew (Nat.le_of_ble_eq_true rfl) rfl qX11 rfl rfl (Nat.le_of_ble_eq_true rfl) ?_
  refine zX11_anew (w := w) (hR := hR) ?_
  show Go SR mX11_drawnUpper 4 [(0, .ref 0), (1, .int a1), (2, .int a2), (3, .int a3)] [] (wXX11_anew w) Q
  refine g_aload_n (pc := 4) dX11_drawnUpper_4 rfl 0 rfl ?_
  refine g_iload_n (pc := 5) dX11_drawnUpper_5 rfl 1 rfl ?_
  refine g_iload_n (pc := 6) dX11_drawnUpper_6 rfl 2 rfl ?_
  refine g_iload_n (pc := 7) dX11_drawnUpper_7 rfl 3 rfl ?_
  refine g_callV (pc := 8) (M' := mX11_drawWhy) (n := 3) (a := 0) (as := [.int a1, .int a2, .int a3]) (st := []) dX11_drawnUpper_8 rfl kX11_416 vX11_drawWhy (Nat.le_of_ble_eq_true rfl) rfl qX11 rfl rfl (Nat.le_of_ble_eq_true rfl) ?_
  refine cl_mono (fun r w1 hr => ?_) h
  obtain ⟨x2, rfl, hw1, h⟩ := hr
  show Go SR mX11_drawnUpper 11 [(0, .ref 0), (1, .int a1), (2, .int a2), (3, .int a3)] [.int x2] w1 Q
  refine g_istore (pc := 11) (lv2 := [(0, .ref 0), (1, .int a1), (2, .int a2), (3, .int a3), (4, .int x2)]) dX11_drawnUpper_11 (Nat.le_of_ble_eq_true rfl) rfl ?_
  refine g_iload (pc := 13) dX11_drawnUpper_13 4 rfl ?_
  refine g_if_eq (pc := 15) (tgt := 27) dX11_drawnUpper_15 (by decide) (fun q => ?_) (fun q => ?_)
  · have h := h.1 q
    refine g_aload_n (pc := 27) dX11_drawnUpper_27 rfl 0 rfl ?_
    refine g_getI (pc := 28) (a := 0) dX11_drawnUpper_28 rfl fX11_169 rfl ?_
    exact g_iret (pc := 31) dX11_drawnUpper_31 rfl h
  · have h := h.2 q
    refine g_aload_n (pc := 18) dX11_drawnUpper_18 rfl 0 rfl ?_
    refine g_iload (pc := 19) dX11_drawnUpper_19 4 rfl ?_
    refine g_callV (pc := 21) (M' := mX11_nowhere) (n := 1) (a := 0) (as := [.int x2]) (st := []) dX11_drawnUpper_21 rfl kX11_242 vX11_nowhere (Nat.le_of_ble_eq_true rfl) rfl qX11 rfl rfl (Nat.le_of_ble_eq_true rfl) ?_
    refine zX11_nowhere (a1 := x2) (w := w1) (hR := hw1) ?_
    show Go SR mX11_drawnUpper 24 [(0, .ref 0), (1, .int a1), (2, .int a2), (3, .int a3), (4, .int x2)] [.int (vXX11_nowhere x2)] (wXX11_nowhere x2 w1) Q
    refine g_goto (pc := 24) (tgt := 31) dX11_drawnUpper_24 (by decide) ?_
    exact g_iret (pc := 31) dX11_drawnUpper_31 rfl h
set_option maxHeartbeats 4000000 in
set_option maxRecDepth 100000 in
theorem TX11_drawnLower (a1 : Int32) (a2 : Int32) (a3 : Int32) (w : Wd) (hR : w.2.2 = RM) (Q : Option Value → Wd → Prop) (h : ClI SR mX11_drawWhy [.ref 0, .int a1, .int a2, .int a3] (wXX11_anew w) (fun x2 w1 => w1.2.2 = RM ∧ ((x2 = 0 → Q (some (.int (wi w1 0 24))) w1) ∧ (¬ (x2 = 0) → Q (some (.int (vXX11_no x2))) (wXX11_no x2 w1))))) : Cl SR mX11_drawnLower [.ref 0, .int a1, .int a2, .int a3] w Q := by
  refine cl_of (by decide) (Nat.le_of_ble_eq_true rfl) ?_
  show Go SR mX11_drawnLower 0 [(0, .ref 0), (1, .int a1), (2, .int a2), (3, .int a3)] [] w Q
  refine g_aload_n (pc := 0) dX11_drawnLower_0 rfl 0 rfl ?_
  refine g_callV (pc := 1) (M' := mX11_anew) (n := 0) (a := 0) (as := []) (st := []) dX11_drawnLower_1 rfl kX11_147 vX11_anew (Nat.le_of_ble_eq_true rfl) rfl qX11 rfl rfl (Nat.le_of_ble_eq_true rfl) ?_
  refine zX11_anew (w := w) (hR := hR) ?_
  show Go SR mX11_drawnLower 4 [(0, .ref 0), (1, .int a1), (2, .int a2), (3, .int a3)] [] (wXX11_anew w) Q
  refine g_aload_n (pc := 4) dX11_drawnLower_4 rfl 0 rfl ?_
  refine g_iload_n (pc := 5) dX11_drawnLower_5 rfl 1 rfl ?_
  refine g_iload_n (pc := 6) dX11_drawnLower_6 rfl 2 rfl ?_
  refine g_iload_n (pc := 7) dX11_drawnLower_7 rfl 3 rfl ?_
  refine g_callV (pc := 8) (M' := mX11_drawWhy) (n := 3) (a := 0) (as := [.int a1, .int a2, .int a3]) (st := []) dX11_drawnLower_8 rfl kX11_416 vX11_drawWhy (Nat.le_of_ble_eq_true rfl) rfl qX11 rfl rfl (Nat.le_of_ble_eq_true rfl) ?_
  refine cl_mono (fun r w1 hr => ?_) h
  obtain ⟨x2, rfl, hw1, h⟩ := hr
  show Go SR mX11_drawnLower 11 [(0, .ref 0), (1, .int a1), (2, .int a2), (3, .int a3)] [.int x2] w1 Q
  refine g_istore (pc := 11) (lv2 := [(0, .ref 0), (1, .int a1), (2, .int a2), (3, .int a3), (4, .int x2)]) dX11_drawnLower_11 (Nat.le_of_ble_eq_true rfl) rfl ?_
  refine g_iload (pc := 13) dX11_drawnLower_13 4 rfl ?_
  refine g_if_eq (pc := 15) (tgt := 27) dX11_drawnLower_15 (by decide) (fun q => ?_) (fun q => ?_)
  · have h := h.1 q
    refine g_aload_n (pc := 27) dX11_drawnLower_27 rfl 0 rfl ?_
    refine g_getI (pc := 28) (a := 0) dX11_drawnLower_28 rfl fX11_172 rfl ?_
    exact g_iret (pc := 31) dX11_drawnLower_31 rfl h
  · have h := h.2 q
    refine g_aload_n (pc := 18) dX11_drawnLower_18 rfl 0 rfl ?_
    refine g_iload (pc := 19) dX11_drawnLower_19 4 rfl ?_
    refine g_callV (pc := 21) (M' := mX11_no) (n := 1) (a := 0) (as := [.int x2]) (st := []) dX11_drawnLower_21 rfl kX11_150 vX11_no (Nat.le_of_ble_eq_true rfl) rfl qX11 rfl rfl (Nat.le_of_ble_eq_true rfl) ?_
    refine zX11_no (a1 := x2) (w := w1) (hR := hw1) ?_
    show Go SR mX11_drawnLower 24 [(0, .ref 0), (1, .int a1), (2, .int a2), (3, .int a3), (4, .int x2)] [.int (vXX11_no x2)] (wXX11_no x2 w1) Q
    refine g_goto (pc := 24) (tgt := 31) dX11_drawnLower_24 (by decide) ?_
    exact g_iret (pc := 31) dX11_drawnLower_31 rfl h
set_option maxHeartbeats 4000000 in
set_option maxRecDepth 100000 in
theorem TX11_note  (w : Wd) (hR : w.2.2 = RM) (Q : Option Value → Wd → Prop) (h : (((wi w 0 21) = 16 → Go SR mX11_note 11 [(0, .ref 0), (1, .int 0)] [] w Q) ∧ (¬ ((wi w 0 21) = 16) → ClV SR mX11_copy [.ref 5, .int 0, .ref 6, .int (10 * (wi w 0 21)), .int 10] w (fun w1 => w1.2.2 = RM ∧ Q none (si w1 0 21 ((wi w1 0 21) + 1)))))) : Cl SR mX11_note [.ref 0] w Q := by
  refine cl_of (by decide) (Nat.le_of_ble_eq_true rfl) ?_
  show Go SR mX11_note 0 [(0, .ref 0)] [] w Q
  refine g_aload_n (pc := 0) dX11_note_0 rfl 0 rfl ?_
  refine g_getI (pc := 1) (a := 0) dX11_note_1 rfl fX11_175 rfl ?_
  refine g_bipush (pc := 4) (v := 16) dX11_note_4 (by decide) ?_
  refine g_icmp_ne (pc := 6) (tgt := 49) dX11_note_6 (by decide) (fun q => ?_) (fun q => ?_)
  · have h := h.2 q
    refine g_aload_n (pc := 49) dX11_note_49 rfl 0 rfl ?_
    refine g_getR (pc := 50) (a := 0) (b := 5) dX11_note_50 rfl fX11_26 rfl (rm_18 hR) ?_
    refine g_iconst (pc := 53) dX11_note_53 c_0 ?_
    refine g_aload_n (pc := 54) dX11_note_54 rfl 0 rfl ?_
    refine g_getR (pc := 55) (a := 0) (b := 6) dX11_note_55 rfl fX11_29 rfl (rm_19 hR) ?_
    refine g_bipush (pc := 58) (v := 10) dX11_note_58 (by decide) ?_
    refine g_aload_n (pc := 60) dX11_note_60 rfl 0 rfl ?_
    refine g_getI (pc := 61) (a := 0) dX11_note_61 rfl fX11_175 rfl ?_
    refine g_imul (pc := 64) dX11_note_64 ?_
    refine g_bipush (pc := 65) (v := 10) dX11_note_65 (by decide) ?_
    refine g_callS (pc := 67) (M' := mX11_copy) (n := 5) (as := [.ref 5, .int 0, .ref 6, .int (10 * (wi w 0 21)), .int 10]) (st := []) dX11_note_67 rfl kX11_159 sX11_copy (Nat.le_of_ble_eq_true rfl) rfl rfl (Nat.le_of_ble_eq_true rfl) ?_
    refine cl_mono (fun r w1 hr => ?_) h
    obtain ⟨rfl, hw1, h⟩ := hr
    show Go SR mX11_note 70 [(0, .ref 0)] [] w1 Q
    refine g_aload_n (pc := 70) dX11_note_70 rfl 0 rfl ?_
    refine g_dup (pc := 71) dX11_note_71 rfl ?_
    refine g_getI (pc := 72) (a := 0) dX11_note_72 rfl fX11_175 rfl ?_
    refine g_iconst (pc := 75) dX11_note_75 c_1 ?_
    refine g_iadd (pc := 76) dX11_note_76 ?_
    refine g_putI (pc := 77) dX11_note_77 rfl fX11_175 pX11_21 rfl ?_
    exact g_vret (pc := 80) dX11_note_80 rfl h
  · have h := h.1 q
    refine g_iconst (pc := 9) dX11_note_9 c_0 ?_
    refine g_istore_n (pc := 10) (lv2 := [(0, .ref 0), (1, .int 0)]) dX11_note_10 rfl (Nat.le_of_ble_eq_true rfl) rfl ?_
    exact h
set_option maxHeartbeats 4000000 in
set_option maxRecDepth 100000 in
theorem BX11_note_11  (l1 : Int32) (w : Wd) (hR : w.2.2 = RM) (Q : Option Value → Wd → Prop) (h : ((150 ≤ l1 → ClV SR mX11_copy [.ref 5, .int 0, .ref 6, .int (10 * (wi (si w 0 21 ((wi w 0 21) - 1)) 0 21)), .int 10] (si w 0 21 ((wi w 0 21) - 1)) (fun w1 => w1.2.2 = RM ∧ Q none (si w1 0 21 ((wi w1 0 21) + 1)))) ∧ (¬ (150 ≤ l1) → vp_in (l1 + 10) 160 ∧ vp_in l1 160 ∧ Go SR mX11_note 11 [(0, .ref 0), (1, .int (l1 + 1))] [] (si w 6 l1.toNatClampNeg (wi w 6 ((l1 + 10).toNatClampNeg))) Q))) : Go SR mX11_note 11 [(0, .ref 0), (1, .int l1)] [] w Q := by
  refine g_iload_n (pc := 11) dX11_note_11 rfl 1 rfl ?_
  refine g_sipush (pc := 12) (v := 150) dX11_note_12 (by decide) ?_
  refine g_icmp_ge (pc := 15) (tgt := 39) dX11_note_15 (by decide) (fun q => ?_) (fun q => ?_)
  · have h := h.1 q
    refine g_aload_n (pc := 39) dX11_note_39 rfl 0 rfl ?_
    refine g_dup (pc := 40) dX11_note_40 rfl ?_
    refine g_getI (pc := 41) (a := 0) dX11_note_41 rfl fX11_175 rfl ?_
    refine g_iconst (pc := 44) dX11_note_44 c_1 ?_
    refine g_isub (pc := 45) dX11_note_45 ?_
    refine g_putI (pc := 46) dX11_note_46 rfl fX11_175 pX11_21 rfl ?_
    refine g_aload_n (pc := 49) dX11_note_49 rfl 0 rfl ?_
    refine g_getR (pc := 50) (a := 0) (b := 5) dX11_note_50 rfl fX11_26 rfl (rm_18 hR) ?_
    refine g_iconst (pc := 53) dX11_note_53 c_0 ?_
    refine g_aload_n (pc := 54) dX11_note_54 rfl 0 rfl ?_
    refine g_getR (pc := 55) (a := 0) (b := 6) dX11_note_55 rfl fX11_29 rfl (rm_19 hR) ?_
    refine g_bipush (pc := 58) (v := 10) dX11_note_58 (by decide) ?_
    refine g_aload_n (pc := 60) dX11_note_60 rfl 0 rfl ?_
    refine g_getI (pc := 61) (a := 0) dX11_note_61 rfl fX11_175 rfl ?_
    refine g_imul (pc := 64) dX11_note_64 ?_
    refine g_bipush (pc := 65) (v := 10) dX11_note_65 (by decide) ?_
    refine g_callS (pc := 67) (M' := mX11_copy) (n := 5) (as := [.ref 5, .int 0, .ref 6, .int (10 * (wi (si w 0 21 ((wi w 0 21) - 1)) 0 21)), .int 10]) (st := []) dX11_note_67 rfl kX11_159 sX11_copy (Nat.le_of_ble_eq_true rfl) rfl rfl (Nat.le_of_ble_eq_true rfl) ?_
    refine cl_mono (fun r w1 hr => ?_) h
    obtain ⟨rfl, hw1, h⟩ := hr
    show Go SR mX11_note 70 [(0, .ref 0), (1, .int l1)] [] w1 Q
    refine g_aload_n (pc := 70) dX11_note_70 rfl 0 rfl ?_
    refine g_dup (pc := 71) dX11_note_71 rfl ?_
    refine g_getI (pc := 72) (a := 0) dX11_note_72 rfl fX11_175 rfl ?_
    refine g_iconst (pc := 75) dX11_note_75 c_1 ?_
    refine g_iadd (pc := 76) dX11_note_76 ?_
    refine g_putI (pc := 77) dX11_note_77 rfl fX11_175 pX11_21 rfl ?_
    exact g_vret (pc := 80) dX11_note_80 rfl h
  · have h := h.2 q
    refine g_aload_n (pc := 18) dX11_note_18 rfl 0 rfl ?_
    refine g_getR (pc := 19) (a := 0) (b := 6) dX11_note_19 rfl fX11_29 rfl (rm_19 hR) ?_
    refine g_iload_n (pc := 22) dX11_note_22 rfl 1 rfl ?_
    refine g_aload_n (pc := 23) dX11_note_23 rfl 0 rfl ?_
    refine g_getR (pc := 24) (a := 0) (b := 6) dX11_note_24 rfl fX11_29 rfl (rm_19 hR) ?_
    refine g_iload_n (pc := 27) dX11_note_27 rfl 1 rfl ?_
    refine g_bipush (pc := 28) (v := 10) dX11_note_28 (by decide) ?_
    refine g_iadd (pc := 30) dX11_note_30 ?_
    obtain ⟨hi2, h⟩ := h
    refine g_iald (pc := 31) (a := 6) (j := (l1 + 10).toNatClampNeg) dX11_note_31 rfl hi2 rfl ?_
    obtain ⟨hi3, h⟩ := h
    refine g_iast (pc := 32) (a := 6) (j := l1.toNatClampNeg) dX11_note_32 rfl hi3 rfl ?_
    refine g_iinc (pc := 33) (v := l1 + 1) (lv2 := [(0, .ref 0), (1, .int (l1 + 1))]) dX11_note_33 1 rfl (Nat.le_of_ble_eq_true rfl) rfl rfl ?_
    refine g_goto (pc := 36) (tgt := 11) dX11_note_36 (by decide) ?_
    exact h
set_option maxHeartbeats 4000000 in
set_option maxRecDepth 100000 in
theorem TX11_becomes (a1 : Int32) (w : Wd) (hR : w.2.2 = RM) (Q : Option Value → Wd → Prop) (h : ClV SR mX11_note [.ref 0] w (fun w1 => w1.2.2 = RM ∧ vp_in a1 10 ∧ vp_in (5 + a1) 10 ∧ ClI SR mX11_layParts [.ref 0] (si (si w1 5 a1.toNatClampNeg (wi w1 0 23)) 5 ((5 + a1).toNatClampNeg) (wi (si w1 5 a1.toNatClampNeg (wi w1 0 23)) 0 24)) (fun x5 w4 => w4.2.2 = RM ∧ Q (some (.int x5)) w4))) : Cl SR mX11_becomes [.ref 0, .int a1] w Q := by
  refine cl_of (by decide) (Nat.le_of_ble_eq_true rfl) ?_
  show Go SR mX11_becomes 0 [(0, .ref 0), (1, .int a1)] [] w Q
  refine g_aload_n (pc := 0) dX11_becomes_0 rfl 0 rfl ?_
  refine g_callV (pc := 1) (M' := mX11_note) (n := 0) (a := 0) (as := []) (st := []) dX11_becomes_1 rfl kX11_419 vX11_note (Nat.le_of_ble_eq_true rfl) rfl qX11 rfl rfl (Nat.le_of_ble_eq_true rfl) ?_
  refine cl_mono (fun r w1 hr => ?_) h
  obtain ⟨rfl, hw1, h⟩ := hr
  show Go SR mX11_becomes 4 [(0, .ref 0), (1, .int a1)] [] w1 Q
  refine g_aload_n (pc := 4) dX11_becomes_4 rfl 0 rfl ?_
  refine g_getR (pc := 5) (a := 0) (b := 5) dX11_becomes_5 rfl fX11_26 rfl (rm_18 hw1) ?_
  refine g_iload_n (pc := 8) dX11_becomes_8 rfl 1 rfl ?_
  refine g_aload_n (pc := 9) dX11_becomes_9 rfl 0 rfl ?_
  refine g_getI (pc := 10) (a := 0) dX11_becomes_10 rfl fX11_169 rfl ?_
  obtain ⟨hi2, h⟩ := h
  refine g_iast (pc := 13) (a := 5) (j := a1.toNatClampNeg) dX11_becomes_13 rfl hi2 rfl ?_
  refine g_aload_n (pc := 14) dX11_becomes_14 rfl 0 rfl ?_
  refine g_getR (pc := 15) (a := 0) (b := 5) dX11_becomes_15 rfl fX11_26 rfl (rm_18 hw1) ?_
  refine g_iconst (pc := 18) dX11_becomes_18 c_5 ?_
  refine g_iload_n (pc := 19) dX11_becomes_19 rfl 1 rfl ?_
  refine g_iadd (pc := 20) dX11_becomes_20 ?_
  refine g_aload_n (pc := 21) dX11_becomes_21 rfl 0 rfl ?_
  refine g_getI (pc := 22) (a := 0) dX11_becomes_22 rfl fX11_172 rfl ?_
  obtain ⟨hi3, h⟩ := h
  refine g_iast (pc := 25) (a := 5) (j := (5 + a1).toNatClampNeg) dX11_becomes_25 rfl hi3 rfl ?_
  refine g_aload_n (pc := 26) dX11_becomes_26 rfl 0 rfl ?_
  refine g_callV (pc := 27) (M' := mX11_layParts) (n := 0) (a := 0) (as := []) (st := []) dX11_becomes_27 rfl kX11_251 vX11_layParts (Nat.le_of_ble_eq_true rfl) rfl qX11 rfl rfl (Nat.le_of_ble_eq_true rfl) ?_
  refine cl_mono (fun r w4 hr => ?_) h
  obtain ⟨x5, rfl, hw4, h⟩ := hr
  show Go SR mX11_becomes 30 [(0, .ref 0), (1, .int a1)] [.int x5] w4 Q
  exact g_iret (pc := 30) dX11_becomes_30 rfl h
set_option maxHeartbeats 4000000 in
set_option maxRecDepth 100000 in
theorem TX11_call (a1 : Int32) (a2 : Int32) (w : Wd) (hR : w.2.2 = RM) (Q : Option Value → Wd → Prop) (h : ClI SR mX11_isDance [.ref 0, .int a1] (wXX11_anew w) (fun x2 w1 => w1.2.2 = RM ∧ (((vXX11_why x2 (vXX11_in a2 0 2)) = 0 → ClV SR mX11_look [.ref 0, .int a1] w1 (fun w3 => w3.2.2 = RM ∧ ClI SR mX11_calls [.ref 0, .int a2] w3 (fun x5 w4 => w4.2.2 = RM ∧ ((x5 = 0 → Q (some (.int (vXX11_no 3))) (wXX11_no 3 w4)) ∧ (¬ (x5 = 0) → ClI SR mX11_becomes [.ref 0, .int a1] w4 (fun x7 w6 => w6.2.2 = RM ∧ Q (some (.int x7)) w6)))))) ∧ (¬ ((vXX11_why x2 (vXX11_in a2 0 2)) = 0) → Q (some (.int (vXX11_no (vXX11_why x2 (vXX11_in a2 0 2))))) (wXX11_no (vXX11_why x2 (vXX11_in a2 0 2)) w1))))) : Cl SR mX11_call [.ref 0, .int a1, .int a2] w Q := by
  refine cl_of (by decide) (Nat.le_of_ble_eq_true rfl) ?_
  show Go SR mX11_call 0 [(0, .ref 0), (1, .int a1), (2, .int a2)] [] w Q
  refine g_aload_n (pc := 0) dX11_call_0 rfl 0 rfl ?_
  refine g_callV (pc := 1) (M' := mX11_anew) (n := 0) (a := 0) (as := []) (st := []) dX11_call_1 rfl kX11_147 vX11_anew (Nat.le_of_ble_eq_true rfl) rfl qX11 rfl rfl (Nat.le_of_ble_eq_true rfl) ?_
  refine zX11_anew (w := w) (hR := hR) ?_
  show Go SR mX11_call 4 [(0, .ref 0), (1, .int a1), (2, .int a2)] [] (wXX11_anew w) Q
  refine g_aload_n (pc := 4) dX11_call_4 rfl 0 rfl ?_
  refine g_aload_n (pc := 5) dX11_call_5 rfl 0 rfl ?_
  refine g_iload_n (pc := 6) dX11_call_6 rfl 1 rfl ?_
  refine g_callV (pc := 7) (M' := mX11_isDance) (n := 1) (a := 0) (as := [.int a1]) (st := [.ref 0]) dX11_call_7 rfl kX11_239 vX11_isDance (Nat.le_of_ble_eq_true rfl) rfl qX11 rfl rfl (Nat.le_of_ble_eq_true rfl) ?_
  refine cl_mono (fun r w1 hr => ?_) h
  obtain ⟨x2, rfl, hw1, h⟩ := hr
  show Go SR mX11_call 10 [(0, .ref 0), (1, .int a1), (2, .int a2)] [.int x2, .ref 0] w1 Q
  refine g_iload_n (pc := 10) dX11_call_10 rfl 2 rfl ?_
  refine g_iconst (pc := 11) dX11_call_11 c_0 ?_
  refine g_iconst (pc := 12) dX11_call_12 c_2 ?_
  refine g_callS (pc := 13) (M' := mX11_in) (n := 3) (as := [.int a2, .int 0, .int 2]) (st := [.int x2, .ref 0]) dX11_call_13 rfl kX11_143 sX11_in (Nat.le_of_ble_eq_true rfl) rfl rfl (Nat.le_of_ble_eq_true rfl) ?_
  refine zX11_in (a1 := a2) (a2 := 0) (a3 := 2) (w := w1) (hR := hw1) ?_
  show Go SR mX11_call 16 [(0, .ref 0), (1, .int a1), (2, .int a2)] [.int (vXX11_in a2 0 2), .int x2, .ref 0] w1 Q
  refine g_callV (pc := 16) (M' := mX11_why) (n := 2) (a := 0) (as := [.int x2, .int (vXX11_in a2 0 2)]) (st := []) dX11_call_16 rfl kX11_297 vX11_why (Nat.le_of_ble_eq_true rfl) rfl qX11 rfl rfl (Nat.le_of_ble_eq_true rfl) ?_
  refine zX11_why (a1 := x2) (a2 := (vXX11_in a2 0 2)) (w := w1) (hR := hw1) ?_
  show Go SR mX11_call 19 [(0, .ref 0), (1, .int a1), (2, .int a2)] [.int (vXX11_why x2 (vXX11_in a2 0 2))] w1 Q
  refine g_istore_n (pc := 19) (lv2 := [(0, .ref 0), (1, .int a1), (2, .int a2), (3, .int (vXX11_why x2 (vXX11_in a2 0 2)))]) dX11_call_19 rfl (Nat.le_of_ble_eq_true rfl) rfl ?_
  refine g_iload_n (pc := 20) dX11_call_20 rfl 3 rfl ?_
  refine g_if_eq (pc := 21) (tgt := 30) dX11_call_21 (by decide) (fun q => ?_) (fun q => ?_)
  · have h := h.1 q
    refine g_aload_n (pc := 30) dX11_call_30 rfl 0 rfl ?_
    refine g_iload_n (pc := 31) dX11_call_31 rfl 1 rfl ?_
    refine g_callV (pc := 32) (M' := mX11_look) (n := 1) (a := 0) (as := [.int a1]) (st := []) dX11_call_32 rfl kX11_245 vX11_look (Nat.le_of_ble_eq_true rfl) rfl qX11 rfl rfl (Nat.le_of_ble_eq_true rfl) ?_
    refine cl_mono (fun r w3 hr => ?_) h
    obtain ⟨rfl, hw3, h⟩ := hr
    show Go SR mX11_call 35 [(0, .ref 0), (1, .int a1), (2, .int a2), (3, .int (vXX11_why x2 (vXX11_in a2 0 2)))] [] w3 Q
    refine g_aload_n (pc := 35) dX11_call_35 rfl 0 rfl ?_
    refine g_iload_n (pc := 36) dX11_call_36 rfl 2 rfl ?_
    refine g_callV (pc := 37) (M' := mX11_calls) (n := 1) (a := 0) (as := [.int a2]) (st := []) dX11_call_37 rfl kX11_260 vX11_calls (Nat.le_of_ble_eq_true rfl) rfl qX11 rfl rfl (Nat.le_of_ble_eq_true rfl) ?_
    refine cl_mono (fun r w4 hr => ?_) h
    obtain ⟨x5, rfl, hw4, h⟩ := hr
    show Go SR mX11_call 40 [(0, .ref 0), (1, .int a1), (2, .int a2), (3, .int (vXX11_why x2 (vXX11_in a2 0 2)))] [.int x5] w4 Q
    refine g_if_eq (pc := 40) (tgt := 51) dX11_call_40 (by decide) (fun q => ?_) (fun q => ?_)
    · have h := h.1 q
      refine g_aload_n (pc := 51) dX11_call_51 rfl 0 rfl ?_
      refine g_iconst (pc := 52) dX11_call_52 c_3 ?_
      refine g_callV (pc := 53) (M' := mX11_no) (n := 1) (a := 0) (as := [.int 3]) (st := []) dX11_call_53 rfl kX11_150 vX11_no (Nat.le_of_ble_eq_true rfl) rfl qX11 rfl rfl (Nat.le_of_ble_eq_true rfl) ?_
      refine zX11_no (a1 := 3) (w := w4) (hR := hw4) ?_
      show Go SR mX11_call 56 [(0, .ref 0), (1, .int a1), (2, .int a2), (3, .int (vXX11_why x2 (vXX11_in a2 0 2)))] [.int (vXX11_no 3)] (wXX11_no 3 w4) Q
      exact g_iret (pc := 56) dX11_call_56 rfl h
    · have h := h.2 q
      refine g_aload_n (pc := 43) dX11_call_43 rfl 0 rfl ?_
      refine g_iload_n (pc := 44) dX11_call_44 rfl 1 rfl ?_
      refine g_callV (pc := 45) (M' := mX11_becomes) (n := 1) (a := 0) (as := [.int a1]) (st := []) dX11_call_45 rfl kX11_422 vX11_becomes (Nat.le_of_ble_eq_true rfl) rfl qX11 rfl rfl (Nat.le_of_ble_eq_true rfl) ?_
      refine cl_mono (fun r w6 hr => ?_) h
      obtain ⟨x7, rfl, hw6, h⟩ := hr
      show Go SR mX11_call 48 [(0, .ref 0), (1, .int a1), (2, .int a2), (3, .int (vXX11_why x2 (vXX11_in a2 0 2)))] [.int x7] w6 Q
      refine g_goto (pc := 48) (tgt := 56) dX11_call_48 (by decide) ?_
      exact g_iret (pc := 56) dX11_call_56 rfl h
  · have h := h.2 q
    refine g_aload_n (pc := 24) dX11_call_24 rfl 0 rfl ?_
    refine g_iload_n (pc := 25) dX11_call_25 rfl 3 rfl ?_
    refine g_callV (pc := 26) (M' := mX11_no) (n := 1) (a := 0) (as := [.int (vXX11_why x2 (vXX11_in a2 0 2))]) (st := []) dX11_call_26 rfl kX11_150 vX11_no (Nat.le_of_ble_eq_true rfl) rfl qX11 rfl rfl (Nat.le_of_ble_eq_true rfl) ?_
    refine zX11_no (a1 := (vXX11_why x2 (vXX11_in a2 0 2))) (w := w1) (hR := hw1) ?_
    show Go SR mX11_call 29 [(0, .ref 0), (1, .int a1), (2, .int a2), (3, .int (vXX11_why x2 (vXX11_in a2 0 2)))] [.int (vXX11_no (vXX11_why x2 (vXX11_in a2 0 2)))] (wXX11_no (vXX11_why x2 (vXX11_in a2 0 2)) w1) Q
    exact g_iret (pc := 29) dX11_call_29 rfl h
set_option maxHeartbeats 4000000 in
set_option maxRecDepth 100000 in
theorem TX11_flip (a1 : Int32) (w : Wd) (hR : w.2.2 = RM) (Q : Option Value → Wd → Prop) (h : ClI SR mX11_isDance [.ref 0, .int a1] (wXX11_anew w) (fun x2 w1 => w1.2.2 = RM ∧ ((x2 = 0 → Q (some (.int (vXX11_isNot 1))) (wXX11_isNot 1 w1)) ∧ (¬ (x2 = 0) → ClV SR mX11_look [.ref 0, .int a1] w1 (fun w3 => w3.2.2 = RM ∧ (((wi w3 0 23) = 0 → Q (some (.int (vXX11_isNot 5))) (wXX11_isNot 5 w3)) ∧ (¬ ((wi w3 0 23) = 0) → (((wi w3 0 24) = 0 → Q (some (.int (vXX11_isNot 5))) (wXX11_isNot 5 w3)) ∧ (¬ ((wi w3 0 24) = 0) → ClI SR mX11_becomes [.ref 0, .int a1] (si w3 0 23 (-(wi w3 0 23))) (fun x5 w4 => w4.2.2 = RM ∧ Q (some (.int 1)) w4)))))))))) : Cl SR mX11_flip [.ref 0, .int a1] w Q := by
  refine cl_of (by decide) (Nat.le_of_ble_eq_true rfl) ?_
  show Go SR mX11_flip 0 [(0, .ref 0), (1, .int a1)] [] w Q
  refine g_aload_n (pc := 0) dX11_flip_0 rfl 0 rfl ?_
  refine g_callV (pc := 1) (M' := mX11_anew) (n := 0) (a := 0) (as := []) (st := []) dX11_flip_1 rfl kX11_147 vX11_anew (Nat.le_of_ble_eq_true rfl) rfl qX11 rfl rfl (Nat.le_of_ble_eq_true rfl) ?_
  refine zX11_anew (w := w) (hR := hR) ?_
  show Go SR mX11_flip 4 [(0, .ref 0), (1, .int a1)] [] (wXX11_anew w) Q
  refine g_aload_n (pc := 4) dX11_flip_4 rfl 0 rfl ?_
  refine g_iload_n (pc := 5) dX11_flip_5 rfl 1 rfl ?_
  refine g_callV (pc := 6) (M' := mX11_isDance) (n := 1) (a := 0) (as := [.int a1]) (st := []) dX11_flip_6 rfl kX11_239 vX11_isDance (Nat.le_of_ble_eq_true rfl) rfl qX11 rfl rfl (Nat.le_of_ble_eq_true rfl) ?_
  refine cl_mono (fun r w1 hr => ?_) h
  obtain ⟨x2, rfl, hw1, h⟩ := hr
  show Go SR mX11_flip 9 [(0, .ref 0), (1, .int a1)] [.int x2] w1 Q
  refine g_if_ne (pc := 9) (tgt := 18) dX11_flip_9 (by decide) (fun q => ?_) (fun q => ?_)
  · have h := h.2 q
    refine g_aload_n (pc := 18) dX11_flip_18 rfl 0 rfl ?_
    refine g_iload_n (pc := 19) dX11_flip_19 rfl 1 rfl ?_
    refine g_callV (pc := 20) (M' := mX11_look) (n := 1) (a := 0) (as := [.int a1]) (st := []) dX11_flip_20 rfl kX11_245 vX11_look (Nat.le_of_ble_eq_true rfl) rfl qX11 rfl rfl (Nat.le_of_ble_eq_true rfl) ?_
    refine cl_mono (fun r w3 hr => ?_) h
    obtain ⟨rfl, hw3, h⟩ := hr
    show Go SR mX11_flip 23 [(0, .ref 0), (1, .int a1)] [] w3 Q
    refine g_aload_n (pc := 23) dX11_flip_23 rfl 0 rfl ?_
    refine g_getI (pc := 24) (a := 0) dX11_flip_24 rfl fX11_169 rfl ?_
    refine g_if_eq (pc := 27) (tgt := 37) dX11_flip_27 (by decide) (fun q => ?_) (fun q => ?_)
    · have h := h.1 q
      refine g_aload_n (pc := 37) dX11_flip_37 rfl 0 rfl ?_
      refine g_iconst (pc := 38) dX11_flip_38 c_5 ?_
      refine g_callV (pc := 39) (M' := mX11_isNot) (n := 1) (a := 0) (as := [.int 5]) (st := []) dX11_flip_39 rfl kX11_425 vX11_isNot (Nat.le_of_ble_eq_true rfl) rfl qX11 rfl rfl (Nat.le_of_ble_eq_true rfl) ?_
      refine zX11_isNot (a1 := 5) (w := w3) (hR := hw3) ?_
      show Go SR mX11_flip 42 [(0, .ref 0), (1, .int a1)] [.int (vXX11_isNot 5)] (wXX11_isNot 5 w3) Q
      exact g_bret (pc := 42) dX11_flip_42 rfl (zzX11_isNot 5) h
    · have h := h.2 q
      refine g_aload_n (pc := 30) dX11_flip_30 rfl 0 rfl ?_
      refine g_getI (pc := 31) (a := 0) dX11_flip_31 rfl fX11_172 rfl ?_
      refine g_if_ne (pc := 34) (tgt := 43) dX11_flip_34 (by decide) (fun q => ?_) (fun q => ?_)
      · have h := h.2 q
        refine g_aload_n (pc := 43) dX11_flip_43 rfl 0 rfl ?_
        refine g_aload_n (pc := 44) dX11_flip_44 rfl 0 rfl ?_
        refine g_getI (pc := 45) (a := 0) dX11_flip_45 rfl fX11_169 rfl ?_
        refine g_ineg (pc := 48) dX11_flip_48 ?_
        refine g_putI (pc := 49) dX11_flip_49 rfl fX11_169 pX11_23 rfl ?_
        refine g_aload_n (pc := 52) dX11_flip_52 rfl 0 rfl ?_
        refine g_iload_n (pc := 53) dX11_flip_53 rfl 1 rfl ?_
        refine g_callV (pc := 54) (M' := mX11_becomes) (n := 1) (a := 0) (as := [.int a1]) (st := []) dX11_flip_54 rfl kX11_422 vX11_becomes (Nat.le_of_ble_eq_true rfl) rfl qX11 rfl rfl (Nat.le_of_ble_eq_true rfl) ?_
        refine cl_mono (fun r w4 hr => ?_) h
        obtain ⟨x5, rfl, hw4, h⟩ := hr
        show Go SR mX11_flip 57 [(0, .ref 0), (1, .int a1)] [.int x5] w4 Q
        refine g_pop (pc := 57) dX11_flip_57 rfl ?_
        refine g_iconst (pc := 58) dX11_flip_58 c_1 ?_
        exact g_bret (pc := 59) dX11_flip_59 rfl (Or.inr rfl) h
      · have h := h.1 q
        refine g_aload_n (pc := 37) dX11_flip_37 rfl 0 rfl ?_
        refine g_iconst (pc := 38) dX11_flip_38 c_5 ?_
        refine g_callV (pc := 39) (M' := mX11_isNot) (n := 1) (a := 0) (as := [.int 5]) (st := []) dX11_flip_39 rfl kX11_425 vX11_isNot (Nat.le_of_ble_eq_true rfl) rfl qX11 rfl rfl (Nat.le_of_ble_eq_true rfl) ?_
        refine zX11_isNot (a1 := 5) (w := w3) (hR := hw3) ?_
        show Go SR mX11_flip 42 [(0, .ref 0), (1, .int a1)] [.int (vXX11_isNot 5)] (wXX11_isNot 5 w3) Q
        exact g_bret (pc := 42) dX11_flip_42 rfl (zzX11_isNot 5) h
  · have h := h.1 q
    refine g_aload_n (pc := 12) dX11_flip_12 rfl 0 rfl ?_
    refine g_iconst (pc := 13) dX11_flip_13 c_1 ?_
    refine g_callV (pc := 14) (M' := mX11_isNot) (n := 1) (a := 0) (as := [.int 1]) (st := []) dX11_flip_14 rfl kX11_425 vX11_isNot (Nat.le_of_ble_eq_true rfl) rfl qX11 rfl rfl (Nat.le_of_ble_eq_true rfl) ?_
    refine zX11_isNot (a1 := 1) (w := w1) (hR := hw1) ?_
    show Go SR mX11_flip 17 [(0, .ref 0), (1, .int a1)] [.int (vXX11_isNot 1)] (wXX11_isNot 1 w1) Q
    exact g_bret (pc := 17) dX11_flip_17 rfl (zzX11_isNot 1) h
set_option maxHeartbeats 4000000 in
set_option maxRecDepth 100000 in
theorem TX11_reset (a1 : Int32) (w : Wd) (hR : w.2.2 = RM) (Q : Option Value → Wd → Prop) (h : ClI SR mX11_isDance [.ref 0, .int a1] (wXX11_anew w) (fun x2 w1 => w1.2.2 = RM ∧ ((x2 = 0 → Q (some (.int (vXX11_isNot 1))) (wXX11_isNot 1 w1)) ∧ (¬ (x2 = 0) → vp_in a1 10 ∧ (((wi w1 5 a1.toNatClampNeg) = 0 → Q (some (.int (vXX11_isNot 5))) (wXX11_isNot 5 w1)) ∧ (¬ ((wi w1 5 a1.toNatClampNeg) = 0) → ClI SR mX11_becomes [.ref 0, .int a1] (si (si w1 0 23 0) 0 24 1) (fun x5 w4 => w4.2.2 = RM ∧ Q (some (.int 1)) w4))))))) : Cl SR mX11_reset [.ref 0, .int a1] w Q := by
  refine cl_of (by decide) (Nat.le_of_ble_eq_true rfl) ?_
  show Go SR mX11_reset 0 [(0, .ref 0), (1, .int a1)] [] w Q
  refine g_aload_n (pc := 0) dX11_reset_0 rfl 0 rfl ?_
  refine g_callV (pc := 1) (M' := mX11_anew) (n := 0) (a := 0) (as := []) (st := []) dX11_reset_1 rfl kX11_147 vX11_anew (Nat.le_of_ble_eq_true rfl) rfl qX11 rfl rfl (Nat.le_of_ble_eq_true rfl) ?_
  refine zX11_anew (w := w) (hR := hR) ?_
  show Go SR mX11_reset 4 [(0, .ref 0), (1, .int a1)] [] (wXX11_anew w) Q
  refine g_aload_n (pc := 4) dX11_reset_4 rfl 0 rfl ?_
  refine g_iload_n (pc := 5) dX11_reset_5 rfl 1 rfl ?_
  refine g_callV (pc := 6) (M' := mX11_isDance) (n := 1) (a := 0) (as := [.int a1]) (st := []) dX11_reset_6 rfl kX11_239 vX11_isDance (Nat.le_of_ble_eq_true rfl) rfl qX11 rfl rfl (Nat.le_of_ble_eq_true rfl) ?_
  refine cl_mono (fun r w1 hr => ?_) h
  obtain ⟨x2, rfl, hw1, h⟩ := hr
  show Go SR mX11_reset 9 [(0, .ref 0), (1, .int a1)] [.int x2] w1 Q
  refine g_if_ne (pc := 9) (tgt := 18) dX11_reset_9 (by decide) (fun q => ?_) (fun q => ?_)
  · have h := h.2 q
    refine g_aload_n (pc := 18) dX11_reset_18 rfl 0 rfl ?_
    refine g_getR (pc := 19) (a := 0) (b := 5) dX11_reset_19 rfl fX11_26 rfl (rm_18 hw1) ?_
    refine g_iload_n (pc := 22) dX11_reset_22 rfl 1 rfl ?_
    obtain ⟨hi3, h⟩ := h
    refine g_iald (pc := 23) (a := 5) (j := a1.toNatClampNeg) dX11_reset_23 rfl hi3 rfl ?_
    refine g_if_ne (pc := 24) (tgt := 33) dX11_reset_24 (by decide) (fun q => ?_) (fun q => ?_)
    · have h := h.2 q
      refine g_aload_n (pc := 33) dX11_reset_33 rfl 0 rfl ?_
      refine g_iconst (pc := 34) dX11_reset_34 c_0 ?_
      refine g_putI (pc := 35) dX11_reset_35 rfl fX11_169 pX11_23 rfl ?_
      refine g_aload_n (pc := 38) dX11_reset_38 rfl 0 rfl ?_
      refine g_iconst (pc := 39) dX11_reset_39 c_1 ?_
      refine g_putI (pc := 40) dX11_reset_40 rfl fX11_172 pX11_24 rfl ?_
      refine g_aload_n (pc := 43) dX11_reset_43 rfl 0 rfl ?_
      refine g_iload_n (pc := 44) dX11_reset_44 rfl 1 rfl ?_
      refine g_callV (pc := 45) (M' := mX11_becomes) (n := 1) (a := 0) (as := [.int a1]) (st := []) dX11_reset_45 rfl kX11_422 vX11_becomes (Nat.le_of_ble_eq_true rfl) rfl qX11 rfl rfl (Nat.le_of_ble_eq_true rfl) ?_
      refine cl_mono (fun r w4 hr => ?_) h
      obtain ⟨x5, rfl, hw4, h⟩ := hr
      show Go SR mX11_reset 48 [(0, .ref 0), (1, .int a1)] [.int x5] w4 Q
      refine g_pop (pc := 48) dX11_reset_48 rfl ?_
      refine g_iconst (pc := 49) dX11_reset_49 c_1 ?_
      exact g_bret (pc := 50) dX11_reset_50 rfl (Or.inr rfl) h
    · have h := h.1 q
      refine g_aload_n (pc := 27) dX11_reset_27 rfl 0 rfl ?_
      refine g_iconst (pc := 28) dX11_reset_28 c_5 ?_
      refine g_callV (pc := 29) (M' := mX11_isNot) (n := 1) (a := 0) (as := [.int 5]) (st := []) dX11_reset_29 rfl kX11_425 vX11_isNot (Nat.le_of_ble_eq_true rfl) rfl qX11 rfl rfl (Nat.le_of_ble_eq_true rfl) ?_
      refine zX11_isNot (a1 := 5) (w := w1) (hR := hw1) ?_
      show Go SR mX11_reset 32 [(0, .ref 0), (1, .int a1)] [.int (vXX11_isNot 5)] (wXX11_isNot 5 w1) Q
      exact g_bret (pc := 32) dX11_reset_32 rfl (zzX11_isNot 5) h
  · have h := h.1 q
    refine g_aload_n (pc := 12) dX11_reset_12 rfl 0 rfl ?_
    refine g_iconst (pc := 13) dX11_reset_13 c_1 ?_
    refine g_callV (pc := 14) (M' := mX11_isNot) (n := 1) (a := 0) (as := [.int 1]) (st := []) dX11_reset_14 rfl kX11_425 vX11_isNot (Nat.le_of_ble_eq_true rfl) rfl qX11 rfl rfl (Nat.le_of_ble_eq_true rfl) ?_
    refine zX11_isNot (a1 := 1) (w := w1) (hR := hw1) ?_
    show Go SR mX11_reset 17 [(0, .ref 0), (1, .int a1)] [.int (vXX11_isNot 1)] (wXX11_isNot 1 w1) Q
    exact g_bret (pc := 17) dX11_reset_17 rfl (zzX11_isNot 1) h
set_option maxHeartbeats 4000000 in
set_option maxRecDepth 100000 in
theorem TX11_join (a1 : Int32) (a2 : Int32) (w : Wd) (hR : w.2.2 = RM) (Q : Option Value → Wd → Prop) (h : ClI SR mX11_isDance [.ref 0, .int a1] (wXX11_anew w) (fun x2 w1 => w1.2.2 = RM ∧ ((x2 = 0 → Q (some (.int (vXX11_no 1))) (wXX11_no 1 w1)) ∧ (¬ (x2 = 0) → ClI SR mX11_isDance [.ref 0, .int a2] w1 (fun x4 w3 => w3.2.2 = RM ∧ ((x4 = 0 → Q (some (.int (vXX11_no 1))) (wXX11_no 1 w3)) ∧ (¬ (x4 = 0) → ((a1 = a2 → Q (some (.int (vXX11_no 1))) (wXX11_no 1 w3)) ∧ (¬ (a1 = a2) → vp_in (5 + a2) 10 ∧ (((wi w3 5 ((5 + a2).toNatClampNeg)) = 1 → vp_in a2 10 ∧ (((wi w3 5 a2.toNatClampNeg) = 0 → Q (some (.int (vXX11_no 5))) (wXX11_no 5 w3)) ∧ (¬ ((wi w3 5 a2.toNatClampNeg) = 0) → vp_in (5 + a1) 10 ∧ (((wi w3 5 ((5 + a1).toNatClampNeg)) = 0 → Q (some (.int (vXX11_no 5))) (wXX11_no 5 w3)) ∧ (¬ ((wi w3 5 ((5 + a1).toNatClampNeg)) = 0) → ClV SR mX11_look [.ref 0, .int a1] w3 (fun w8 => w8.2.2 = RM ∧ vp_in a2 10 ∧ (((vXX11_isHigh (si w8 0 23 ((wi w8 0 23) + ((wi w8 5 a2.toNatClampNeg) * (wi w8 0 24))))) = 0 → ClI SR mX11_becomes [.ref 0, .int a1] (si w8 0 23 ((wi w8 0 23) + ((wi w8 5 a2.toNatClampNeg) * (wi w8 0 24)))) (fun x11 w10 => w10.2.2 = RM ∧ Q (some (.int x11)) w10)) ∧ (¬ ((vXX11_isHigh (si w8 0 23 ((wi w8 0 23) + ((wi w8 5 a2.toNatClampNeg) * (wi w8 0 24))))) = 0) → Q (some (.int (vXX11_no 3))) (wXX11_no 3 (si w8 0 23 ((wi w8 0 23) + ((wi w8 5 a2.toNatClampNeg) * (wi w8 0 24))))))))))))) ∧ (¬ ((wi w3 5 ((5 + a2).toNatClampNeg)) = 1) → Q (some (.int (vXX11_no 5))) (wXX11_no 5 w3)))))))))))) : Cl SR mX11_join [.ref 0, .int a1, .int a2] w Q := by
  refine cl_of (by decide) (Nat.le_of_ble_eq_true rfl) ?_
  show Go SR mX11_join 0 [(0, .ref 0), (1, .int a1), (2, .int a2)] [] w Q
  refine g_aload_n (pc := 0) dX11_join_0 rfl 0 rfl ?_
  refine g_callV (pc := 1) (M' := mX11_anew) (n := 0) (a := 0) (as := []) (st := []) dX11_join_1 rfl kX11_147 vX11_anew (Nat.le_of_ble_eq_true rfl) rfl qX11 rfl rfl (Nat.le_of_ble_eq_true rfl) ?_
  refine zX11_anew (w := w) (hR := hR) ?_
  show Go SR mX11_join 4 [(0, .ref 0), (1, .int a1), (2, .int a2)] [] (wXX11_anew w) Q
  refine g_aload_n (pc := 4) dX11_join_4 rfl 0 rfl ?_
  refine g_iload_n (pc := 5) dX11_join_5 rfl 1 rfl ?_
  refine g_callV (pc := 6) (M' := mX11_isDance) (n := 1) (a := 0) (as := [.int a1]) (st := []) dX11_join_6 rfl kX11_239 vX11_isDance (Nat.le_of_ble_eq_true rfl) rfl qX11 rfl rfl (Nat.le_of_ble_eq_true rfl) ?_
  refine cl_mono (fun r w1 hr => ?_) h
  obtain ⟨x2, rfl, hw1, h⟩ := hr
  show Go SR mX11_join 9 [(0, .ref 0), (1, .int a1), (2, .int a2)] [.int x2] w1 Q
  refine g_if_eq (pc := 9) (tgt := 25) dX11_join_9 (by decide) (fun q => ?_) (fun q => ?_)
  · have h := h.1 q
    refine g_aload_n (pc := 25) dX11_join_25 rfl 0 rfl ?_
    refine g_iconst (pc := 26) dX11_join_26 c_1 ?_
    refine g_callV (pc := 27) (M' := mX11_no) (n := 1) (a := 0) (as := [.int 1]) (st := []) dX11_join_27 rfl kX11_150 vX11_no (Nat.le_of_ble_eq_true rfl) rfl qX11 rfl rfl (Nat.le_of_ble_eq_true rfl) ?_
    refine zX11_no (a1 := 1) (w := w1) (hR := hw1) ?_
    show Go SR mX11_join 30 [(0, .ref 0), (1, .int a1), (2, .int a2)] [.int (vXX11_no 1)] (wXX11_no 1 w1) Q
    exact g_iret (pc := 30) dX11_join_30 rfl h
  · have h := h.2 q
    refine g_aload_n (pc := 12) dX11_join_12 rfl 0 rfl ?_
    refine g_iload_n (pc := 13) dX11_join_13 rfl 2 rfl ?_
    refine g_callV (pc := 14) (M' := mX11_isDance) (n := 1) (a := 0) (as := [.int a2]) (st := []) dX11_join_14 rfl kX11_239 vX11_isDance (Nat.le_of_ble_eq_true rfl) rfl qX11 rfl rfl (Nat.le_of_ble_eq_true rfl) ?_
    refine cl_mono (fun r w3 hr => ?_) h
    obtain ⟨x4, rfl, hw3, h⟩ := hr
    show Go SR mX11_join 17 [(0, .ref 0), (1, .int a1), (2, .int a2)] [.int x4] w3 Q
    refine g_if_eq (pc := 17) (tgt := 25) dX11_join_17 (by decide) (fun q => ?_) (fun q => ?_)
    · have h := h.1 q
      refine g_aload_n (pc := 25) dX11_join_25 rfl 0 rfl ?_
      refine g_iconst (pc := 26) dX11_join_26 c_1 ?_
      refine g_callV (pc := 27) (M' := mX11_no) (n := 1) (a := 0) (as := [.int 1]) (st := []) dX11_join_27 rfl kX11_150 vX11_no (Nat.le_of_ble_eq_true rfl) rfl qX11 rfl rfl (Nat.le_of_ble_eq_true rfl) ?_
      refine zX11_no (a1 := 1) (w := w3) (hR := hw3) ?_
      show Go SR mX11_join 30 [(0, .ref 0), (1, .int a1), (2, .int a2)] [.int (vXX11_no 1)] (wXX11_no 1 w3) Q
      exact g_iret (pc := 30) dX11_join_30 rfl h
    · have h := h.2 q
      refine g_iload_n (pc := 20) dX11_join_20 rfl 1 rfl ?_
      refine g_iload_n (pc := 21) dX11_join_21 rfl 2 rfl ?_
      refine g_icmp_ne (pc := 22) (tgt := 31) dX11_join_22 (by decide) (fun q => ?_) (fun q => ?_)
      · have h := h.2 q
        refine g_aload_n (pc := 31) dX11_join_31 rfl 0 rfl ?_
        refine g_getR (pc := 32) (a := 0) (b := 5) dX11_join_32 rfl fX11_26 rfl (rm_18 hw3) ?_
        refine g_iconst (pc := 35) dX11_join_35 c_5 ?_
        refine g_iload_n (pc := 36) dX11_join_36 rfl 2 rfl ?_
        refine g_iadd (pc := 37) dX11_join_37 ?_
        obtain ⟨hi5, h⟩ := h
        refine g_iald (pc := 38) (a := 5) (j := (5 + a2).toNatClampNeg) dX11_join_38 rfl hi5 rfl ?_
        refine g_iconst (pc := 39) dX11_join_39 c_1 ?_
        refine g_icmp_ne (pc := 40) (tgt := 63) dX11_join_40 (by decide) (fun q => ?_) (fun q => ?_)
        · have h := h.2 q
          refine g_aload_n (pc := 63) dX11_join_63 rfl 0 rfl ?_
          refine g_iconst (pc := 64) dX11_join_64 c_5 ?_
          refine g_callV (pc := 65) (M' := mX11_no) (n := 1) (a := 0) (as := [.int 5]) (st := []) dX11_join_65 rfl kX11_150 vX11_no (Nat.le_of_ble_eq_true rfl) rfl qX11 rfl rfl (Nat.le_of_ble_eq_true rfl) ?_
          refine zX11_no (a1 := 5) (w := w3) (hR := hw3) ?_
          show Go SR mX11_join 68 [(0, .ref 0), (1, .int a1), (2, .int a2)] [.int (vXX11_no 5)] (wXX11_no 5 w3) Q
          exact g_iret (pc := 68) dX11_join_68 rfl h
        · have h := h.1 q
          refine g_aload_n (pc := 43) dX11_join_43 rfl 0 rfl ?_
          refine g_getR (pc := 44) (a := 0) (b := 5) dX11_join_44 rfl fX11_26 rfl (rm_18 hw3) ?_
          refine g_iload_n (pc := 47) dX11_join_47 rfl 2 rfl ?_
          obtain ⟨hi6, h⟩ := h
          refine g_iald (pc := 48) (a := 5) (j := a2.toNatClampNeg) dX11_join_48 rfl hi6 rfl ?_
          refine g_if_eq (pc := 49) (tgt := 63) dX11_join_49 (by decide) (fun q => ?_) (fun q => ?_)
          · have h := h.1 q
            refine g_aload_n (pc := 63) dX11_join_63 rfl 0 rfl ?_
            refine g_iconst (pc := 64) dX11_join_64 c_5 ?_
            refine g_callV (pc := 65) (M' := mX11_no) (n := 1) (a := 0) (as := [.int 5]) (st := []) dX11_join_65 rfl kX11_150 vX11_no (Nat.le_of_ble_eq_true rfl) rfl qX11 rfl rfl (Nat.le_of_ble_eq_true rfl) ?_
            refine zX11_no (a1 := 5) (w := w3) (hR := hw3) ?_
            show Go SR mX11_join 68 [(0, .ref 0), (1, .int a1), (2, .int a2)] [.int (vXX11_no 5)] (wXX11_no 5 w3) Q
            exact g_iret (pc := 68) dX11_join_68 rfl h
          · have h := h.2 q
            refine g_aload_n (pc := 52) dX11_join_52 rfl 0 rfl ?_
            refine g_getR (pc := 53) (a := 0) (b := 5) dX11_join_53 rfl fX11_26 rfl (rm_18 hw3) ?_
            refine g_iconst (pc := 56) dX11_join_56 c_5 ?_
            refine g_iload_n (pc := 57) dX11_join_57 rfl 1 rfl ?_
            refine g_iadd (pc := 58) dX11_join_58 ?_
            obtain ⟨hi7, h⟩ := h
            refine g_iald (pc := 59) (a := 5) (j := (5 + a1).toNatClampNeg) dX11_join_59 rfl hi7 rfl ?_
            refine g_if_ne (pc := 60) (tgt := 69) dX11_join_60 (by decide) (fun q => ?_) (fun q => ?_)
            · have h := h.2 q
              refine g_aload_n (pc := 69) dX11_join_69 rfl 0 rfl ?_
              refine g_iload_n (pc := 70) dX11_join_70 rfl 1 rfl ?_
              refine g_callV (pc := 71) (M' := mX11_look) (n := 1) (a := 0) (as := [.int a1]) (st := []) dX11_join_71 rfl kX11_245 vX11_look (Nat.le_of_ble_eq_true rfl) rfl qX11 rfl rfl (Nat.le_of_ble_eq_true rfl) ?_
              refine cl_mono (fun r w8 hr => ?_) h
              obtain ⟨rfl, hw8, h⟩ := hr
              show Go SR mX11_join 74 [(0, .ref 0), (1, .int a1), (2, .int a2)] [] w8 Q
              refine g_aload_n (pc := 74) dX11_join_74 rfl 0 rfl ?_
              refine g_dup (pc := 75) dX11_join_75 rfl ?_
              refine g_getI (pc := 76) (a := 0) dX11_join_76 rfl fX11_169 rfl ?_
              refine g_aload_n (pc := 79) dX11_join_79 rfl 0 rfl ?_
              refine g_getR (pc := 80) (a := 0) (b := 5) dX11_join_80 rfl fX11_26 rfl (rm_18 hw8) ?_
              refine g_iload_n (pc := 83) dX11_join_83 rfl 2 rfl ?_
              obtain ⟨hi9, h⟩ := h
              refine g_iald (pc := 84) (a := 5) (j := a2.toNatClampNeg) dX11_join_84 rfl hi9 rfl ?_
              refine g_aload_n (pc := 85) dX11_join_85 rfl 0 rfl ?_
              refine g_getI (pc := 86) (a := 0) dX11_join_86 rfl fX11_172 rfl ?_
              refine g_imul (pc := 89) dX11_join_89 ?_
              refine g_iadd (pc := 90) dX11_join_90 ?_
              refine g_putI (pc := 91) dX11_join_91 rfl fX11_169 pX11_23 rfl ?_
              refine g_aload_n (pc := 94) dX11_join_94 rfl 0 rfl ?_
              refine g_callV (pc := 95) (M' := mX11_isHigh) (n := 0) (a := 0) (as := []) (st := []) dX11_join_95 rfl kX11_228 vX11_isHigh (Nat.le_of_ble_eq_true rfl) rfl qX11 rfl rfl (Nat.le_of_ble_eq_true rfl) ?_
              refine zX11_isHigh (w := si w8 0 23 ((wi w8 0 23) + ((wi w8 5 a2.toNatClampNeg) * (wi w8 0 24)))) (hR := hw8) ?_
              show Go SR mX11_join 98 [(0, .ref 0), (1, .int a1), (2, .int a2)] [.int (vXX11_isHigh (si w8 0 23 ((wi w8 0 23) + ((wi w8 5 a2.toNatClampNeg) * (wi w8 0 24)))))] (si w8 0 23 ((wi w8 0 23) + ((wi w8 5 a2.toNatClampNeg) * (wi w8 0 24)))) Q
              refine g_if_eq (pc := 98) (tgt := 109) dX11_join_98 (by decide) (fun q => ?_) (fun q => ?_)
              · have h := h.1 q
                refine g_aload_n (pc := 109) dX11_join_109 rfl 0 rfl ?_
                refine g_iload_n (pc := 110) dX11_join_110 rfl 1 rfl ?_
                refine g_callV (pc := 111) (M' := mX11_becomes) (n := 1) (a := 0) (as := [.int a1]) (st := []) dX11_join_111 rfl kX11_422 vX11_becomes (Nat.le_of_ble_eq_true rfl) rfl qX11 rfl rfl (Nat.le_of_ble_eq_true rfl) ?_
                refine cl_mono (fun r w10 hr => ?_) h
                obtain ⟨x11, rfl, hw10, h⟩ := hr
                show Go SR mX11_join 114 [(0, .ref 0), (1, .int a1), (2, .int a2)] [.int x11] w10 Q
                exact g_iret (pc := 114) dX11_join_114 rfl h
              · have h := h.2 q
                refine g_aload_n (pc := 101) dX11_join_101 rfl 0 rfl ?_
                refine g_iconst (pc := 102) dX11_join_102 c_3 ?_
                refine g_callV (pc := 103) (M' := mX11_no) (n := 1) (a := 0) (as := [.int 3]) (st := []) dX11_join_103 rfl kX11_150 vX11_no (Nat.le_of_ble_eq_true rfl) rfl qX11 rfl rfl (Nat.le_of_ble_eq_true rfl) ?_
                refine zX11_no (a1 := 3) (w := si w8 0 23 ((wi w8 0 23) + ((wi w8 5 a2.toNatClampNeg) * (wi w8 0 24)))) (hR := hw8) ?_
                show Go SR mX11_join 106 [(0, .ref 0), (1, .int a1), (2, .int a2)] [.int (vXX11_no 3)] (wXX11_no 3 (si w8 0 23 ((wi w8 0 23) + ((wi w8 5 a2.toNatClampNeg) * (wi w8 0 24))))) Q
                refine g_goto (pc := 106) (tgt := 114) dX11_join_106 (by decide) ?_
                exact g_iret (pc := 114) dX11_join_114 rfl h
            · have h := h.1 q
              refine g_aload_n (pc := 63) dX11_join_63 rfl 0 rfl ?_
              refine g_iconst (pc := 64) dX11_join_64 c_5 ?_
              refine g_callV (pc := 65) (M' := mX11_no) (n := 1) (a := 0) (as := [.int 5]) (st := []) dX11_join_65 rfl kX11_150 vX11_no (Nat.le_of_ble_eq_true rfl) rfl qX11 rfl rfl (Nat.le_of_ble_eq_true rfl) ?_
              refine zX11_no (a1 := 5) (w := w3) (hR := hw3) ?_
              show Go SR mX11_join 68 [(0, .ref 0), (1, .int a1), (2, .int a2)] [.int (vXX11_no 5)] (wXX11_no 5 w3) Q
              exact g_iret (pc := 68) dX11_join_68 rfl h
      · have h := h.1 q
        refine g_aload_n (pc := 25) dX11_join_25 rfl 0 rfl ?_
        refine g_iconst (pc := 26) dX11_join_26 c_1 ?_
        refine g_callV (pc := 27) (M' := mX11_no) (n := 1) (a := 0) (as := [.int 1]) (st := []) dX11_join_27 rfl kX11_150 vX11_no (Nat.le_of_ble_eq_true rfl) rfl qX11 rfl rfl (Nat.le_of_ble_eq_true rfl) ?_
        refine zX11_no (a1 := 1) (w := w3) (hR := hw3) ?_
        show Go SR mX11_join 30 [(0, .ref 0), (1, .int a1), (2, .int a2)] [.int (vXX11_no 1)] (wXX11_no 1 w3) Q
        exact g_iret (pc := 30) dX11_join_30 rfl h
set_option maxHeartbeats 4000000 in
set_option maxRecDepth 100000 in
theorem TX11_undo  (w : Wd) (hR : w.2.2 = RM) (Q : Option Value → Wd → Prop) (h : (((wi (wXX11_anew w) 0 21) = 0 → Q (some (.int (vXX11_isNot 6))) (wXX11_isNot 6 (wXX11_anew w))) ∧ (¬ ((wi (wXX11_anew w) 0 21) = 0) → ClV SR mX11_copy [.ref 6, .int (10 * (wi (si (wXX11_anew w) 0 21 ((wi (wXX11_anew w) 0 21) - 1)) 0 21)), .ref 5, .int 0, .int 10] (si (wXX11_anew w) 0 21 ((wi (wXX11_anew w) 0 21) - 1)) (fun w1 => w1.2.2 = RM ∧ Q (some (.int 1)) w1)))) : Cl SR mX11_undo [.ref 0] w Q := by
  refine cl_of (by decide) (Nat.le_of_ble_eq_true rfl) ?_
  show Go SR mX11_undo 0 [(0, .ref 0)] [] w Q
  refine g_aload_n (pc := 0) dX11_undo_0 rfl 0 rfl ?_
  refine g_callV (pc := 1) (M' := mX11_anew) (n := 0) (a := 0) (as := []) (st := []) dX11_undo_1 rfl kX11_147 vX11_anew (Nat.le_of_ble_eq_true rfl) rfl qX11 rfl rfl (Nat.le_of_ble_eq_true rfl) ?_
  refine zX11_anew (w := w) (hR := hR) ?_
  show Go SR mX11_undo 4 [(0, .ref 0)] [] (wXX11_anew w) Q
  refine g_aload_n (pc := 4) dX11_undo_4 rfl 0 rfl ?_
  refine g_getI (pc := 5) (a := 0) dX11_undo_5 rfl fX11_175 rfl ?_
  refine g_if_ne (pc := 8) (tgt := 18) dX11_undo_8 (by decide) (fun q => ?_) (fun q => ?_)
  · have h := h.2 q
    refine g_aload_n (pc := 18) dX11_undo_18 rfl 0 rfl ?_
    refine g_dup (pc := 19) dX11_undo_19 rfl ?_
    refine g_getI (pc := 20) (a := 0) dX11_undo_20 rfl fX11_175 rfl ?_
    refine g_iconst (pc := 23) dX11_undo_23 c_1 ?_
    refine g_isub (pc := 24) dX11_undo_24 ?_
    refine g_putI (pc := 25) dX11_undo_25 rfl fX11_175 pX11_21 rfl ?_
    refine g_aload_n (pc := 28) dX11_undo_28 rfl 0 rfl ?_
    refine g_getR (pc := 29) (a := 0) (b := 6) dX11_undo_29 rfl fX11_29 rfl (rm_19 hR) ?_
    refine g_bipush (pc := 32) (v := 10) dX11_undo_32 (by decide) ?_
    refine g_aload_n (pc := 34) dX11_undo_34 rfl 0 rfl ?_
    refine g_getI (pc := 35) (a := 0) dX11_undo_35 rfl fX11_175 rfl ?_
    refine g_imul (pc := 38) dX11_undo_38 ?_
    refine g_aload_n (pc := 39) dX11_undo_39 rfl 0 rfl ?_
    refine g_getR (pc := 40) (a := 0) (b := 5) dX11_undo_40 rfl fX11_26 rfl (rm_18 hR) ?_
    refine g_iconst (pc := 43) dX11_undo_43 c_0 ?_
    refine g_bipush (pc := 44) (v := 10) dX11_undo_44 (by decide) ?_
    refine g_callS (pc := 46) (M' := mX11_copy) (n := 5) (as := [.ref 6, .int (10 * (wi (si (wXX11_anew w) 0 21 ((wi (wXX11_anew w) 0 21) - 1)) 0 21)), .ref 5, .int 0, .int 10]) (st := []) dX11_undo_46 rfl kX11_159 sX11_copy (Nat.le_of_ble_eq_true rfl) rfl rfl (Nat.le_of_ble_eq_true rfl) ?_
    refine cl_mono (fun r w1 hr => ?_) h
    obtain ⟨rfl, hw1, h⟩ := hr
    show Go SR mX11_undo 49 [(0, .ref 0)] [] w1 Q
    refine g_iconst (pc := 49) dX11_undo_49 c_1 ?_
    exact g_bret (pc := 50) dX11_undo_50 rfl (Or.inr rfl) h
  · have h := h.1 q
    refine g_aload_n (pc := 11) dX11_undo_11 rfl 0 rfl ?_
    refine g_bipush (pc := 12) (v := 6) dX11_undo_12 (by decide) ?_
    refine g_callV (pc := 14) (M' := mX11_isNot) (n := 1) (a := 0) (as := [.int 6]) (st := []) dX11_undo_14 rfl kX11_425 vX11_isNot (Nat.le_of_ble_eq_true rfl) rfl qX11 rfl rfl (Nat.le_of_ble_eq_true rfl) ?_
    refine zX11_isNot (a1 := 6) (w := wXX11_anew w) (hR := hR) ?_
    show Go SR mX11_undo 17 [(0, .ref 0)] [.int (vXX11_isNot 6)] (wXX11_isNot 6 (wXX11_anew w)) Q
    exact g_bret (pc := 17) dX11_undo_17 rfl (zzX11_isNot 6) h
set_option maxHeartbeats 4000000 in
set_option maxRecDepth 100000 in
theorem TX11_image  (w : Wd) (hR : w.2.2 = RM) (Q : Option Value → Wd → Prop) (h : (((wi (wXX11_anew w) 0 15) = 0 → Q (some (.int (vXX11_no 1))) (wXX11_no 1 (wXX11_anew w))) ∧ (¬ ((wi (wXX11_anew w) 0 15) = 0) → (((wi (wXX11_anew w) 0 22) = 3 → Q (some (.int (vXX11_no 3))) (wXX11_no 3 (wXX11_anew w))) ∧ (¬ ((wi (wXX11_anew w) 0 22) = 3) → ClV SR mX11_copy [.ref 5, .int 0, .ref 7, .int (10 * (wi (wXX11_anew w) 0 22)), .int 10] (wXX11_anew w) (fun w1 => w1.2.2 = RM ∧ Q (some (.int ((wi (si w1 0 22 ((wi w1 0 22) + 1)) 0 22) - 1))) (si w1 0 22 ((wi w1 0 22) + 1)))))))) : Cl SR mX11_image [.ref 0] w Q := by
  refine cl_of (by decide) (Nat.le_of_ble_eq_true rfl) ?_
  show Go SR mX11_image 0 [(0, .ref 0)] [] w Q
  refine g_aload_n (pc := 0) dX11_image_0 rfl 0 rfl ?_
  refine g_callV (pc := 1) (M' := mX11_anew) (n := 0) (a := 0) (as := []) (st := []) dX11_image_1 rfl kX11_147 vX11_anew (Nat.le_of_ble_eq_true rfl) rfl qX11 rfl rfl (Nat.le_of_ble_eq_true rfl) ?_
  refine zX11_anew (w := w) (hR := hR) ?_
  show Go SR mX11_image 4 [(0, .ref 0)] [] (wXX11_anew w) Q
  refine g_aload_n (pc := 4) dX11_image_4 rfl 0 rfl ?_
  refine g_getZ (pc := 5) (a := 0) dX11_image_5 rfl fX11_163 rfl ?_
  refine g_if_ne (pc := 8) (tgt := 17) dX11_image_8 (by decide) (fun q => ?_) (fun q => ?_)
  · have h := h.2 q
    refine g_aload_n (pc := 17) dX11_image_17 rfl 0 rfl ?_
    refine g_getI (pc := 18) (a := 0) dX11_image_18 rfl fX11_178 rfl ?_
    refine g_iconst (pc := 21) dX11_image_21 c_3 ?_
    refine g_icmp_ne (pc := 22) (tgt := 31) dX11_image_22 (by decide) (fun q => ?_) (fun q => ?_)
    · have h := h.2 q
      refine g_aload_n (pc := 31) dX11_image_31 rfl 0 rfl ?_
      refine g_getR (pc := 32) (a := 0) (b := 5) dX11_image_32 rfl fX11_26 rfl (rm_18 hR) ?_
      refine g_iconst (pc := 35) dX11_image_35 c_0 ?_
      refine g_aload_n (pc := 36) dX11_image_36 rfl 0 rfl ?_
      refine g_getR (pc := 37) (a := 0) (b := 7) dX11_image_37 rfl fX11_32 rfl (rm_20 hR) ?_
      refine g_bipush (pc := 40) (v := 10) dX11_image_40 (by decide) ?_
      refine g_aload_n (pc := 42) dX11_image_42 rfl 0 rfl ?_
      refine g_getI (pc := 43) (a := 0) dX11_image_43 rfl fX11_178 rfl ?_
      refine g_imul (pc := 46) dX11_image_46 ?_
      refine g_bipush (pc := 47) (v := 10) dX11_image_47 (by decide) ?_
      refine g_callS (pc := 49) (M' := mX11_copy) (n := 5) (as := [.ref 5, .int 0, .ref 7, .int (10 * (wi (wXX11_anew w) 0 22)), .int 10]) (st := []) dX11_image_49 rfl kX11_159 sX11_copy (Nat.le_of_ble_eq_true rfl) rfl rfl (Nat.le_of_ble_eq_true rfl) ?_
      refine cl_mono (fun r w1 hr => ?_) h
      obtain ⟨rfl, hw1, h⟩ := hr
      show Go SR mX11_image 52 [(0, .ref 0)] [] w1 Q
      refine g_aload_n (pc := 52) dX11_image_52 rfl 0 rfl ?_
      refine g_dup (pc := 53) dX11_image_53 rfl ?_
      refine g_getI (pc := 54) (a := 0) dX11_image_54 rfl fX11_178 rfl ?_
      refine g_iconst (pc := 57) dX11_image_57 c_1 ?_
      refine g_iadd (pc := 58) dX11_image_58 ?_
      refine g_putI (pc := 59) dX11_image_59 rfl fX11_178 pX11_22 rfl ?_
      refine g_aload_n (pc := 62) dX11_image_62 rfl 0 rfl ?_
      refine g_getI (pc := 63) (a := 0) dX11_image_63 rfl fX11_178 rfl ?_
      refine g_iconst (pc := 66) dX11_image_66 c_1 ?_
      refine g_isub (pc := 67) dX11_image_67 ?_
      exact g_iret (pc := 68) dX11_image_68 rfl h
    · have h := h.1 q
      refine g_aload_n (pc := 25) dX11_image_25 rfl 0 rfl ?_
      refine g_iconst (pc := 26) dX11_image_26 c_3 ?_
      refine g_callV (pc := 27) (M' := mX11_no) (n := 1) (a := 0) (as := [.int 3]) (st := []) dX11_image_27 rfl kX11_150 vX11_no (Nat.le_of_ble_eq_true rfl) rfl qX11 rfl rfl (Nat.le_of_ble_eq_true rfl) ?_
      refine zX11_no (a1 := 3) (w := wXX11_anew w) (hR := hR) ?_
      show Go SR mX11_image 30 [(0, .ref 0)] [.int (vXX11_no 3)] (wXX11_no 3 (wXX11_anew w)) Q
      exact g_iret (pc := 30) dX11_image_30 rfl h
  · have h := h.1 q
    refine g_aload_n (pc := 11) dX11_image_11 rfl 0 rfl ?_
    refine g_iconst (pc := 12) dX11_image_12 c_1 ?_
    refine g_callV (pc := 13) (M' := mX11_no) (n := 1) (a := 0) (as := [.int 1]) (st := []) dX11_image_13 rfl kX11_150 vX11_no (Nat.le_of_ble_eq_true rfl) rfl qX11 rfl rfl (Nat.le_of_ble_eq_true rfl) ?_
    refine zX11_no (a1 := 1) (w := wXX11_anew w) (hR := hR) ?_
    show Go SR mX11_image 16 [(0, .ref 0)] [.int (vXX11_no 1)] (wXX11_no 1 (wXX11_anew w)) Q
    exact g_iret (pc := 16) dX11_image_16 rfl h
set_option maxHeartbeats 4000000 in
set_option maxRecDepth 100000 in
theorem TX11_back (a1 : Int32) (w : Wd) (hR : w.2.2 = RM) (Q : Option Value → Wd → Prop) (h : (((vXX11_in a1 0 ((wi (wXX11_anew w) 0 22) - 1)) = 0 → Q (some (.int (vXX11_isNot 1))) (wXX11_isNot 1 (wXX11_anew w))) ∧ (¬ ((vXX11_in a1 0 ((wi (wXX11_anew w) 0 22) - 1)) = 0) → ClV SR mX11_copy [.ref 7, .int (10 * a1), .ref 5, .int 0, .int 10] (wXX11_anew w) (fun w1 => w1.2.2 = RM ∧ Q (some (.int 1)) (si w1 0 21 0))))) : Cl SR mX11_back [.ref 0, .int a1] w Q := by
  refine cl_of (by decide) (Nat.le_of_ble_eq_true rfl) ?_
  show Go SR mX11_back 0 [(0, .ref 0), (1, .int a1)] [] w Q
  refine g_aload_n (pc := 0) dX11_back_0 rfl 0 rfl ?_
  refine g_callV (pc := 1) (M' := mX11_anew) (n := 0) (a := 0) (as := []) (st := []) dX11_back_1 rfl kX11_147 vX11_anew (Nat.le_of_ble_eq_true rfl) rfl qX11 rfl rfl (Nat.le_of_ble_eq_true rfl) ?_
  refine zX11_anew (w := w) (hR := hR) ?_
  show Go SR mX11_back 4 [(0, .ref 0), (1, .int a1)] [] (wXX11_anew w) Q
  refine g_iload_n (pc := 4) dX11_back_4 rfl 1 rfl ?_
  refine g_iconst (pc := 5) dX11_back_5 c_0 ?_
  refine g_aload_n (pc := 6) dX11_back_6 rfl 0 rfl ?_
  refine g_getI (pc := 7) (a := 0) dX11_back_7 rfl fX11_178 rfl ?_
  refine g_iconst (pc := 10) dX11_back_10 c_1 ?_
  refine g_isub (pc := 11) dX11_back_11 ?_
  refine g_callS (pc := 12) (M' := mX11_in) (n := 3) (as := [.int a1, .int 0, .int ((wi (wXX11_anew w) 0 22) - 1)]) (st := []) dX11_back_12 rfl kX11_143 sX11_in (Nat.le_of_ble_eq_true rfl) rfl rfl (Nat.le_of_ble_eq_true rfl) ?_
  refine zX11_in (a1 := a1) (a2 := 0) (a3 := ((wi (wXX11_anew w) 0 22) - 1)) (w := wXX11_anew w) (hR := hR) ?_
  show Go SR mX11_back 15 [(0, .ref 0), (1, .int a1)] [.int (vXX11_in a1 0 ((wi (wXX11_anew w) 0 22) - 1))] (wXX11_anew w) Q
  refine g_if_ne (pc := 15) (tgt := 24) dX11_back_15 (by decide) (fun q => ?_) (fun q => ?_)
  · have h := h.2 q
    refine g_aload_n (pc := 24) dX11_back_24 rfl 0 rfl ?_
    refine g_getR (pc := 25) (a := 0) (b := 7) dX11_back_25 rfl fX11_32 rfl (rm_20 hR) ?_
    refine g_bipush (pc := 28) (v := 10) dX11_back_28 (by decide) ?_
    refine g_iload_n (pc := 30) dX11_back_30 rfl 1 rfl ?_
    refine g_imul (pc := 31) dX11_back_31 ?_
    refine g_aload_n (pc := 32) dX11_back_32 rfl 0 rfl ?_
    refine g_getR (pc := 33) (a := 0) (b := 5) dX11_back_33 rfl fX11_26 rfl (rm_18 hR) ?_
    refine g_iconst (pc := 36) dX11_back_36 c_0 ?_
    refine g_bipush (pc := 37) (v := 10) dX11_back_37 (by decide) ?_
    refine g_callS (pc := 39) (M' := mX11_copy) (n := 5) (as := [.ref 7, .int (10 * a1), .ref 5, .int 0, .int 10]) (st := []) dX11_back_39 rfl kX11_159 sX11_copy (Nat.le_of_ble_eq_true rfl) rfl rfl (Nat.le_of_ble_eq_true rfl) ?_
    refine cl_mono (fun r w1 hr => ?_) h
    obtain ⟨rfl, hw1, h⟩ := hr
    show Go SR mX11_back 42 [(0, .ref 0), (1, .int a1)] [] w1 Q
    refine g_aload_n (pc := 42) dX11_back_42 rfl 0 rfl ?_
    refine g_iconst (pc := 43) dX11_back_43 c_0 ?_
    refine g_putI (pc := 44) dX11_back_44 rfl fX11_175 pX11_21 rfl ?_
    refine g_iconst (pc := 47) dX11_back_47 c_1 ?_
    exact g_bret (pc := 48) dX11_back_48 rfl (Or.inr rfl) h
  · have h := h.1 q
    refine g_aload_n (pc := 18) dX11_back_18 rfl 0 rfl ?_
    refine g_iconst (pc := 19) dX11_back_19 c_1 ?_
    refine g_callV (pc := 20) (M' := mX11_isNot) (n := 1) (a := 0) (as := [.int 1]) (st := []) dX11_back_20 rfl kX11_425 vX11_isNot (Nat.le_of_ble_eq_true rfl) rfl qX11 rfl rfl (Nat.le_of_ble_eq_true rfl) ?_
    refine zX11_isNot (a1 := 1) (w := wXX11_anew w) (hR := hR) ?_
    show Go SR mX11_back 23 [(0, .ref 0), (1, .int a1)] [.int (vXX11_isNot 1)] (wXX11_isNot 1 (wXX11_anew w)) Q
    exact g_bret (pc := 23) dX11_back_23 rfl (zzX11_isNot 1) h
set_option maxHeartbeats 4000000 in
set_option maxRecDepth 100000 in
theorem TX11_led (a1 : Int32) (w : Wd) (hR : w.2.2 = RM) (Q : Option Value → Wd → Prop) (h : Go SR mX11_led 4 [(0, .ref 0), (1, .int a1), (2, .int 0), (3, .int 0)] [] w Q) : Cl SR mX11_led [.ref 0, .int a1] w Q := by
  refine cl_of (by decide) (Nat.le_of_ble_eq_true rfl) ?_
  show Go SR mX11_led 0 [(0, .ref 0), (1, .int a1)] [] w Q
  refine g_iconst (pc := 0) dX11_led_0 c_0 ?_
  refine g_istore_n (pc := 1) (lv2 := [(0, .ref 0), (1, .int a1), (2, .int 0)]) dX11_led_1 rfl (Nat.le_of_ble_eq_true rfl) rfl ?_
  refine g_iconst (pc := 2) dX11_led_2 c_0 ?_
  refine g_istore_n (pc := 3) (lv2 := [(0, .ref 0), (1, .int a1), (2, .int 0), (3, .int 0)]) dX11_led_3 rfl (Nat.le_of_ble_eq_true rfl) rfl ?_
  exact h
set_option maxHeartbeats 4000000 in
set_option maxRecDepth 100000 in
theorem BX11_led_4  (l1 : Int32) (l2 : Int32) (l3 : Int32) (w : Wd) (hR : w.2.2 = RM) (Q : Option Value → Wd → Prop) (h : (((wi w 0 15) = 0 → Q (some (.int 0)) (si w 0 0 1)) ∧ (¬ ((wi w 0 15) = 0) → (((wi w 3 1) ≤ l3 → Q (some (.int 0)) (si w 0 0 1)) ∧ (¬ ((wi w 3 1) ≤ l3) → vp_in l3 10 ∧ (((wi w 5 l3.toNatClampNeg) = 0 → ((l2 = l1 → Q (some (.int l3)) (si w 0 0 0)) ∧ (¬ (l2 = l1) → Go SR mX11_led 4 [(0, .ref 0), (1, .int l1), (2, .int (l2 + 1)), (3, .int (l3 + 1))] [] w Q))) ∧ (¬ ((wi w 5 l3.toNatClampNeg) = 0) → Go SR mX11_led 4 [(0, .ref 0), (1, .int l1), (2, .int l2), (3, .int (l3 + 1))] [] w Q))))))) : Go SR mX11_led 4 [(0, .ref 0), (1, .int l1), (2, .int l2), (3, .int l3)] [] w Q := by
  refine g_aload_n (pc := 4) dX11_led_4 rfl 0 rfl ?_
  refine g_getZ (pc := 5) (a := 0) dX11_led_5 rfl fX11_163 rfl ?_
  refine g_if_eq (pc := 8) (tgt := 54) dX11_led_8 (by decide) (fun q => ?_) (fun q => ?_)
  · have h := h.1 q
    refine g_aload_n (pc := 54) dX11_led_54 rfl 0 rfl ?_
    refine g_iconst (pc := 55) dX11_led_55 c_1 ?_
    refine g_putI (pc := 56) dX11_led_56 rfl fX11_53 pX11_0 rfl ?_
    refine g_iconst (pc := 59) dX11_led_59 c_0 ?_
    exact g_iret (pc := 60) dX11_led_60 rfl h
  · have h := h.2 q
    refine g_iload_n (pc := 11) dX11_led_11 rfl 3 rfl ?_
    refine g_aload_n (pc := 12) dX11_led_12 rfl 0 rfl ?_
    refine g_getR (pc := 13) (a := 0) (b := 3) dX11_led_13 rfl fX11_20 rfl (rm_16 hR) ?_
    refine g_iconst (pc := 16) dX11_led_16 c_1 ?_
    refine g_iald (pc := 17) (a := 3) (j := 1) dX11_led_17 rfl (vin (by decide) (by decide)) (by decide) ?_
    refine g_icmp_ge (pc := 18) (tgt := 54) dX11_led_18 (by decide) (fun q => ?_) (fun q => ?_)
    · have h := h.1 q
      refine g_aload_n (pc := 54) dX11_led_54 rfl 0 rfl ?_
      refine g_iconst (pc := 55) dX11_led_55 c_1 ?_
      refine g_putI (pc := 56) dX11_led_56 rfl fX11_53 pX11_0 rfl ?_
      refine g_iconst (pc := 59) dX11_led_59 c_0 ?_
      exact g_iret (pc := 60) dX11_led_60 rfl h
    · have h := h.2 q
      refine g_aload_n (pc := 21) dX11_led_21 rfl 0 rfl ?_
      refine g_getR (pc := 22) (a := 0) (b := 5) dX11_led_22 rfl fX11_26 rfl (rm_18 hR) ?_
      refine g_iload_n (pc := 25) dX11_led_25 rfl 3 rfl ?_
      obtain ⟨hi1, h⟩ := h
      refine g_iald (pc := 26) (a := 5) (j := l3.toNatClampNeg) dX11_led_26 rfl hi1 rfl ?_
      refine g_if_eq (pc := 27) (tgt := 33) dX11_led_27 (by decide) (fun q => ?_) (fun q => ?_)
      · have h := h.1 q
        refine g_iload_n (pc := 33) dX11_led_33 rfl 2 rfl ?_
        refine g_iload_n (pc := 34) dX11_led_34 rfl 1 rfl ?_
        refine g_icmp_ne (pc := 35) (tgt := 45) dX11_led_35 (by decide) (fun q => ?_) (fun q => ?_)
        · have h := h.2 q
          refine g_iinc (pc := 45) (v := l2 + 1) (lv2 := [(0, .ref 0), (1, .int l1), (2, .int (l2 + 1)), (3, .int l3)]) dX11_led_45 2 rfl (Nat.le_of_ble_eq_true rfl) rfl rfl ?_
          refine g_iinc (pc := 48) (v := l3 + 1) (lv2 := [(0, .ref 0), (1, .int l1), (2, .int (l2 + 1)), (3, .int (l3 + 1))]) dX11_led_48 3 rfl (Nat.le_of_ble_eq_true rfl) rfl rfl ?_
          refine g_goto (pc := 51) (tgt := 4) dX11_led_51 (by decide) ?_
          exact h
        · have h := h.1 q
          refine g_aload_n (pc := 38) dX11_led_38 rfl 0 rfl ?_
          refine g_iconst (pc := 39) dX11_led_39 c_0 ?_
          refine g_putI (pc := 40) dX11_led_40 rfl fX11_53 pX11_0 rfl ?_
          refine g_iload_n (pc := 43) dX11_led_43 rfl 3 rfl ?_
          exact g_iret (pc := 44) dX11_led_44 rfl h
      · have h := h.2 q
        refine g_goto (pc := 30) (tgt := 48) dX11_led_30 (by decide) ?_
        refine g_iinc (pc := 48) (v := l3 + 1) (lv2 := [(0, .ref 0), (1, .int l1), (2, .int l2), (3, .int (l3 + 1))]) dX11_led_48 3 rfl (Nat.le_of_ble_eq_true rfl) rfl rfl ?_
        refine g_goto (pc := 51) (tgt := 4) dX11_led_51 (by decide) ?_
        exact h
set_option maxHeartbeats 4000000 in
set_option maxRecDepth 100000 in
theorem TX11_size (a1 : Int32) (w : Wd) (hR : w.2.2 = RM) (Q : Option Value → Wd → Prop) (h : ((a1 = 6 → Q (some (.int (wi (si w 0 0 0) 0 2))) (si w 0 0 0)) ∧ (¬ (a1 = 6) → (((wi (si w 0 0 0) 0 15) = 0 → Q (some (.int (if (vXX11_in a1 0 5) = 0 then (-1) else 0 : Int32))) (si w 0 0 0)) ∧ (¬ ((wi (si w 0 0 0) 0 15) = 0) → (((vXX11_in a1 0 3) = 0 → Q (some (.int (if a1 = 4 then wi (si w 0 0 0) 0 21 else (if a1 = 5 then wi (si w 0 0 0) 0 22 else (-1) : Int32) : Int32))) (si w 0 0 0)) ∧ (¬ ((vXX11_in a1 0 3) = 0) → vp_in a1 146 ∧ Q (some (.int (wi (si w 0 0 0) 3 a1.toNatClampNeg))) (si w 0 0 0)))))))) : Cl SR mX11_size [.ref 0, .int a1] w Q := by
  refine cl_of (by decide) (Nat.le_of_ble_eq_true rfl) ?_
  show Go SR mX11_size 0 [(0, .ref 0), (1, .int a1)] [] w Q
  refine g_aload_n (pc := 0) dX11_size_0 rfl 0 rfl ?_
  refine g_iconst (pc := 1) dX11_size_1 c_0 ?_
  refine g_putI (pc := 2) dX11_size_2 rfl fX11_53 pX11_0 rfl ?_
  refine g_iload_n (pc := 5) dX11_size_5 rfl 1 rfl ?_
  refine g_bipush (pc := 6) (v := 6) dX11_size_6 (by decide) ?_
  refine g_icmp_ne (pc := 8) (tgt := 16) dX11_size_8 (by decide) (fun q => ?_) (fun q => ?_)
  · have h := h.2 q
    refine g_aload_n (pc := 16) dX11_size_16 rfl 0 rfl ?_
    refine g_getZ (pc := 17) (a := 0) dX11_size_17 rfl fX11_163 rfl ?_
    refine g_if_ne (pc := 20) (tgt := 38) dX11_size_20 (by decide) (fun q => ?_) (fun q => ?_)
    · have h := h.2 q
      refine g_iload_n (pc := 38) dX11_size_38 rfl 1 rfl ?_
      refine g_iconst (pc := 39) dX11_size_39 c_0 ?_
      refine g_iconst (pc := 40) dX11_size_40 c_3 ?_
      refine g_callS (pc := 41) (M' := mX11_in) (n := 3) (as := [.int a1, .int 0, .int 3]) (st := []) dX11_size_41 rfl kX11_143 sX11_in (Nat.le_of_ble_eq_true rfl) rfl rfl (Nat.le_of_ble_eq_true rfl) ?_
      refine zX11_in (a1 := a1) (a2 := 0) (a3 := 3) (w := si w 0 0 0) (hR := hR) ?_
      show Go SR mX11_size 44 [(0, .ref 0), (1, .int a1)] [.int (vXX11_in a1 0 3)] (si w 0 0 0) Q
      refine g_if_eq (pc := 44) (tgt := 54) dX11_size_44 (by decide) (fun q => ?_) (fun q => ?_)
      · have h := h.1 q
        refine g_iload_n (pc := 54) dX11_size_54 rfl 1 rfl ?_
        refine g_iconst (pc := 55) dX11_size_55 c_4 ?_
        have hJ : Go SR mX11_size 79 [(0, .ref 0), (1, .int a1)] [.int (if a1 = 4 then wi (si w 0 0 0) 0 21 else (if a1 = 5 then wi (si w 0 0 0) 0 22 else (-1) : Int32) : Int32)] (si w 0 0 0) Q := by
          exact g_iret (pc := 79) dX11_size_79 rfl h
        refine g_icmp_ne (pc := 56) (tgt := 66) dX11_size_56 (by decide) (fun q56 => ?_) (fun q56 => ?_)
        · refine g_iload_n (pc := 66) dX11_size_66 rfl 1 rfl ?_
          refine g_iconst (pc := 67) dX11_size_67 c_5 ?_
          refine g_icmp_ne (pc := 68) (tgt := 78) dX11_size_68 (by decide) (fun q68 => ?_) (fun q68 => ?_)
          · refine g_iconst (pc := 78) dX11_size_78 cN_1 ?_
            first | (exfalso; contradiction) | exact cast (by simp only [if_neg q56, if_neg q68]) hJ
          · refine g_aload_n (pc := 71) dX11_size_71 rfl 0 rfl ?_
            refine g_getI (pc := 72) (a := 0) dX11_size_72 rfl fX11_178 rfl ?_
            refine g_goto (pc := 75) (tgt := 79) dX11_size_75 (by decide) ?_
            first | (exfalso; contradiction) | exact cast (by simp only [if_neg q56, if_pos q68]) hJ
        · refine g_aload_n (pc := 59) dX11_size_59 rfl 0 rfl ?_
          refine g_getI (pc := 60) (a := 0) dX11_size_60 rfl fX11_175 rfl ?_
          refine g_goto (pc := 63) (tgt := 79) dX11_size_63 (by decide) ?_
          first | (exfalso; contradiction) | exact cast (by simp only [if_pos q56]) hJ
      · have h := h.2 q
        refine g_aload_n (pc := 47) dX11_size_47 rfl 0 rfl ?_
        refine g_getR (pc := 48) (a := 0) (b := 3) dX11_size_48 rfl fX11_20 rfl (rm_16 hR) ?_
        refine g_iload_n (pc := 51) dX11_size_51 rfl 1 rfl ?_
        obtain ⟨hi1, h⟩ := h
        refine g_iald (pc := 52) (a := 3) (j := a1.toNatClampNeg) dX11_size_52 rfl hi1 rfl ?_
        exact g_iret (pc := 53) dX11_size_53 rfl h
    · have h := h.1 q
      refine g_iload_n (pc := 23) dX11_size_23 rfl 1 rfl ?_
      refine g_iconst (pc := 24) dX11_size_24 c_0 ?_
      refine g_iconst (pc := 25) dX11_size_25 c_5 ?_
      refine g_callS (pc := 26) (M' := mX11_in) (n := 3) (as := [.int a1, .int 0, .int 5]) (st := []) dX11_size_26 rfl kX11_143 sX11_in (Nat.le_of_ble_eq_true rfl) rfl rfl (Nat.le_of_ble_eq_true rfl) ?_
      refine zX11_in (a1 := a1) (a2 := 0) (a3 := 5) (w := si w 0 0 0) (hR := hR) ?_
      show Go SR mX11_size 29 [(0, .ref 0), (1, .int a1)] [.int (vXX11_in a1 0 5)] (si w 0 0 0) Q
      have hJ : Go SR mX11_size 37 [(0, .ref 0), (1, .int a1)] [.int (if (vXX11_in a1 0 5) = 0 then (-1) else 0 : Int32)] (si w 0 0 0) Q := by
        exact g_iret (pc := 37) dX11_size_37 rfl h
      refine g_if_eq (pc := 29) (tgt := 36) dX11_size_29 (by decide) (fun q29 => ?_) (fun q29 => ?_)
      · refine g_iconst (pc := 36) dX11_size_36 cN_1 ?_
        first | (exfalso; contradiction) | exact cast (by simp only [if_pos q29]) hJ
      · refine g_iconst (pc := 32) dX11_size_32 c_0 ?_
        refine g_goto (pc := 33) (tgt := 37) dX11_size_33 (by decide) ?_
        first | (exfalso; contradiction) | exact cast (by simp only [if_neg q29]) hJ
  · have h := h.1 q
    refine g_aload_n (pc := 11) dX11_size_11 rfl 0 rfl ?_
    refine g_getI (pc := 12) (a := 0) dX11_size_12 rfl fX11_64 rfl ?_
    exact g_iret (pc := 15) dX11_size_15 rfl h
