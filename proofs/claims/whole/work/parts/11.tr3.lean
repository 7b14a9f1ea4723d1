set_option maxHeartbeats 4000000 in
set_option maxRecDepth 100000 in
theorem TX11_upperBetween (a1 : Int32) (a2 : Int32) (w : Wd) (hR : w.2.2 = RM) (Q : Option Value → Wd → Prop) (h : ClI SR mX11_seekBetween [.ref 0, .int a1, .int a2] (wXX11_anew w) (fun x2 w1 => w1.2.2 = RM ∧ ((x2 = 0 → Q (some (.int (wi w1 0 36))) w1) ∧ (¬ (x2 = 0) → Q (some (.int (vXX11_nowhere x2))) (wXX11_nowhere x2 w1))))) : Cl SR mX11_upperBetween [.ref 0, .int a1, .int a2] w Q := by
  refine cl_of (by decide) (Nat.le_of_ble_eq_true rfl) ?_
  show Go SR mX11_upperBetween 0 [(0, .ref 0), (1, .int a1), (2, .int a2)] [] w Q
  refine g_aload_n (pc := 0) dX11_upperBetween_0 rfl 0 rfl ?_
  refine g_callV (pc := 1) (M' := mX11_anew) (n := 0) (a := 0) (as := []) (st := []) dX11_upperBetween_1 rfl kX11_147 vX11_anew (Nat.le_of_ble_eq_true rfl) rfl qX11 rfl rfl (Nat.le_of_ble_eq_true rfl) ?_
  refine zX11_anew (w := w) (hR := hR) ?_
  show Go SR mX11_upperBetween 4 [(0, .ref 0), (1, .int a1), (2, .int a2)] [] (wXX11_anew w) Q
  refine g_aload_n (pc := 4) dX11_upperBetween_4 rfl 0 rfl ?_
  refine g_iload_n (pc := 5) dX11_upperBetween_5 rfl 1 rfl ?_
  refine g_iload_n (pc := 6) dX11_upperBetween_6 rfl 2 rfl ?_
  refine g_callV (pc := 7) (M' := mX11_seekBetween) (n := 2) (a := 0) (as := [.int a1, .int a2]) (st := []) dX11_upperBetween_7 rfl kX11_318 vX11_seekBetween (Nat.le_of_ble_eq_true rfl) rfl qX11 rfl rfl (Nat.le_of_ble_eq_true rfl) ?_
  refine cl_mono (fun r w1 hr => ?_) h
  obtain ⟨x2, rfl, hw1, h⟩ := hr
  show Go SR mX11_upperBetween 10 [(0, .ref 0), (1, .int a1), (2, .int a2)] [.int x2] w1 Q
  refine g_istore_n (pc := 10) (lv2 := [(0, .ref 0), (1, .int a1), (2, .int a2), (3, .int x2)]) dX11_upperBetween_10 rfl (Nat.le_of_ble_eq_true rfl) rfl ?_
  refine g_iload_n (pc := 11) dX11_upperBetween_11 rfl 3 rfl ?_
  refine g_if_eq (pc := 12) (tgt := 23) dX11_upperBetween_12 (by decide) (fun q => ?_) (fun q => ?_)
  · have h := h.1 q
    refine g_aload_n (pc := 23) dX11_upperBetween_23 rfl 0 rfl ?_
    refine g_getI (pc := 24) (a := 0) dX11_upperBetween_24 rfl fX11_312 rfl ?_
    exact g_iret (pc := 27) dX11_upperBetween_27 rfl h
  · have h := h.2 q
    refine g_aload_n (pc := 15) dX11_upperBetween_15 rfl 0 rfl ?_
    refine g_iload_n (pc := 16) dX11_upperBetween_16 rfl 3 rfl ?_
    refine g_callV (pc := 17) (M' := mX11_nowhere) (n := 1) (a := 0) (as := [.int x2]) (st := []) dX11_upperBetween_17 rfl kX11_242 vX11_nowhere (Nat.le_of_ble_eq_true rfl) rfl qX11 rfl rfl (Nat.le_of_ble_eq_true rfl) ?_
    refine zX11_nowhere (a1 := x2) (w := w1) (hR := hw1) ?_
    show Go SR mX11_upperBetween 20 [(0, .ref 0), (1, .int a1), (2, .int a2), (3, .int x2)] [.int (vXX11_nowhere x2)] (wXX11_nowhere x2 w1) Q
    refine g_goto (pc := 20) (tgt := 27) dX11_upperBetween_20 (by decide) ?_
    exact g_iret (pc := 27) dX11_upperBetween_27 rfl h
set_option maxHeartbeats 4000000 in
set_option maxRecDepth 100000 in
theorem TX11_lowerBetween (a1 : Int32) (a2 : Int32) (w : Wd) (hR : w.2.2 = RM) (Q : Option Value → Wd → Prop) (h : ClI SR mX11_seekBetween [.ref 0, .int a1, .int a2] (wXX11_anew w) (fun x2 w1 => w1.2.2 = RM ∧ ((x2 = 0 → Q (some (.int (wi w1 0 37))) w1) ∧ (¬ (x2 = 0) → Q (some (.int (vXX11_no x2))) (wXX11_no x2 w1))))) : Cl SR mX11_lowerBetween [.ref 0, .int a1, .int a2] w Q := by
  refine cl_of (by decide) (Nat.le_of_ble_eq_true rfl) ?_
  show Go SR mX11_lowerBetween 0 [(0, .ref 0), (1, .int a1), (2, .int a2)] [] w Q
  refine g_aload_n (pc := 0) dX11_lowerBetween_0 rfl 0 rfl ?_
  refine g_callV (pc := 1) (M' := mX11_anew) (n := 0) (a := 0) (as := []) (st := []) dX11_lowerBetween_1 rfl kX11_147 vX11_anew (Nat.le_of_ble_eq_true rfl) rfl qX11 rfl rfl (Nat.le_of_ble_eq_true rfl) ?_
  refine zX11_anew (w := w) (hR := hR) ?_
  show Go SR mX11_lowerBetween 4 [(0, .ref 0), (1, .int a1), (2, .int a2)] [] (wXX11_anew w) Q
  refine g_aload_n (pc := 4) dX11_lowerBetween_4 rfl 0 rfl ?_
  refine g_iload_n (pc := 5) dX11_lowerBetween_5 rfl 1 rfl ?_
  refine g_iload_n (pc := 6) dX11_lowerBetween_6 rfl 2 rfl ?_
  refine g_callV (pc := 7) (M' := mX11_seekBetween) (n := 2) (a := 0) (as := [.int a1, .int a2]) (st := []) dX11_lowerBetween_7 rfl kX11_318 vX11_seekBetween (Nat.le_of_ble_eq_true rfl) rfl qX11 rfl rfl (Nat.le_of_ble_eq_true rfl) ?_
  refine cl_mono (fun r w1 hr => ?_) h
  obtain ⟨x2, rfl, hw1, h⟩ := hr
  show Go SR mX11_lowerBetween 10 [(0, .ref 0), (1, .int a1), (2, .int a2)] [.int x2] w1 Q
  refine g_istore_n (pc := 10) (lv2 := [(0, .ref 0), (1, .int a1), (2, .int a2), (3, .int x2)]) dX11_lowerBetween_10 rfl (Nat.le_of_ble_eq_true rfl) rfl ?_
  refine g_iload_n (pc := 11) dX11_lowerBetween_11 rfl 3 rfl ?_
  refine g_if_eq (pc := 12) (tgt := 23) dX11_lowerBetween_12 (by decide) (fun q => ?_) (fun q => ?_)
  · have h := h.1 q
    refine g_aload_n (pc := 23) dX11_lowerBetween_23 rfl 0 rfl ?_
    refine g_getI (pc := 24) (a := 0) dX11_lowerBetween_24 rfl fX11_315 rfl ?_
    exact g_iret (pc := 27) dX11_lowerBetween_27 rfl h
  · have h := h.2 q
    refine g_aload_n (pc := 15) dX11_lowerBetween_15 rfl 0 rfl ?_
    refine g_iload_n (pc := 16) dX11_lowerBetween_16 rfl 3 rfl ?_
    refine g_callV (pc := 17) (M' := mX11_no) (n := 1) (a := 0) (as := [.int x2]) (st := []) dX11_lowerBetween_17 rfl kX11_150 vX11_no (Nat.le_of_ble_eq_true rfl) rfl qX11 rfl rfl (Nat.le_of_ble_eq_true rfl) ?_
    refine zX11_no (a1 := x2) (w := w1) (hR := hw1) ?_
    show Go SR mX11_lowerBetween 20 [(0, .ref 0), (1, .int a1), (2, .int a2), (3, .int x2)] [.int (vXX11_no x2)] (wXX11_no x2 w1) Q
    refine g_goto (pc := 20) (tgt := 27) dX11_lowerBetween_20 (by decide) ?_
    exact g_iret (pc := 27) dX11_lowerBetween_27 rfl h
set_option maxHeartbeats 4000000 in
set_option maxRecDepth 100000 in
theorem TX11_climb (a1 : Int32) (a2 : Int32) (w : Wd) (hR : w.2.2 = RM) (Q : Option Value → Wd → Prop) (h : Go SR mX11_climb 14 [(0, .ref 0), (1, .int a1), (2, .int a2), (3, .int 0), (4, .int 1), (5, .int 1), (6, .int a1), (7, .int 0)] [] w Q) : Cl SR mX11_climb [.ref 0, .int a1, .int a2] w Q := by
  refine cl_of (by decide) (Nat.le_of_ble_eq_true rfl) ?_
  show Go SR mX11_climb 0 [(0, .ref 0), (1, .int a1), (2, .int a2)] [] w Q
  refine g_iconst (pc := 0) dX11_climb_0 c_0 ?_
  refine g_istore_n (pc := 1) (lv2 := [(0, .ref 0), (1, .int a1), (2, .int a2), (3, .int 0)]) dX11_climb_1 rfl (Nat.le_of_ble_eq_true rfl) rfl ?_
  refine g_iconst (pc := 2) dX11_climb_2 c_1 ?_
  refine g_istore (pc := 3) (lv2 := [(0, .ref 0), (1, .int a1), (2, .int a2), (3, .int 0), (4, .int 1)]) dX11_climb_3 (Nat.le_of_ble_eq_true rfl) rfl ?_
  refine g_iconst (pc := 5) dX11_climb_5 c_1 ?_
  refine g_istore (pc := 6) (lv2 := [(0, .ref 0), (1, .int a1), (2, .int a2), (3, .int 0), (4, .int 1), (5, .int 1)]) dX11_climb_6 (Nat.le_of_ble_eq_true rfl) rfl ?_
  refine g_iload_n (pc := 8) dX11_climb_8 rfl 1 rfl ?_
  refine g_istore (pc := 9) (lv2 := [(0, .ref 0), (1, .int a1), (2, .int a2), (3, .int 0), (4, .int 1), (5, .int 1), (6, .int a1)]) dX11_climb_9 (Nat.le_of_ble_eq_true rfl) rfl ?_
  refine g_iconst (pc := 11) dX11_climb_11 c_0 ?_
  refine g_istore (pc := 12) (lv2 := [(0, .ref 0), (1, .int a1), (2, .int a2), (3, .int 0), (4, .int 1), (5, .int 1), (6, .int a1), (7, .int 0)]) dX11_climb_12 (Nat.le_of_ble_eq_true rfl) rfl ?_
  exact h
set_option maxHeartbeats 4000000 in
set_option maxRecDepth 100000 in
theorem BX11_climb_14  (l1 : Int32) (l2 : Int32) (l3 : Int32) (l4 : Int32) (l5 : Int32) (l6 : Int32) (l7 : Int32) (w : Wd) (hR : w.2.2 = RM) (Q : Option Value → Wd → Prop) (h : ((l4 < l3 → Q (some (.int l7)) w) ∧ (¬ (l4 < l3) → ((l7 = l2 → Q (some (.int (-1))) (si (si w 0 38 l3) 0 39 l4)) ∧ (¬ (l7 = l2) → ¬ l6 = 0 ∧ Go SR mX11_climb 14 [(0, .ref 0), (1, .int l1), (2, .int l2), (3, .int l5), (4, .int l6), (5, .int ((((l1 + l4) / l6) * l5) - l3)), (6, .int ((((l1 + l4) / l6) * l6) - l4)), (7, .int (l7 + 1))] [] w Q))))) : Go SR mX11_climb 14 [(0, .ref 0), (1, .int l1), (2, .int l2), (3, .int l3), (4, .int l4), (5, .int l5), (6, .int l6), (7, .int l7)] [] w Q := by
  refine g_iload_n (pc := 14) dX11_climb_14 rfl 3 rfl ?_
  refine g_iload (pc := 15) dX11_climb_15 4 rfl ?_
  refine g_icmp_gt (pc := 17) (tgt := 88) dX11_climb_17 (by decide) (fun q => ?_) (fun q => ?_)
  · have h := h.1 q
    refine g_iload (pc := 88) dX11_climb_88 7 rfl ?_
    exact g_iret (pc := 90) dX11_climb_90 rfl h
  · have h := h.2 q
    refine g_iload (pc := 20) dX11_climb_20 7 rfl ?_
    refine g_iload_n (pc := 22) dX11_climb_22 rfl 2 rfl ?_
    refine g_icmp_ne (pc := 23) (tgt := 39) dX11_climb_23 (by decide) (fun q => ?_) (fun q => ?_)
    · have h := h.2 q
      refine g_iinc (pc := 39) (v := l7 + 1) (lv2 := [(0, .ref 0), (1, .int l1), (2, .int l2), (3, .int l3), (4, .int l4), (5, .int l5), (6, .int l6), (7, .int (l7 + 1))]) dX11_climb_39 7 rfl (Nat.le_of_ble_eq_true rfl) rfl rfl ?_
      refine g_iload_n (pc := 42) dX11_climb_42 rfl 1 rfl ?_
      refine g_iload (pc := 43) dX11_climb_43 4 rfl ?_
      refine g_iadd (pc := 45) dX11_climb_45 ?_
      refine g_iload (pc := 46) dX11_climb_46 6 rfl ?_
      obtain ⟨hz1, h⟩ := h
      refine g_idiv (pc := 48) dX11_climb_48 hz1 ?_
      refine g_istore (pc := 49) (lv2 := [(0, .ref 0), (1, .int l1), (2, .int l2), (3, .int l3), (4, .int l4), (5, .int l5), (6, .int l6), (7, .int (l7 + 1)), (8, .int ((l1 + l4) / l6))]) dX11_climb_49 (Nat.le_of_ble_eq_true rfl) rfl ?_
      refine g_iload (pc := 51) dX11_climb_51 8 rfl ?_
      refine g_iload (pc := 53) dX11_climb_53 5 rfl ?_
      refine g_imul (pc := 55) dX11_climb_55 ?_
      refine g_iload_n (pc := 56) dX11_climb_56 rfl 3 rfl ?_
      refine g_isub (pc := 57) dX11_climb_57 ?_
      refine g_istore (pc := 58) (lv2 := [(0, .ref 0), (1, .int l1), (2, .int l2), (3, .int l3), (4, .int l4), (5, .int l5), (6, .int l6), (7, .int (l7 + 1)), (8, .int ((l1 + l4) / l6)), (9, .int ((((l1 + l4) / l6) * l5) - l3))]) dX11_climb_58 (Nat.le_of_ble_eq_true rfl) rfl ?_
      refine g_iload (pc := 60) dX11_climb_60 8 rfl ?_
      refine g_iload (pc := 62) dX11_climb_62 6 rfl ?_
      refine g_imul (pc := 64) dX11_climb_64 ?_
      refine g_iload (pc := 65) dX11_climb_65 4 rfl ?_
      refine g_isub (pc := 67) dX11_climb_67 ?_
      refine g_istore (pc := 68) (lv2 := [(0, .ref 0), (1, .int l1), (2, .int l2), (3, .int l3), (4, .int l4), (5, .int l5), (6, .int l6), (7, .int (l7 + 1)), (8, .int ((l1 + l4) / l6)), (9, .int ((((l1 + l4) / l6) * l5) - l3)), (10, .int ((((l1 + l4) / l6) * l6) - l4))]) dX11_climb_68 (Nat.le_of_ble_eq_true rfl) rfl ?_
      refine g_iload (pc := 70) dX11_climb_70 5 rfl ?_
      refine g_istore_n (pc := 72) (lv2 := [(0, .ref 0), (1, .int l1), (2, .int l2), (3, .int l5), (4, .int l4), (5, .int l5), (6, .int l6), (7, .int (l7 + 1)), (8, .int ((l1 + l4) / l6)), (9, .int ((((l1 + l4) / l6) * l5) - l3)), (10, .int ((((l1 + l4) / l6) * l6) - l4))]) dX11_climb_72 rfl (Nat.le_of_ble_eq_true rfl) rfl ?_
      refine g_iload (pc := 73) dX11_climb_73 6 rfl ?_
      refine g_istore (pc := 75) (lv2 := [(0, .ref 0), (1, .int l1), (2, .int l2), (3, .int l5), (4, .int l6), (5, .int l5), (6, .int l6), (7, .int (l7 + 1)), (8, .int ((l1 + l4) / l6)), (9, .int ((((l1 + l4) / l6) * l5) - l3)), (10, .int ((((l1 + l4) / l6) * l6) - l4))]) dX11_climb_75 (Nat.le_of_ble_eq_true rfl) rfl ?_
      refine g_iload (pc := 77) dX11_climb_77 9 rfl ?_
      refine g_istore (pc := 79) (lv2 := [(0, .ref 0), (1, .int l1), (2, .int l2), (3, .int l5), (4, .int l6), (5, .int ((((l1 + l4) / l6) * l5) - l3)), (6, .int l6), (7, .int (l7 + 1)), (8, .int ((l1 + l4) / l6)), (9, .int ((((l1 + l4) / l6) * l5) - l3)), (10, .int ((((l1 + l4) / l6) * l6) - l4))]) dX11_climb_79 (Nat.le_of_ble_eq_true rfl) rfl ?_
      refine g_iload (pc := 81) dX11_climb_81 10 rfl ?_
      refine g_istore (pc := 83) (lv2 := [(0, .ref 0), (1, .int l1), (2, .int l2), (3, .int l5), (4, .int l6), (5, .int ((((l1 + l4) / l6) * l5) - l3)), (6, .int ((((l1 + l4) / l6) * l6) - l4)), (7, .int (l7 + 1)), (8, .int ((l1 + l4) / l6)), (9, .int ((((l1 + l4) / l6) * l5) - l3)), (10, .int ((((l1 + l4) / l6) * l6) - l4))]) dX11_climb_83 (Nat.le_of_ble_eq_true rfl) rfl ?_
      refine g_goto (pc := 85) (tgt := 14) dX11_climb_85 (by decide) ?_
      refine g_sub (lv2 := [(0, .ref 0), (1, .int l1), (2, .int l2), (3, .int l5), (4, .int l6), (5, .int ((((l1 + l4) / l6) * l5) - l3)), (6, .int ((((l1 + l4) / l6) * l6) - l4)), (7, .int (l7 + 1))]) [0, 1, 2, 3, 4, 5, 6, 7] rfl ?_
      exact h
    · have h := h.1 q
      refine g_aload_n (pc := 26) dX11_climb_26 rfl 0 rfl ?_
      refine g_iload_n (pc := 27) dX11_climb_27 rfl 3 rfl ?_
      refine g_putI (pc := 28) dX11_climb_28 rfl fX11_321 pX11_38 rfl ?_
      refine g_aload_n (pc := 31) dX11_climb_31 rfl 0 rfl ?_
      refine g_iload (pc := 32) dX11_climb_32 4 rfl ?_
      refine g_putI (pc := 34) dX11_climb_34 rfl fX11_324 pX11_39 rfl ?_
      refine g_iconst (pc := 37) dX11_climb_37 cN_1 ?_
      exact g_iret (pc := 38) dX11_climb_38 rfl h
set_option maxHeartbeats 4000000 in
set_option maxRecDepth 100000 in
theorem TX11_rungs (a1 : Int32) (w : Wd) (hR : w.2.2 = RM) (Q : Option Value → Wd → Prop) (h : (((vXX11_rungWhy a1 (wXX11_anew w)) = 0 → ClI SR mX11_climb [.ref 0, .int a1, .int (-1)] (wXX11_anew w) (fun x2 w1 => w1.2.2 = RM ∧ Q (some (.int x2)) w1)) ∧ (¬ ((vXX11_rungWhy a1 (wXX11_anew w)) = 0) → Q (some (.int (vXX11_no (vXX11_rungWhy a1 (wXX11_anew w))))) (wXX11_no (vXX11_rungWhy a1 (wXX11_anew w)) (wXX11_anew w))))) : Cl SR mX11_rungs [.ref 0, .int a1] w Q := by
  refine cl_of (by decide) (Nat.le_of_ble_eq_true rfl) ?_
  show Go SR mX11_rungs 0 [(0, .ref 0), (1, .int a1)] [] w Q
  refine g_aload_n (pc := 0) dX11_rungs_0 rfl 0 rfl ?_
  refine g_callV (pc := 1) (M' := mX11_anew) (n := 0) (a := 0) (as := []) (st := []) dX11_rungs_1 rfl kX11_147 vX11_anew (Nat.le_of_ble_eq_true rfl) rfl qX11 rfl rfl (Nat.le_of_ble_eq_true rfl) ?_
  refine zX11_anew (w := w) (hR := hR) ?_
  show Go SR mX11_rungs 4 [(0, .ref 0), (1, .int a1)] [] (wXX11_anew w) Q
  refine g_aload_n (pc := 4) dX11_rungs_4 rfl 0 rfl ?_
  refine g_iload_n (pc := 5) dX11_rungs_5 rfl 1 rfl ?_
  refine g_callV (pc := 6) (M' := mX11_rungWhy) (n := 1) (a := 0) (as := [.int a1]) (st := []) dX11_rungs_6 rfl kX11_327 vX11_rungWhy (Nat.le_of_ble_eq_true rfl) rfl qX11 rfl rfl (Nat.le_of_ble_eq_true rfl) ?_
  refine zX11_rungWhy (a1 := a1) (w := wXX11_anew w) (hR := hR) ?_
  show Go SR mX11_rungs 9 [(0, .ref 0), (1, .int a1)] [.int (vXX11_rungWhy a1 (wXX11_anew w))] (wXX11_anew w) Q
  refine g_istore_n (pc := 9) (lv2 := [(0, .ref 0), (1, .int a1), (2, .int (vXX11_rungWhy a1 (wXX11_anew w)))]) dX11_rungs_9 rfl (Nat.le_of_ble_eq_true rfl) rfl ?_
  refine g_iload_n (pc := 10) dX11_rungs_10 rfl 2 rfl ?_
  refine g_if_eq (pc := 11) (tgt := 22) dX11_rungs_11 (by decide) (fun q => ?_) (fun q => ?_)
  · have h := h.1 q
    refine g_aload_n (pc := 22) dX11_rungs_22 rfl 0 rfl ?_
    refine g_iload_n (pc := 23) dX11_rungs_23 rfl 1 rfl ?_
    refine g_iconst (pc := 24) dX11_rungs_24 cN_1 ?_
    refine g_callV (pc := 25) (M' := mX11_climb) (n := 2) (a := 0) (as := [.int a1, .int (-1)]) (st := []) dX11_rungs_25 rfl kX11_330 vX11_climb (Nat.le_of_ble_eq_true rfl) rfl qX11 rfl rfl (Nat.le_of_ble_eq_true rfl) ?_
    refine cl_mono (fun r w1 hr => ?_) h
    obtain ⟨x2, rfl, hw1, h⟩ := hr
    show Go SR mX11_rungs 28 [(0, .ref 0), (1, .int a1), (2, .int (vXX11_rungWhy a1 (wXX11_anew w)))] [.int x2] w1 Q
    exact g_iret (pc := 28) dX11_rungs_28 rfl h
  · have h := h.2 q
    refine g_aload_n (pc := 14) dX11_rungs_14 rfl 0 rfl ?_
    refine g_iload_n (pc := 15) dX11_rungs_15 rfl 2 rfl ?_
    refine g_callV (pc := 16) (M' := mX11_no) (n := 1) (a := 0) (as := [.int (vXX11_rungWhy a1 (wXX11_anew w))]) (st := []) dX11_rungs_16 rfl kX11_150 vX11_no (Nat.le_of_ble_eq_true rfl) rfl qX11 rfl rfl (Nat.le_of_ble_eq_true rfl) ?_
    refine zX11_no (a1 := (vXX11_rungWhy a1 (wXX11_anew w))) (w := wXX11_anew w) (hR := hR) ?_
    show Go SR mX11_rungs 19 [(0, .ref 0), (1, .int a1), (2, .int (vXX11_rungWhy a1 (wXX11_anew w)))] [.int (vXX11_no (vXX11_rungWhy a1 (wXX11_anew w)))] (wXX11_no (vXX11_rungWhy a1 (wXX11_anew w)) (wXX11_anew w)) Q
    refine g_goto (pc := 19) (tgt := 28) dX11_rungs_19 (by decide) ?_
    exact g_iret (pc := 28) dX11_rungs_28 rfl h
set_option maxHeartbeats 4000000 in
set_option maxRecDepth 100000 in
theorem TX11_rung (a1 : Int32) (a2 : Int32) (a3 : Int32) (w : Wd) (hR : w.2.2 = RM) (Q : Option Value → Wd → Prop) (h : (((vXX11_rungWhy a1 w) = 0 → ((a2 < 0 → (((6 : Int32) = (0 : Int32) → Q (some (.int (if a3 = 0 then wi w 0 38 else wi w 0 39 : Int32))) w) ∧ (¬ ((6 : Int32) = (0 : Int32)) → Q (some (.int (vXX11_no 6))) (wXX11_no 6 w)))) ∧ (¬ (a2 < 0) → ClI SR mX11_climb [.ref 0, .int a1, .int a2] w (fun x2 w1 => w1.2.2 = RM ∧ (((if x2 < 0 then vXX11_rungWhy a1 w else 6 : Int32) = (0 : Int32) → Q (some (.int (if a3 = 0 then wi w1 0 38 else wi w1 0 39 : Int32))) w1) ∧ (¬ ((if x2 < 0 then vXX11_rungWhy a1 w else 6 : Int32) = (0 : Int32)) → Q (some (.int (vXX11_no (if x2 < 0 then vXX11_rungWhy a1 w else 6 : Int32)))) (wXX11_no (if x2 < 0 then vXX11_rungWhy a1 w else 6 : Int32) w1))))))) ∧ (¬ ((vXX11_rungWhy a1 w) = 0) → (((vXX11_rungWhy a1 w) = 0 → Q (some (.int (if a3 = 0 then wi w 0 38 else wi w 0 39 : Int32))) w) ∧ (¬ ((vXX11_rungWhy a1 w) = 0) → Q (some (.int (vXX11_no (vXX11_rungWhy a1 w)))) (wXX11_no (vXX11_rungWhy a1 w) w)))))) : Cl SR mX11_rung [.ref 0, .int a1, .int a2, .int a3] w Q := by
  refine cl_of (by decide) (Nat.le_of_ble_eq_true rfl) ?_
  show Go SR mX11_rung 0 [(0, .ref 0), (1, .int a1), (2, .int a2), (3, .int a3)] [] w Q
  refine g_aload_n (pc := 0) dX11_rung_0 rfl 0 rfl ?_
  refine g_iload_n (pc := 1) dX11_rung_1 rfl 1 rfl ?_
  refine g_callV (pc := 2) (M' := mX11_rungWhy) (n := 1) (a := 0) (as := [.int a1]) (st := []) dX11_rung_2 rfl kX11_327 vX11_rungWhy (Nat.le_of_ble_eq_true rfl) rfl qX11 rfl rfl (Nat.le_of_ble_eq_true rfl) ?_
  refine zX11_rungWhy (a1 := a1) (w := w) (hR := hR) ?_
  show Go SR mX11_rung 5 [(0, .ref 0), (1, .int a1), (2, .int a2), (3, .int a3)] [.int (vXX11_rungWhy a1 w)] w Q
  refine g_istore (pc := 5) (lv2 := [(0, .ref 0), (1, .int a1), (2, .int a2), (3, .int a3), (4, .int (vXX11_rungWhy a1 w))]) dX11_rung_5 (Nat.le_of_ble_eq_true rfl) rfl ?_
  refine g_iload (pc := 7) dX11_rung_7 4 rfl ?_
  refine g_if_ne (pc := 9) (tgt := 29) dX11_rung_9 (by decide) (fun q => ?_) (fun q => ?_)
  · have h := h.2 q
    refine g_iload (pc := 29) dX11_rung_29 4 rfl ?_
    refine g_if_eq (pc := 31) (tgt := 43) dX11_rung_31 (by decide) (fun q => ?_) (fun q => ?_)
    · have h := h.1 q
      refine g_iload_n (pc := 43) dX11_rung_43 rfl 3 rfl ?_
      have hJ : Go SR mX11_rung 58 [(0, .ref 0), (1, .int a1), (2, .int a2), (3, .int a3), (4, .int (vXX11_rungWhy a1 w))] [.int (if a3 = 0 then wi w 0 38 else wi w 0 39 : Int32)] w Q := by
        exact g_iret (pc := 58) dX11_rung_58 rfl h
      refine g_if_eq (pc := 44) (tgt := 54) dX11_rung_44 (by decide) (fun q44 => ?_) (fun q44 => ?_)
      · refine g_aload_n (pc := 54) dX11_rung_54 rfl 0 rfl ?_
        refine g_getI (pc := 55) (a := 0) dX11_rung_55 rfl fX11_321 rfl ?_
        first | (exfalso; contradiction) | exact cast (by simp only [if_pos q44]) hJ
      · refine g_aload_n (pc := 47) dX11_rung_47 rfl 0 rfl ?_
        refine g_getI (pc := 48) (a := 0) dX11_rung_48 rfl fX11_324 rfl ?_
        refine g_goto (pc := 51) (tgt := 58) dX11_rung_51 (by decide) ?_
        first | (exfalso; contradiction) | exact cast (by simp only [if_neg q44]) hJ
    · have h := h.2 q
      refine g_aload_n (pc := 34) dX11_rung_34 rfl 0 rfl ?_
      refine g_iload (pc := 35) dX11_rung_35 4 rfl ?_
      refine g_callV (pc := 37) (M' := mX11_no) (n := 1) (a := 0) (as := [.int (vXX11_rungWhy a1 w)]) (st := []) dX11_rung_37 rfl kX11_150 vX11_no (Nat.le_of_ble_eq_true rfl) rfl qX11 rfl rfl (Nat.le_of_ble_eq_true rfl) ?_
      refine zX11_no (a1 := (vXX11_rungWhy a1 w)) (w := w) (hR := hR) ?_
      show Go SR mX11_rung 40 [(0, .ref 0), (1, .int a1), (2, .int a2), (3, .int a3), (4, .int (vXX11_rungWhy a1 w))] [.int (vXX11_no (vXX11_rungWhy a1 w))] (wXX11_no (vXX11_rungWhy a1 w) w) Q
      refine g_goto (pc := 40) (tgt := 58) dX11_rung_40 (by decide) ?_
      exact g_iret (pc := 58) dX11_rung_58 rfl h
  · have h := h.1 q
    refine g_iload_n (pc := 12) dX11_rung_12 rfl 2 rfl ?_
    refine g_if_lt (pc := 13) (tgt := 25) dX11_rung_13 (by decide) (fun q => ?_) (fun q => ?_)
    · have h := h.1 q
      refine g_bipush (pc := 25) (v := 6) dX11_rung_25 (by decide) ?_
      refine g_istore (pc := 27) (lv2 := [(0, .ref 0), (1, .int a1), (2, .int a2), (3, .int a3), (4, .int 6)]) dX11_rung_27 (Nat.le_of_ble_eq_true rfl) rfl ?_
      refine g_iload (pc := 29) dX11_rung_29 4 rfl ?_
      refine g_if_eq (pc := 31) (tgt := 43) dX11_rung_31 (by decide) (fun q => ?_) (fun q => ?_)
      · have h := h.1 q
        refine g_iload_n (pc := 43) dX11_rung_43 rfl 3 rfl ?_
        have hJ : Go SR mX11_rung 58 [(0, .ref 0), (1, .int a1), (2, .int a2), (3, .int a3), (4, .int 6)] [.int (if a3 = 0 then wi w 0 38 else wi w 0 39 : Int32)] w Q := by
          exact g_iret (pc := 58) dX11_rung_58 rfl h
        refine g_if_eq (pc := 44) (tgt := 54) dX11_rung_44 (by decide) (fun q44 => ?_) (fun q44 => ?_)
        · refine g_aload_n (pc := 54) dX11_rung_54 rfl 0 rfl ?_
          refine g_getI (pc := 55) (a := 0) dX11_rung_55 rfl fX11_321 rfl ?_
          first | (exfalso; contradiction) | exact cast (by simp only [if_pos q44]) hJ
        · refine g_aload_n (pc := 47) dX11_rung_47 rfl 0 rfl ?_
          refine g_getI (pc := 48) (a := 0) dX11_rung_48 rfl fX11_324 rfl ?_
          refine g_goto (pc := 51) (tgt := 58) dX11_rung_51 (by decide) ?_
          first | (exfalso; contradiction) | exact cast (by simp only [if_neg q44]) hJ
      · have h := h.2 q
        refine g_aload_n (pc := 34) dX11_rung_34 rfl 0 rfl ?_
        refine g_iload (pc := 35) dX11_rung_35 4 rfl ?_
        refine g_callV (pc := 37) (M' := mX11_no) (n := 1) (a := 0) (as := [.int 6]) (st := []) dX11_rung_37 rfl kX11_150 vX11_no (Nat.le_of_ble_eq_true rfl) rfl qX11 rfl rfl (Nat.le_of_ble_eq_true rfl) ?_
        refine zX11_no (a1 := 6) (w := w) (hR := hR) ?_
        show Go SR mX11_rung 40 [(0, .ref 0), (1, .int a1), (2, .int a2), (3, .int a3), (4, .int 6)] [.int (vXX11_no 6)] (wXX11_no 6 w) Q
        refine g_goto (pc := 40) (tgt := 58) dX11_rung_40 (by decide) ?_
        exact g_iret (pc := 58) dX11_rung_58 rfl h
    · have h := h.2 q
      refine g_aload_n (pc := 16) dX11_rung_16 rfl 0 rfl ?_
      refine g_iload_n (pc := 17) dX11_rung_17 rfl 1 rfl ?_
      refine g_iload_n (pc := 18) dX11_rung_18 rfl 2 rfl ?_
      refine g_callV (pc := 19) (M' := mX11_climb) (n := 2) (a := 0) (as := [.int a1, .int a2]) (st := []) dX11_rung_19 rfl kX11_330 vX11_climb (Nat.le_of_ble_eq_true rfl) rfl qX11 rfl rfl (Nat.le_of_ble_eq_true rfl) ?_
      refine cl_mono (fun r w1 hr => ?_) h
      obtain ⟨x2, rfl, hw1, h⟩ := hr
      show Go SR mX11_rung 22 [(0, .ref 0), (1, .int a1), (2, .int a2), (3, .int a3), (4, .int (vXX11_rungWhy a1 w))] [.int x2] w1 Q
      have hJ : Go SR mX11_rung 29 [(0, .ref 0), (1, .int a1), (2, .int a2), (3, .int a3), (4, .int (if x2 < 0 then vXX11_rungWhy a1 w else 6 : Int32))] [] w1 Q := by
        refine g_iload (pc := 29) dX11_rung_29 4 rfl ?_
        refine g_if_eq (pc := 31) (tgt := 43) dX11_rung_31 (by decide) (fun q => ?_) (fun q => ?_)
        · have h := h.1 q
          refine g_iload_n (pc := 43) dX11_rung_43 rfl 3 rfl ?_
          have hJ : Go SR mX11_rung 58 [(0, .ref 0), (1, .int a1), (2, .int a2), (3, .int a3), (4, .int (if x2 < 0 then vXX11_rungWhy a1 w else 6 : Int32))] [.int (if a3 = 0 then wi w1 0 38 else wi w1 0 39 : Int32)] w1 Q := by
            exact g_iret (pc := 58) dX11_rung_58 rfl h
          refine g_if_eq (pc := 44) (tgt := 54) dX11_rung_44 (by decide) (fun q44 => ?_) (fun q44 => ?_)
          · refine g_aload_n (pc := 54) dX11_rung_54 rfl 0 rfl ?_
            refine g_getI (pc := 55) (a := 0) dX11_rung_55 rfl fX11_321 rfl ?_
            first | (exfalso; contradiction) | exact cast (by simp only [if_pos q44]) hJ
          · refine g_aload_n (pc := 47) dX11_rung_47 rfl 0 rfl ?_
            refine g_getI (pc := 48) (a := 0) dX11_rung_48 rfl fX11_324 rfl ?_
            refine g_goto (pc := 51) (tgt := 58) dX11_rung_51 (by decide) ?_
            first | (exfalso; contradiction) | exact cast (by simp only [if_neg q44]) hJ
        · have h := h.2 q
          refine g_aload_n (pc := 34) dX11_rung_34 rfl 0 rfl ?_
          refine g_iload (pc := 35) dX11_rung_35 4 rfl ?_
          refine g_callV (pc := 37) (M' := mX11_no) (n := 1) (a := 0) (as := [.int (if x2 < 0 then vXX11_rungWhy a1 w else 6 : Int32)]) (st := []) dX11_rung_37 rfl kX11_150 vX11_no (Nat.le_of_ble_eq_true rfl) rfl qX11 rfl rfl (Nat.le_of_ble_eq_true rfl) ?_
          refine zX11_no (a1 := (if x2 < 0 then vXX11_rungWhy a1 w else 6 : Int32)) (w := w1) (hR := hw1) ?_
          show Go SR mX11_rung 40 [(0, .ref 0), (1, .int a1), (2, .int a2), (3, .int a3), (4, .int (if x2 < 0 then vXX11_rungWhy a1 w else 6 : Int32))] [.int (vXX11_no (if x2 < 0 then vXX11_rungWhy a1 w else 6 : Int32))] (wXX11_no (if x2 < 0 then vXX11_rungWhy a1 w else 6 : Int32) w1) Q
          refine g_goto (pc := 40) (tgt := 58) dX11_rung_40 (by decide) ?_
          exact g_iret (pc := 58) dX11_rung_58 rfl h
      refine g_if_lt (pc := 22) (tgt := 29) dX11_rung_22 (by decide) (fun q22 => ?_) (fun q22 => ?_)
      · first | (exfalso; contradiction) | exact cast (by simp only [if_pos q22]) hJ
      · refine g_bipush (pc := 25) (v := 6) dX11_rung_25 (by decide) ?_
        refine g_istore (pc := 27) (lv2 := [(0, .ref 0), (1, .int a1), (2, .int a2), (3, .int a3), (4, .int 6)]) dX11_rung_27 (Nat.le_of_ble_eq_true rfl) rfl ?_
        first | (exfalso; contradiction) | exact cast (by simp only [if_neg q22]) hJ
set_option maxHeartbeats 4000000 in
set_option maxRecDepth 100000 in
theorem TX11_rungUpper (a1 : Int32) (a2 : Int32) (w : Wd) (hR : w.2.2 = RM) (Q : Option Value → Wd → Prop) (h : ClI SR mX11_rung [.ref 0, .int a1, .int a2, .int 0] (wXX11_anew w) (fun x2 w1 => w1.2.2 = RM ∧ Q (some (.int x2)) w1)) : Cl SR mX11_rungUpper [.ref 0, .int a1, .int a2] w Q := by
  refine cl_of (by decide) (Nat.le_of_ble_eq_true rfl) ?_
  show Go SR mX11_rungUpper 0 [(0, .ref 0), (1, .int a1), (2, .int a2)] [] w Q
  refine g_aload_n (pc := 0) dX11_rungUpper_0 rfl 0 rfl ?_
  refine g_callV (pc := 1) (M' := mX11_anew) (n := 0) (a := 0) (as := []) (st := []) dX11_rungUpper_1 rfl kX11_147 vX11_anew (Nat.le_of_ble_eq_true rfl) rfl qX11 rfl rfl (Nat.le_of_ble_eq_true rfl) ?_
  refine zX11_anew (w := w) (hR := hR) ?_
  show Go SR mX11_rungUpper 4 [(0, .ref 0), (1, .int a1), (2, .int a2)] [] (wXX11_anew w) Q
  refine g_aload_n (pc := 4) dX11_rungUpper_4 rfl 0 rfl ?_
  refine g_iload_n (pc := 5) dX11_rungUpper_5 rfl 1 rfl ?_
  refine g_iload_n (pc := 6) dX11_rungUpper_6 rfl 2 rfl ?_
  refine g_iconst (pc := 7) dX11_rungUpper_7 c_0 ?_
  refine g_callV (pc := 8) (M' := mX11_rung) (n := 3) (a := 0) (as := [.int a1, .int a2, .int 0]) (st := []) dX11_rungUpper_8 rfl kX11_333 vX11_rung (Nat.le_of_ble_eq_true rfl) rfl qX11 rfl rfl (Nat.le_of_ble_eq_true rfl) ?_
  refine cl_mono (fun r w1 hr => ?_) h
  obtain ⟨x2, rfl, hw1, h⟩ := hr
  show Go SR mX11_rungUpper 11 [(0, .ref 0), (1, .int a1), (2, .int a2)] [.int x2] w1 Q
  exact g_iret (pc := 11) dX11_rungUpper_11 rfl h
set_option maxHeartbeats 4000000 in
set_option maxRecDepth 100000 in
theorem TX11_rungLower (a1 : Int32) (a2 : Int32) (w : Wd) (hR : w.2.2 = RM) (Q : Option Value → Wd → Prop) (h : ClI SR mX11_rung [.ref 0, .int a1, .int a2, .int 1] (wXX11_anew w) (fun x2 w1 => w1.2.2 = RM ∧ Q (some (.int x2)) w1)) : Cl SR mX11_rungLower [.ref 0, .int a1, .int a2] w Q := by
  refine cl_of (by decide) (Nat.le_of_ble_eq_true rfl) ?_
  show Go SR mX11_rungLower 0 [(0, .ref 0), (1, .int a1), (2, .int a2)] [] w Q
  refine g_aload_n (pc := 0) dX11_rungLower_0 rfl 0 rfl ?_
  refine g_callV (pc := 1) (M' := mX11_anew) (n := 0) (a := 0) (as := []) (st := []) dX11_rungLower_1 rfl kX11_147 vX11_anew (Nat.le_of_ble_eq_true rfl) rfl qX11 rfl rfl (Nat.le_of_ble_eq_true rfl) ?_
  refine zX11_anew (w := w) (hR := hR) ?_
  show Go SR mX11_rungLower 4 [(0, .ref 0), (1, .int a1), (2, .int a2)] [] (wXX11_anew w) Q
  refine g_aload_n (pc := 4) dX11_rungLower_4 rfl 0 rfl ?_
  refine g_iload_n (pc := 5) dX11_rungLower_5 rfl 1 rfl ?_
  refine g_iload_n (pc := 6) dX11_rungLower_6 rfl 2 rfl ?_
  refine g_iconst (pc := 7) dX11_rungLower_7 c_1 ?_
  refine g_callV (pc := 8) (M' := mX11_rung) (n := 3) (a := 0) (as := [.int a1, .int a2, .int 1]) (st := []) dX11_rungLower_8 rfl kX11_333 vX11_rung (Nat.le_of_ble_eq_true rfl) rfl qX11 rfl rfl (Nat.le_of_ble_eq_true rfl) ?_
  refine cl_mono (fun r w1 hr => ?_) h
  obtain ⟨x2, rfl, hw1, h⟩ := hr
  show Go SR mX11_rungLower 11 [(0, .ref 0), (1, .int a1), (2, .int a2)] [.int x2] w1 Q
  exact g_iret (pc := 11) dX11_rungLower_11 rfl h
set_option maxHeartbeats 4000000 in
set_option maxRecDepth 100000 in
theorem TX11_knotOf (a1 : Int32) (a2 : Int32) (w : Wd) (hR : w.2.2 = RM) (Q : Option Value → Wd → Prop) (h : ((a2 = 0 → vp_in a1 10 ∧ Q (some (.int (vXX11_away (wi w 5 a1.toNatClampNeg)))) w) ∧ (¬ (a2 = 0) → vp_in (5 + a1) 10 ∧ Q (some (.int (wi w 5 ((5 + a1).toNatClampNeg)))) w))) : Cl SR mX11_knotOf [.ref 0, .int a1, .int a2] w Q := by
  refine cl_of (by decide) (Nat.le_of_ble_eq_true rfl) ?_
  show Go SR mX11_knotOf 0 [(0, .ref 0), (1, .int a1), (2, .int a2)] [] w Q
  refine g_iload_n (pc := 0) dX11_knotOf_0 rfl 2 rfl ?_
  refine g_if_eq (pc := 1) (tgt := 15) dX11_knotOf_1 (by decide) (fun q => ?_) (fun q => ?_)
  · have h := h.1 q
    refine g_aload_n (pc := 15) dX11_knotOf_15 rfl 0 rfl ?_
    refine g_getR (pc := 16) (a := 0) (b := 5) dX11_knotOf_16 rfl fX11_26 rfl (rm_18 hR) ?_
    refine g_iload_n (pc := 19) dX11_knotOf_19 rfl 1 rfl ?_
    obtain ⟨hi1, h⟩ := h
    refine g_iald (pc := 20) (a := 5) (j := a1.toNatClampNeg) dX11_knotOf_20 rfl hi1 rfl ?_
    refine g_callS (pc := 21) (M' := mX11_away) (n := 1) (as := [.int (wi w 5 a1.toNatClampNeg)]) (st := []) dX11_knotOf_21 rfl kX11_60 sX11_away (Nat.le_of_ble_eq_true rfl) rfl rfl (Nat.le_of_ble_eq_true rfl) ?_
    refine zX11_away (a1 := (wi w 5 a1.toNatClampNeg)) (w := w) (hR := hR) ?_
    show Go SR mX11_knotOf 24 [(0, .ref 0), (1, .int a1), (2, .int a2)] [.int (vXX11_away (wi w 5 a1.toNatClampNeg))] w Q
    exact g_iret (pc := 24) dX11_knotOf_24 rfl h
  · have h := h.2 q
    refine g_aload_n (pc := 4) dX11_knotOf_4 rfl 0 rfl ?_
    refine g_getR (pc := 5) (a := 0) (b := 5) dX11_knotOf_5 rfl fX11_26 rfl (rm_18 hR) ?_
    refine g_iconst (pc := 8) dX11_knotOf_8 c_5 ?_
    refine g_iload_n (pc := 9) dX11_knotOf_9 rfl 1 rfl ?_
    refine g_iadd (pc := 10) dX11_knotOf_10 ?_
    obtain ⟨hi2, h⟩ := h
    refine g_iald (pc := 11) (a := 5) (j := (5 + a1).toNatClampNeg) dX11_knotOf_11 rfl hi2 rfl ?_
    refine g_goto (pc := 12) (tgt := 24) dX11_knotOf_12 (by decide) ?_
    exact g_iret (pc := 24) dX11_knotOf_24 rfl h
set_option maxHeartbeats 4000000 in
set_option maxRecDepth 100000 in
theorem TX11_knot (a1 : Int32) (a2 : Int32) (w : Wd) (hR : w.2.2 = RM) (Q : Option Value → Wd → Prop) (h : ClI SR mX11_isDance [.ref 0, .int a1] (wXX11_anew w) (fun x2 w1 => w1.2.2 = RM ∧ ((x2 = 0 → Q (some (.int (vXX11_no 1))) (wXX11_no 1 w1)) ∧ (¬ (x2 = 0) → ClI SR mX11_knotOf [.ref 0, .int a1, .int a2] w1 (fun x4 w3 => w3.2.2 = RM ∧ Q (some (.int x4)) w3))))) : Cl SR mX11_knot [.ref 0, .int a1, .int a2] w Q := by
  refine cl_of (by decide) (Nat.le_of_ble_eq_true rfl) ?_
  show Go SR mX11_knot 0 [(0, .ref 0), (1, .int a1), (2, .int a2)] [] w Q
  refine g_aload_n (pc := 0) dX11_knot_0 rfl 0 rfl ?_
  refine g_callV (pc := 1) (M' := mX11_anew) (n := 0) (a := 0) (as := []) (st := []) dX11_knot_1 rfl kX11_147 vX11_anew (Nat.le_of_ble_eq_true rfl) rfl qX11 rfl rfl (Nat.le_of_ble_eq_true rfl) ?_
  refine zX11_anew (w := w) (hR := hR) ?_
  show Go SR mX11_knot 4 [(0, .ref 0), (1, .int a1), (2, .int a2)] [] (wXX11_anew w) Q
  refine g_aload_n (pc := 4) dX11_knot_4 rfl 0 rfl ?_
  refine g_iload_n (pc := 5) dX11_knot_5 rfl 1 rfl ?_
  refine g_callV (pc := 6) (M' := mX11_isDance) (n := 1) (a := 0) (as := [.int a1]) (st := []) dX11_knot_6 rfl kX11_239 vX11_isDance (Nat.le_of_ble_eq_true rfl) rfl qX11 rfl rfl (Nat.le_of_ble_eq_true rfl) ?_
  refine cl_mono (fun r w1 hr => ?_) h
  obtain ⟨x2, rfl, hw1, h⟩ := hr
  show Go SR mX11_knot 9 [(0, .ref 0), (1, .int a1), (2, .int a2)] [.int x2] w1 Q
  refine g_if_eq (pc := 9) (tgt := 21) dX11_knot_9 (by decide) (fun q => ?_) (fun q => ?_)
  · have h := h.1 q
    refine g_aload_n (pc := 21) dX11_knot_21 rfl 0 rfl ?_
    refine g_iconst (pc := 22) dX11_knot_22 c_1 ?_
    refine g_callV (pc := 23) (M' := mX11_no) (n := 1) (a := 0) (as := [.int 1]) (st := []) dX11_knot_23 rfl kX11_150 vX11_no (Nat.le_of_ble_eq_true rfl) rfl qX11 rfl rfl (Nat.le_of_ble_eq_true rfl) ?_
    refine zX11_no (a1 := 1) (w := w1) (hR := hw1) ?_
    show Go SR mX11_knot 26 [(0, .ref 0), (1, .int a1), (2, .int a2)] [.int (vXX11_no 1)] (wXX11_no 1 w1) Q
    exact g_iret (pc := 26) dX11_knot_26 rfl h
  · have h := h.2 q
    refine g_aload_n (pc := 12) dX11_knot_12 rfl 0 rfl ?_
    refine g_iload_n (pc := 13) dX11_knot_13 rfl 1 rfl ?_
    refine g_iload_n (pc := 14) dX11_knot_14 rfl 2 rfl ?_
    refine g_callV (pc := 15) (M' := mX11_knotOf) (n := 2) (a := 0) (as := [.int a1, .int a2]) (st := []) dX11_knot_15 rfl kX11_337 vX11_knotOf (Nat.le_of_ble_eq_true rfl) rfl qX11 rfl rfl (Nat.le_of_ble_eq_true rfl) ?_
    refine cl_mono (fun r w3 hr => ?_) h
    obtain ⟨x4, rfl, hw3, h⟩ := hr
    show Go SR mX11_knot 18 [(0, .ref 0), (1, .int a1), (2, .int a2)] [.int x4] w3 Q
    refine g_goto (pc := 18) (tgt := 26) dX11_knot_18 (by decide) ?_
    exact g_iret (pc := 26) dX11_knot_26 rfl h
set_option maxHeartbeats 4000000 in
set_option maxRecDepth 100000 in
theorem TX11_rings (a1 : Int32) (a2 : Int32) (w : Wd) (hR : w.2.2 = RM) (Q : Option Value → Wd → Prop) (h : ClI SR mX11_isDance [.ref 0, .int a1] (wXX11_anew w) (fun x2 w1 => w1.2.2 = RM ∧ ((x2 = 0 → Q (some (.int (vXX11_no 1))) (wXX11_no 1 w1)) ∧ (¬ (x2 = 0) → ClI SR mX11_knotOf [.ref 0, .int a1, .int a2] w1 (fun x4 w3 => w3.2.2 = RM ∧ Q (some (.int (2 - (x4 % 2)))) w3))))) : Cl SR mX11_rings [.ref 0, .int a1, .int a2] w Q := by
  refine cl_of (by decide) (Nat.le_of_ble_eq_true rfl) ?_
  show Go SR mX11_rings 0 [(0, .ref 0), (1, .int a1), (2, .int a2)] [] w Q
  refine g_aload_n (pc := 0) dX11_rings_0 rfl 0 rfl ?_
  refine g_callV (pc := 1) (M' := mX11_anew) (n := 0) (a := 0) (as := []) (st := []) dX11_rings_1 rfl kX11_147 vX11_anew (Nat.le_of_ble_eq_true rfl) rfl qX11 rfl rfl (Nat.le_of_ble_eq_true rfl) ?_
  refine zX11_anew (w := w) (hR := hR) ?_
  show Go SR mX11_rings 4 [(0, .ref 0), (1, .int a1), (2, .int a2)] [] (wXX11_anew w) Q
  refine g_aload_n (pc := 4) dX11_rings_4 rfl 0 rfl ?_
  refine g_iload_n (pc := 5) dX11_rings_5 rfl 1 rfl ?_
  refine g_callV (pc := 6) (M' := mX11_isDance) (n := 1) (a := 0) (as := [.int a1]) (st := []) dX11_rings_6 rfl kX11_239 vX11_isDance (Nat.le_of_ble_eq_true rfl) rfl qX11 rfl rfl (Nat.le_of_ble_eq_true rfl) ?_
  refine cl_mono (fun r w1 hr => ?_) h
  obtain ⟨x2, rfl, hw1, h⟩ := hr
  show Go SR mX11_rings 9 [(0, .ref 0), (1, .int a1), (2, .int a2)] [.int x2] w1 Q
  refine g_if_eq (pc := 9) (tgt := 25) dX11_rings_9 (by decide) (fun q => ?_) (fun q => ?_)
  · have h := h.1 q
    refine g_aload_n (pc := 25) dX11_rings_25 rfl 0 rfl ?_
    refine g_iconst (pc := 26) dX11_rings_26 c_1 ?_
    refine g_callV (pc := 27) (M' := mX11_no) (n := 1) (a := 0) (as := [.int 1]) (st := []) dX11_rings_27 rfl kX11_150 vX11_no (Nat.le_of_ble_eq_true rfl) rfl qX11 rfl rfl (Nat.le_of_ble_eq_true rfl) ?_
    refine zX11_no (a1 := 1) (w := w1) (hR := hw1) ?_
    show Go SR mX11_rings 30 [(0, .ref 0), (1, .int a1), (2, .int a2)] [.int (vXX11_no 1)] (wXX11_no 1 w1) Q
    exact g_iret (pc := 30) dX11_rings_30 rfl h
  · have h := h.2 q
    refine g_iconst (pc := 12) dX11_rings_12 c_2 ?_
    refine g_aload_n (pc := 13) dX11_rings_13 rfl 0 rfl ?_
    refine g_iload_n (pc := 14) dX11_rings_14 rfl 1 rfl ?_
    refine g_iload_n (pc := 15) dX11_rings_15 rfl 2 rfl ?_
    refine g_callV (pc := 16) (M' := mX11_knotOf) (n := 2) (a := 0) (as := [.int a1, .int a2]) (st := [.int 2]) dX11_rings_16 rfl kX11_337 vX11_knotOf (Nat.le_of_ble_eq_true rfl) rfl qX11 rfl rfl (Nat.le_of_ble_eq_true rfl) ?_
    refine cl_mono (fun r w3 hr => ?_) h
    obtain ⟨x4, rfl, hw3, h⟩ := hr
    show Go SR mX11_rings 19 [(0, .ref 0), (1, .int a1), (2, .int a2)] [.int x4, .int 2] w3 Q
    refine g_iconst (pc := 19) dX11_rings_19 c_2 ?_
    refine g_irem (pc := 20) dX11_rings_20 (by decide) ?_
    refine g_isub (pc := 21) dX11_rings_21 ?_
    refine g_goto (pc := 22) (tgt := 30) dX11_rings_22 (by decide) ?_
    exact g_iret (pc := 30) dX11_rings_30 rfl h
set_option maxHeartbeats 4000000 in
set_option maxRecDepth 100000 in
theorem TX11_colours (a1 : Int32) (a2 : Int32) (a3 : Int32) (w : Wd) (hR : w.2.2 = RM) (Q : Option Value → Wd → Prop) (h : ClI SR mX11_isDance [.ref 0, .int a1] (wXX11_anew w) (fun x2 w1 => w1.2.2 = RM ∧ (((vXX11_why x2 (vXX11_in a3 2 99)) = 0 → ClI SR mX11_knotOf [.ref 0, .int a1, .int a2] w1 (fun x4 w3 => w3.2.2 = RM ∧ ClI SR mX11_common [.int a3, .int x4] w3 (fun x6 w5 => w5.2.2 = RM ∧ Q (some (.int (a3 * x6))) w5))) ∧ (¬ ((vXX11_why x2 (vXX11_in a3 2 99)) = 0) → Q (some (.int (vXX11_no (vXX11_why x2 (vXX11_in a3 2 99))))) (wXX11_no (vXX11_why x2 (vXX11_in a3 2 99)) w1))))) : Cl SR mX11_colours [.ref 0, .int a1, .int a2, .int a3] w Q := by
  refine cl_of (by decide) (Nat.le_of_ble_eq_true rfl) ?_
  show Go SR mX11_colours 0 [(0, .ref 0), (1, .int a1), (2, .int a2), (3, .int a3)] [] w Q
  refine g_aload_n (pc := 0) dX11_colours_0 rfl 0 rfl ?_
  refine g_callV (pc := 1) (M' := mX11_anew) (n := 0) (a := 0) (as := []) (st := []) dX11_colours_1 rfl kX11_147 vX11_anew (Nat.le_of_ble_eq_true rfl) rfl qX11 rfl rfl (Nat.le_of_ble_eq_true rfl) ?_
  refine zX11_anew (w := w) (hR := hR) ?_
  show Go SR mX11_colours 4 [(0, .ref 0), (1, .int a1), (2, .int a2), (3, .int a3)] [] (wXX11_anew w) Q
  refine g_aload_n (pc := 4) dX11_colours_4 rfl 0 rfl ?_
  refine g_aload_n (pc := 5) dX11_colours_5 rfl 0 rfl ?_
  refine g_iload_n (pc := 6) dX11_colours_6 rfl 1 rfl ?_
  refine g_callV (pc := 7) (M' := mX11_isDance) (n := 1) (a := 0) (as := [.int a1]) (st := [.ref 0]) dX11_colours_7 rfl kX11_239 vX11_isDance (Nat.le_of_ble_eq_true rfl) rfl qX11 rfl rfl (Nat.le_of_ble_eq_true rfl) ?_
  refine cl_mono (fun r w1 hr => ?_) h
  obtain ⟨x2, rfl, hw1, h⟩ := hr
  show Go SR mX11_colours 10 [(0, .ref 0), (1, .int a1), (2, .int a2), (3, .int a3)] [.int x2, .ref 0] w1 Q
  refine g_iload_n (pc := 10) dX11_colours_10 rfl 3 rfl ?_
  refine g_iconst (pc := 11) dX11_colours_11 c_2 ?_
  refine g_bipush (pc := 12) (v := 99) dX11_colours_12 (by decide) ?_
  refine g_callS (pc := 14) (M' := mX11_in) (n := 3) (as := [.int a3, .int 2, .int 99]) (st := [.int x2, .ref 0]) dX11_colours_14 rfl kX11_143 sX11_in (Nat.le_of_ble_eq_true rfl) rfl rfl (Nat.le_of_ble_eq_true rfl) ?_
  refine zX11_in (a1 := a3) (a2 := 2) (a3 := 99) (w := w1) (hR := hw1) ?_
  show Go SR mX11_colours 17 [(0, .ref 0), (1, .int a1), (2, .int a2), (3, .int a3)] [.int (vXX11_in a3 2 99), .int x2, .ref 0] w1 Q
  refine g_callV (pc := 17) (M' := mX11_why) (n := 2) (a := 0) (as := [.int x2, .int (vXX11_in a3 2 99)]) (st := []) dX11_colours_17 rfl kX11_297 vX11_why (Nat.le_of_ble_eq_true rfl) rfl qX11 rfl rfl (Nat.le_of_ble_eq_true rfl) ?_
  refine zX11_why (a1 := x2) (a2 := (vXX11_in a3 2 99)) (w := w1) (hR := hw1) ?_
  show Go SR mX11_colours 20 [(0, .ref 0), (1, .int a1), (2, .int a2), (3, .int a3)] [.int (vXX11_why x2 (vXX11_in a3 2 99))] w1 Q
  refine g_istore (pc := 20) (lv2 := [(0, .ref 0), (1, .int a1), (2, .int a2), (3, .int a3), (4, .int (vXX11_why x2 (vXX11_in a3 2 99)))]) dX11_colours_20 (Nat.le_of_ble_eq_true rfl) rfl ?_
  refine g_iload (pc := 22) dX11_colours_22 4 rfl ?_
  refine g_if_eq (pc := 24) (tgt := 36) dX11_colours_24 (by decide) (fun q => ?_) (fun q => ?_)
  · have h := h.1 q
    refine g_iload_n (pc := 36) dX11_colours_36 rfl 3 rfl ?_
    refine g_iload_n (pc := 37) dX11_colours_37 rfl 3 rfl ?_
    refine g_aload_n (pc := 38) dX11_colours_38 rfl 0 rfl ?_
    refine g_iload_n (pc := 39) dX11_colours_39 rfl 1 rfl ?_
    refine g_iload_n (pc := 40) dX11_colours_40 rfl 2 rfl ?_
    refine g_callV (pc := 41) (M' := mX11_knotOf) (n := 2) (a := 0) (as := [.int a1, .int a2]) (st := [.int a3, .int a3]) dX11_colours_41 rfl kX11_337 vX11_knotOf (Nat.le_of_ble_eq_true rfl) rfl qX11 rfl rfl (Nat.le_of_ble_eq_true rfl) ?_
    refine cl_mono (fun r w3 hr => ?_) h
    obtain ⟨x4, rfl, hw3, h⟩ := hr
    show Go SR mX11_colours 44 [(0, .ref 0), (1, .int a1), (2, .int a2), (3, .int a3), (4, .int (vXX11_why x2 (vXX11_in a3 2 99)))] [.int x4, .int a3, .int a3] w3 Q
    refine g_callS (pc := 44) (M' := mX11_common) (n := 2) (as := [.int a3, .int x4]) (st := [.int a3]) dX11_colours_44 rfl kX11_285 sX11_common (Nat.le_of_ble_eq_true rfl) rfl rfl (Nat.le_of_ble_eq_true rfl) ?_
    refine cl_mono (fun r w5 hr => ?_) h
    obtain ⟨x6, rfl, hw5, h⟩ := hr
    show Go SR mX11_colours 47 [(0, .ref 0), (1, .int a1), (2, .int a2), (3, .int a3), (4, .int (vXX11_why x2 (vXX11_in a3 2 99)))] [.int x6, .int a3] w5 Q
    refine g_imul (pc := 47) dX11_colours_47 ?_
    exact g_iret (pc := 48) dX11_colours_48 rfl h
  · have h := h.2 q
    refine g_aload_n (pc := 27) dX11_colours_27 rfl 0 rfl ?_
    refine g_iload (pc := 28) dX11_colours_28 4 rfl ?_
    refine g_callV (pc := 30) (M' := mX11_no) (n := 1) (a := 0) (as := [.int (vXX11_why x2 (vXX11_in a3 2 99))]) (st := []) dX11_colours_30 rfl kX11_150 vX11_no (Nat.le_of_ble_eq_true rfl) rfl qX11 rfl rfl (Nat.le_of_ble_eq_true rfl) ?_
    refine zX11_no (a1 := (vXX11_why x2 (vXX11_in a3 2 99))) (w := w1) (hR := hw1) ?_
    show Go SR mX11_colours 33 [(0, .ref 0), (1, .int a1), (2, .int a2), (3, .int a3), (4, .int (vXX11_why x2 (vXX11_in a3 2 99)))] [.int (vXX11_no (vXX11_why x2 (vXX11_in a3 2 99)))] (wXX11_no (vXX11_why x2 (vXX11_in a3 2 99)) w1) Q
    refine g_goto (pc := 33) (tgt := 48) dX11_colours_33 (by decide) ?_
    exact g_iret (pc := 48) dX11_colours_48 rfl h
set_option maxHeartbeats 4000000 in
set_option maxRecDepth 100000 in
theorem TX11_beside (a1 : Int32) (a2 : Int32) (w : Wd) (hR : w.2.2 = RM) (Q : Option Value → Wd → Prop) (h : ClI SR mX11_isDance [.ref 0, .int a1] (wXX11_anew w) (fun x2 w1 => w1.2.2 = RM ∧ ((x2 = 0 → Q (some (.int (vXX11_no 1))) (wXX11_no 1 w1)) ∧ (¬ (x2 = 0) → ClI SR mX11_isDance [.ref 0, .int a2] w1 (fun x4 w3 => w3.2.2 = RM ∧ ((x4 = 0 → Q (some (.int (vXX11_no 1))) (wXX11_no 1 w3)) ∧ (¬ (x4 = 0) → vp_in a1 10 ∧ vp_in (5 + a2) 10 ∧ vp_in a2 10 ∧ vp_in (5 + a1) 10 ∧ Q (some (.int (vXX11_away (((wi w3 5 a1.toNatClampNeg) * (wi w3 5 ((5 + a2).toNatClampNeg))) + ((wi w3 5 a2.toNatClampNeg) * (wi w3 5 ((5 + a1).toNatClampNeg))))))) w3))))))) : Cl SR mX11_beside [.ref 0, .int a1, .int a2] w Q := by
  refine cl_of (by decide) (Nat.le_of_ble_eq_true rfl) ?_
  show Go SR mX11_beside 0 [(0, .ref 0), (1, .int a1), (2, .int a2)] [] w Q
  refine g_aload_n (pc := 0) dX11_beside_0 rfl 0 rfl ?_
  refine g_callV (pc := 1) (M' := mX11_anew) (n := 0) (a := 0) (as := []) (st := []) dX11_beside_1 rfl kX11_147 vX11_anew (Nat.le_of_ble_eq_true rfl) rfl qX11 rfl rfl (Nat.le_of_ble_eq_true rfl) ?_
  refine zX11_anew (w := w) (hR := hR) ?_
  show Go SR mX11_beside 4 [(0, .ref 0), (1, .int a1), (2, .int a2)] [] (wXX11_anew w) Q
  refine g_aload_n (pc := 4) dX11_beside_4 rfl 0 rfl ?_
  refine g_iload_n (pc := 5) dX11_beside_5 rfl 1 rfl ?_
  refine g_callV (pc := 6) (M' := mX11_isDance) (n := 1) (a := 0) (as := [.int a1]) (st := []) dX11_beside_6 rfl kX11_239 vX11_isDance (Nat.le_of_ble_eq_true rfl) rfl qX11 rfl rfl (Nat.le_of_ble_eq_true rfl) ?_
  refine cl_mono (fun r w1 hr => ?_) h
  obtain ⟨x2, rfl, hw1, h⟩ := hr
  show Go SR mX11_beside 9 [(0, .ref 0), (1, .int a1), (2, .int a2)] [.int x2] w1 Q
  refine g_if_eq (pc := 9) (tgt := 20) dX11_beside_9 (by decide) (fun q => ?_) (fun q => ?_)
  · have h := h.1 q
    refine g_aload_n (pc := 20) dX11_beside_20 rfl 0 rfl ?_
    refine g_iconst (pc := 21) dX11_beside_21 c_1 ?_
    refine g_callV (pc := 22) (M' := mX11_no) (n := 1) (a := 0) (as := [.int 1]) (st := []) dX11_beside_22 rfl kX11_150 vX11_no (Nat.le_of_ble_eq_true rfl) rfl qX11 rfl rfl (Nat.le_of_ble_eq_true rfl) ?_
    refine zX11_no (a1 := 1) (w := w1) (hR := hw1) ?_
    show Go SR mX11_beside 25 [(0, .ref 0), (1, .int a1), (2, .int a2)] [.int (vXX11_no 1)] (wXX11_no 1 w1) Q
    exact g_iret (pc := 25) dX11_beside_25 rfl h
  · have h := h.2 q
    refine g_aload_n (pc := 12) dX11_beside_12 rfl 0 rfl ?_
    refine g_iload_n (pc := 13) dX11_beside_13 rfl 2 rfl ?_
    refine g_callV (pc := 14) (M' := mX11_isDance) (n := 1) (a := 0) (as := [.int a2]) (st := []) dX11_beside_14 rfl kX11_239 vX11_isDance (Nat.le_of_ble_eq_true rfl) rfl qX11 rfl rfl (Nat.le_of_ble_eq_true rfl) ?_
    refine cl_mono (fun r w3 hr => ?_) h
    obtain ⟨x4, rfl, hw3, h⟩ := hr
    show Go SR mX11_beside 17 [(0, .ref 0), (1, .int a1), (2, .int a2)] [.int x4] w3 Q
    refine g_if_ne (pc := 17) (tgt := 26) dX11_beside_17 (by decide) (fun q => ?_) (fun q => ?_)
    · have h := h.2 q
      refine g_aload_n (pc := 26) dX11_beside_26 rfl 0 rfl ?_
      refine g_getR (pc := 27) (a := 0) (b := 5) dX11_beside_27 rfl fX11_26 rfl (rm_18 hw3) ?_
      refine g_iload_n (pc := 30) dX11_beside_30 rfl 1 rfl ?_
      obtain ⟨hi5, h⟩ := h
      refine g_iald (pc := 31) (a := 5) (j := a1.toNatClampNeg) dX11_beside_31 rfl hi5 rfl ?_
      refine g_aload_n (pc := 32) dX11_beside_32 rfl 0 rfl ?_
      refine g_getR (pc := 33) (a := 0) (b := 5) dX11_beside_33 rfl fX11_26 rfl (rm_18 hw3) ?_
      refine g_iconst (pc := 36) dX11_beside_36 c_5 ?_
      refine g_iload_n (pc := 37) dX11_beside_37 rfl 2 rfl ?_
      refine g_iadd (pc := 38) dX11_beside_38 ?_
      obtain ⟨hi6, h⟩ := h
      refine g_iald (pc := 39) (a := 5) (j := (5 + a2).toNatClampNeg) dX11_beside_39 rfl hi6 rfl ?_
      refine g_imul (pc := 40) dX11_beside_40 ?_
      refine g_aload_n (pc := 41) dX11_beside_41 rfl 0 rfl ?_
      refine g_getR (pc := 42) (a := 0) (b := 5) dX11_beside_42 rfl fX11_26 rfl (rm_18 hw3) ?_
      refine g_iload_n (pc := 45) dX11_beside_45 rfl 2 rfl ?_
      obtain ⟨hi7, h⟩ := h
      refine g_iald (pc := 46) (a := 5) (j := a2.toNatClampNeg) dX11_beside_46 rfl hi7 rfl ?_
      refine g_aload_n (pc := 47) dX11_beside_47 rfl 0 rfl ?_
      refine g_getR (pc := 48) (a := 0) (b := 5) dX11_beside_48 rfl fX11_26 rfl (rm_18 hw3) ?_
      refine g_iconst (pc := 51) dX11_beside_51 c_5 ?_
      refine g_iload_n (pc := 52) dX11_beside_52 rfl 1 rfl ?_
      refine g_iadd (pc := 53) dX11_beside_53 ?_
      obtain ⟨hi8, h⟩ := h
      refine g_iald (pc := 54) (a := 5) (j := (5 + a1).toNatClampNeg) dX11_beside_54 rfl hi8 rfl ?_
      refine g_imul (pc := 55) dX11_beside_55 ?_
      refine g_iadd (pc := 56) dX11_beside_56 ?_
      refine g_callS (pc := 57) (M' := mX11_away) (n := 1) (as := [.int (((wi w3 5 a1.toNatClampNeg) * (wi w3 5 ((5 + a2).toNatClampNeg))) + ((wi w3 5 a2.toNatClampNeg) * (wi w3 5 ((5 + a1).toNatClampNeg))))]) (st := []) dX11_beside_57 rfl kX11_60 sX11_away (Nat.le_of_ble_eq_true rfl) rfl rfl (Nat.le_of_ble_eq_true rfl) ?_
      refine zX11_away (a1 := (((wi w3 5 a1.toNatClampNeg) * (wi w3 5 ((5 + a2).toNatClampNeg))) + ((wi w3 5 a2.toNatClampNeg) * (wi w3 5 ((5 + a1).toNatClampNeg))))) (w := w3) (hR := hw3) ?_
      show Go SR mX11_beside 60 [(0, .ref 0), (1, .int a1), (2, .int a2)] [.int (vXX11_away (((wi w3 5 a1.toNatClampNeg) * (wi w3 5 ((5 + a2).toNatClampNeg))) + ((wi w3 5 a2.toNatClampNeg) * (wi w3 5 ((5 + a1).toNatClampNeg)))))] w3 Q
      exact g_iret (pc := 60) dX11_beside_60 rfl h
    · have h := h.1 q
      refine g_aload_n (pc := 20) dX11_beside_20 rfl 0 rfl ?_
      refine g_iconst (pc := 21) dX11_beside_21 c_1 ?_
      refine g_callV (pc := 22) (M' := mX11_no) (n := 1) (a := 0) (as := [.int 1]) (st := []) dX11_beside_22 rfl kX11_150 vX11_no (Nat.le_of_ble_eq_true rfl) rfl qX11 rfl rfl (Nat.le_of_ble_eq_true rfl) ?_
      refine zX11_no (a1 := 1) (w := w3) (hR := hw3) ?_
      show Go SR mX11_beside 25 [(0, .ref 0), (1, .int a1), (2, .int a2)] [.int (vXX11_no 1)] (wXX11_no 1 w3) Q
      exact g_iret (pc := 25) dX11_beside_25 rfl h
set_option maxHeartbeats 4000000 in
set_option maxRecDepth 100000 in
theorem TX11_isKind (a1 : Int64) (a2 : Int64) (a3 : Int32) (w : Wd) (hR : w.2.2 = RM) (Q : Option Value → Wd → Prop) (h : ((a3 < 2 → Q (some (.int 1)) w) ∧ (¬ (a3 < 2) → ¬ a3.toInt64 = 0 ∧ (((lg_cmp ((a1 - a2) % a3.toInt64) 0) = 0 → Q (some (.int 1)) w) ∧ (¬ ((lg_cmp ((a1 - a2) % a3.toInt64) 0) = 0) → ¬ a3.toInt64 = 0 ∧ Q (some (.int (if (lg_cmp (((a1 * a2) - 1) % a3.toInt64) 0) = 0 then 1 else 0 : Int32))) w))))) : Cl SR mX11_isKind [.long a1, .long a2, .int a3] w Q := by
  refine cl_of (by decide) (Nat.le_of_ble_eq_true rfl) ?_
  show Go SR mX11_isKind 0 [(0, .long a1), (2, .long a2), (4, .int a3)] [] w Q
  refine g_iload (pc := 0) dX11_isKind_0 2 rfl ?_
  refine g_iconst (pc := 2) dX11_isKind_2 c_2 ?_
  refine g_icmp_lt (pc := 3) (tgt := 32) dX11_isKind_3 (by decide) (fun q => ?_) (fun q => ?_)
  · have h := h.1 q
    refine g_iconst (pc := 32) dX11_isKind_32 c_1 ?_
    refine g_goto (pc := 33) (tgt := 37) dX11_isKind_33 (by decide) ?_
    exact g_bret (pc := 37) dX11_isKind_37 rfl (Or.inr rfl) h
  · have h := h.2 q
    refine g_lload_n (pc := 6) dX11_isKind_6 rfl 0 rfl ?_
    refine g_lload_n (pc := 7) dX11_isKind_7 rfl 1 rfl ?_
    refine g_lsub (pc := 8) dX11_isKind_8 ?_
    refine g_iload (pc := 9) dX11_isKind_9 2 rfl ?_
    refine g_i2l (pc := 11) dX11_isKind_11 ?_
    obtain ⟨hz1, h⟩ := h
    refine g_lrem (pc := 12) dX11_isKind_12 hz1 ?_
    refine g_lconst (pc := 13) (v := 0) dX11_isKind_13 (by decide) ?_
    refine g_lcmp (pc := 14) dX11_isKind_14 ?_
    refine g_if_eq (pc := 15) (tgt := 32) dX11_isKind_15 (by decide) (fun q => ?_) (fun q => ?_)
    · have h := h.1 q
      refine g_iconst (pc := 32) dX11_isKind_32 c_1 ?_
      refine g_goto (pc := 33) (tgt := 37) dX11_isKind_33 (by decide) ?_
      exact g_bret (pc := 37) dX11_isKind_37 rfl (Or.inr rfl) h
    · have h := h.2 q
      refine g_lload_n (pc := 18) dX11_isKind_18 rfl 0 rfl ?_
      refine g_lload_n (pc := 19) dX11_isKind_19 rfl 1 rfl ?_
      refine g_lmul (pc := 20) dX11_isKind_20 ?_
      refine g_lconst (pc := 21) (v := 1) dX11_isKind_21 (by decide) ?_
      refine g_lsub (pc := 22) dX11_isKind_22 ?_
      refine g_iload (pc := 23) dX11_isKind_23 2 rfl ?_
      refine g_i2l (pc := 25) dX11_isKind_25 ?_
      obtain ⟨hz2, h⟩ := h
      refine g_lrem (pc := 26) dX11_isKind_26 hz2 ?_
      refine g_lconst (pc := 27) (v := 0) dX11_isKind_27 (by decide) ?_
      refine g_lcmp (pc := 28) dX11_isKind_28 ?_
      have hJ : Go SR mX11_isKind 37 [(0, .long a1), (2, .long a2), (4, .int a3)] [.int (if (lg_cmp (((a1 * a2) - 1) % a3.toInt64) 0) = 0 then 1 else 0 : Int32)] w Q := by
        exact g_bret (pc := 37) dX11_isKind_37 rfl (z_ite (Or.inr rfl) (Or.inl rfl)) h
      refine g_if_ne (pc := 29) (tgt := 36) dX11_isKind_29 (by decide) (fun q29 => ?_) (fun q29 => ?_)
      · refine g_iconst (pc := 36) dX11_isKind_36 c_0 ?_
        first | (exfalso; contradiction) | exact cast (by simp only [if_neg q29]) hJ
      · refine g_iconst (pc := 32) dX11_isKind_32 c_1 ?_
        refine g_goto (pc := 33) (tgt := 37) dX11_isKind_33 (by decide) ?_
        first | (exfalso; contradiction) | exact cast (by simp only [if_pos q29]) hJ
set_option maxHeartbeats 4000000 in
set_option maxRecDepth 100000 in
theorem TX11_areAlike (a1 : Int32) (a2 : Int32) (a3 : Int32) (w : Wd) (hR : w.2.2 = RM) (Q : Option Value → Wd → Prop) (h : ClI SR mX11_knotOf [.ref 0, .int a1, .int 0] w (fun x2 w1 => w1.2.2 = RM ∧ vp_in a1 10 ∧ ((0 ≤ (wi w1 5 a1.toNatClampNeg) → vp_in (5 + a1) 10 ∧ vp_in a2 10 ∧ ((0 ≤ (wi w1 5 a2.toNatClampNeg) → vp_in (5 + a2) 10 ∧ ClI SR mX11_knotOf [.ref 0, .int a2, .int 0] w1 (fun x8 w7 => w7.2.2 = RM ∧ ((x8 = x2 → ClI SR mX11_isKind [.long (if a3 = 0 then (wi w1 5 ((5 + a1).toNatClampNeg)).toInt64 else -((wi w1 5 ((5 + a1).toNatClampNeg)).toInt64) : Int64), .long ((wi w1 5 ((5 + a2).toNatClampNeg)).toInt64), .int x2] w7 (fun x10 w9 => w9.2.2 = RM ∧ Q (some (.int (if x10 = 0 then 0 else 1 : Int32))) w9)) ∧ (¬ (x8 = x2) → Q (some (.int 0)) w7)))) ∧ (¬ (0 ≤ (wi w1 5 a2.toNatClampNeg)) → vp_in (5 + a2) 10 ∧ ClI SR mX11_knotOf [.ref 0, .int a2, .int 0] w1 (fun x13 w12 => w12.2.2 = RM ∧ ((x13 = x2 → ClI SR mX11_isKind [.long (if a3 = 0 then (wi w1 5 ((5 + a1).toNatClampNeg)).toInt64 else -((wi w1 5 ((5 + a1).toNatClampNeg)).toInt64) : Int64), .long ((-(wi w1 5 ((5 + a2).toNatClampNeg))).toInt64), .int x2] w12 (fun x15 w14 => w14.2.2 = RM ∧ Q (some (.int (if x15 = 0 then 0 else 1 : Int32))) w14)) ∧ (¬ (x13 = x2) → Q (some (.int 0)) w12)))))) ∧ (¬ (0 ≤ (wi w1 5 a1.toNatClampNeg)) → vp_in (5 + a1) 10 ∧ vp_in a2 10 ∧ ((0 ≤ (wi w1 5 a2.toNatClampNeg) → vp_in (5 + a2) 10 ∧ ClI SR mX11_knotOf [.ref 0, .int a2, .int 0] w1 (fun x20 w19 => w19.2.2 = RM ∧ ((x20 = x2 → ClI SR mX11_isKind [.long (if a3 = 0 then (-(wi w1 5 ((5 + a1).toNatClampNeg))).toInt64 else -((-(wi w1 5 ((5 + a1).toNatClampNeg))).toInt64) : Int64), .long ((wi w1 5 ((5 + a2).toNatClampNeg)).toInt64), .int x2] w19 (fun x22 w21 => w21.2.2 = RM ∧ Q (some (.int (if x22 = 0 then 0 else 1 : Int32))) w21)) ∧ (¬ (x20 = x2) → Q (some (.int 0)) w19)))) ∧ (¬ (0 ≤ (wi w1 5 a2.toNatClampNeg)) → vp_in (5 + a2) 10 ∧ ClI SR mX11_knotOf [.ref 0, .int a2, .int 0] w1 (fun x25 w24 => w24.2.2 = RM ∧ ((x25 = x2 → ClI SR mX11_isKind [.long (if a3 = 0 then (-(wi w1 5 ((5 + a1).toNatClampNeg))).toInt64 else -((-(wi w1 5 ((5 + a1).toNatClampNeg))).toInt64) : Int64), .long ((-(wi w1 5 ((5 + a2).toNatClampNeg))).toInt64), .int x2] w24 (fun x27 w26 => w26.2.2 = RM ∧ Q (some (.int (if x27 = 0 then 0 else 1 : Int32))) w26)) ∧ (¬ (x25 = x2) → Q (some (.int 0)) w24))))))))) : Cl SR mX11_areAlike [.ref 0, .int a1, .int a2, .int a3] w Q := by
  refine cl_of (by decide) (Nat.le_of_ble_eq_true rfl) ?_
  show Go SR mX11_areAlike 0 [(0, .ref 0), (1, .int a1), (2, .int a2), (3, .int a3)] [] w Q
  refine g_aload_n (pc := 0) dX11_areAlike_0 rfl 0 rfl ?_
  refine g_iload_n (pc := 1) dX11_areAlike_1 rfl 1 rfl ?_
  refine g_iconst (pc := 2) dX11_areAlike_2 c_0 ?_
  refine g_callV (pc := 3) (M' := mX11_knotOf) (n := 2) (a := 0) (as := [.int a1, .int 0]) (st := []) dX11_areAlike_3 rfl kX11_337 vX11_knotOf (Nat.le_of_ble_eq_true rfl) rfl qX11 rfl rfl (Nat.le_of_ble_eq_true rfl) ?_
  refine cl_mono (fun r w1 hr => ?_) h
  obtain ⟨x2, rfl, hw1, h⟩ := hr
  show Go SR mX11_areAlike 6 [(0, .ref 0), (1, .int a1), (2, .int a2), (3, .int a3)] [.int x2] w1 Q
  refine g_istore (pc := 6) (lv2 := [(0, .ref 0), (1, .int a1), (2, .int a2), (3, .int a3), (4, .int x2)]) dX11_areAlike_6 (Nat.le_of_ble_eq_true rfl) rfl ?_
  refine g_aload_n (pc := 8) dX11_areAlike_8 rfl 0 rfl ?_
  refine g_getR (pc := 9) (a := 0) (b := 5) dX11_areAlike_9 rfl fX11_26 rfl (rm_18 hw1) ?_
  refine g_iload_n (pc := 12) dX11_areAlike_12 rfl 1 rfl ?_
  obtain ⟨hi3, h⟩ := h
  refine g_iald (pc := 13) (a := 5) (j := a1.toNatClampNeg) dX11_areAlike_13 rfl hi3 rfl ?_
  refine g_if_ge (pc := 14) (tgt := 30) dX11_areAlike_14 (by decide) (fun q => ?_) (fun q => ?_)
  · have h := h.1 q
    refine g_aload_n (pc := 30) dX11_areAlike_30 rfl 0 rfl ?_
    refine g_getR (pc := 31) (a := 0) (b := 5) dX11_areAlike_31 rfl fX11_26 rfl (rm_18 hw1) ?_
    refine g_iconst (pc := 34) dX11_areAlike_34 c_5 ?_
    refine g_iload_n (pc := 35) dX11_areAlike_35 rfl 1 rfl ?_
    refine g_iadd (pc := 36) dX11_areAlike_36 ?_
    obtain ⟨hi4, h⟩ := h
    refine g_iald (pc := 37) (a := 5) (j := (5 + a1).toNatClampNeg) dX11_areAlike_37 rfl hi4 rfl ?_
    refine g_i2l (pc := 38) dX11_areAlike_38 ?_
    refine g_lstore (pc := 39) (lv2 := [(0, .ref 0), (1, .int a1), (2, .int a2), (3, .int a3), (4, .int x2), (5, .long ((wi w1 5 ((5 + a1).toNatClampNeg)).toInt64))]) dX11_areAlike_39 (Nat.le_of_ble_eq_true rfl) rfl ?_
    refine g_aload_n (pc := 41) dX11_areAlike_41 rfl 0 rfl ?_
    refine g_getR (pc := 42) (a := 0) (b := 5) dX11_areAlike_42 rfl fX11_26 rfl (rm_18 hw1) ?_
    refine g_iload_n (pc := 45) dX11_areAlike_45 rfl 2 rfl ?_
    obtain ⟨hi5, h⟩ := h
    refine g_iald (pc := 46) (a := 5) (j := a2.toNatClampNeg) dX11_areAlike_46 rfl hi5 rfl ?_
    refine g_if_ge (pc := 47) (tgt := 63) dX11_areAlike_47 (by decide) (fun q => ?_) (fun q => ?_)
    · have h := h.1 q
      refine g_aload_n (pc := 63) dX11_areAlike_63 rfl 0 rfl ?_
      refine g_getR (pc := 64) (a := 0) (b := 5) dX11_areAlike_64 rfl fX11_26 rfl (rm_18 hw1) ?_
      refine g_iconst (pc := 67) dX11_areAlike_67 c_5 ?_
      refine g_iload_n (pc := 68) dX11_areAlike_68 rfl 2 rfl ?_
      refine g_iadd (pc := 69) dX11_areAlike_69 ?_
      obtain ⟨hi6, h⟩ := h
      refine g_iald (pc := 70) (a := 5) (j := (5 + a2).toNatClampNeg) dX11_areAlike_70 rfl hi6 rfl ?_
      refine g_i2l (pc := 71) dX11_areAlike_71 ?_
      refine g_lstore (pc := 72) (lv2 := [(0, .ref 0), (1, .int a1), (2, .int a2), (3, .int a3), (4, .int x2), (5, .long ((wi w1 5 ((5 + a1).toNatClampNeg)).toInt64)), (7, .long ((wi w1 5 ((5 + a2).toNatClampNeg)).toInt64))]) dX11_areAlike_72 (Nat.le_of_ble_eq_true rfl) rfl ?_
      refine g_aload_n (pc := 74) dX11_areAlike_74 rfl 0 rfl ?_
      refine g_iload_n (pc := 75) dX11_areAlike_75 rfl 2 rfl ?_
      refine g_iconst (pc := 76) dX11_areAlike_76 c_0 ?_
      refine g_callV (pc := 77) (M' := mX11_knotOf) (n := 2) (a := 0) (as := [.int a2, .int 0]) (st := []) dX11_areAlike_77 rfl kX11_337 vX11_knotOf (Nat.le_of_ble_eq_true rfl) rfl qX11 rfl rfl (Nat.le_of_ble_eq_true rfl) ?_
      refine cl_mono (fun r w7 hr => ?_) h
      obtain ⟨x8, rfl, hw7, h⟩ := hr
      show Go SR mX11_areAlike 80 [(0, .ref 0), (1, .int a1), (2, .int a2), (3, .int a3), (4, .int x2), (5, .long ((wi w1 5 ((5 + a1).toNatClampNeg)).toInt64)), (7, .long ((wi w1 5 ((5 + a2).toNatClampNeg)).toInt64))] [.int x8] w7 Q
      refine g_iload (pc := 80) dX11_areAlike_80 4 rfl ?_
      refine g_icmp_ne (pc := 82) (tgt := 111) dX11_areAlike_82 (by decide) (fun q => ?_) (fun q => ?_)
      · have h := h.2 q
        refine g_iconst (pc := 111) dX11_areAlike_111 c_0 ?_
        exact g_bret (pc := 112) dX11_areAlike_112 rfl (Or.inl rfl) h
      · have h := h.1 q
        refine g_iload_n (pc := 85) dX11_areAlike_85 rfl 3 rfl ?_
        have hJ : Go SR mX11_areAlike 97 [(0, .ref 0), (1, .int a1), (2, .int a2), (3, .int a3), (4, .int x2), (5, .long ((wi w1 5 ((5 + a1).toNatClampNeg)).toInt64)), (7, .long ((wi w1 5 ((5 + a2).toNatClampNeg)).toInt64))] [.long (if a3 = 0 then (wi w1 5 ((5 + a1).toNatClampNeg)).toInt64 else -((wi w1 5 ((5 + a1).toNatClampNeg)).toInt64) : Int64)] w7 Q := by
          refine g_lload (pc := 97) dX11_areAlike_97 6 rfl ?_
          refine g_iload (pc := 99) dX11_areAlike_99 4 rfl ?_
          refine g_callS (pc := 101) (M' := mX11_isKind) (n := 3) (as := [.long (if a3 = 0 then (wi w1 5 ((5 + a1).toNatClampNeg)).toInt64 else -((wi w1 5 ((5 + a1).toNatClampNeg)).toInt64) : Int64), .long ((wi w1 5 ((5 + a2).toNatClampNeg)).toInt64), .int x2]) (st := []) dX11_areAlike_101 rfl kX11_341 sX11_isKind (Nat.le_of_ble_eq_true rfl) rfl rfl (Nat.le_of_ble_eq_true rfl) ?_
          refine cl_mono (fun r w9 hr => ?_) h
          obtain ⟨x10, rfl, hw9, h⟩ := hr
          show Go SR mX11_areAlike 104 [(0, .ref 0), (1, .int a1), (2, .int a2), (3, .int a3), (4, .int x2), (5, .long ((wi w1 5 ((5 + a1).toNatClampNeg)).toInt64)), (7, .long ((wi w1 5 ((5 + a2).toNatClampNeg)).toInt64))] [.int x10] w9 Q
          have hJ : Go SR mX11_areAlike 112 [(0, .ref 0), (1, .int a1), (2, .int a2), (3, .int a3), (4, .int x2), (5, .long ((wi w1 5 ((5 + a1).toNatClampNeg)).toInt64)), (7, .long ((wi w1 5 ((5 + a2).toNatClampNeg)).toInt64))] [.int (if x10 = 0 then 0 else 1 : Int32)] w9 Q := by
            exact g_bret (pc := 112) dX11_areAlike_112 rfl (z_ite (Or.inl rfl) (Or.inr rfl)) h
          refine g_if_eq (pc := 104) (tgt := 111) dX11_areAlike_104 (by decide) (fun q104 => ?_) (fun q104 => ?_)
          · refine g_iconst (pc := 111) dX11_areAlike_111 c_0 ?_
            first | (exfalso; contradiction) | exact cast (by simp only [if_pos q104]) hJ
          · refine g_iconst (pc := 107) dX11_areAlike_107 c_1 ?_
            refine g_goto (pc := 108) (tgt := 112) dX11_areAlike_108 (by decide) ?_
            first | (exfalso; contradiction) | exact cast (by simp only [if_neg q104]) hJ
        refine g_if_eq (pc := 86) (tgt := 95) dX11_areAlike_86 (by decide) (fun q86 => ?_) (fun q86 => ?_)
        · refine g_lload (pc := 95) dX11_areAlike_95 5 rfl ?_
          first | (exfalso; contradiction) | exact cast (by simp only [if_pos q86]) hJ
        · refine g_lload (pc := 89) dX11_areAlike_89 5 rfl ?_
          refine g_lneg (pc := 91) dX11_areAlike_91 ?_
          refine g_goto (pc := 92) (tgt := 97) dX11_areAlike_92 (by decide) ?_
          first | (exfalso; contradiction) | exact cast (by simp only [if_neg q86]) hJ
    · have h := h.2 q
      refine g_aload_n (pc := 50) dX11_areAlike_50 rfl 0 rfl ?_
      refine g_getR (pc := 51) (a := 0) (b := 5) dX11_areAlike_51 rfl fX11_26 rfl (rm_18 hw1) ?_
      refine g_iconst (pc := 54) dX11_areAlike_54 c_5 ?_
      refine g_iload_n (pc := 55) dX11_areAlike_55 rfl 2 rfl ?_
      refine g_iadd (pc := 56) dX11_areAlike_56 ?_
      obtain ⟨hi11, h⟩ := h
      refine g_iald (pc := 57) (a := 5) (j := (5 + a2).toNatClampNeg) dX11_areAlike_57 rfl hi11 rfl ?_
      refine g_ineg (pc := 58) dX11_areAlike_58 ?_
      refine g_i2l (pc := 59) dX11_areAlike_59 ?_
      refine g_goto (pc := 60) (tgt := 72) dX11_areAlike_60 (by decide) ?_
      refine g_lstore (pc := 72) (lv2 := [(0, .ref 0), (1, .int a1), (2, .int a2), (3, .int a3), (4, .int x2), (5, .long ((wi w1 5 ((5 + a1).toNatClampNeg)).toInt64)), (7, .long ((-(wi w1 5 ((5 + a2).toNatClampNeg))).toInt64))]) dX11_areAlike_72 (Nat.le_of_ble_eq_true rfl) rfl ?_
      refine g_aload_n (pc := 74) dX11_areAlike_74 rfl 0 rfl ?_
      refine g_iload_n (pc := 75) dX11_areAlike_75 rfl 2 rfl ?_
      refine g_iconst (pc := 76) dX11_areAlike_76 c_0 ?_
      refine g_callV (pc := 77) (M' := mX11_knotOf) (n := 2) (a := 0) (as := [.int a2, .int 0]) (st := []) dX11_areAlike_77 rfl kX11_337 vX11_knotOf (Nat.le_of_ble_eq_true rfl) rfl qX11 rfl rfl (Nat.le_of_ble_eq_true rfl) ?_
      refine cl_mono (fun r w12 hr => ?_) h
      obtain ⟨x13, rfl, hw12, h⟩ := hr
      show Go SR mX11_areAlike 80 [(0, .ref 0), (1, .int a1), (2, .int a2), (3, .int a3), (4, .int x2), (5, .long ((wi w1 5 ((5 + a1).toNatClampNeg)).toInt64)), (7, .long ((-(wi w1 5 ((5 + a2).toNatClampNeg))).toInt64))] [.int x13] w12 Q
      refine g_iload (pc := 80) dX11_areAlike_80 4 rfl ?_
      refine g_icmp_ne (pc := 82) (tgt := 111) dX11_areAlike_82 (by decide) (fun q => ?_) (fun q => ?_)
      · have h := h.2 q
        refine g_iconst (pc := 111) dX11_areAlike_111 c_0 ?_
        exact g_bret (pc := 112) dX11_areAlike_112 rfl (Or.inl rfl) h
      · have h := h.1 q
        refine g_iload_n (pc := 85) dX11_areAlike_85 rfl 3 rfl ?_
        have hJ : Go SR mX11_areAlike 97 [(0, .ref 0), (1, .int a1), (2, .int a2), (3, .int a3), (4, .int x2), (5, .long ((wi w1 5 ((5 + a1).toNatClampNeg)).toInt64)), (7, .long ((-(wi w1 5 ((5 + a2).toNatClampNeg))).toInt64))] [.long (if a3 = 0 then (wi w1 5 ((5 + a1).toNatClampNeg)).toInt64 else -((wi w1 5 ((5 + a1).toNatClampNeg)).toInt64) : Int64)] w12 Q := by
          refine g_lload (pc := 97) dX11_areAlike_97 6 rfl ?_
          refine g_iload (pc := 99) dX11_areAlike_99 4 rfl ?_
          refine g_callS (pc := 101) (M' := mX11_isKind) (n := 3) (as := [.long (if a3 = 0 then (wi w1 5 ((5 + a1).toNatClampNeg)).toInt64 else -((wi w1 5 ((5 + a1).toNatClampNeg)).toInt64) : Int64), .long ((-(wi w1 5 ((5 + a2).toNatClampNeg))).toInt64), .int x2]) (st := []) dX11_areAlike_101 rfl kX11_341 sX11_isKind (Nat.le_of_ble_eq_true rfl) rfl rfl (Nat.le_of_ble_eq_true rfl) ?_
          refine cl_mono (fun r w14 hr => ?_) h
          obtain ⟨x15, rfl, hw14, h⟩ := hr
          show Go SR mX11_areAlike 104 [(0, .ref 0), (1, .int a1), (2, .int a2), (3, .int a3), (4, .int x2), (5, .long ((wi w1 5 ((5 + a1).toNatClampNeg)).toInt64)), (7, .long ((-(wi w1 5 ((5 + a2).toNatClampNeg))).toInt64))] [.int x15] w14 Q
          have hJ : Go SR mX11_areAlike 112 [(0, .ref 0), (1, .int a1), (2, .int a2), (3, .int a3), (4, .int x2), (5, .long ((wi w1 5 ((5 + a1).toNatClampNeg)).toInt64)), (7, .long ((-(wi w1 5 ((5 + a2).toNatClampNeg))).toInt64))] [.int (if x15 = 0 then 0 else 1 : Int32)] w14 Q := by
            exact g_bret (pc := 112) dX11_areAlike_112 rfl (z_ite (Or.inl rfl) (Or.inr rfl)) h
          refine g_if_eq (pc := 104) (tgt := 111) dX11_areAlike_104 (by decide) (fun q104 => ?_) (fun q104 => ?_)
          · refine g_iconst (pc := 111) dX11_areAlike_111 c_0 ?_
            first | (exfalso; contradiction) | exact cast (by simp only [if_pos q104]) hJ
          · refine g_iconst (pc := 107) dX11_areAlike_107 c_1 ?_
            refine g_goto (pc := 108) (tgt := 112) dX11_areAlike_108 (by decide) ?_
            first | (exfalso; contradiction) | exact cast (by simp only [if_neg q104]) hJ
        refine g_if_eq (pc := 86) (tgt := 95) dX11_areAlike_86 (by decide) (fun q86 => ?_) (fun q86 => ?_)
        · refine g_lload (pc := 95) dX11_areAlike_95 5 rfl ?_
          first | (exfalso; contradiction) | exact cast (by simp only [if_pos q86]) hJ
        · refine g_lload (pc := 89) dX11_areAlike_89 5 rfl ?_
          refine g_lneg (pc := 91) dX11_areAlike_91 ?_
          refine g_goto (pc := 92) (tgt := 97) dX11_areAlike_92 (by decide) ?_
          first | (exfalso; contradiction) | exact cast (by simp only [if_neg q86]) hJ
  · have h := h.2 q
    refine g_aload_n (pc := 17) dX11_areAlike_17 rfl 0 rfl ?_
    refine g_getR (pc := 18) (a := 0) (b := 5) dX11_areAlike_18 rfl fX11_26 rfl (rm_18 hw1) ?_
    refine g_iconst (pc := 21) dX11_areAlike_21 c_5 ?_
    refine g_iload_n (pc := 22) dX11_areAlike_22 rfl 1 rfl ?_
    refine g_iadd (pc := 23) dX11_areAlike_23 ?_
    obtain ⟨hi16, h⟩ := h
    refine g_iald (pc := 24) (a := 5) (j := (5 + a1).toNatClampNeg) dX11_areAlike_24 rfl hi16 rfl ?_
    refine g_ineg (pc := 25) dX11_areAlike_25 ?_
    refine g_i2l (pc := 26) dX11_areAlike_26 ?_
    refine g_goto (pc := 27) (tgt := 39) dX11_areAlike_27 (by decide) ?_
    refine g_lstore (pc := 39) (lv2 := [(0, .ref 0), (1, .int a1), (2, .int a2), (3, .int a3), (4, .int x2), (5, .long ((-(wi w1 5 ((5 + a1).toNatClampNeg))).toInt64))]) dX11_areAlike_39 (Nat.le_of_ble_eq_true rfl) rfl ?_
    refine g_aload_n (pc := 41) dX11_areAlike_41 rfl 0 rfl ?_
    refine g_getR (pc := 42) (a := 0) (b := 5) dX11_areAlike_42 rfl fX11_26 rfl (rm_18 hw1) ?_
    refine g_iload_n (pc := 45) dX11_areAlike_45 rfl 2 rfl ?_
    obtain ⟨hi17, h⟩ := h
    refine g_iald (pc := 46) (a := 5) (j := a2.toNatClampNeg) dX11_areAlike_46 rfl hi17 rfl ?_
    refine g_if_ge (pc := 47) (tgt := 63) dX11_areAlike_47 (by decide) (fun q => ?_) (fun q => ?_)
    · have h := h.1 q
      refine g_aload_n (pc := 63) dX11_areAlike_63 rfl 0 rfl ?_
      refine g_getR (pc := 64) (a := 0) (b := 5) dX11_areAlike_64 rfl fX11_26 rfl (rm_18 hw1) ?_
      refine g_iconst (pc := 67) dX11_areAlike_67 c_5 ?_
      refine g_iload_n (pc := 68) dX11_areAlike_68 rfl 2 rfl ?_
      refine g_iadd (pc := 69) dX11_areAlike_69 ?_
      obtain ⟨hi18, h⟩ := h
      refine g_iald (pc := 70) (a := 5) (j := (5 + a2).toNatClampNeg) dX11_areAlike_70 rfl hi18 rfl ?_
      refine g_i2l (pc := 71) dX11_areAlike_71 ?_
      refine g_lstore (pc := 72) (lv2 := [(0, .ref 0), (1, .int a1), (2, .int a2), (3, .int a3), (4, .int x2), (5, .long ((-(wi w1 5 ((5 + a1).toNatClampNeg))).toInt64)), (7, .long ((wi w1 5 ((5 + a2).toNatClampNeg)).toInt64))]) dX11_areAlike_72 (Nat.le_of_ble_eq_true rfl) rfl ?_
      refine g_aload_n (pc := 74) dX11_areAlike_74 rfl 0 rfl ?_
      refine g_iload_n (pc := 75) dX11_areAlike_75 rfl 2 rfl ?_
      refine g_iconst (pc := 76) dX11_areAlike_76 c_0 ?_
      refine g_callV (pc := 77) (M' := mX11_knotOf) (n := 2) (a := 0) (as := [.int a2, .int 0]) (st := []) dX11_areAlike_77 rfl kX11_337 vX11_knotOf (Nat.le_of_ble_eq_true rfl) rfl qX11 rfl rfl (Nat.le_of_ble_eq_true rfl) ?_
      refine cl_mono (fun r w19 hr => ?_) h
      obtain ⟨x20, rfl, hw19, h⟩ := hr
      show Go SR mX11_areAlike 80 [(0, .ref 0), (1, .int a1), (2, .int a2), (3, .int a3), (4, .int x2), (5, .long ((-(wi w1 5 ((5 + a1).toNatClampNeg))).toInt64)), (7, .long ((wi w1 5 ((5 + a2).toNatClampNeg)).toInt64))] [.int x20] w19 Q
      refine g_iload (pc := 80) dX11_areAlike_80 4 rfl ?_
      refine g_icmp_ne (pc := 82) (tgt := 111) dX11_areAlike_82 (by decide) (fun q => ?_) (fun q => ?_)
      · have h := h.2 q
        refine g_iconst (pc := 111) dX11_areAlike_111 c_0 ?_
        exact g_bret (pc := 112) dX11_areAlike_112 rfl (Or.inl rfl) h
      · have h := h.1 q
        refine g_iload_n (pc := 85) dX11_areAlike_85 rfl 3 rfl ?_
        have hJ : Go SR mX11_areAlike 97 [(0, .ref 0), (1, .int a1), (2, .int a2), (3, .int a3), (4, .int x2), (5, .long ((-(wi w1 5 ((5 + a1).toNatClampNeg))).toInt64)), (7, .long ((wi w1 5 ((5 + a2).toNatClampNeg)).toInt64))] [.long (if a3 = 0 then (-(wi w1 5 ((5 + a1).toNatClampNeg))).toInt64 else -((-(wi w1 5 ((5 + a1).toNatClampNeg))).toInt64) : Int64)] w19 Q := by
          refine g_lload (pc := 97) dX11_areAlike_97 6 rfl ?_
          refine g_iload (pc := 99) dX11_areAlike_99 4 rfl ?_
          refine g_callS (pc := 101) (M' := mX11_isKind) (n := 3) (as := [.long (if a3 = 0 then (-(wi w1 5 ((5 + a1).toNatClampNeg))).toInt64 else -((-(wi w1 5 ((5 + a1).toNatClampNeg))).toInt64) : Int64), .long ((wi w1 5 ((5 + a2).toNatClampNeg)).toInt64), .int x2]) (st := []) dX11_areAlike_101 rfl kX11_341 sX11_isKind (Nat.le_of_ble_eq_true rfl) rfl rfl (Nat.le_of_ble_eq_true rfl) ?_
          refine cl_mono (fun r w21 hr => ?_) h
          obtain ⟨x22, rfl, hw21, h⟩ := hr
          show Go SR mX11_areAlike 104 [(0, .ref 0), (1, .int a1), (2, .int a2), (3, .int a3), (4, .int x2), (5, .long ((-(wi w1 5 ((5 + a1).toNatClampNeg))).toInt64)), (7, .long ((wi w1 5 ((5 + a2).toNatClampNeg)).toInt64))] [.int x22] w21 Q
          have hJ : Go SR mX11_areAlike 112 [(0, .ref 0), (1, .int a1), (2, .int a2), (3, .int a3), (4, .int x2), (5, .long ((-(wi w1 5 ((5 + a1).toNatClampNeg))).toInt64)), (7, .long ((wi w1 5 ((5 + a2).toNatClampNeg)).toInt64))] [.int (if x22 = 0 then 0 else 1 : Int32)] w21 Q := by
            exact g_bret (pc := 112) dX11_areAlike_112 rfl (z_ite (Or.inl rfl) (Or.inr rfl)) h
          refine g_if_eq (pc := 104) (tgt := 111) dX11_areAlike_104 (by decide) (fun q104 => ?_) (fun q104 => ?_)
          · refine g_iconst (pc := 111) dX11_areAlike_111 c_0 ?_
            first | (exfalso; contradiction) | exact cast (by simp only [if_pos q104]) hJ
          · refine g_iconst (pc := 107) dX11_areAlike_107 c_1 ?_
            refine g_goto (pc := 108) (tgt := 112) dX11_areAlike_108 (by decide) ?_
            first | (exfalso; contradiction) | exact cast (by simp only [if_neg q104]) hJ
        refine g_if_eq (pc := 86) (tgt := 95) dX11_areAlike_86 (by decide) (fun q86 => ?_) (fun q86 => ?_)
        · refine g_lload (pc := 95) dX11_areAlike_95 5 rfl ?_
          first | (exfalso; contradiction) | exact cast (by simp only [if_pos q86]) hJ
        · refine g_lload (pc := 89) dX11_areAlike_89 5 rfl ?_
          refine g_lneg (pc := 91) dX11_areAlike_91 ?_
          refine g_goto (pc := 92) (tgt := 97) dX11_areAlike_92 (by decide) ?_
          first | (exfalso; contradiction) | exact cast (by simp only [if_neg q86]) hJ
    · have h := h.2 q
      refine g_aload_n (pc := 50) dX11_areAlike_50 rfl 0 rfl ?_
      refine g_getR (pc := 51) (a := 0) (b := 5) dX11_areAlike_51 rfl fX11_26 rfl (rm_18 hw1) ?_
      refine g_iconst (pc := 54) dX11_areAlike_54 c_5 ?_
      refine g_iload_n (pc := 55) dX11_areAlike_55 rfl 2 rfl ?_
      refine g_iadd (pc := 56) dX11_areAlike_56 ?_
      obtain ⟨hi23, h⟩ := h
      refine g_iald (pc := 57) (a := 5) (j := (5 + a2).toNatClampNeg) dX11_areAlike_57 rfl hi23 rfl ?_
      refine g_ineg (pc := 58) dX11_areAlike_58 ?_
      refine g_i2l (pc := 59) dX11_areAlike_59 ?_
      refine g_goto (pc := 60) (tgt := 72) dX11_areAlike_60 (by decide) ?_
      refine g_lstore (pc := 72) (lv2 := [(0, .ref 0), (1, .int a1), (2, .int a2), (3, .int a3), (4, .int x2), (5, .long ((-(wi w1 5 ((5 + a1).toNatClampNeg))).toInt64)), (7, .long ((-(wi w1 5 ((5 + a2).toNatClampNeg))).toInt64))]) dX11_areAlike_72 (Nat.le_of_ble_eq_true rfl) rfl ?_
      refine g_aload_n (pc := 74) dX11_areAlike_74 rfl 0 rfl ?_
      refine g_iload_n (pc := 75) dX11_areAlike_75 rfl 2 rfl ?_
      refine g_iconst (pc := 76) dX11_areAlike_76 c_0 ?_
      refine g_callV (pc := 77) (M' := mX11_knotOf) (n := 2) (a := 0) (as := [.int a2, .int 0]) (st := []) dX11_areAlike_77 rfl kX11_337 vX11_knotOf (Nat.le_of_ble_eq_true rfl) rfl qX11 rfl rfl (Nat.le_of_ble_eq_true rfl) ?_
      refine cl_mono (fun r w24 hr => ?_) h
      obtain ⟨x25, rfl, hw24, h⟩ := hr
      show Go SR mX11_areAlike 80 [(0, .ref 0), (1, .int a1), (2, .int a2), (3, .int a3), (4, .int x2), (5, .long ((-(wi w1 5 ((5 + a1).toNatClampNeg))).toInt64)), (7, .long ((-(wi w1 5 ((5 + a2).toNatClampNeg))).toInt64))] [.int x25] w24 Q
      refine g_iload (pc := 80) dX11_areAlike_80 4 rfl ?_
      refine g_icmp_ne (pc := 82) (tgt := 111) dX11_areAlike_82 (by decide) (fun q => ?_) (fun q => ?_)
      · have h := h.2 q
        refine g_iconst (pc := 111) dX11_areAlike_111 c_0 ?_
        exact g_bret (pc := 112) dX11_areAlike_112 rfl (Or.inl rfl) h
      · have h := h.1 q
        refine g_iload_n (pc := 85) dX11_areAlike_85 rfl 3 rfl ?_
        have hJ : Go SR mX11_areAlike 97 [(0, .ref 0), (1, .int a1), (2, .int a2), (3, .int a3), (4, .int x2), (5, .long ((-(wi w1 5 ((5 + a1).toNatClampNeg))).toInt64)), (7, .long ((-(wi w1 5 ((5 + a2).toNatClampNeg))).toInt64))] [.long (if a3 = 0 then (-(wi w1 5 ((5 + a1).toNatClampNeg))).toInt64 else -((-(wi w1 5 ((5 + a1).toNatClampNeg))).toInt64) : Int64)] w24 Q := by
          refine g_lload (pc := 97) dX11_areAlike_97 6 rfl ?_
          refine g_iload (pc := 99) dX11_areAlike_99 4 rfl ?_
          refine g_callS (pc := 101) (M' := mX11_isKind) (n := 3) (as := [.long (if a3 = 0 then (-(wi w1 5 ((5 + a1).toNatClampNeg))).toInt64 else -((-(wi w1 5 ((5 + a1).toNatClampNeg))).toInt64) : Int64), .long ((-(wi w1 5 ((5 + a2).toNatClampNeg))).toInt64), .int x2]) (st := []) dX11_areAlike_101 rfl kX11_341 sX11_isKind (Nat.le_of_ble_eq_true rfl) rfl rfl (Nat.le_of_ble_eq_true rfl) ?_
          refine cl_mono (fun r w26 hr => ?_) h
          obtain ⟨x27, rfl, hw26, h⟩ := hr
          show Go SR mX11_areAlike 104 [(0, .ref 0), (1, .int a1), (2, .int a2), (3, .int a3), (4, .int x2), (5, .long ((-(wi w1 5 ((5 + a1).toNatClampNeg))).toInt64)), (7, .long ((-(wi w1 5 ((5 + a2).toNatClampNeg))).toInt64))] [.int x27] w26 Q
          have hJ : Go SR mX11_areAlike 112 [(0, .ref 0), (1, .int a1), (2, .int a2), (3, .int a3), (4, .int x2), (5, .long ((-(wi w1 5 ((5 + a1).toNatClampNeg))).toInt64)), (7, .long ((-(wi w1 5 ((5 + a2).toNatClampNeg))).toInt64))] [.int (if x27 = 0 then 0 else 1 : Int32)] w26 Q := by
            exact g_bret (pc := 112) dX11_areAlike_112 rfl (z_ite (Or.inl rfl) (Or.inr rfl)) h
          refine g_if_eq (pc := 104) (tgt := 111) dX11_areAlike_104 (by decide) (fun q104 => ?_) (fun q104 => ?_)
          · refine g_iconst (pc := 111) dX11_areAlike_111 c_0 ?_
            first | (exfalso; contradiction) | exact cast (by simp only [if_pos q104]) hJ
          · refine g_iconst (pc := 107) dX11_areAlike_107 c_1 ?_
            refine g_goto (pc := 108) (tgt := 112) dX11_areAlike_108 (by decide) ?_
            first | (exfalso; contradiction) | exact cast (by simp only [if_neg q104]) hJ
        refine g_if_eq (pc := 86) (tgt := 95) dX11_areAlike_86 (by decide) (fun q86 => ?_) (fun q86 => ?_)
        · refine g_lload (pc := 95) dX11_areAlike_95 5 rfl ?_
          first | (exfalso; contradiction) | exact cast (by simp only [if_pos q86]) hJ
        · refine g_lload (pc := 89) dX11_areAlike_89 5 rfl ?_
          refine g_lneg (pc := 91) dX11_areAlike_91 ?_
          refine g_goto (pc := 92) (tgt := 97) dX11_areAlike_92 (by decide) ?_
          first | (exfalso; contradiction) | exact cast (by simp only [if_neg q86]) hJ
set_option maxHeartbeats 4000000 in
set_option maxRecDepth 100000 in
theorem TX11_alike (a1 : Int32) (a2 : Int32) (w : Wd) (hR : w.2.2 = RM) (Q : Option Value → Wd → Prop) (h : ClI SR mX11_isDance [.ref 0, .int a1] (wXX11_anew w) (fun x2 w1 => w1.2.2 = RM ∧ ((x2 = 0 → Q (some (.int (vXX11_no 1))) (wXX11_no 1 w1)) ∧ (¬ (x2 = 0) → ClI SR mX11_isDance [.ref 0, .int a2] w1 (fun x4 w3 => w3.2.2 = RM ∧ ((x4 = 0 → Q (some (.int (vXX11_no 1))) (wXX11_no 1 w3)) ∧ (¬ (x4 = 0) → ClI SR mX11_areAlike [.ref 0, .int a1, .int a2, .int 0] w3 (fun x6 w5 => w5.2.2 = RM ∧ Q (some (.int (if x6 = 0 then 0 else 1 : Int32))) w5)))))))) : Cl SR mX11_alike [.ref 0, .int a1, .int a2] w Q := by
  refine cl_of (by decide) (Nat.le_of_ble_eq_true rfl) ?_
  show Go SR mX11_alike 0 [(0, .ref 0), (1, .int a1), (2, .int a2)] [] w Q
  refine g_aload_n (pc := 0) dX11_alike_0 rfl 0 rfl ?_
  refine g_callV (pc := 1) (M' := mX11_anew) (n := 0) (a := 0) (as := []) (st := []) dX11_alike_1 rfl kX11_147 vX11_anew (Nat.le_of_ble_eq_true rfl) rfl qX11 rfl rfl (Nat.le_of_ble_eq_true rfl) ?_
  refine zX11_anew (w := w) (hR := hR) ?_
  show Go SR mX11_alike 4 [(0, .ref 0), (1, .int a1), (2, .int a2)] [] (wXX11_anew w) Q
  refine g_aload_n (pc := 4) dX11_alike_4 rfl 0 rfl ?_
  refine g_iload_n (pc := 5) dX11_alike_5 rfl 1 rfl ?_
  refine g_callV (pc := 6) (M' := mX11_isDance) (n := 1) (a := 0) (as := [.int a1]) (st := []) dX11_alike_6 rfl kX11_239 vX11_isDance (Nat.le_of_ble_eq_true rfl) rfl qX11 rfl rfl (Nat.le_of_ble_eq_true rfl) ?_
  refine cl_mono (fun r w1 hr => ?_) h
  obtain ⟨x2, rfl, hw1, h⟩ := hr
  show Go SR mX11_alike 9 [(0, .ref 0), (1, .int a1), (2, .int a2)] [.int x2] w1 Q
  refine g_if_eq (pc := 9) (tgt := 20) dX11_alike_9 (by decide) (fun q => ?_) (fun q => ?_)
  · have h := h.1 q
    refine g_aload_n (pc := 20) dX11_alike_20 rfl 0 rfl ?_
    refine g_iconst (pc := 21) dX11_alike_21 c_1 ?_
    refine g_callV (pc := 22) (M' := mX11_no) (n := 1) (a := 0) (as := [.int 1]) (st := []) dX11_alike_22 rfl kX11_150 vX11_no (Nat.le_of_ble_eq_true rfl) rfl qX11 rfl rfl (Nat.le_of_ble_eq_true rfl) ?_
    refine zX11_no (a1 := 1) (w := w1) (hR := hw1) ?_
    show Go SR mX11_alike 25 [(0, .ref 0), (1, .int a1), (2, .int a2)] [.int (vXX11_no 1)] (wXX11_no 1 w1) Q
    exact g_iret (pc := 25) dX11_alike_25 rfl h
  · have h := h.2 q
    refine g_aload_n (pc := 12) dX11_alike_12 rfl 0 rfl ?_
    refine g_iload_n (pc := 13) dX11_alike_13 rfl 2 rfl ?_
    refine g_callV (pc := 14) (M' := mX11_isDance) (n := 1) (a := 0) (as := [.int a2]) (st := []) dX11_alike_14 rfl kX11_239 vX11_isDance (Nat.le_of_ble_eq_true rfl) rfl qX11 rfl rfl (Nat.le_of_ble_eq_true rfl) ?_
    refine cl_mono (fun r w3 hr => ?_) h
    obtain ⟨x4, rfl, hw3, h⟩ := hr
    show Go SR mX11_alike 17 [(0, .ref 0), (1, .int a1), (2, .int a2)] [.int x4] w3 Q
    refine g_if_ne (pc := 17) (tgt := 26) dX11_alike_17 (by decide) (fun q => ?_) (fun q => ?_)
    · have h := h.2 q
      refine g_aload_n (pc := 26) dX11_alike_26 rfl 0 rfl ?_
      refine g_iload_n (pc := 27) dX11_alike_27 rfl 1 rfl ?_
      refine g_iload_n (pc := 28) dX11_alike_28 rfl 2 rfl ?_
      refine g_iconst (pc := 29) dX11_alike_29 c_0 ?_
      refine g_callV (pc := 30) (M' := mX11_areAlike) (n := 3) (a := 0) (as := [.int a1, .int a2, .int 0]) (st := []) dX11_alike_30 rfl kX11_345 vX11_areAlike (Nat.le_of_ble_eq_true rfl) rfl qX11 rfl rfl (Nat.le_of_ble_eq_true rfl) ?_
      refine cl_mono (fun r w5 hr => ?_) h
      obtain ⟨x6, rfl, hw5, h⟩ := hr
      show Go SR mX11_alike 33 [(0, .ref 0), (1, .int a1), (2, .int a2)] [.int x6] w5 Q
      have hJ : Go SR mX11_alike 41 [(0, .ref 0), (1, .int a1), (2, .int a2)] [.int (if x6 = 0 then 0 else 1 : Int32)] w5 Q := by
        exact g_iret (pc := 41) dX11_alike_41 rfl h
      refine g_if_eq (pc := 33) (tgt := 40) dX11_alike_33 (by decide) (fun q33 => ?_) (fun q33 => ?_)
      · refine g_iconst (pc := 40) dX11_alike_40 c_0 ?_
        first | (exfalso; contradiction) | exact cast (by simp only [if_pos q33]) hJ
      · refine g_iconst (pc := 36) dX11_alike_36 c_1 ?_
        refine g_goto (pc := 37) (tgt := 41) dX11_alike_37 (by decide) ?_
        first | (exfalso; contradiction) | exact cast (by simp only [if_neg q33]) hJ
    · have h := h.1 q
      refine g_aload_n (pc := 20) dX11_alike_20 rfl 0 rfl ?_
      refine g_iconst (pc := 21) dX11_alike_21 c_1 ?_
      refine g_callV (pc := 22) (M' := mX11_no) (n := 1) (a := 0) (as := [.int 1]) (st := []) dX11_alike_22 rfl kX11_150 vX11_no (Nat.le_of_ble_eq_true rfl) rfl qX11 rfl rfl (Nat.le_of_ble_eq_true rfl) ?_
      refine zX11_no (a1 := 1) (w := w3) (hR := hw3) ?_
      show Go SR mX11_alike 25 [(0, .ref 0), (1, .int a1), (2, .int a2)] [.int (vXX11_no 1)] (wXX11_no 1 w3) Q
      exact g_iret (pc := 25) dX11_alike_25 rfl h
set_option maxHeartbeats 4000000 in
set_option maxRecDepth 100000 in
theorem TX11_mirrored (a1 : Int32) (a2 : Int32) (w : Wd) (hR : w.2.2 = RM) (Q : Option Value → Wd → Prop) (h : ClI SR mX11_isDance [.ref 0, .int a1] (wXX11_anew w) (fun x2 w1 => w1.2.2 = RM ∧ ((x2 = 0 → Q (some (.int (vXX11_no 1))) (wXX11_no 1 w1)) ∧ (¬ (x2 = 0) → ClI SR mX11_isDance [.ref 0, .int a2] w1 (fun x4 w3 => w3.2.2 = RM ∧ ((x4 = 0 → Q (some (.int (vXX11_no 1))) (wXX11_no 1 w3)) ∧ (¬ (x4 = 0) → ClI SR mX11_areAlike [.ref 0, .int a1, .int a2, .int 1] w3 (fun x6 w5 => w5.2.2 = RM ∧ Q (some (.int (if x6 = 0 then 0 else 1 : Int32))) w5)))))))) : Cl SR mX11_mirrored [.ref 0, .int a1, .int a2] w Q := by
  refine cl_of (by decide) (Nat.le_of_ble_eq_true rfl) ?_
  show Go SR mX11_mirrored 0 [(0, .ref 0), (1, .int a1), (2, .int a2)] [] w Q
  refine g_aload_n (pc := 0) dX11_mirrored_0 rfl 0 rfl ?_
  refine g_callV (pc := 1) (M' := mX11_anew) (n := 0) (a := 0) (as := []) (st := []) dX11_mirrored_1 rfl kX11_147 vX11_anew (Nat.le_of_ble_eq_true rfl) rfl qX11 rfl rfl (Nat.le_of_ble_eq_true rfl) ?_
  refine zX11_anew (w := w) (hR := hR) ?_
  show Go SR mX11_mirrored 4 [(0, .ref 0), (1, .int a1), (2, .int a2)] [] (wXX11_anew w) Q
  refine g_aload_n (pc := 4) dX11_mirrored_4 rfl 0 rfl ?_
  refine g_iload_n (pc := 5) dX11_mirrored_5 rfl 1 rfl ?_
  refine g_callV (pc := 6) (M' := mX11_isDance) (n := 1) (a := 0) (as := [.int a1]) (st := []) dX11_mirrored_6 rfl kX11_239 vX11_isDance (Nat.le_of_ble_eq_true rfl) rfl qX11 rfl rfl (Nat.le_of_ble_eq_true rfl) ?_
  refine cl_mono (fun r w1 hr => ?_) h
  obtain ⟨x2, rfl, hw1, h⟩ := hr
  show Go SR mX11_mirrored 9 [(0, .ref 0), (1, .int a1), (2, .int a2)] [.int x2] w1 Q
  refine g_if_eq (pc := 9) (tgt := 20) dX11_mirrored_9 (by decide) (fun q => ?_) (fun q => ?_)
  · have h := h.1 q
    refine g_aload_n (pc := 20) dX11_mirrored_20 rfl 0 rfl ?_
    refine g_iconst (pc := 21) dX11_mirrored_21 c_1 ?_
    refine g_callV (pc := 22) (M' := mX11_no) (n := 1) (a := 0) (as := [.int 1]) (st := []) dX11_mirrored_22 rfl kX11_150 vX11_no (Nat.le_of_ble_eq_true rfl) rfl qX11 rfl rfl (Nat.le_of_ble_eq_true rfl) ?_
    refine zX11_no (a1 := 1) (w := w1) (hR := hw1) ?_
    show Go SR mX11_mirrored 25 [(0, .ref 0), (1, .int a1), (2, .int a2)] [.int (vXX11_no 1)] (wXX11_no 1 w1) Q
    exact g_iret (pc := 25) dX11_mirrored_25 rfl h
  · have h := h.2 q
    refine g_aload_n (pc := 12) dX11_mirrored_12 rfl 0 rfl ?_
    refine g_iload_n (pc := 13) dX11_mirrored_13 rfl 2 rfl ?_
    refine g_callV (pc := 14) (M' := mX11_isDance) (n := 1) (a := 0) (as := [.int a2]) (st := []) dX11_mirrored_14 rfl kX11_239 vX11_isDance (Nat.le_of_ble_eq_true rfl) rfl qX11 rfl rfl (Nat.le_of_ble_eq_true rfl) ?_
    refine cl_mono (fun r w3 hr => ?_) h
    obtain ⟨x4, rfl, hw3, h⟩ := hr
    show Go SR mX11_mirrored 17 [(0, .ref 0), (1, .int a1), (2, .int a2)] [.int x4] w3 Q
    refine g_if_ne (pc := 17) (tgt := 26) dX11_mirrored_17 (by decide) (fun q => ?_) (fun q => ?_)
    · have h := h.2 q
      refine g_aload_n (pc := 26) dX11_mirrored_26 rfl 0 rfl ?_
      refine g_iload_n (pc := 27) dX11_mirrored_27 rfl 1 rfl ?_
      refine g_iload_n (pc := 28) dX11_mirrored_28 rfl 2 rfl ?_
      refine g_iconst (pc := 29) dX11_mirrored_29 c_1 ?_
      refine g_callV (pc := 30) (M' := mX11_areAlike) (n := 3) (a := 0) (as := [.int a1, .int a2, .int 1]) (st := []) dX11_mirrored_30 rfl kX11_345 vX11_areAlike (Nat.le_of_ble_eq_true rfl) rfl qX11 rfl rfl (Nat.le_of_ble_eq_true rfl) ?_
      refine cl_mono (fun r w5 hr => ?_) h
      obtain ⟨x6, rfl, hw5, h⟩ := hr
      show Go SR mX11_mirrored 33 [(0, .ref 0), (1, .int a1), (2, .int a2)] [.int x6] w5 Q
      have hJ : Go SR mX11_mirrored 41 [(0, .ref 0), (1, .int a1), (2, .int a2)] [.int (if x6 = 0 then 0 else 1 : Int32)] w5 Q := by
        exact g_iret (pc := 41) dX11_mirrored_41 rfl h
      refine g_if_eq (pc := 33) (tgt := 40) dX11_mirrored_33 (by decide) (fun q33 => ?_) (fun q33 => ?_)
      · refine g_iconst (pc := 40) dX11_mirrored_40 c_0 ?_
        first | (exfalso; contradiction) | exact cast (by simp only [if_pos q33]) hJ
      · refine g_iconst (pc := 36) dX11_mirrored_36 c_1 ?_
        refine g_goto (pc := 37) (tgt := 41) dX11_mirrored_37 (by decide) ?_
        first | (exfalso; contradiction) | exact cast (by simp only [if_neg q33]) hJ
    · have h := h.1 q
      refine g_aload_n (pc := 20) dX11_mirrored_20 rfl 0 rfl ?_
      refine g_iconst (pc := 21) dX11_mirrored_21 c_1 ?_
      refine g_callV (pc := 22) (M' := mX11_no) (n := 1) (a := 0) (as := [.int 1]) (st := []) dX11_mirrored_22 rfl kX11_150 vX11_no (Nat.le_of_ble_eq_true rfl) rfl qX11 rfl rfl (Nat.le_of_ble_eq_true rfl) ?_
      refine zX11_no (a1 := 1) (w := w3) (hR := hw3) ?_
      show Go SR mX11_mirrored 25 [(0, .ref 0), (1, .int a1), (2, .int a2)] [.int (vXX11_no 1)] (wXX11_no 1 w3) Q
      exact g_iret (pc := 25) dX11_mirrored_25 rfl h
set_option maxHeartbeats 4000000 in
set_option maxRecDepth 100000 in
theorem TX11_kinds (a1 : Int32) (a2 : Int32) (w : Wd) (hR : w.2.2 = RM) (Q : Option Value → Wd → Prop) (h : (((vXX11_why (wi (wXX11_anew w) 0 15) (vXX11_in a1 1 200)) = 0 → Go SR mX11_kinds 37 [(0, .ref 0), (1, .int a1), (2, .int a2), (3, .int (vXX11_why (wi (wXX11_anew w) 0 15) (vXX11_in a1 1 200))), (4, .int 0), (5, .int 1)] [] (wXX11_anew w) Q) ∧ (¬ ((vXX11_why (wi (wXX11_anew w) 0 15) (vXX11_in a1 1 200)) = 0) → Q (some (.int (vXX11_no (vXX11_why (wi (wXX11_anew w) 0 15) (vXX11_in a1 1 200))))) (wXX11_no (vXX11_why (wi (wXX11_anew w) 0 15) (vXX11_in a1 1 200)) (wXX11_anew w))))) : Cl SR mX11_kinds [.ref 0, .int a1, .int a2] w Q := by
  refine cl_of (by decide) (Nat.le_of_ble_eq_true rfl) ?_
  show Go SR mX11_kinds 0 [(0, .ref 0), (1, .int a1), (2, .int a2)] [] w Q
  refine g_aload_n (pc := 0) dX11_kinds_0 rfl 0 rfl ?_
  refine g_callV (pc := 1) (M' := mX11_anew) (n := 0) (a := 0) (as := []) (st := []) dX11_kinds_1 rfl kX11_147 vX11_anew (Nat.le_of_ble_eq_true rfl) rfl qX11 rfl rfl (Nat.le_of_ble_eq_true rfl) ?_
  refine zX11_anew (w := w) (hR := hR) ?_
  show Go SR mX11_kinds 4 [(0, .ref 0), (1, .int a1), (2, .int a2)] [] (wXX11_anew w) Q
  refine g_aload_n (pc := 4) dX11_kinds_4 rfl 0 rfl ?_
  refine g_aload_n (pc := 5) dX11_kinds_5 rfl 0 rfl ?_
  refine g_getZ (pc := 6) (a := 0) dX11_kinds_6 rfl fX11_163 rfl ?_
  refine g_iload_n (pc := 9) dX11_kinds_9 rfl 1 rfl ?_
  refine g_iconst (pc := 10) dX11_kinds_10 c_1 ?_
  refine g_sipush (pc := 11) (v := 200) dX11_kinds_11 (by decide) ?_
  refine g_callS (pc := 14) (M' := mX11_in) (n := 3) (as := [.int a1, .int 1, .int 200]) (st := [.int (wi (wXX11_anew w) 0 15), .ref 0]) dX11_kinds_14 rfl kX11_143 sX11_in (Nat.le_of_ble_eq_true rfl) rfl rfl (Nat.le_of_ble_eq_true rfl) ?_
  refine zX11_in (a1 := a1) (a2 := 1) (a3 := 200) (w := wXX11_anew w) (hR := hR) ?_
  show Go SR mX11_kinds 17 [(0, .ref 0), (1, .int a1), (2, .int a2)] [.int (vXX11_in a1 1 200), .int (wi (wXX11_anew w) 0 15), .ref 0] (wXX11_anew w) Q
  refine g_callV (pc := 17) (M' := mX11_why) (n := 2) (a := 0) (as := [.int (wi (wXX11_anew w) 0 15), .int (vXX11_in a1 1 200)]) (st := []) dX11_kinds_17 rfl kX11_297 vX11_why (Nat.le_of_ble_eq_true rfl) rfl qX11 rfl rfl (Nat.le_of_ble_eq_true rfl) ?_
  refine zX11_why (a1 := (wi (wXX11_anew w) 0 15)) (a2 := (vXX11_in a1 1 200)) (w := wXX11_anew w) (hR := hR) ?_
  show Go SR mX11_kinds 20 [(0, .ref 0), (1, .int a1), (2, .int a2)] [.int (vXX11_why (wi (wXX11_anew w) 0 15) (vXX11_in a1 1 200))] (wXX11_anew w) Q
  refine g_istore_n (pc := 20) (lv2 := [(0, .ref 0), (1, .int a1), (2, .int a2), (3, .int (vXX11_why (wi (wXX11_anew w) 0 15) (vXX11_in a1 1 200)))]) dX11_kinds_20 rfl (Nat.le_of_ble_eq_true rfl) rfl ?_
  refine g_iload_n (pc := 21) dX11_kinds_21 rfl 3 rfl ?_
  refine g_if_eq (pc := 22) (tgt := 31) dX11_kinds_22 (by decide) (fun q => ?_) (fun q => ?_)
  · have h := h.1 q
    refine g_iconst (pc := 31) dX11_kinds_31 c_0 ?_
    refine g_istore (pc := 32) (lv2 := [(0, .ref 0), (1, .int a1), (2, .int a2), (3, .int (vXX11_why (wi (wXX11_anew w) 0 15) (vXX11_in a1 1 200))), (4, .int 0)]) dX11_kinds_32 (Nat.le_of_ble_eq_true rfl) rfl ?_
    refine g_iconst (pc := 34) dX11_kinds_34 c_1 ?_
    refine g_istore (pc := 35) (lv2 := [(0, .ref 0), (1, .int a1), (2, .int a2), (3, .int (vXX11_why (wi (wXX11_anew w) 0 15) (vXX11_in a1 1 200))), (4, .int 0), (5, .int 1)]) dX11_kinds_35 (Nat.le_of_ble_eq_true rfl) rfl ?_
    exact h
  · have h := h.2 q
    refine g_aload_n (pc := 25) dX11_kinds_25 rfl 0 rfl ?_
    refine g_iload_n (pc := 26) dX11_kinds_26 rfl 3 rfl ?_
    refine g_callV (pc := 27) (M' := mX11_no) (n := 1) (a := 0) (as := [.int (vXX11_why (wi (wXX11_anew w) 0 15) (vXX11_in a1 1 200))]) (st := []) dX11_kinds_27 rfl kX11_150 vX11_no (Nat.le_of_ble_eq_true rfl) rfl qX11 rfl rfl (Nat.le_of_ble_eq_true rfl) ?_
    refine zX11_no (a1 := (vXX11_why (wi (wXX11_anew w) 0 15) (vXX11_in a1 1 200))) (w := wXX11_anew w) (hR := hR) ?_
    show Go SR mX11_kinds 30 [(0, .ref 0), (1, .int a1), (2, .int a2), (3, .int (vXX11_why (wi (wXX11_anew w) 0 15) (vXX11_in a1 1 200)))] [.int (vXX11_no (vXX11_why (wi (wXX11_anew w) 0 15) (vXX11_in a1 1 200)))] (wXX11_no (vXX11_why (wi (wXX11_anew w) 0 15) (vXX11_in a1 1 200)) (wXX11_anew w)) Q
    exact g_iret (pc := 30) dX11_kinds_30 rfl h
set_option maxHeartbeats 4000000 in
set_option maxRecDepth 100000 in
theorem BX11_kinds_37  (l1 : Int32) (l2 : Int32) (l3 : Int32) (l4 : Int32) (l5 : Int32) (w : Wd) (hR : w.2.2 = RM) (Q : Option Value → Wd → Prop) (h : ((l1 < l5 → Q (some (.int l4)) w) ∧ (¬ (l1 < l5) → ClI SR mX11_common [.int l5, .int l1] w (fun x2 w1 => w1.2.2 = RM ∧ ((x2 = 1 → Go SR mX11_kinds 62 [(0, .ref 0), (1, .int l1), (2, .int l2), (3, .int l3), (4, .int l4), (5, .int l5), (6, .int 1), (7, .int 1)] [] w1 Q) ∧ (¬ (x2 = 1) → Go SR mX11_kinds 37 [(0, .ref 0), (1, .int l1), (2, .int l2), (3, .int l3), (4, .int l4), (5, .int (l5 + 1))] [] w1 Q)))))) : Go SR mX11_kinds 37 [(0, .ref 0), (1, .int l1), (2, .int l2), (3, .int l3), (4, .int l4), (5, .int l5)] [] w Q := by
  refine g_iload (pc := 37) dX11_kinds_37 5 rfl ?_
  refine g_iload_n (pc := 39) dX11_kinds_39 rfl 1 rfl ?_
  refine g_icmp_gt (pc := 40) (tgt := 149) dX11_kinds_40 (by decide) (fun q => ?_) (fun q => ?_)
  · have h := h.1 q
    refine g_iload (pc := 149) dX11_kinds_149 4 rfl ?_
    exact g_iret (pc := 151) dX11_kinds_151 rfl h
  · have h := h.2 q
    refine g_iload (pc := 43) dX11_kinds_43 5 rfl ?_
    refine g_iload_n (pc := 45) dX11_kinds_45 rfl 1 rfl ?_
    refine g_callS (pc := 46) (M' := mX11_common) (n := 2) (as := [.int l5, .int l1]) (st := []) dX11_kinds_46 rfl kX11_285 sX11_common (Nat.le_of_ble_eq_true rfl) rfl rfl (Nat.le_of_ble_eq_true rfl) ?_
    refine cl_mono (fun r w1 hr => ?_) h
    obtain ⟨x2, rfl, hw1, h⟩ := hr
    show Go SR mX11_kinds 49 [(0, .ref 0), (1, .int l1), (2, .int l2), (3, .int l3), (4, .int l4), (5, .int l5)] [.int x2] w1 Q
    refine g_iconst (pc := 49) dX11_kinds_49 c_1 ?_
    refine g_icmp_eq (pc := 50) (tgt := 56) dX11_kinds_50 (by decide) (fun q => ?_) (fun q => ?_)
    · have h := h.1 q
      refine g_iconst (pc := 56) dX11_kinds_56 c_1 ?_
      refine g_istore (pc := 57) (lv2 := [(0, .ref 0), (1, .int l1), (2, .int l2), (3, .int l3), (4, .int l4), (5, .int l5), (6, .int 1)]) dX11_kinds_57 (Nat.le_of_ble_eq_true rfl) rfl ?_
      refine g_iconst (pc := 59) dX11_kinds_59 c_1 ?_
      refine g_istore (pc := 60) (lv2 := [(0, .ref 0), (1, .int l1), (2, .int l2), (3, .int l3), (4, .int l4), (5, .int l5), (6, .int 1), (7, .int 1)]) dX11_kinds_60 (Nat.le_of_ble_eq_true rfl) rfl ?_
      exact h
    · have h := h.2 q
      refine g_goto (pc := 53) (tgt := 143) dX11_kinds_53 (by decide) ?_
      refine g_iinc (pc := 143) (v := l5 + 1) (lv2 := [(0, .ref 0), (1, .int l1), (2, .int l2), (3, .int l3), (4, .int l4), (5, .int (l5 + 1))]) dX11_kinds_143 5 rfl (Nat.le_of_ble_eq_true rfl) rfl rfl ?_
      refine g_goto (pc := 146) (tgt := 37) dX11_kinds_146 (by decide) ?_
      exact h
set_option maxHeartbeats 4000000 in
set_option maxRecDepth 100000 in
theorem BX11_kinds_62  (l1 : Int32) (l2 : Int32) (l3 : Int32) (l4 : Int32) (l5 : Int32) (l6 : Int32) (l7 : Int32) (w : Wd) (hR : w.2.2 = RM) (Q : Option Value → Wd → Prop) (h : ((l5 ≤ l7 → Go SR mX11_kinds 37 [(0, .ref 0), (1, .int l1), (2, .int l2), (3, .int l3), (4, .int (l4 + (if l6 = 0 then 0 else 1 : Int32))), (5, .int (l5 + 1))] [] w Q) ∧ (¬ (l5 ≤ l7) → ((l6 = 0 → Go SR mX11_kinds 37 [(0, .ref 0), (1, .int l1), (2, .int l2), (3, .int l3), (4, .int (l4 + (if l6 = 0 then 0 else 1 : Int32))), (5, .int (l5 + 1))] [] w Q) ∧ (¬ (l6 = 0) → ClI SR mX11_common [.int l7, .int l1] w (fun x2 w1 => w1.2.2 = RM ∧ ((x2 = 1 → ClI SR mX11_isKind [.long l5.toInt64, .long l7.toInt64, .int l1] w1 (fun x4 w3 => w3.2.2 = RM ∧ ((x4 = 0 → ((l2 = 0 → Go SR mX11_kinds 62 [(0, .ref 0), (1, .int l1), (2, .int l2), (3, .int l3), (4, .int l4), (5, .int l5), (6, .int 1), (7, .int (l7 + 1))] [] w3 Q) ∧ (¬ (l2 = 0) → ClI SR mX11_isKind [.long ((-l5).toInt64), .long l7.toInt64, .int l1] w3 (fun x6 w5 => w5.2.2 = RM ∧ Go SR mX11_kinds 62 [(0, .ref 0), (1, .int l1), (2, .int l2), (3, .int l3), (4, .int l4), (5, .int l5), (6, .int (if x6 = 0 then 1 else 0 : Int32)), (7, .int (l7 + 1))] [] w5 Q)))) ∧ (¬ (x4 = 0) → Go SR mX11_kinds 62 [(0, .ref 0), (1, .int l1), (2, .int l2), (3, .int l3), (4, .int l4), (5, .int l5), (6, .int 0), (7, .int (l7 + 1))] [] w3 Q)))) ∧ (¬ (x2 = 1) → Go SR mX11_kinds 62 [(0, .ref 0), (1, .int l1), (2, .int l2), (3, .int l3), (4, .int l4), (5, .int l5), (6, .int 1), (7, .int (l7 + 1))] [] w1 Q)))))))) : Go SR mX11_kinds 62 [(0, .ref 0), (1, .int l1), (2, .int l2), (3, .int l3), (4, .int l4), (5, .int l5), (6, .int l6), (7, .int l7)] [] w Q := by
  refine g_iload (pc := 62) dX11_kinds_62 7 rfl ?_
  refine g_iload (pc := 64) dX11_kinds_64 5 rfl ?_
  refine g_icmp_ge (pc := 66) (tgt := 128) dX11_kinds_66 (by decide) (fun q => ?_) (fun q => ?_)
  · have h := h.1 q
    refine g_iload (pc := 128) dX11_kinds_128 4 rfl ?_
    refine g_iload (pc := 130) dX11_kinds_130 6 rfl ?_
    have hJ : Go SR mX11_kinds 140 [(0, .ref 0), (1, .int l1), (2, .int l2), (3, .int l3), (4, .int l4), (5, .int l5), (6, .int l6), (7, .int l7)] [.int (if l6 = 0 then 0 else 1 : Int32), .int l4] w Q := by
      refine g_iadd (pc := 140) dX11_kinds_140 ?_
      refine g_istore (pc := 141) (lv2 := [(0, .ref 0), (1, .int l1), (2, .int l2), (3, .int l3), (4, .int (l4 + (if l6 = 0 then 0 else 1 : Int32))), (5, .int l5), (6, .int l6), (7, .int l7)]) dX11_kinds_141 (Nat.le_of_ble_eq_true rfl) rfl ?_
      refine g_iinc (pc := 143) (v := l5 + 1) (lv2 := [(0, .ref 0), (1, .int l1), (2, .int l2), (3, .int l3), (4, .int (l4 + (if l6 = 0 then 0 else 1 : Int32))), (5, .int (l5 + 1)), (6, .int l6), (7, .int l7)]) dX11_kinds_143 5 rfl (Nat.le_of_ble_eq_true rfl) rfl rfl ?_
      refine g_goto (pc := 146) (tgt := 37) dX11_kinds_146 (by decide) ?_
      refine g_sub (lv2 := [(0, .ref 0), (1, .int l1), (2, .int l2), (3, .int l3), (4, .int (l4 + (if l6 = 0 then 0 else 1 : Int32))), (5, .int (l5 + 1))]) [0, 1, 2, 3, 4, 5] rfl ?_
      exact h
    refine g_if_eq (pc := 132) (tgt := 139) dX11_kinds_132 (by decide) (fun q132 => ?_) (fun q132 => ?_)
    · refine g_iconst (pc := 139) dX11_kinds_139 c_0 ?_
      first | (exfalso; contradiction) | exact cast (by simp only [if_pos q132]) hJ
    · refine g_iconst (pc := 135) dX11_kinds_135 c_1 ?_
      refine g_goto (pc := 136) (tgt := 140) dX11_kinds_136 (by decide) ?_
      first | (exfalso; contradiction) | exact cast (by simp only [if_neg q132]) hJ
  · have h := h.2 q
    refine g_iload (pc := 69) dX11_kinds_69 6 rfl ?_
    refine g_if_eq (pc := 71) (tgt := 128) dX11_kinds_71 (by decide) (fun q => ?_) (fun q => ?_)
    · have h := h.1 q
      refine g_iload (pc := 128) dX11_kinds_128 4 rfl ?_
      refine g_iload (pc := 130) dX11_kinds_130 6 rfl ?_
      have hJ : Go SR mX11_kinds 140 [(0, .ref 0), (1, .int l1), (2, .int l2), (3, .int l3), (4, .int l4), (5, .int l5), (6, .int l6), (7, .int l7)] [.int (if l6 = 0 then 0 else 1 : Int32), .int l4] w Q := by
        refine g_iadd (pc := 140) dX11_kinds_140 ?_
        refine g_istore (pc := 141) (lv2 := [(0, .ref 0), (1, .int l1), (2, .int l2), (3, .int l3), (4, .int (l4 + (if l6 = 0 then 0 else 1 : Int32))), (5, .int l5), (6, .int l6), (7, .int l7)]) dX11_kinds_141 (Nat.le_of_ble_eq_true rfl) rfl ?_
        refine g_iinc (pc := 143) (v := l5 + 1) (lv2 := [(0, .ref 0), (1, .int l1), (2, .int l2), (3, .int l3), (4, .int (l4 + (if l6 = 0 then 0 else 1 : Int32))), (5, .int (l5 + 1)), (6, .int l6), (7, .int l7)]) dX11_kinds_143 5 rfl (Nat.le_of_ble_eq_true rfl) rfl rfl ?_
        refine g_goto (pc := 146) (tgt := 37) dX11_kinds_146 (by decide) ?_
        refine g_sub (lv2 := [(0, .ref 0), (1, .int l1), (2, .int l2), (3, .int l3), (4, .int (l4 + (if l6 = 0 then 0 else 1 : Int32))), (5, .int (l5 + 1))]) [0, 1, 2, 3, 4, 5] rfl ?_
        exact h
      refine g_if_eq (pc := 132) (tgt := 139) dX11_kinds_132 (by decide) (fun q132 => ?_) (fun q132 => ?_)
      · refine g_iconst (pc := 139) dX11_kinds_139 c_0 ?_
        first | (exfalso; contradiction) | exact cast (by simp only [if_pos q132]) hJ
      · refine g_iconst (pc := 135) dX11_kinds_135 c_1 ?_
        refine g_goto (pc := 136) (tgt := 140) dX11_kinds_136 (by decide) ?_
        first | (exfalso; contradiction) | exact cast (by simp only [if_neg q132]) hJ
    · have h := h.2 q
      refine g_iload (pc := 74) dX11_kinds_74 7 rfl ?_
      refine g_iload_n (pc := 76) dX11_kinds_76 rfl 1 rfl ?_
      refine g_callS (pc := 77) (M' := mX11_common) (n := 2) (as := [.int l7, .int l1]) (st := []) dX11_kinds_77 rfl kX11_285 sX11_common (Nat.le_of_ble_eq_true rfl) rfl rfl (Nat.le_of_ble_eq_true rfl) ?_
      refine cl_mono (fun r w1 hr => ?_) h
      obtain ⟨x2, rfl, hw1, h⟩ := hr
      show Go SR mX11_kinds 80 [(0, .ref 0), (1, .int l1), (2, .int l2), (3, .int l3), (4, .int l4), (5, .int l5), (6, .int l6), (7, .int l7)] [.int x2] w1 Q
      refine g_iconst (pc := 80) dX11_kinds_80 c_1 ?_
      refine g_icmp_ne (pc := 81) (tgt := 115) dX11_kinds_81 (by decide) (fun q => ?_) (fun q => ?_)
      · have h := h.2 q
        refine g_iconst (pc := 115) dX11_kinds_115 c_1 ?_
        refine g_goto (pc := 116) (tgt := 120) dX11_kinds_116 (by decide) ?_
        refine g_istore (pc := 120) (lv2 := [(0, .ref 0), (1, .int l1), (2, .int l2), (3, .int l3), (4, .int l4), (5, .int l5), (6, .int 1), (7, .int l7)]) dX11_kinds_120 (Nat.le_of_ble_eq_true rfl) rfl ?_
        refine g_iinc (pc := 122) (v := l7 + 1) (lv2 := [(0, .ref 0), (1, .int l1), (2, .int l2), (3, .int l3), (4, .int l4), (5, .int l5), (6, .int 1), (7, .int (l7 + 1))]) dX11_kinds_122 7 rfl (Nat.le_of_ble_eq_true rfl) rfl rfl ?_
        refine g_goto (pc := 125) (tgt := 62) dX11_kinds_125 (by decide) ?_
        exact h
      · have h := h.1 q
        refine g_iload (pc := 84) dX11_kinds_84 5 rfl ?_
        refine g_i2l (pc := 86) dX11_kinds_86 ?_
        refine g_iload (pc := 87) dX11_kinds_87 7 rfl ?_
        refine g_i2l (pc := 89) dX11_kinds_89 ?_
        refine g_iload_n (pc := 90) dX11_kinds_90 rfl 1 rfl ?_
        refine g_callS (pc := 91) (M' := mX11_isKind) (n := 3) (as := [.long l5.toInt64, .long l7.toInt64, .int l1]) (st := []) dX11_kinds_91 rfl kX11_341 sX11_isKind (Nat.le_of_ble_eq_true rfl) rfl rfl (Nat.le_of_ble_eq_true rfl) ?_
        refine cl_mono (fun r w3 hr => ?_) h
        obtain ⟨x4, rfl, hw3, h⟩ := hr
        show Go SR mX11_kinds 94 [(0, .ref 0), (1, .int l1), (2, .int l2), (3, .int l3), (4, .int l4), (5, .int l5), (6, .int l6), (7, .int l7)] [.int x4] w3 Q
        refine g_if_ne (pc := 94) (tgt := 119) dX11_kinds_94 (by decide) (fun q => ?_) (fun q => ?_)
        · have h := h.2 q
          refine g_iconst (pc := 119) dX11_kinds_119 c_0 ?_
          refine g_istore (pc := 120) (lv2 := [(0, .ref 0), (1, .int l1), (2, .int l2), (3, .int l3), (4, .int l4), (5, .int l5), (6, .int 0), (7, .int l7)]) dX11_kinds_120 (Nat.le_of_ble_eq_true rfl) rfl ?_
          refine g_iinc (pc := 122) (v := l7 + 1) (lv2 := [(0, .ref 0), (1, .int l1), (2, .int l2), (3, .int l3), (4, .int l4), (5, .int l5), (6, .int 0), (7, .int (l7 + 1))]) dX11_kinds_122 7 rfl (Nat.le_of_ble_eq_true rfl) rfl rfl ?_
          refine g_goto (pc := 125) (tgt := 62) dX11_kinds_125 (by decide) ?_
          exact h
        · have h := h.1 q
          refine g_iload_n (pc := 97) dX11_kinds_97 rfl 2 rfl ?_
          refine g_if_eq (pc := 98) (tgt := 115) dX11_kinds_98 (by decide) (fun q => ?_) (fun q => ?_)
          · have h := h.1 q
            refine g_iconst (pc := 115) dX11_kinds_115 c_1 ?_
            refine g_goto (pc := 116) (tgt := 120) dX11_kinds_116 (by decide) ?_
            refine g_istore (pc := 120) (lv2 := [(0, .ref 0), (1, .int l1), (2, .int l2), (3, .int l3), (4, .int l4), (5, .int l5), (6, .int 1), (7, .int l7)]) dX11_kinds_120 (Nat.le_of_ble_eq_true rfl) rfl ?_
            refine g_iinc (pc := 122) (v := l7 + 1) (lv2 := [(0, .ref 0), (1, .int l1), (2, .int l2), (3, .int l3), (4, .int l4), (5, .int l5), (6, .int 1), (7, .int (l7 + 1))]) dX11_kinds_122 7 rfl (Nat.le_of_ble_eq_true rfl) rfl rfl ?_
            refine g_goto (pc := 125) (tgt := 62) dX11_kinds_125 (by decide) ?_
            exact h
          · have h := h.2 q
            refine g_iload (pc := 101) dX11_kinds_101 5 rfl ?_
            refine g_ineg (pc := 103) dX11_kinds_103 ?_
            refine g_i2l (pc := 104) dX11_kinds_104 ?_
            refine g_iload (pc := 105) dX11_kinds_105 7 rfl ?_
            refine g_i2l (pc := 107) dX11_kinds_107 ?_
            refine g_iload_n (pc := 108) dX11_kinds_108 rfl 1 rfl ?_
            refine g_callS (pc := 109) (M' := mX11_isKind) (n := 3) (as := [.long ((-l5).toInt64), .long l7.toInt64, .int l1]) (st := []) dX11_kinds_109 rfl kX11_341 sX11_isKind (Nat.le_of_ble_eq_true rfl) rfl rfl (Nat.le_of_ble_eq_true rfl) ?_
            refine cl_mono (fun r w5 hr => ?_) h
            obtain ⟨x6, rfl, hw5, h⟩ := hr
            show Go SR mX11_kinds 112 [(0, .ref 0), (1, .int l1), (2, .int l2), (3, .int l3), (4, .int l4), (5, .int l5), (6, .int l6), (7, .int l7)] [.int x6] w5 Q
            have hJ : Go SR mX11_kinds 120 [(0, .ref 0), (1, .int l1), (2, .int l2), (3, .int l3), (4, .int l4), (5, .int l5), (6, .int l6), (7, .int l7)] [.int (if x6 = 0 then 1 else 0 : Int32)] w5 Q := by
              refine g_istore (pc := 120) (lv2 := [(0, .ref 0), (1, .int l1), (2, .int l2), (3, .int l3), (4, .int l4), (5, .int l5), (6, .int (if x6 = 0 then 1 else 0 : Int32)), (7, .int l7)]) dX11_kinds_120 (Nat.le_of_ble_eq_true rfl) rfl ?_
              refine g_iinc (pc := 122) (v := l7 + 1) (lv2 := [(0, .ref 0), (1, .int l1), (2, .int l2), (3, .int l3), (4, .int l4), (5, .int l5), (6, .int (if x6 = 0 then 1 else 0 : Int32)), (7, .int (l7 + 1))]) dX11_kinds_122 7 rfl (Nat.le_of_ble_eq_true rfl) rfl rfl ?_
              refine g_goto (pc := 125) (tgt := 62) dX11_kinds_125 (by decide) ?_
              exact h
            refine g_if_ne (pc := 112) (tgt := 119) dX11_kinds_112 (by decide) (fun q112 => ?_) (fun q112 => ?_)
            · refine g_iconst (pc := 119) dX11_kinds_119 c_0 ?_
              first | (exfalso; contradiction) | exact cast (by simp only [if_neg q112]) hJ
            · refine g_iconst (pc := 115) dX11_kinds_115 c_1 ?_
              refine g_goto (pc := 116) (tgt := 120) dX11_kinds_116 (by decide) ?_
              first | (exfalso; contradiction) | exact cast (by simp only [if_pos q112]) hJ
set_option maxHeartbeats 4000000 in
set_option maxRecDepth 100000 in
theorem TX11_wrongBy (a1 : Int32) (w : Wd) (hR : w.2.2 = RM) (Q : Option Value → Wd → Prop) (h : Go SR mX11_wrongBy 2 [(0, .ref 0), (1, .int a1), (2, .int 0)] [] w Q) : Cl SR mX11_wrongBy [.ref 0, .int a1] w Q := by
  refine cl_of (by decide) (Nat.le_of_ble_eq_true rfl) ?_
  show Go SR mX11_wrongBy 0 [(0, .ref 0), (1, .int a1)] [] w Q
  refine g_iconst (pc := 0) dX11_wrongBy_0 c_0 ?_
  refine g_istore_n (pc := 1) (lv2 := [(0, .ref 0), (1, .int a1), (2, .int 0)]) dX11_wrongBy_1 rfl (Nat.le_of_ble_eq_true rfl) rfl ?_
  exact h
set_option maxHeartbeats 4000000 in
set_option maxRecDepth 100000 in
theorem BX11_wrongBy_2  (l1 : Int32) (l2 : Int32) (w : Wd) (hR : w.2.2 = RM) (Q : Option Value → Wd → Prop) (h : (((wi w 3 3) ≤ l2 → Q (some (.int (-2))) w) ∧ (¬ ((wi w 3 3) ≤ l2) → vp_in (77 + (4 * l2)) 146 ∧ vp_in ((77 + (4 * l2)) + 1) 146 ∧ ClV SR mX11_dance [.ref 0, .int (wi w 3 ((77 + (4 * l2)).toNatClampNeg)), .int (wi w 3 (((77 + (4 * l2)) + 1).toNatClampNeg)), .int l1, .int 0] w (fun w3 => w3.2.2 = RM ∧ vp_in ((77 + (4 * l2)) + 2) 146 ∧ vp_in ((77 + (4 * l2)) + 3) 146 ∧ (((vXX11_endOf (wi w3 3 (((77 + (4 * l2)) + 2).toNatClampNeg)) w3) = (wi w3 3 (((77 + (4 * l2)) + 3).toNatClampNeg)) → Go SR mX11_wrongBy 2 [(0, .ref 0), (1, .int l1), (2, .int (l2 + 1))] [] w3 Q) ∧ (¬ ((vXX11_endOf (wi w3 3 (((77 + (4 * l2)) + 2).toNatClampNeg)) w3) = (wi w3 3 (((77 + (4 * l2)) + 3).toNatClampNeg))) → Q (some (.int l2)) w3)))))) : Go SR mX11_wrongBy 2 [(0, .ref 0), (1, .int l1), (2, .int l2)] [] w Q := by
  refine g_iload_n (pc := 2) dX11_wrongBy_2 rfl 2 rfl ?_
  refine g_aload_n (pc := 3) dX11_wrongBy_3 rfl 0 rfl ?_
  refine g_getR (pc := 4) (a := 0) (b := 3) dX11_wrongBy_4 rfl fX11_20 rfl (rm_16 hR) ?_
  refine g_iconst (pc := 7) dX11_wrongBy_7 c_3 ?_
  refine g_iald (pc := 8) (a := 3) (j := 3) dX11_wrongBy_8 rfl (vin (by decide) (by decide)) (by decide) ?_
  refine g_icmp_ge (pc := 9) (tgt := 83) dX11_wrongBy_9 (by decide) (fun q => ?_) (fun q => ?_)
  · have h := h.1 q
    refine g_bipush (pc := 83) (v := (-2)) dX11_wrongBy_83 (by decide) ?_
    exact g_iret (pc := 85) dX11_wrongBy_85 rfl h
  · have h := h.2 q
    refine g_aload_n (pc := 12) dX11_wrongBy_12 rfl 0 rfl ?_
    refine g_aload_n (pc := 13) dX11_wrongBy_13 rfl 0 rfl ?_
    refine g_getR (pc := 14) (a := 0) (b := 3) dX11_wrongBy_14 rfl fX11_20 rfl (rm_16 hR) ?_
    refine g_bipush (pc := 17) (v := 77) dX11_wrongBy_17 (by decide) ?_
    refine g_iconst (pc := 19) dX11_wrongBy_19 c_4 ?_
    refine g_iload_n (pc := 20) dX11_wrongBy_20 rfl 2 rfl ?_
    refine g_imul (pc := 21) dX11_wrongBy_21 ?_
    refine g_iadd (pc := 22) dX11_wrongBy_22 ?_
    obtain ⟨hi1, h⟩ := h
    refine g_iald (pc := 23) (a := 3) (j := (77 + (4 * l2)).toNatClampNeg) dX11_wrongBy_23 rfl hi1 rfl ?_
    refine g_aload_n (pc := 24) dX11_wrongBy_24 rfl 0 rfl ?_
    refine g_getR (pc := 25) (a := 0) (b := 3) dX11_wrongBy_25 rfl fX11_20 rfl (rm_16 hR) ?_
    refine g_bipush (pc := 28) (v := 77) dX11_wrongBy_28 (by decide) ?_
    refine g_iconst (pc := 30) dX11_wrongBy_30 c_4 ?_
    refine g_iload_n (pc := 31) dX11_wrongBy_31 rfl 2 rfl ?_
    refine g_imul (pc := 32) dX11_wrongBy_32 ?_
    refine g_iadd (pc := 33) dX11_wrongBy_33 ?_
    refine g_iconst (pc := 34) dX11_wrongBy_34 c_1 ?_
    refine g_iadd (pc := 35) dX11_wrongBy_35 ?_
    obtain ⟨hi2, h⟩ := h
    refine g_iald (pc := 36) (a := 3) (j := ((77 + (4 * l2)) + 1).toNatClampNeg) dX11_wrongBy_36 rfl hi2 rfl ?_
    refine g_iload_n (pc := 37) dX11_wrongBy_37 rfl 1 rfl ?_
    refine g_iconst (pc := 38) dX11_wrongBy_38 c_0 ?_
    refine g_callV (pc := 39) (M' := mX11_dance) (n := 4) (a := 0) (as := [.int (wi w 3 ((77 + (4 * l2)).toNatClampNeg)), .int (wi w 3 (((77 + (4 * l2)) + 1).toNatClampNeg)), .int l1, .int 0]) (st := []) dX11_wrongBy_39 rfl kX11_166 vX11_dance (Nat.le_of_ble_eq_true rfl) rfl qX11 rfl rfl (Nat.le_of_ble_eq_true rfl) ?_
    refine cl_mono (fun r w3 hr => ?_) h
    obtain ⟨rfl, hw3, h⟩ := hr
    show Go SR mX11_wrongBy 42 [(0, .ref 0), (1, .int l1), (2, .int l2)] [] w3 Q
    refine g_aload_n (pc := 42) dX11_wrongBy_42 rfl 0 rfl ?_
    refine g_aload_n (pc := 43) dX11_wrongBy_43 rfl 0 rfl ?_
    refine g_getR (pc := 44) (a := 0) (b := 3) dX11_wrongBy_44 rfl fX11_20 rfl (rm_16 hw3) ?_
    refine g_bipush (pc := 47) (v := 77) dX11_wrongBy_47 (by decide) ?_
    refine g_iconst (pc := 49) dX11_wrongBy_49 c_4 ?_
    refine g_iload_n (pc := 50) dX11_wrongBy_50 rfl 2 rfl ?_
    refine g_imul (pc := 51) dX11_wrongBy_51 ?_
    refine g_iadd (pc := 52) dX11_wrongBy_52 ?_
    refine g_iconst (pc := 53) dX11_wrongBy_53 c_2 ?_
    refine g_iadd (pc := 54) dX11_wrongBy_54 ?_
    obtain ⟨hi4, h⟩ := h
    refine g_iald (pc := 55) (a := 3) (j := ((77 + (4 * l2)) + 2).toNatClampNeg) dX11_wrongBy_55 rfl hi4 rfl ?_
    refine g_callV (pc := 56) (M' := mX11_endOf) (n := 1) (a := 0) (as := [.int (wi w3 3 (((77 + (4 * l2)) + 2).toNatClampNeg))]) (st := []) dX11_wrongBy_56 rfl kX11_248 vX11_endOf (Nat.le_of_ble_eq_true rfl) rfl qX11 rfl rfl (Nat.le_of_ble_eq_true rfl) ?_
    refine zX11_endOf (a1 := (wi w3 3 (((77 + (4 * l2)) + 2).toNatClampNeg))) (w := w3) (hR := hw3) ?_
    show Go SR mX11_wrongBy 59 [(0, .ref 0), (1, .int l1), (2, .int l2)] [.int (vXX11_endOf (wi w3 3 (((77 + (4 * l2)) + 2).toNatClampNeg)) w3)] w3 Q
    refine g_aload_n (pc := 59) dX11_wrongBy_59 rfl 0 rfl ?_
    refine g_getR (pc := 60) (a := 0) (b := 3) dX11_wrongBy_60 rfl fX11_20 rfl (rm_16 hw3) ?_
    refine g_bipush (pc := 63) (v := 77) dX11_wrongBy_63 (by decide) ?_
    refine g_iconst (pc := 65) dX11_wrongBy_65 c_4 ?_
    refine g_iload_n (pc := 66) dX11_wrongBy_66 rfl 2 rfl ?_
    refine g_imul (pc := 67) dX11_wrongBy_67 ?_
    refine g_iadd (pc := 68) dX11_wrongBy_68 ?_
    refine g_iconst (pc := 69) dX11_wrongBy_69 c_3 ?_
    refine g_iadd (pc := 70) dX11_wrongBy_70 ?_
    obtain ⟨hi5, h⟩ := h
    refine g_iald (pc := 71) (a := 3) (j := ((77 + (4 * l2)) + 3).toNatClampNeg) dX11_wrongBy_71 rfl hi5 rfl ?_
    refine g_icmp_eq (pc := 72) (tgt := 77) dX11_wrongBy_72 (by decide) (fun q => ?_) (fun q => ?_)
    · have h := h.1 q
      refine g_iinc (pc := 77) (v := l2 + 1) (lv2 := [(0, .ref 0), (1, .int l1), (2, .int (l2 + 1))]) dX11_wrongBy_77 2 rfl (Nat.le_of_ble_eq_true rfl) rfl rfl ?_
      refine g_goto (pc := 80) (tgt := 2) dX11_wrongBy_80 (by decide) ?_
      exact h
    · have h := h.2 q
      refine g_iload_n (pc := 75) dX11_wrongBy_75 rfl 2 rfl ?_
      exact g_iret (pc := 76) dX11_wrongBy_76 rfl h
set_option maxHeartbeats 4000000 in
set_option maxRecDepth 100000 in
theorem TX11_seekSets (a1 : Int32) (w : Wd) (hR : w.2.2 = RM) (Q : Option Value → Wd → Prop) (h : Go SR mX11_seekSets 28 [(0, .ref 0), (1, .int a1), (2, .int (-1)), (3, .int 0)] [] (si (si (si w 0 41 0) 0 42 0) 0 43 ((1 <<< ((wi (si (si w 0 41 0) 0 42 0) 3 2) &&& 31)) - 1)) Q) : Cl SR mX11_seekSets [.ref 0, .int a1] w Q := by
  refine cl_of (by decide) (Nat.le_of_ble_eq_true rfl) ?_
  show Go SR mX11_seekSets 0 [(0, .ref 0), (1, .int a1)] [] w Q
  refine g_iconst (pc := 0) dX11_seekSets_0 cN_1 ?_
  refine g_istore_n (pc := 1) (lv2 := [(0, .ref 0), (1, .int a1), (2, .int (-1))]) dX11_seekSets_1 rfl (Nat.le_of_ble_eq_true rfl) rfl ?_
  refine g_aload_n (pc := 2) dX11_seekSets_2 rfl 0 rfl ?_
  refine g_iconst (pc := 3) dX11_seekSets_3 c_0 ?_
  refine g_putI (pc := 4) dX11_seekSets_4 rfl fX11_349 pX11_41 rfl ?_
  refine g_aload_n (pc := 7) dX11_seekSets_7 rfl 0 rfl ?_
  refine g_iconst (pc := 8) dX11_seekSets_8 c_0 ?_
  refine g_putI (pc := 9) dX11_seekSets_9 rfl fX11_352 pX11_42 rfl ?_
  refine g_aload_n (pc := 12) dX11_seekSets_12 rfl 0 rfl ?_
  refine g_iconst (pc := 13) dX11_seekSets_13 c_1 ?_
  refine g_aload_n (pc := 14) dX11_seekSets_14 rfl 0 rfl ?_
  refine g_getR (pc := 15) (a := 0) (b := 3) dX11_seekSets_15 rfl fX11_20 rfl (rm_16 hR) ?_
  refine g_iconst (pc := 18) dX11_seekSets_18 c_2 ?_
  refine g_iald (pc := 19) (a := 3) (j := 2) dX11_seekSets_19 rfl (vin (by decide) (by decide)) (by decide) ?_
  refine g_ishl (pc := 20) dX11_seekSets_20 ?_
  refine g_iconst (pc := 21) dX11_seekSets_21 c_1 ?_
  refine g_isub (pc := 22) dX11_seekSets_22 ?_
  refine g_putI (pc := 23) dX11_seekSets_23 rfl fX11_355 pX11_43 rfl ?_
  refine g_iconst (pc := 26) dX11_seekSets_26 c_0 ?_
  refine g_istore_n (pc := 27) (lv2 := [(0, .ref 0), (1, .int a1), (2, .int (-1)), (3, .int 0)]) dX11_seekSets_27 rfl (Nat.le_of_ble_eq_true rfl) rfl ?_
  exact h
set_option maxHeartbeats 4000000 in
set_option maxRecDepth 100000 in
theorem BX11_seekSets_28  (l1 : Int32) (l2 : Int32) (l3 : Int32) (w : Wd) (hR : w.2.2 = RM) (Q : Option Value → Wd → Prop) (h : ((4 ≤ l3 → Go SR mX11_seekSets 48 [(0, .ref 0), (1, .int l1), (2, .int l2), (3, .int 0)] [] w Q) ∧ (¬ (4 ≤ l3) → vp_in l3 4 ∧ Go SR mX11_seekSets 28 [(0, .ref 0), (1, .int l1), (2, .int l2), (3, .int (l3 + 1))] [] (si w 13 l3.toNatClampNeg 0) Q))) : Go SR mX11_seekSets 28 [(0, .ref 0), (1, .int l1), (2, .int l2), (3, .int l3)] [] w Q := by
  refine g_iload_n (pc := 28) dX11_seekSets_28 rfl 3 rfl ?_
  refine g_iconst (pc := 29) dX11_seekSets_29 c_4 ?_
  refine g_icmp_ge (pc := 30) (tgt := 46) dX11_seekSets_30 (by decide) (fun q => ?_) (fun q => ?_)
  · have h := h.1 q
    refine g_iconst (pc := 46) dX11_seekSets_46 c_0 ?_
    refine g_istore_n (pc := 47) (lv2 := [(0, .ref 0), (1, .int l1), (2, .int l2), (3, .int 0)]) dX11_seekSets_47 rfl (Nat.le_of_ble_eq_true rfl) rfl ?_
    exact h
  · have h := h.2 q
    refine g_aload_n (pc := 33) dX11_seekSets_33 rfl 0 rfl ?_
    refine g_getR (pc := 34) (a := 0) (b := 13) dX11_seekSets_34 rfl fX11_50 rfl (rm_40 hR) ?_
    refine g_iload_n (pc := 37) dX11_seekSets_37 rfl 3 rfl ?_
    refine g_iconst (pc := 38) dX11_seekSets_38 c_0 ?_
    obtain ⟨hi1, h⟩ := h
    refine g_iast (pc := 39) (a := 13) (j := l3.toNatClampNeg) dX11_seekSets_39 rfl hi1 rfl ?_
    refine g_iinc (pc := 40) (v := l3 + 1) (lv2 := [(0, .ref 0), (1, .int l1), (2, .int l2), (3, .int (l3 + 1))]) dX11_seekSets_40 3 rfl (Nat.le_of_ble_eq_true rfl) rfl rfl ?_
    refine g_goto (pc := 43) (tgt := 28) dX11_seekSets_43 (by decide) ?_
    exact h
set_option maxHeartbeats 4000000 in
set_option maxRecDepth 100000 in
theorem BX11_seekSets_48  (l1 : Int32) (l2 : Int32) (l3 : Int32) (w : Wd) (hR : w.2.2 = RM) (Q : Option Value → Wd → Prop) (h : (((1 <<< ((wi w 3 2) &&& 31)) ≤ l3 → (((wi w 0 41) = 0 → Q (some (.int l2)) (si w 0 43 0)) ∧ (¬ ((wi w 0 41) = 0) → Q (some (.int l2)) w))) ∧ (¬ ((1 <<< ((wi w 3 2) &&& 31)) ≤ l3) → ClI SR mX11_wrongBy [.ref 0, .int l3] w (fun x2 w1 => w1.2.2 = RM ∧ ((x2 = (-2) → Go SR mX11_seekSets 116 [(0, .ref 0), (1, .int l1), (2, .int (if (wi w1 0 41) = l1 then l3 else l2 : Int32)), (3, .int l3), (4, .int 0)] [] (si (si (si w1 0 41 ((wi w1 0 41) + 1)) 0 42 ((wi (si w1 0 41 ((wi w1 0 41) + 1)) 0 42) ||| l3)) 0 43 ((wi (si (si w1 0 41 ((wi w1 0 41) + 1)) 0 42 ((wi (si w1 0 41 ((wi w1 0 41) + 1)) 0 42) ||| l3)) 0 43) &&& l3)) Q) ∧ (¬ (x2 = (-2)) → Go SR mX11_seekSets 48 [(0, .ref 0), (1, .int l1), (2, .int l2), (3, .int (l3 + 1))] [] w1 Q)))))) : Go SR mX11_seekSets 48 [(0, .ref 0), (1, .int l1), (2, .int l2), (3, .int l3)] [] w Q := by
  refine g_iload_n (pc := 48) dX11_seekSets_48 rfl 3 rfl ?_
  refine g_iconst (pc := 49) dX11_seekSets_49 c_1 ?_
  refine g_aload_n (pc := 50) dX11_seekSets_50 rfl 0 rfl ?_
  refine g_getR (pc := 51) (a := 0) (b := 3) dX11_seekSets_51 rfl fX11_20 rfl (rm_16 hR) ?_
  refine g_iconst (pc := 54) dX11_seekSets_54 c_2 ?_
  refine g_iald (pc := 55) (a := 3) (j := 2) dX11_seekSets_55 rfl (vin (by decide) (by decide)) (by decide) ?_
  refine g_ishl (pc := 56) dX11_seekSets_56 ?_
  refine g_icmp_ge (pc := 57) (tgt := 155) dX11_seekSets_57 (by decide) (fun q => ?_) (fun q => ?_)
  · have h := h.1 q
    refine g_aload_n (pc := 155) dX11_seekSets_155 rfl 0 rfl ?_
    refine g_getI (pc := 156) (a := 0) dX11_seekSets_156 rfl fX11_349 rfl ?_
    refine g_if_ne (pc := 159) (tgt := 167) dX11_seekSets_159 (by decide) (fun q => ?_) (fun q => ?_)
    · have h := h.2 q
      refine g_iload_n (pc := 167) dX11_seekSets_167 rfl 2 rfl ?_
      exact g_iret (pc := 168) dX11_seekSets_168 rfl h
    · have h := h.1 q
      refine g_aload_n (pc := 162) dX11_seekSets_162 rfl 0 rfl ?_
      refine g_iconst (pc := 163) dX11_seekSets_163 c_0 ?_
      refine g_putI (pc := 164) dX11_seekSets_164 rfl fX11_355 pX11_43 rfl ?_
      refine g_iload_n (pc := 167) dX11_seekSets_167 rfl 2 rfl ?_
      exact g_iret (pc := 168) dX11_seekSets_168 rfl h
  · have h := h.2 q
    refine g_aload_n (pc := 60) dX11_seekSets_60 rfl 0 rfl ?_
    refine g_iload_n (pc := 61) dX11_seekSets_61 rfl 3 rfl ?_
    refine g_callV (pc := 62) (M' := mX11_wrongBy) (n := 1) (a := 0) (as := [.int l3]) (st := []) dX11_seekSets_62 rfl kX11_358 vX11_wrongBy (Nat.le_of_ble_eq_true rfl) rfl qX11 rfl rfl (Nat.le_of_ble_eq_true rfl) ?_
    refine cl_mono (fun r w1 hr => ?_) h
    obtain ⟨x2, rfl, hw1, h⟩ := hr
    show Go SR mX11_seekSets 65 [(0, .ref 0), (1, .int l1), (2, .int l2), (3, .int l3)] [.int x2] w1 Q
    refine g_bipush (pc := 65) (v := (-2)) dX11_seekSets_65 (by decide) ?_
    refine g_icmp_eq (pc := 67) (tgt := 73) dX11_seekSets_67 (by decide) (fun q => ?_) (fun q => ?_)
    · have h := h.1 q
      refine g_aload_n (pc := 73) dX11_seekSets_73 rfl 0 rfl ?_
      refine g_getI (pc := 74) (a := 0) dX11_seekSets_74 rfl fX11_349 rfl ?_
      refine g_iload_n (pc := 77) dX11_seekSets_77 rfl 1 rfl ?_
      have hJ : Go SR mX11_seekSets 83 [(0, .ref 0), (1, .int l1), (2, .int (if (wi w1 0 41) = l1 then l3 else l2 : Int32)), (3, .int l3)] [] w1 Q := by
        refine g_aload_n (pc := 83) dX11_seekSets_83 rfl 0 rfl ?_
        refine g_dup (pc := 84) dX11_seekSets_84 rfl ?_
        refine g_getI (pc := 85) (a := 0) dX11_seekSets_85 rfl fX11_349 rfl ?_
        refine g_iconst (pc := 88) dX11_seekSets_88 c_1 ?_
        refine g_iadd (pc := 89) dX11_seekSets_89 ?_
        refine g_putI (pc := 90) dX11_seekSets_90 rfl fX11_349 pX11_41 rfl ?_
        refine g_aload_n (pc := 93) dX11_seekSets_93 rfl 0 rfl ?_
        refine g_dup (pc := 94) dX11_seekSets_94 rfl ?_
        refine g_getI (pc := 95) (a := 0) dX11_seekSets_95 rfl fX11_352 rfl ?_
        refine g_iload_n (pc := 98) dX11_seekSets_98 rfl 3 rfl ?_
        refine g_ior (pc := 99) dX11_seekSets_99 ?_
        refine g_putI (pc := 100) dX11_seekSets_100 rfl fX11_352 pX11_42 rfl ?_
        refine g_aload_n (pc := 103) dX11_seekSets_103 rfl 0 rfl ?_
        refine g_dup (pc := 104) dX11_seekSets_104 rfl ?_
        refine g_getI (pc := 105) (a := 0) dX11_seekSets_105 rfl fX11_355 rfl ?_
        refine g_iload_n (pc := 108) dX11_seekSets_108 rfl 3 rfl ?_
        refine g_iand (pc := 109) dX11_seekSets_109 ?_
        refine g_putI (pc := 110) dX11_seekSets_110 rfl fX11_355 pX11_43 rfl ?_
        refine g_iconst (pc := 113) dX11_seekSets_113 c_0 ?_
        refine g_istore (pc := 114) (lv2 := [(0, .ref 0), (1, .int l1), (2, .int (if (wi w1 0 41) = l1 then l3 else l2 : Int32)), (3, .int l3), (4, .int 0)]) dX11_seekSets_114 (Nat.le_of_ble_eq_true rfl) rfl ?_
        exact h
      refine g_icmp_ne (pc := 78) (tgt := 83) dX11_seekSets_78 (by decide) (fun q78 => ?_) (fun q78 => ?_)
      · first | (exfalso; contradiction) | exact cast (by simp only [if_neg q78]) hJ
      · refine g_iload_n (pc := 81) dX11_seekSets_81 rfl 3 rfl ?_
        refine g_istore_n (pc := 82) (lv2 := [(0, .ref 0), (1, .int l1), (2, .int l3), (3, .int l3)]) dX11_seekSets_82 rfl (Nat.le_of_ble_eq_true rfl) rfl ?_
        first | (exfalso; contradiction) | exact cast (by simp only [if_pos q78]) hJ
    · have h := h.2 q
      refine g_goto (pc := 70) (tgt := 149) dX11_seekSets_70 (by decide) ?_
      refine g_iinc (pc := 149) (v := l3 + 1) (lv2 := [(0, .ref 0), (1, .int l1), (2, .int l2), (3, .int (l3 + 1))]) dX11_seekSets_149 3 rfl (Nat.le_of_ble_eq_true rfl) rfl rfl ?_
      refine g_goto (pc := 152) (tgt := 48) dX11_seekSets_152 (by decide) ?_
      exact h
set_option maxHeartbeats 4000000 in
set_option maxRecDepth 100000 in
theorem BX11_seekSets_116  (l1 : Int32) (l2 : Int32) (l3 : Int32) (l4 : Int32) (w : Wd) (hR : w.2.2 = RM) (Q : Option Value → Wd → Prop) (h : (((wi w 3 2) ≤ l4 → Go SR mX11_seekSets 48 [(0, .ref 0), (1, .int l1), (2, .int l2), (3, .int (l3 + 1))] [] w Q) ∧ (¬ ((wi w 3 2) ≤ l4) → vp_in l4 4 ∧ vp_in l4 4 ∧ Go SR mX11_seekSets 116 [(0, .ref 0), (1, .int l1), (2, .int l2), (3, .int l3), (4, .int (l4 + 1))] [] (si w 13 l4.toNatClampNeg ((wi w 13 l4.toNatClampNeg) + ((l3 >>> (l4 &&& 31)) &&& 1))) Q))) : Go SR mX11_seekSets 116 [(0, .ref 0), (1, .int l1), (2, .int l2), (3, .int l3), (4, .int l4)] [] w Q := by
  refine g_iload (pc := 116) dX11_seekSets_116 4 rfl ?_
  refine g_aload_n (pc := 118) dX11_seekSets_118 rfl 0 rfl ?_
  refine g_getR (pc := 119) (a := 0) (b := 3) dX11_seekSets_119 rfl fX11_20 rfl (rm_16 hR) ?_
  refine g_iconst (pc := 122) dX11_seekSets_122 c_2 ?_
  refine g_iald (pc := 123) (a := 3) (j := 2) dX11_seekSets_123 rfl (vin (by decide) (by decide)) (by decide) ?_
  refine g_icmp_ge (pc := 124) (tgt := 149) dX11_seekSets_124 (by decide) (fun q => ?_) (fun q => ?_)
  · have h := h.1 q
    refine g_iinc (pc := 149) (v := l3 + 1) (lv2 := [(0, .ref 0), (1, .int l1), (2, .int l2), (3, .int (l3 + 1)), (4, .int l4)]) dX11_seekSets_149 3 rfl (Nat.le_of_ble_eq_true rfl) rfl rfl ?_
    refine g_goto (pc := 152) (tgt := 48) dX11_seekSets_152 (by decide) ?_
    refine g_sub (lv2 := [(0, .ref 0), (1, .int l1), (2, .int l2), (3, .int (l3 + 1))]) [0, 1, 2, 3] rfl ?_
    exact h
  · have h := h.2 q
    refine g_aload_n (pc := 127) dX11_seekSets_127 rfl 0 rfl ?_
    refine g_getR (pc := 128) (a := 0) (b := 13) dX11_seekSets_128 rfl fX11_50 rfl (rm_40 hR) ?_
    refine g_iload (pc := 131) dX11_seekSets_131 4 rfl ?_
    refine g_dup2 (pc := 133) dX11_seekSets_133 rfl rfl ?_
    obtain ⟨hi1, h⟩ := h
    refine g_iald (pc := 134) (a := 13) (j := l4.toNatClampNeg) dX11_seekSets_134 rfl hi1 rfl ?_
    refine g_iload_n (pc := 135) dX11_seekSets_135 rfl 3 rfl ?_
    refine g_iload (pc := 136) dX11_seekSets_136 4 rfl ?_
    refine g_ishr (pc := 138) dX11_seekSets_138 ?_
    refine g_iconst (pc := 139) dX11_seekSets_139 c_1 ?_
    refine g_iand (pc := 140) dX11_seekSets_140 ?_
    refine g_iadd (pc := 141) dX11_seekSets_141 ?_
    obtain ⟨hi2, h⟩ := h
    refine g_iast (pc := 142) (a := 13) (j := l4.toNatClampNeg) dX11_seekSets_142 rfl hi2 rfl ?_
    refine g_iinc (pc := 143) (v := l4 + 1) (lv2 := [(0, .ref 0), (1, .int l1), (2, .int l2), (3, .int l3), (4, .int (l4 + 1))]) dX11_seekSets_143 4 rfl (Nat.le_of_ble_eq_true rfl) rfl rfl ?_
    refine g_goto (pc := 146) (tgt := 116) dX11_seekSets_146 (by decide) ?_
    exact h
set_option maxHeartbeats 4000000 in
set_option maxRecDepth 100000 in
theorem TX11_fits  (w : Wd) (hR : w.2.2 = RM) (Q : Option Value → Wd → Prop) (h : (((wi (wXX11_anew w) 0 15) = 0 → Q (some (.int (vXX11_no 1))) (wXX11_no 1 (wXX11_anew w))) ∧ (¬ ((wi (wXX11_anew w) 0 15) = 0) → ClI SR mX11_seekSets [.ref 0, .int (-1)] (wXX11_anew w) (fun x2 w1 => w1.2.2 = RM ∧ Q (some (.int (wi w1 0 41))) w1)))) : Cl SR mX11_fits [.ref 0] w Q := by
  refine cl_of (by decide) (Nat.le_of_ble_eq_true rfl) ?_
  show Go SR mX11_fits 0 [(0, .ref 0)] [] w Q
  refine g_aload_n (pc := 0) dX11_fits_0 rfl 0 rfl ?_
  refine g_callV (pc := 1) (M' := mX11_anew) (n := 0) (a := 0) (as := []) (st := []) dX11_fits_1 rfl kX11_147 vX11_anew (Nat.le_of_ble_eq_true rfl) rfl qX11 rfl rfl (Nat.le_of_ble_eq_true rfl) ?_
  refine zX11_anew (w := w) (hR := hR) ?_
  show Go SR mX11_fits 4 [(0, .ref 0)] [] (wXX11_anew w) Q
  refine g_aload_n (pc := 4) dX11_fits_4 rfl 0 rfl ?_
  refine g_getZ (pc := 5) (a := 0) dX11_fits_5 rfl fX11_163 rfl ?_
  refine g_if_ne (pc := 8) (tgt := 17) dX11_fits_8 (by decide) (fun q => ?_) (fun q => ?_)
  · have h := h.2 q
    refine g_aload_n (pc := 17) dX11_fits_17 rfl 0 rfl ?_
    refine g_iconst (pc := 18) dX11_fits_18 cN_1 ?_
    refine g_callV (pc := 19) (M' := mX11_seekSets) (n := 1) (a := 0) (as := [.int (-1)]) (st := []) dX11_fits_19 rfl kX11_361 vX11_seekSets (Nat.le_of_ble_eq_true rfl) rfl qX11 rfl rfl (Nat.le_of_ble_eq_true rfl) ?_
    refine cl_mono (fun r w1 hr => ?_) h
    obtain ⟨x2, rfl, hw1, h⟩ := hr
    show Go SR mX11_fits 22 [(0, .ref 0)] [.int x2] w1 Q
    refine g_pop (pc := 22) dX11_fits_22 rfl ?_
    refine g_aload_n (pc := 23) dX11_fits_23 rfl 0 rfl ?_
    refine g_getI (pc := 24) (a := 0) dX11_fits_24 rfl fX11_349 rfl ?_
    exact g_iret (pc := 27) dX11_fits_27 rfl h
  · have h := h.1 q
    refine g_aload_n (pc := 11) dX11_fits_11 rfl 0 rfl ?_
    refine g_iconst (pc := 12) dX11_fits_12 c_1 ?_
    refine g_callV (pc := 13) (M' := mX11_no) (n := 1) (a := 0) (as := [.int 1]) (st := []) dX11_fits_13 rfl kX11_150 vX11_no (Nat.le_of_ble_eq_true rfl) rfl qX11 rfl rfl (Nat.le_of_ble_eq_true rfl) ?_
    refine zX11_no (a1 := 1) (w := wXX11_anew w) (hR := hR) ?_
    show Go SR mX11_fits 16 [(0, .ref 0)] [.int (vXX11_no 1)] (wXX11_no 1 (wXX11_anew w)) Q
    exact g_iret (pc := 16) dX11_fits_16 rfl h
set_option maxHeartbeats 4000000 in
set_option maxRecDepth 100000 in
theorem TX11_fitAt (a1 : Int32) (w : Wd) (hR : w.2.2 = RM) (Q : Option Value → Wd → Prop) (h : (((wi (wXX11_anew w) 0 15) = 0 → Q (some (.int (vXX11_no 1))) (wXX11_no 1 (wXX11_anew w))) ∧ (¬ ((wi (wXX11_anew w) 0 15) = 0) → ((0 ≤ a1 → ClI SR mX11_seekSets [.ref 0, .int a1] (wXX11_anew w) (fun x2 w1 => w1.2.2 = RM ∧ ((0 ≤ x2 → Q (some (.int x2)) w1) ∧ (¬ (0 ≤ x2) → Q (some (.int (vXX11_no 1))) (wXX11_no 1 w1))))) ∧ (¬ (0 ≤ a1) → Q (some (.int (vXX11_no 1))) (wXX11_no 1 (wXX11_anew w))))))) : Cl SR mX11_fitAt [.ref 0, .int a1] w Q := by
  refine cl_of (by decide) (Nat.le_of_ble_eq_true rfl) ?_
  show Go SR mX11_fitAt 0 [(0, .ref 0), (1, .int a1)] [] w Q
  refine g_aload_n (pc := 0) dX11_fitAt_0 rfl 0 rfl ?_
  refine g_callV (pc := 1) (M' := mX11_anew) (n := 0) (a := 0) (as := []) (st := []) dX11_fitAt_1 rfl kX11_147 vX11_anew (Nat.le_of_ble_eq_true rfl) rfl qX11 rfl rfl (Nat.le_of_ble_eq_true rfl) ?_
  refine zX11_anew (w := w) (hR := hR) ?_
  show Go SR mX11_fitAt 4 [(0, .ref 0), (1, .int a1)] [] (wXX11_anew w) Q
  refine g_aload_n (pc := 4) dX11_fitAt_4 rfl 0 rfl ?_
  refine g_getZ (pc := 5) (a := 0) dX11_fitAt_5 rfl fX11_163 rfl ?_
  refine g_if_eq (pc := 8) (tgt := 15) dX11_fitAt_8 (by decide) (fun q => ?_) (fun q => ?_)
  · have h := h.1 q
    refine g_aload_n (pc := 15) dX11_fitAt_15 rfl 0 rfl ?_
    refine g_iconst (pc := 16) dX11_fitAt_16 c_1 ?_
    refine g_callV (pc := 17) (M' := mX11_no) (n := 1) (a := 0) (as := [.int 1]) (st := []) dX11_fitAt_17 rfl kX11_150 vX11_no (Nat.le_of_ble_eq_true rfl) rfl qX11 rfl rfl (Nat.le_of_ble_eq_true rfl) ?_
    refine zX11_no (a1 := 1) (w := wXX11_anew w) (hR := hR) ?_
    show Go SR mX11_fitAt 20 [(0, .ref 0), (1, .int a1)] [.int (vXX11_no 1)] (wXX11_no 1 (wXX11_anew w)) Q
    exact g_iret (pc := 20) dX11_fitAt_20 rfl h
  · have h := h.2 q
    refine g_iload_n (pc := 11) dX11_fitAt_11 rfl 1 rfl ?_
    refine g_if_ge (pc := 12) (tgt := 21) dX11_fitAt_12 (by decide) (fun q => ?_) (fun q => ?_)
    · have h := h.1 q
      refine g_aload_n (pc := 21) dX11_fitAt_21 rfl 0 rfl ?_
      refine g_iload_n (pc := 22) dX11_fitAt_22 rfl 1 rfl ?_
      refine g_callV (pc := 23) (M' := mX11_seekSets) (n := 1) (a := 0) (as := [.int a1]) (st := []) dX11_fitAt_23 rfl kX11_361 vX11_seekSets (Nat.le_of_ble_eq_true rfl) rfl qX11 rfl rfl (Nat.le_of_ble_eq_true rfl) ?_
      refine cl_mono (fun r w1 hr => ?_) h
      obtain ⟨x2, rfl, hw1, h⟩ := hr
      show Go SR mX11_fitAt 26 [(0, .ref 0), (1, .int a1)] [.int x2] w1 Q
      refine g_istore_n (pc := 26) (lv2 := [(0, .ref 0), (1, .int a1), (2, .int x2)]) dX11_fitAt_26 rfl (Nat.le_of_ble_eq_true rfl) rfl ?_
      refine g_iload_n (pc := 27) dX11_fitAt_27 rfl 2 rfl ?_
      refine g_if_ge (pc := 28) (tgt := 39) dX11_fitAt_28 (by decide) (fun q => ?_) (fun q => ?_)
      · have h := h.1 q
        refine g_iload_n (pc := 39) dX11_fitAt_39 rfl 2 rfl ?_
        exact g_iret (pc := 40) dX11_fitAt_40 rfl h
      · have h := h.2 q
        refine g_aload_n (pc := 31) dX11_fitAt_31 rfl 0 rfl ?_
        refine g_iconst (pc := 32) dX11_fitAt_32 c_1 ?_
        refine g_callV (pc := 33) (M' := mX11_no) (n := 1) (a := 0) (as := [.int 1]) (st := []) dX11_fitAt_33 rfl kX11_150 vX11_no (Nat.le_of_ble_eq_true rfl) rfl qX11 rfl rfl (Nat.le_of_ble_eq_true rfl) ?_
        refine zX11_no (a1 := 1) (w := w1) (hR := hw1) ?_
        show Go SR mX11_fitAt 36 [(0, .ref 0), (1, .int a1), (2, .int x2)] [.int (vXX11_no 1)] (wXX11_no 1 w1) Q
        refine g_goto (pc := 36) (tgt := 40) dX11_fitAt_36 (by decide) ?_
        exact g_iret (pc := 40) dX11_fitAt_40 rfl h
    · have h := h.2 q
      refine g_aload_n (pc := 15) dX11_fitAt_15 rfl 0 rfl ?_
      refine g_iconst (pc := 16) dX11_fitAt_16 c_1 ?_
      refine g_callV (pc := 17) (M' := mX11_no) (n := 1) (a := 0) (as := [.int 1]) (st := []) dX11_fitAt_17 rfl kX11_150 vX11_no (Nat.le_of_ble_eq_true rfl) rfl qX11 rfl rfl (Nat.le_of_ble_eq_true rfl) ?_
      refine zX11_no (a1 := 1) (w := wXX11_anew w) (hR := hR) ?_
      show Go SR mX11_fitAt 20 [(0, .ref 0), (1, .int a1)] [.int (vXX11_no 1)] (wXX11_no 1 (wXX11_anew w)) Q
      exact g_iret (pc := 20) dX11_fitAt_20 rfl h
set_option maxHeartbeats 4000000 in
set_option maxRecDepth 100000 in
theorem TX11_could  (w : Wd) (hR : w.2.2 = RM) (Q : Option Value → Wd → Prop) (h : (((wi (wXX11_anew w) 0 15) = 0 → Q (some (.int (vXX11_no 1))) (wXX11_no 1 (wXX11_anew w))) ∧ (¬ ((wi (wXX11_anew w) 0 15) = 0) → ClI SR mX11_seekSets [.ref 0, .int (-1)] (wXX11_anew w) (fun x2 w1 => w1.2.2 = RM ∧ Q (some (.int (wi w1 0 42))) w1)))) : Cl SR mX11_could [.ref 0] w Q := by
  refine cl_of (by decide) (Nat.le_of_ble_eq_true rfl) ?_
  show Go SR mX11_could 0 [(0, .ref 0)] [] w Q
  refine g_aload_n (pc := 0) dX11_could_0 rfl 0 rfl ?_
  refine g_callV (pc := 1) (M' := mX11_anew) (n := 0) (a := 0) (as := []) (st := []) dX11_could_1 rfl kX11_147 vX11_anew (Nat.le_of_ble_eq_true rfl) rfl qX11 rfl rfl (Nat.le_of_ble_eq_true rfl) ?_
  refine zX11_anew (w := w) (hR := hR) ?_
  show Go SR mX11_could 4 [(0, .ref 0)] [] (wXX11_anew w) Q
  refine g_aload_n (pc := 4) dX11_could_4 rfl 0 rfl ?_
  refine g_getZ (pc := 5) (a := 0) dX11_could_5 rfl fX11_163 rfl ?_
  refine g_if_ne (pc := 8) (tgt := 17) dX11_could_8 (by decide) (fun q => ?_) (fun q => ?_)
  · have h := h.2 q
    refine g_aload_n (pc := 17) dX11_could_17 rfl 0 rfl ?_
    refine g_iconst (pc := 18) dX11_could_18 cN_1 ?_
    refine g_callV (pc := 19) (M' := mX11_seekSets) (n := 1) (a := 0) (as := [.int (-1)]) (st := []) dX11_could_19 rfl kX11_361 vX11_seekSets (Nat.le_of_ble_eq_true rfl) rfl qX11 rfl rfl (Nat.le_of_ble_eq_true rfl) ?_
    refine cl_mono (fun r w1 hr => ?_) h
    obtain ⟨x2, rfl, hw1, h⟩ := hr
    show Go SR mX11_could 22 [(0, .ref 0)] [.int x2] w1 Q
    refine g_pop (pc := 22) dX11_could_22 rfl ?_
    refine g_aload_n (pc := 23) dX11_could_23 rfl 0 rfl ?_
    refine g_getI (pc := 24) (a := 0) dX11_could_24 rfl fX11_352 rfl ?_
    exact g_iret (pc := 27) dX11_could_27 rfl h
  · have h := h.1 q
    refine g_aload_n (pc := 11) dX11_could_11 rfl 0 rfl ?_
    refine g_iconst (pc := 12) dX11_could_12 c_1 ?_
    refine g_callV (pc := 13) (M' := mX11_no) (n := 1) (a := 0) (as := [.int 1]) (st := []) dX11_could_13 rfl kX11_150 vX11_no (Nat.le_of_ble_eq_true rfl) rfl qX11 rfl rfl (Nat.le_of_ble_eq_true rfl) ?_
    refine zX11_no (a1 := 1) (w := wXX11_anew w) (hR := hR) ?_
    show Go SR mX11_could 16 [(0, .ref 0)] [.int (vXX11_no 1)] (wXX11_no 1 (wXX11_anew w)) Q
    exact g_iret (pc := 16) dX11_could_16 rfl h
set_option maxHeartbeats 4000000 in
set_option maxRecDepth 100000 in
theorem TX11_surely  (w : Wd) (hR : w.2.2 = RM) (Q : Option Value → Wd → Prop) (h : (((wi (wXX11_anew w) 0 15) = 0 → Q (some (.int (vXX11_no 1))) (wXX11_no 1 (wXX11_anew w))) ∧ (¬ ((wi (wXX11_anew w) 0 15) = 0) → ClI SR mX11_seekSets [.ref 0, .int (-1)] (wXX11_anew w) (fun x2 w1 => w1.2.2 = RM ∧ Q (some (.int (wi w1 0 43))) w1)))) : Cl SR mX11_surely [.ref 0] w Q := by
  refine cl_of (by decide) (Nat.le_of_ble_eq_true rfl) ?_
  show Go SR mX11_surely 0 [(0, .ref 0)] [] w Q
  refine g_aload_n (pc := 0) dX11_surely_0 rfl 0 rfl ?_
  refine g_callV (pc := 1) (M' := mX11_anew) (n := 0) (a := 0) (as := []) (st := []) dX11_surely_1 rfl kX11_147 vX11_anew (Nat.le_of_ble_eq_true rfl) rfl qX11 rfl rfl (Nat.le_of_ble_eq_true rfl) ?_
  refine zX11_anew (w := w) (hR := hR) ?_
  show Go SR mX11_surely 4 [(0, .ref 0)] [] (wXX11_anew w) Q
  refine g_aload_n (pc := 4) dX11_surely_4 rfl 0 rfl ?_
  refine g_getZ (pc := 5) (a := 0) dX11_surely_5 rfl fX11_163 rfl ?_
  refine g_if_ne (pc := 8) (tgt := 17) dX11_surely_8 (by decide) (fun q => ?_) (fun q => ?_)
  · have h := h.2 q
    refine g_aload_n (pc := 17) dX11_surely_17 rfl 0 rfl ?_
    refine g_iconst (pc := 18) dX11_surely_18 cN_1 ?_
    refine g_callV (pc := 19) (M' := mX11_seekSets) (n := 1) (a := 0) (as := [.int (-1)]) (st := []) dX11_surely_19 rfl kX11_361 vX11_seekSets (Nat.le_of_ble_eq_true rfl) rfl qX11 rfl rfl (Nat.le_of_ble_eq_true rfl) ?_
    refine cl_mono (fun r w1 hr => ?_) h
    obtain ⟨x2, rfl, hw1, h⟩ := hr
    show Go SR mX11_surely 22 [(0, .ref 0)] [.int x2] w1 Q
    refine g_pop (pc := 22) dX11_surely_22 rfl ?_
    refine g_aload_n (pc := 23) dX11_surely_23 rfl 0 rfl ?_
    refine g_getI (pc := 24) (a := 0) dX11_surely_24 rfl fX11_355 rfl ?_
    exact g_iret (pc := 27) dX11_surely_27 rfl h
  · have h := h.1 q
    refine g_aload_n (pc := 11) dX11_surely_11 rfl 0 rfl ?_
    refine g_iconst (pc := 12) dX11_surely_12 c_1 ?_
    refine g_callV (pc := 13) (M' := mX11_no) (n := 1) (a := 0) (as := [.int 1]) (st := []) dX11_surely_13 rfl kX11_150 vX11_no (Nat.le_of_ble_eq_true rfl) rfl qX11 rfl rfl (Nat.le_of_ble_eq_true rfl) ?_
    refine zX11_no (a1 := 1) (w := wXX11_anew w) (hR := hR) ?_
    show Go SR mX11_surely 16 [(0, .ref 0)] [.int (vXX11_no 1)] (wXX11_no 1 (wXX11_anew w)) Q
    exact g_iret (pc := 16) dX11_surely_16 rfl h
set_option maxHeartbeats 4000000 in
set_option maxRecDepth 100000 in
theorem TX11_leavesOf (a1 : Int32) (w : Wd) (hR : w.2.2 = RM) (Q : Option Value → Wd → Prop) (h : vp_in a1 4 ∧ vp_in a1 4 ∧ (((wi w 13 a1.toNatClampNeg) ≤ ((wi w 0 41) - (wi w 13 a1.toNatClampNeg)) → vp_in a1 4 ∧ Q (some (.int ((wi w 0 41) - (wi w 13 a1.toNatClampNeg)))) w) ∧ (¬ ((wi w 13 a1.toNatClampNeg) ≤ ((wi w 0 41) - (wi w 13 a1.toNatClampNeg))) → vp_in a1 4 ∧ Q (some (.int (wi w 13 a1.toNatClampNeg))) w))) : Cl SR mX11_leavesOf [.ref 0, .int a1] w Q := by
  refine cl_of (by decide) (Nat.le_of_ble_eq_true rfl) ?_
  show Go SR mX11_leavesOf 0 [(0, .ref 0), (1, .int a1)] [] w Q
  refine g_aload_n (pc := 0) dX11_leavesOf_0 rfl 0 rfl ?_
  refine g_getR (pc := 1) (a := 0) (b := 13) dX11_leavesOf_1 rfl fX11_50 rfl (rm_40 hR) ?_
  refine g_iload_n (pc := 4) dX11_leavesOf_4 rfl 1 rfl ?_
  obtain ⟨hi1, h⟩ := h
  refine g_iald (pc := 5) (a := 13) (j := a1.toNatClampNeg) dX11_leavesOf_5 rfl hi1 rfl ?_
  refine g_aload_n (pc := 6) dX11_leavesOf_6 rfl 0 rfl ?_
  refine g_getI (pc := 7) (a := 0) dX11_leavesOf_7 rfl fX11_349 rfl ?_
  refine g_aload_n (pc := 10) dX11_leavesOf_10 rfl 0 rfl ?_
  refine g_getR (pc := 11) (a := 0) (b := 13) dX11_leavesOf_11 rfl fX11_50 rfl (rm_40 hR) ?_
  refine g_iload_n (pc := 14) dX11_leavesOf_14 rfl 1 rfl ?_
  obtain ⟨hi2, h⟩ := h
  refine g_iald (pc := 15) (a := 13) (j := a1.toNatClampNeg) dX11_leavesOf_15 rfl hi2 rfl ?_
  refine g_isub (pc := 16) dX11_leavesOf_16 ?_
  refine g_icmp_le (pc := 17) (tgt := 29) dX11_leavesOf_17 (by decide) (fun q => ?_) (fun q => ?_)
  · have h := h.1 q
    refine g_aload_n (pc := 29) dX11_leavesOf_29 rfl 0 rfl ?_
    refine g_getI (pc := 30) (a := 0) dX11_leavesOf_30 rfl fX11_349 rfl ?_
    refine g_aload_n (pc := 33) dX11_leavesOf_33 rfl 0 rfl ?_
    refine g_getR (pc := 34) (a := 0) (b := 13) dX11_leavesOf_34 rfl fX11_50 rfl (rm_40 hR) ?_
    refine g_iload_n (pc := 37) dX11_leavesOf_37 rfl 1 rfl ?_
    obtain ⟨hi3, h⟩ := h
    refine g_iald (pc := 38) (a := 13) (j := a1.toNatClampNeg) dX11_leavesOf_38 rfl hi3 rfl ?_
    refine g_isub (pc := 39) dX11_leavesOf_39 ?_
    exact g_iret (pc := 40) dX11_leavesOf_40 rfl h
  · have h := h.2 q
    refine g_aload_n (pc := 20) dX11_leavesOf_20 rfl 0 rfl ?_
    refine g_getR (pc := 21) (a := 0) (b := 13) dX11_leavesOf_21 rfl fX11_50 rfl (rm_40 hR) ?_
    refine g_iload_n (pc := 24) dX11_leavesOf_24 rfl 1 rfl ?_
    obtain ⟨hi4, h⟩ := h
    refine g_iald (pc := 25) (a := 13) (j := a1.toNatClampNeg) dX11_leavesOf_25 rfl hi4 rfl ?_
    refine g_goto (pc := 26) (tgt := 40) dX11_leavesOf_26 (by decide) ?_
    exact g_iret (pc := 40) dX11_leavesOf_40 rfl h
set_option maxHeartbeats 4000000 in
set_option maxRecDepth 100000 in
theorem TX11_askOf  (w : Wd) (hR : w.2.2 = RM) (Q : Option Value → Wd → Prop) (h : ClI SR mX11_seekSets [.ref 0, .int (-1)] w (fun x2 w1 => w1.2.2 = RM ∧ Go SR mX11_askOf 11 [(0, .ref 0), (1, .int (-2)), (2, .int 0)] [] w1 Q)) : Cl SR mX11_askOf [.ref 0] w Q := by
  refine cl_of (by decide) (Nat.le_of_ble_eq_true rfl) ?_
  show Go SR mX11_askOf 0 [(0, .ref 0)] [] w Q
  refine g_aload_n (pc := 0) dX11_askOf_0 rfl 0 rfl ?_
  refine g_iconst (pc := 1) dX11_askOf_1 cN_1 ?_
  refine g_callV (pc := 2) (M' := mX11_seekSets) (n := 1) (a := 0) (as := [.int (-1)]) (st := []) dX11_askOf_2 rfl kX11_361 vX11_seekSets (Nat.le_of_ble_eq_true rfl) rfl qX11 rfl rfl (Nat.le_of_ble_eq_true rfl) ?_
  refine cl_mono (fun r w1 hr => ?_) h
  obtain ⟨x2, rfl, hw1, h⟩ := hr
  show Go SR mX11_askOf 5 [(0, .ref 0)] [.int x2] w1 Q
  refine g_pop (pc := 5) dX11_askOf_5 rfl ?_
  refine g_bipush (pc := 6) (v := (-2)) dX11_askOf_6 (by decide) ?_
  refine g_istore_n (pc := 8) (lv2 := [(0, .ref 0), (1, .int (-2))]) dX11_askOf_8 rfl (Nat.le_of_ble_eq_true rfl) rfl ?_
  refine g_iconst (pc := 9) dX11_askOf_9 c_0 ?_
  refine g_istore_n (pc := 10) (lv2 := [(0, .ref 0), (1, .int (-2)), (2, .int 0)]) dX11_askOf_10 rfl (Nat.le_of_ble_eq_true rfl) rfl ?_
  exact h
set_option maxHeartbeats 4000000 in
set_option maxRecDepth 100000 in
theorem BX11_askOf_11  (l1 : Int32) (l2 : Int32) (w : Wd) (hR : w.2.2 = RM) (Q : Option Value → Wd → Prop) (h : (((wi w 3 2) ≤ l2 → Q (some (.int l1)) w) ∧ (¬ ((wi w 3 2) ≤ l2) → (((wi w 0 41) ≤ 0 → Q (some (.int l1)) w) ∧ (¬ ((wi w 0 41) ≤ 0) → ((l1 < 0 → Go SR mX11_askOf 11 [(0, .ref 0), (1, .int l2), (2, .int (l2 + 1))] [] w Q) ∧ (¬ (l1 < 0) → ClI SR mX11_leavesOf [.ref 0, .int l2] w (fun x2 w1 => w1.2.2 = RM ∧ ClI SR mX11_leavesOf [.ref 0, .int l1] w1 (fun x4 w3 => w3.2.2 = RM ∧ Go SR mX11_askOf 11 [(0, .ref 0), (1, .int (if x4 ≤ x2 then l1 else l2 : Int32)), (2, .int (l2 + 1))] [] w3 Q))))))))) : Go SR mX11_askOf 11 [(0, .ref 0), (1, .int l1), (2, .int l2)] [] w Q := by
  refine g_iload_n (pc := 11) dX11_askOf_11 rfl 2 rfl ?_
  refine g_aload_n (pc := 12) dX11_askOf_12 rfl 0 rfl ?_
  refine g_getR (pc := 13) (a := 0) (b := 3) dX11_askOf_13 rfl fX11_20 rfl (rm_16 hR) ?_
  refine g_iconst (pc := 16) dX11_askOf_16 c_2 ?_
  refine g_iald (pc := 17) (a := 3) (j := 2) dX11_askOf_17 rfl (vin (by decide) (by decide)) (by decide) ?_
  refine g_icmp_ge (pc := 18) (tgt := 53) dX11_askOf_18 (by decide) (fun q => ?_) (fun q => ?_)
  · have h := h.1 q
    refine g_iload_n (pc := 53) dX11_askOf_53 rfl 1 rfl ?_
    exact g_iret (pc := 54) dX11_askOf_54 rfl h
  · have h := h.2 q
    refine g_aload_n (pc := 21) dX11_askOf_21 rfl 0 rfl ?_
    refine g_getI (pc := 22) (a := 0) dX11_askOf_22 rfl fX11_349 rfl ?_
    refine g_if_le (pc := 25) (tgt := 53) dX11_askOf_25 (by decide) (fun q => ?_) (fun q => ?_)
    · have h := h.1 q
      refine g_iload_n (pc := 53) dX11_askOf_53 rfl 1 rfl ?_
      exact g_iret (pc := 54) dX11_askOf_54 rfl h
    · have h := h.2 q
      refine g_iload_n (pc := 28) dX11_askOf_28 rfl 1 rfl ?_
      refine g_if_lt (pc := 29) (tgt := 45) dX11_askOf_29 (by decide) (fun q => ?_) (fun q => ?_)
      · have h := h.1 q
        refine g_iload_n (pc := 45) dX11_askOf_45 rfl 2 rfl ?_
        refine g_istore_n (pc := 46) (lv2 := [(0, .ref 0), (1, .int l2), (2, .int l2)]) dX11_askOf_46 rfl (Nat.le_of_ble_eq_true rfl) rfl ?_
        refine g_iinc (pc := 47) (v := l2 + 1) (lv2 := [(0, .ref 0), (1, .int l2), (2, .int (l2 + 1))]) dX11_askOf_47 2 rfl (Nat.le_of_ble_eq_true rfl) rfl rfl ?_
        refine g_goto (pc := 50) (tgt := 11) dX11_askOf_50 (by decide) ?_
        exact h
      · have h := h.2 q
        refine g_aload_n (pc := 32) dX11_askOf_32 rfl 0 rfl ?_
        refine g_iload_n (pc := 33) dX11_askOf_33 rfl 2 rfl ?_
        refine g_callV (pc := 34) (M' := mX11_leavesOf) (n := 1) (a := 0) (as := [.int l2]) (st := []) dX11_askOf_34 rfl kX11_364 vX11_leavesOf (Nat.le_of_ble_eq_true rfl) rfl qX11 rfl rfl (Nat.le_of_ble_eq_true rfl) ?_
        refine cl_mono (fun r w1 hr => ?_) h
        obtain ⟨x2, rfl, hw1, h⟩ := hr
        show Go SR mX11_askOf 37 [(0, .ref 0), (1, .int l1), (2, .int l2)] [.int x2] w1 Q
        refine g_aload_n (pc := 37) dX11_askOf_37 rfl 0 rfl ?_
        refine g_iload_n (pc := 38) dX11_askOf_38 rfl 1 rfl ?_
        refine g_callV (pc := 39) (M' := mX11_leavesOf) (n := 1) (a := 0) (as := [.int l1]) (st := [.int x2]) dX11_askOf_39 rfl kX11_364 vX11_leavesOf (Nat.le_of_ble_eq_true rfl) rfl qX11 rfl rfl (Nat.le_of_ble_eq_true rfl) ?_
        refine cl_mono (fun r w3 hr => ?_) h
        obtain ⟨x4, rfl, hw3, h⟩ := hr
        show Go SR mX11_askOf 42 [(0, .ref 0), (1, .int l1), (2, .int l2)] [.int x4, .int x2] w3 Q
        have hJ : Go SR mX11_askOf 47 [(0, .ref 0), (1, .int (if x4 ≤ x2 then l1 else l2 : Int32)), (2, .int l2)] [] w3 Q := by
          refine g_iinc (pc := 47) (v := l2 + 1) (lv2 := [(0, .ref 0), (1, .int (if x4 ≤ x2 then l1 else l2 : Int32)), (2, .int (l2 + 1))]) dX11_askOf_47 2 rfl (Nat.le_of_ble_eq_true rfl) rfl rfl ?_
          refine g_goto (pc := 50) (tgt := 11) dX11_askOf_50 (by decide) ?_
          exact h
        refine g_icmp_ge (pc := 42) (tgt := 47) dX11_askOf_42 (by decide) (fun q42 => ?_) (fun q42 => ?_)
        · first | (exfalso; contradiction) | exact cast (by simp only [if_pos q42]) hJ
        · refine g_iload_n (pc := 45) dX11_askOf_45 rfl 2 rfl ?_
          refine g_istore_n (pc := 46) (lv2 := [(0, .ref 0), (1, .int l2), (2, .int l2)]) dX11_askOf_46 rfl (Nat.le_of_ble_eq_true rfl) rfl ?_
          first | (exfalso; contradiction) | exact cast (by simp only [if_neg q42]) hJ
set_option maxHeartbeats 4000000 in
set_option maxRecDepth 100000 in
theorem TX11_ask  (w : Wd) (hR : w.2.2 = RM) (Q : Option Value → Wd → Prop) (h : (((wi (wXX11_anew w) 0 15) = 0 → Q (some (.int (vXX11_no 1))) (wXX11_no 1 (wXX11_anew w))) ∧ (¬ ((wi (wXX11_anew w) 0 15) = 0) → ClI SR mX11_askOf [.ref 0] (wXX11_anew w) (fun x2 w1 => w1.2.2 = RM ∧ Q (some (.int x2)) w1)))) : Cl SR mX11_ask [.ref 0] w Q := by
  refine cl_of (by decide) (Nat.le_of_ble_eq_true rfl) ?_
  show Go SR mX11_ask 0 [(0, .ref 0)] [] w Q
  refine g_aload_n (pc := 0) dX11_ask_0 rfl 0 rfl ?_
  refine g_callV (pc := 1) (M' := mX11_anew) (n := 0) (a := 0) (as := []) (st := []) dX11_ask_1 rfl kX11_147 vX11_anew (Nat.le_of_ble_eq_true rfl) rfl qX11 rfl rfl (Nat.le_of_ble_eq_true rfl) ?_
  refine zX11_anew (w := w) (hR := hR) ?_
  show Go SR mX11_ask 4 [(0, .ref 0)] [] (wXX11_anew w) Q
  refine g_aload_n (pc := 4) dX11_ask_4 rfl 0 rfl ?_
  refine g_getZ (pc := 5) (a := 0) dX11_ask_5 rfl fX11_163 rfl ?_
  refine g_if_eq (pc := 8) (tgt := 18) dX11_ask_8 (by decide) (fun q => ?_) (fun q => ?_)
  · have h := h.1 q
    refine g_aload_n (pc := 18) dX11_ask_18 rfl 0 rfl ?_
    refine g_iconst (pc := 19) dX11_ask_19 c_1 ?_
    refine g_callV (pc := 20) (M' := mX11_no) (n := 1) (a := 0) (as := [.int 1]) (st := []) dX11_ask_20 rfl kX11_150 vX11_no (Nat.le_of_ble_eq_true rfl) rfl qX11 rfl rfl (Nat.le_of_ble_eq_true rfl) ?_
    refine zX11_no (a1 := 1) (w := wXX11_anew w) (hR := hR) ?_
    show Go SR mX11_ask 23 [(0, .ref 0)] [.int (vXX11_no 1)] (wXX11_no 1 (wXX11_anew w)) Q
    exact g_iret (pc := 23) dX11_ask_23 rfl h
  · have h := h.2 q
    refine g_aload_n (pc := 11) dX11_ask_11 rfl 0 rfl ?_
    refine g_callV (pc := 12) (M' := mX11_askOf) (n := 0) (a := 0) (as := []) (st := []) dX11_ask_12 rfl kX11_367 vX11_askOf (Nat.le_of_ble_eq_true rfl) rfl qX11 rfl rfl (Nat.le_of_ble_eq_true rfl) ?_
    refine cl_mono (fun r w1 hr => ?_) h
    obtain ⟨x2, rfl, hw1, h⟩ := hr
    show Go SR mX11_ask 15 [(0, .ref 0)] [.int x2] w1 Q
    refine g_goto (pc := 15) (tgt := 23) dX11_ask_15 (by decide) ?_
    exact g_iret (pc := 23) dX11_ask_23 rfl h
set_option maxHeartbeats 4000000 in
set_option maxRecDepth 100000 in
theorem TX11_askLeaves  (w : Wd) (hR : w.2.2 = RM) (Q : Option Value → Wd → Prop) (h : (((wi (wXX11_anew w) 0 15) = 0 → Q (some (.int (vXX11_no 1))) (wXX11_no 1 (wXX11_anew w))) ∧ (¬ ((wi (wXX11_anew w) 0 15) = 0) → ClI SR mX11_askOf [.ref 0] (wXX11_anew w) (fun x2 w1 => w1.2.2 = RM ∧ ((0 ≤ x2 → ClI SR mX11_leavesOf [.ref 0, .int x2] w1 (fun x4 w3 => w3.2.2 = RM ∧ Q (some (.int x4)) w3)) ∧ (¬ (0 ≤ x2) → Q (some (.int (-2))) w1)))))) : Cl SR mX11_askLeaves [.ref 0] w Q := by
  refine cl_of (by decide) (Nat.le_of_ble_eq_true rfl) ?_
  show Go SR mX11_askLeaves 0 [(0, .ref 0)] [] w Q
  refine g_aload_n (pc := 0) dX11_askLeaves_0 rfl 0 rfl ?_
  refine g_callV (pc := 1) (M' := mX11_anew) (n := 0) (a := 0) (as := []) (st := []) dX11_askLeaves_1 rfl kX11_147 vX11_anew (Nat.le_of_ble_eq_true rfl) rfl qX11 rfl rfl (Nat.le_of_ble_eq_true rfl) ?_
  refine zX11_anew (w := w) (hR := hR) ?_
  show Go SR mX11_askLeaves 4 [(0, .ref 0)] [] (wXX11_anew w) Q
  refine g_aload_n (pc := 4) dX11_askLeaves_4 rfl 0 rfl ?_
  refine g_getZ (pc := 5) (a := 0) dX11_askLeaves_5 rfl fX11_163 rfl ?_
  refine g_if_ne (pc := 8) (tgt := 17) dX11_askLeaves_8 (by decide) (fun q => ?_) (fun q => ?_)
  · have h := h.2 q
    refine g_aload_n (pc := 17) dX11_askLeaves_17 rfl 0 rfl ?_
    refine g_callV (pc := 18) (M' := mX11_askOf) (n := 0) (a := 0) (as := []) (st := []) dX11_askLeaves_18 rfl kX11_367 vX11_askOf (Nat.le_of_ble_eq_true rfl) rfl qX11 rfl rfl (Nat.le_of_ble_eq_true rfl) ?_
    refine cl_mono (fun r w1 hr => ?_) h
    obtain ⟨x2, rfl, hw1, h⟩ := hr
    show Go SR mX11_askLeaves 21 [(0, .ref 0)] [.int x2] w1 Q
    refine g_istore_n (pc := 21) (lv2 := [(0, .ref 0), (1, .int x2)]) dX11_askLeaves_21 rfl (Nat.le_of_ble_eq_true rfl) rfl ?_
    refine g_iload_n (pc := 22) dX11_askLeaves_22 rfl 1 rfl ?_
    refine g_if_ge (pc := 23) (tgt := 31) dX11_askLeaves_23 (by decide) (fun q => ?_) (fun q => ?_)
    · have h := h.1 q
      refine g_aload_n (pc := 31) dX11_askLeaves_31 rfl 0 rfl ?_
      refine g_iload_n (pc := 32) dX11_askLeaves_32 rfl 1 rfl ?_
      refine g_callV (pc := 33) (M' := mX11_leavesOf) (n := 1) (a := 0) (as := [.int x2]) (st := []) dX11_askLeaves_33 rfl kX11_364 vX11_leavesOf (Nat.le_of_ble_eq_true rfl) rfl qX11 rfl rfl (Nat.le_of_ble_eq_true rfl) ?_
      refine cl_mono (fun r w3 hr => ?_) h
      obtain ⟨x4, rfl, hw3, h⟩ := hr
      show Go SR mX11_askLeaves 36 [(0, .ref 0), (1, .int x2)] [.int x4] w3 Q
      exact g_iret (pc := 36) dX11_askLeaves_36 rfl h
    · have h := h.2 q
      refine g_bipush (pc := 26) (v := (-2)) dX11_askLeaves_26 (by decide) ?_
      refine g_goto (pc := 28) (tgt := 36) dX11_askLeaves_28 (by decide) ?_
      exact g_iret (pc := 36) dX11_askLeaves_36 rfl h
  · have h := h.1 q
    refine g_aload_n (pc := 11) dX11_askLeaves_11 rfl 0 rfl ?_
    refine g_iconst (pc := 12) dX11_askLeaves_12 c_1 ?_
    refine g_callV (pc := 13) (M' := mX11_no) (n := 1) (a := 0) (as := [.int 1]) (st := []) dX11_askLeaves_13 rfl kX11_150 vX11_no (Nat.le_of_ble_eq_true rfl) rfl qX11 rfl rfl (Nat.le_of_ble_eq_true rfl) ?_
    refine zX11_no (a1 := 1) (w := wXX11_anew w) (hR := hR) ?_
    show Go SR mX11_askLeaves 16 [(0, .ref 0)] [.int (vXX11_no 1)] (wXX11_no 1 (wXX11_anew w)) Q
    exact g_iret (pc := 16) dX11_askLeaves_16 rfl h
set_option maxHeartbeats 4000000 in
set_option maxRecDepth 100000 in
theorem TX11_judge  (w : Wd) (hR : w.2.2 = RM) (Q : Option Value → Wd → Prop) (h : (((wi (wXX11_anew w) 0 15) = 0 → Q (some (.int (vXX11_no 1))) (wXX11_no 1 (wXX11_anew w))) ∧ (¬ ((wi (wXX11_anew w) 0 15) = 0) → ClI SR mX11_wrongBy [.ref 0, .int 0] (wXX11_anew w) (fun x2 w1 => w1.2.2 = RM ∧ Q (some (.int x2)) w1)))) : Cl SR mX11_judge [.ref 0] w Q := by
  refine cl_of (by decide) (Nat.le_of_ble_eq_true rfl) ?_
  show Go SR mX11_judge 0 [(0, .ref 0)] [] w Q
  refine g_aload_n (pc := 0) dX11_judge_0 rfl 0 rfl ?_
  refine g_callV (pc := 1) (M' := mX11_anew) (n := 0) (a := 0) (as := []) (st := []) dX11_judge_1 rfl kX11_147 vX11_anew (Nat.le_of_ble_eq_true rfl) rfl qX11 rfl rfl (Nat.le_of_ble_eq_true rfl) ?_
  refine zX11_anew (w := w) (hR := hR) ?_
  show Go SR mX11_judge 4 [(0, .ref 0)] [] (wXX11_anew w) Q
  refine g_aload_n (pc := 4) dX11_judge_4 rfl 0 rfl ?_
  refine g_getZ (pc := 5) (a := 0) dX11_judge_5 rfl fX11_163 rfl ?_
  refine g_if_eq (pc := 8) (tgt := 19) dX11_judge_8 (by decide) (fun q => ?_) (fun q => ?_)
  · have h := h.1 q
    refine g_aload_n (pc := 19) dX11_judge_19 rfl 0 rfl ?_
    refine g_iconst (pc := 20) dX11_judge_20 c_1 ?_
    refine g_callV (pc := 21) (M' := mX11_no) (n := 1) (a := 0) (as := [.int 1]) (st := []) dX11_judge_21 rfl kX11_150 vX11_no (Nat.le_of_ble_eq_true rfl) rfl qX11 rfl rfl (Nat.le_of_ble_eq_true rfl) ?_
    refine zX11_no (a1 := 1) (w := wXX11_anew w) (hR := hR) ?_
    show Go SR mX11_judge 24 [(0, .ref 0)] [.int (vXX11_no 1)] (wXX11_no 1 (wXX11_anew w)) Q
    exact g_iret (pc := 24) dX11_judge_24 rfl h
  · have h := h.2 q
    refine g_aload_n (pc := 11) dX11_judge_11 rfl 0 rfl ?_
    refine g_iconst (pc := 12) dX11_judge_12 c_0 ?_
    refine g_callV (pc := 13) (M' := mX11_wrongBy) (n := 1) (a := 0) (as := [.int 0]) (st := []) dX11_judge_13 rfl kX11_358 vX11_wrongBy (Nat.le_of_ble_eq_true rfl) rfl qX11 rfl rfl (Nat.le_of_ble_eq_true rfl) ?_
    refine cl_mono (fun r w1 hr => ?_) h
    obtain ⟨x2, rfl, hw1, h⟩ := hr
    show Go SR mX11_judge 16 [(0, .ref 0)] [.int x2] w1 Q
    refine g_goto (pc := 16) (tgt := 24) dX11_judge_16 (by decide) ?_
    exact g_iret (pc := 24) dX11_judge_24 rfl h
set_option maxHeartbeats 4000000 in
set_option maxRecDepth 100000 in
theorem TX11_calledFrom (n : Nat) (a1 : Int32) (a2 : Int32) (a3 : Int32) (a4 : Int32) (w : Wd) (hR : w.2.2 = RM) (Q : Option Value → Wd → Prop) (h : Go SR (mX11_calledFrom (n + 1)) 10 [(0, .ref 0), (1, .int a1), (2, .int a2), (3, .int a3), (4, .int a4), (5, .int (-1)), (6, .int (-2)), (7, .int 0)] [] w Q) : Cl SR (mX11_calledFrom (n + 1)) [.ref 0, .int a1, .int a2, .int a3, .int a4] w Q := by
  refine cl_of (by show plainName RX11 = true; decide) (Nat.le_of_ble_eq_true rfl) ?_
  show Go SR (mX11_calledFrom (n + 1)) 0 [(0, .ref 0), (1, .int a1), (2, .int a2), (3, .int a3), (4, .int a4)] [] w Q
  refine g_iconst (pc := 0) dX11_calledFrom_0 cN_1 ?_
  refine g_istore (pc := 1) (lv2 := [(0, .ref 0), (1, .int a1), (2, .int a2), (3, .int a3), (4, .int a4), (5, .int (-1))]) dX11_calledFrom_1 (Nat.le_of_ble_eq_true rfl) rfl ?_
  refine g_bipush (pc := 3) (v := (-2)) dX11_calledFrom_3 (by decide) ?_
  refine g_istore (pc := 5) (lv2 := [(0, .ref 0), (1, .int a1), (2, .int a2), (3, .int a3), (4, .int a4), (5, .int (-1)), (6, .int (-2))]) dX11_calledFrom_5 (Nat.le_of_ble_eq_true rfl) rfl ?_
  refine g_iconst (pc := 7) dX11_calledFrom_7 c_0 ?_
  refine g_istore (pc := 8) (lv2 := [(0, .ref 0), (1, .int a1), (2, .int a2), (3, .int a3), (4, .int a4), (5, .int (-1)), (6, .int (-2)), (7, .int 0)]) dX11_calledFrom_8 (Nat.le_of_ble_eq_true rfl) rfl ?_
  exact h
set_option maxHeartbeats 4000000 in
set_option maxRecDepth 100000 in
theorem BX11_calledFrom_10 (n : Nat)  (l1 : Int32) (l2 : Int32) (l3 : Int32) (l4 : Int32) (l5 : Int32) (l6 : Int32) (l7 : Int32) (w : Wd) (hR : w.2.2 = RM) (Q : Option Value → Wd → Prop) (h : ((3 ≤ l7 → ((l4 = 0 → Q (some (.int (if 0 ≤ l6 then l5 else 0 : Int32))) w) ∧ (¬ (l4 = 0) → Q (some (.int (if 0 ≤ l6 then l5 else 0 : Int32))) (si w 0 44 l6)))) ∧ (¬ (3 ≤ l7) → ((l3 ≤ 0 → ((l4 = 0 → Q (some (.int (if 0 ≤ l6 then l5 else 0 : Int32))) w) ∧ (¬ (l4 = 0) → Q (some (.int (if 0 ≤ l6 then l5 else 0 : Int32))) (si w 0 44 l6)))) ∧ (¬ (l3 ≤ 0) → ClI SR mX11_calls [.ref 0, .int l7] (si (si w 0 23 l1) 0 24 l2) (fun x2 w1 => w1.2.2 = RM ∧ ((x2 = 0 → Go SR (mX11_calledFrom (n + 1)) 10 [(0, .ref 0), (1, .int l1), (2, .int l2), (3, .int l3), (4, .int l4), (5, .int l5), (6, .int l6), (7, .int (l7 + 1))] [] w1 Q) ∧ (¬ (x2 = 0) → (((vXX11_isNothing w1) = 0 → ClI SR (mX11_calledFrom n) [.ref 0, .int (wi w1 0 23), .int (wi w1 0 24), .int (l3 - 1), .int 0] w1 (fun x4 w3 => w3.2.2 = RM ∧ Go SR (mX11_calledFrom (n + 1)) 10 [(0, .ref 0), (1, .int l1), (2, .int l2), (3, .int l3), (4, .int l4), (5, .int (if l6 < 0 then -x4 else (if l5 < (-x4) then -x4 else l5 : Int32) : Int32)), (6, .int (if l6 < 0 then l7 else (if l5 < (-x4) then l7 else l6 : Int32) : Int32)), (7, .int (l7 + 1))] [] w3 Q)) ∧ (¬ ((vXX11_isNothing w1) = 0) → Go SR (mX11_calledFrom (n + 1)) 10 [(0, .ref 0), (1, .int l1), (2, .int l2), (3, .int l3), (4, .int l4), (5, .int (if l6 < 0 then 1 else (if l5 < (1 : Int32) then 1 else l5 : Int32) : Int32)), (6, .int (if l6 < 0 then l7 else (if l5 < (1 : Int32) then l7 else l6 : Int32) : Int32)), (7, .int (l7 + 1))] [] w1 Q)))))))))) : Go SR (mX11_calledFrom (n + 1)) 10 [(0, .ref 0), (1, .int l1), (2, .int l2), (3, .int l3), (4, .int l4), (5, .int l5), (6, .int l6), (7, .int l7)] [] w Q := by
  refine g_iload (pc := 10) dX11_calledFrom_10 7 rfl ?_
  refine g_iconst (pc := 12) dX11_calledFrom_12 c_3 ?_
  refine g_icmp_ge (pc := 13) (tgt := 101) dX11_calledFrom_13 (by decide) (fun q => ?_) (fun q => ?_)
  · have h := h.1 q
    refine g_iload (pc := 101) dX11_calledFrom_101 4 rfl ?_
    refine g_if_eq (pc := 103) (tgt := 112) dX11_calledFrom_103 (by decide) (fun q => ?_) (fun q => ?_)
    · have h := h.1 q
      refine g_iload (pc := 112) dX11_calledFrom_112 6 rfl ?_
      have hJ : Go SR (mX11_calledFrom (n + 1)) 123 [(0, .ref 0), (1, .int l1), (2, .int l2), (3, .int l3), (4, .int l4), (5, .int l5), (6, .int l6), (7, .int l7)] [.int (if 0 ≤ l6 then l5 else 0 : Int32)] w Q := by
        exact g_iret (pc := 123) dX11_calledFrom_123 rfl h
      refine g_if_ge (pc := 114) (tgt := 121) dX11_calledFrom_114 (by decide) (fun q114 => ?_) (fun q114 => ?_)
      · refine g_iload (pc := 121) dX11_calledFrom_121 5 rfl ?_
        first | (exfalso; contradiction) | exact cast (by simp only [if_pos q114]) hJ
      · refine g_iconst (pc := 117) dX11_calledFrom_117 c_0 ?_
        refine g_goto (pc := 118) (tgt := 123) dX11_calledFrom_118 (by decide) ?_
        first | (exfalso; contradiction) | exact cast (by simp only [if_neg q114]) hJ
    · have h := h.2 q
      refine g_aload_n (pc := 106) dX11_calledFrom_106 rfl 0 rfl ?_
      refine g_iload (pc := 107) dX11_calledFrom_107 6 rfl ?_
      refine g_putI (pc := 109) dX11_calledFrom_109 rfl fX11_374 pX11_44 rfl ?_
      refine g_iload (pc := 112) dX11_calledFrom_112 6 rfl ?_
      have hJ : Go SR (mX11_calledFrom (n + 1)) 123 [(0, .ref 0), (1, .int l1), (2, .int l2), (3, .int l3), (4, .int l4), (5, .int l5), (6, .int l6), (7, .int l7)] [.int (if 0 ≤ l6 then l5 else 0 : Int32)] (si w 0 44 l6) Q := by
        exact g_iret (pc := 123) dX11_calledFrom_123 rfl h
      refine g_if_ge (pc := 114) (tgt := 121) dX11_calledFrom_114 (by decide) (fun q114 => ?_) (fun q114 => ?_)
      · refine g_iload (pc := 121) dX11_calledFrom_121 5 rfl ?_
        first | (exfalso; contradiction) | exact cast (by simp only [if_pos q114]) hJ
      · refine g_iconst (pc := 117) dX11_calledFrom_117 c_0 ?_
        refine g_goto (pc := 118) (tgt := 123) dX11_calledFrom_118 (by decide) ?_
        first | (exfalso; contradiction) | exact cast (by simp only [if_neg q114]) hJ
  · have h := h.2 q
    refine g_iload_n (pc := 16) dX11_calledFrom_16 rfl 3 rfl ?_
    refine g_if_le (pc := 17) (tgt := 101) dX11_calledFrom_17 (by decide) (fun q => ?_) (fun q => ?_)
    · have h := h.1 q
      refine g_iload (pc := 101) dX11_calledFrom_101 4 rfl ?_
      refine g_if_eq (pc := 103) (tgt := 112) dX11_calledFrom_103 (by decide) (fun q => ?_) (fun q => ?_)
      · have h := h.1 q
        refine g_iload (pc := 112) dX11_calledFrom_112 6 rfl ?_
        have hJ : Go SR (mX11_calledFrom (n + 1)) 123 [(0, .ref 0), (1, .int l1), (2, .int l2), (3, .int l3), (4, .int l4), (5, .int l5), (6, .int l6), (7, .int l7)] [.int (if 0 ≤ l6 then l5 else 0 : Int32)] w Q := by
          exact g_iret (pc := 123) dX11_calledFrom_123 rfl h
        refine g_if_ge (pc := 114) (tgt := 121) dX11_calledFrom_114 (by decide) (fun q114 => ?_) (fun q114 => ?_)
        · refine g_iload (pc := 121) dX11_calledFrom_121 5 rfl ?_
          first | (exfalso; contradiction) | exact cast (by simp only [if_pos q114]) hJ
        · refine g_iconst (pc := 117) dX11_calledFrom_117 c_0 ?_
          refine g_goto (pc := 118) (tgt := 123) dX11_calledFrom_118 (by decide) ?_
          first | (exfalso; contradiction) | exact cast (by simp only [if_neg q114]) hJ
      · have h := h.2 q
        refine g_aload_n (pc := 106) dX11_calledFrom_106 rfl 0 rfl ?_
        refine g_iload (pc := 107) dX11_calledFrom_107 6 rfl ?_
        refine g_putI (pc := 109) dX11_calledFrom_109 rfl fX11_374 pX11_44 rfl ?_
        refine g_iload (pc := 112) dX11_calledFrom_112 6 rfl ?_
        have hJ : Go SR (mX11_calledFrom (n + 1)) 123 [(0, .ref 0), (1, .int l1), (2, .int l2), (3, .int l3), (4, .int l4), (5, .int l5), (6, .int l6), (7, .int l7)] [.int (if 0 ≤ l6 then l5 else 0 : Int32)] (si w 0 44 l6) Q := by
          exact g_iret (pc := 123) dX11_calledFrom_123 rfl h
        refine g_if_ge (pc := 114) (tgt := 121) dX11_calledFrom_114 (by decide) (fun q114 => ?_) (fun q114 => ?_)
        · refine g_iload (pc := 121) dX11_calledFrom_121 5 rfl ?_
          first | (exfalso; contradiction) | exact cast (by simp only [if_pos q114]) hJ
        · refine g_iconst (pc := 117) dX11_calledFrom_117 c_0 ?_
          refine g_goto (pc := 118) (tgt := 123) dX11_calledFrom_118 (by decide) ?_
          first | (exfalso; contradiction) | exact cast (by simp only [if_neg q114]) hJ
    · have h := h.2 q
      refine g_aload_n (pc := 20) dX11_calledFrom_20 rfl 0 rfl ?_
      refine g_iload_n (pc := 21) dX11_calledFrom_21 rfl 1 rfl ?_
      refine g_putI (pc := 22) dX11_calledFrom_22 rfl fX11_169 pX11_23 rfl ?_
      refine g_aload_n (pc := 25) dX11_calledFrom_25 rfl 0 rfl ?_
      refine g_iload_n (pc := 26) dX11_calledFrom_26 rfl 2 rfl ?_
      refine g_putI (pc := 27) dX11_calledFrom_27 rfl fX11_172 pX11_24 rfl ?_
      refine g_aload_n (pc := 30) dX11_calledFrom_30 rfl 0 rfl ?_
      refine g_iload (pc := 31) dX11_calledFrom_31 7 rfl ?_
      refine g_callV (pc := 33) (M' := mX11_calls) (n := 1) (a := 0) (as := [.int l7]) (st := []) dX11_calledFrom_33 rfl kX11_260 vX11_calls (by show 3 + 1 ≤ 5 + 1 * (n + 1); omega) rfl qX11 rfl rfl (Nat.le_of_ble_eq_true rfl) ?_
      refine cl_mono (fun r w1 hr => ?_) h
      obtain ⟨x2, rfl, hw1, h⟩ := hr
      show Go SR (mX11_calledFrom (n + 1)) 36 [(0, .ref 0), (1, .int l1), (2, .int l2), (3, .int l3), (4, .int l4), (5, .int l5), (6, .int l6), (7, .int l7)] [.int x2] w1 Q
      refine g_if_ne (pc := 36) (tgt := 42) dX11_calledFrom_36 (by decide) (fun q => ?_) (fun q => ?_)
      · have h := h.2 q
        refine g_aload_n (pc := 42) dX11_calledFrom_42 rfl 0 rfl ?_
        refine g_callV (pc := 43) (M' := mX11_isNothing) (n := 0) (a := 0) (as := []) (st := []) dX11_calledFrom_43 rfl kX11_263 vX11_isNothing (by show 1 + 1 ≤ 5 + 1 * (n + 1); omega) rfl qX11 rfl rfl (Nat.le_of_ble_eq_true rfl) ?_
        refine zX11_isNothing (w := w1) (hR := hw1) ?_
        show Go SR (mX11_calledFrom (n + 1)) 46 [(0, .ref 0), (1, .int l1), (2, .int l2), (3, .int l3), (4, .int l4), (5, .int l5), (6, .int l6), (7, .int l7)] [.int (vXX11_isNothing w1)] w1 Q
        refine g_if_eq (pc := 46) (tgt := 53) dX11_calledFrom_46 (by decide) (fun q => ?_) (fun q => ?_)
        · have h := h.1 q
          refine g_aload_n (pc := 53) dX11_calledFrom_53 rfl 0 rfl ?_
          refine g_aload_n (pc := 54) dX11_calledFrom_54 rfl 0 rfl ?_
          refine g_getI (pc := 55) (a := 0) dX11_calledFrom_55 rfl fX11_169 rfl ?_
          refine g_aload_n (pc := 58) dX11_calledFrom_58 rfl 0 rfl ?_
          refine g_getI (pc := 59) (a := 0) dX11_calledFrom_59 rfl fX11_172 rfl ?_
          refine g_iload_n (pc := 62) dX11_calledFrom_62 rfl 3 rfl ?_
          refine g_iconst (pc := 63) dX11_calledFrom_63 c_1 ?_
          refine g_isub (pc := 64) dX11_calledFrom_64 ?_
          refine g_iconst (pc := 65) dX11_calledFrom_65 c_0 ?_
          refine g_callV (pc := 66) (M' := (mX11_calledFrom n)) (n := 4) (a := 0) (as := [.int (wi w1 0 23), .int (wi w1 0 24), .int (l3 - 1), .int 0]) (st := []) dX11_calledFrom_66 rfl kX11_370 vX11_calledFrom (by show 5 + 1 * n + 1 ≤ 5 + 1 * (n + 1); omega) rfl qX11 rfl rfl (Nat.le_of_ble_eq_true rfl) ?_
          refine cl_mono (fun r w3 hr => ?_) h
          obtain ⟨x4, rfl, hw3, h⟩ := hr
          show Go SR (mX11_calledFrom (n + 1)) 69 [(0, .ref 0), (1, .int l1), (2, .int l2), (3, .int l3), (4, .int l4), (5, .int l5), (6, .int l6), (7, .int l7)] [.int x4] w3 Q
          refine g_ineg (pc := 69) dX11_calledFrom_69 ?_
          refine g_istore (pc := 70) (lv2 := [(0, .ref 0), (1, .int l1), (2, .int l2), (3, .int l3), (4, .int l4), (5, .int l5), (6, .int l6), (7, .int l7), (8, .int (-x4))]) dX11_calledFrom_70 (Nat.le_of_ble_eq_true rfl) rfl ?_
          refine g_iload (pc := 72) dX11_calledFrom_72 6 rfl ?_
          have hJ : Go SR (mX11_calledFrom (n + 1)) 95 [(0, .ref 0), (1, .int l1), (2, .int l2), (3, .int l3), (4, .int l4), (5, .int (if l6 < 0 then -x4 else (if l5 < (-x4) then -x4 else l5 : Int32) : Int32)), (6, .int (if l6 < 0 then l7 else (if l5 < (-x4) then l7 else l6 : Int32) : Int32)), (7, .int l7), (8, .int (-x4))] [] w3 Q := by
            refine g_iinc (pc := 95) (v := l7 + 1) (lv2 := [(0, .ref 0), (1, .int l1), (2, .int l2), (3, .int l3), (4, .int l4), (5, .int (if l6 < 0 then -x4 else (if l5 < (-x4) then -x4 else l5 : Int32) : Int32)), (6, .int (if l6 < 0 then l7 else (if l5 < (-x4) then l7 else l6 : Int32) : Int32)), (7, .int (l7 + 1)), (8, .int (-x4))]) dX11_calledFrom_95 7 rfl (Nat.le_of_ble_eq_true rfl) rfl rfl ?_
            refine g_goto (pc := 98) (tgt := 10) dX11_calledFrom_98 (by decide) ?_
            refine g_sub (lv2 := [(0, .ref 0), (1, .int l1), (2, .int l2), (3, .int l3), (4, .int l4), (5, .int (if l6 < 0 then -x4 else (if l5 < (-x4) then -x4 else l5 : Int32) : Int32)), (6, .int (if l6 < 0 then l7 else (if l5 < (-x4) then l7 else l6 : Int32) : Int32)), (7, .int (l7 + 1))]) [0, 1, 2, 3, 4, 5, 6, 7] rfl ?_
            exact h
          refine g_if_lt (pc := 74) (tgt := 87) dX11_calledFrom_74 (by decide) (fun q74 => ?_) (fun q74 => ?_)
          · refine g_iload (pc := 87) dX11_calledFrom_87 7 rfl ?_
            refine g_istore (pc := 89) (lv2 := [(0, .ref 0), (1, .int l1), (2, .int l2), (3, .int l3), (4, .int l4), (5, .int l5), (6, .int l7), (7, .int l7), (8, .int (-x4))]) dX11_calledFrom_89 (Nat.le_of_ble_eq_true rfl) rfl ?_
            refine g_iload (pc := 91) dX11_calledFrom_91 8 rfl ?_
            refine g_istore (pc := 93) (lv2 := [(0, .ref 0), (1, .int l1), (2, .int l2), (3, .int l3), (4, .int l4), (5, .int (-x4)), (6, .int l7), (7, .int l7), (8, .int (-x4))]) dX11_calledFrom_93 (Nat.le_of_ble_eq_true rfl) rfl ?_
            first | (exfalso; contradiction) | exact cast (by simp only [if_pos q74]) hJ
          · refine g_iload (pc := 77) dX11_calledFrom_77 8 rfl ?_
            refine g_iload (pc := 79) dX11_calledFrom_79 5 rfl ?_
            refine g_icmp_gt (pc := 81) (tgt := 87) dX11_calledFrom_81 (by decide) (fun q81 => ?_) (fun q81 => ?_)
            · refine g_iload (pc := 87) dX11_calledFrom_87 7 rfl ?_
              refine g_istore (pc := 89) (lv2 := [(0, .ref 0), (1, .int l1), (2, .int l2), (3, .int l3), (4, .int l4), (5, .int l5), (6, .int l7), (7, .int l7), (8, .int (-x4))]) dX11_calledFrom_89 (Nat.le_of_ble_eq_true rfl) rfl ?_
              refine g_iload (pc := 91) dX11_calledFrom_91 8 rfl ?_
              refine g_istore (pc := 93) (lv2 := [(0, .ref 0), (1, .int l1), (2, .int l2), (3, .int l3), (4, .int l4), (5, .int (-x4)), (6, .int l7), (7, .int l7), (8, .int (-x4))]) dX11_calledFrom_93 (Nat.le_of_ble_eq_true rfl) rfl ?_
              first | (exfalso; contradiction) | exact cast (by simp only [if_neg q74, if_pos q81]) hJ
            · refine g_goto (pc := 84) (tgt := 95) dX11_calledFrom_84 (by decide) ?_
              first | (exfalso; contradiction) | exact cast (by simp only [if_neg q74, if_neg q81]) hJ
        · have h := h.2 q
          refine g_iconst (pc := 49) dX11_calledFrom_49 c_1 ?_
          refine g_goto (pc := 50) (tgt := 70) dX11_calledFrom_50 (by decide) ?_
          refine g_istore (pc := 70) (lv2 := [(0, .ref 0), (1, .int l1), (2, .int l2), (3, .int l3), (4, .int l4), (5, .int l5), (6, .int l6), (7, .int l7), (8, .int 1)]) dX11_calledFrom_70 (Nat.le_of_ble_eq_true rfl) rfl ?_
          refine g_iload (pc := 72) dX11_calledFrom_72 6 rfl ?_
          have hJ : Go SR (mX11_calledFrom (n + 1)) 95 [(0, .ref 0), (1, .int l1), (2, .int l2), (3, .int l3), (4, .int l4), (5, .int (if l6 < 0 then 1 else (if l5 < (1 : Int32) then 1 else l5 : Int32) : Int32)), (6, .int (if l6 < 0 then l7 else (if l5 < (1 : Int32) then l7 else l6 : Int32) : Int32)), (7, .int l7), (8, .int 1)] [] w1 Q := by
            refine g_iinc (pc := 95) (v := l7 + 1) (lv2 := [(0, .ref 0), (1, .int l1), (2, .int l2), (3, .int l3), (4, .int l4), (5, .int (if l6 < 0 then 1 else (if l5 < (1 : Int32) then 1 else l5 : Int32) : Int32)), (6, .int (if l6 < 0 then l7 else (if l5 < (1 : Int32) then l7 else l6 : Int32) : Int32)), (7, .int (l7 + 1)), (8, .int 1)]) dX11_calledFrom_95 7 rfl (Nat.le_of_ble_eq_true rfl) rfl rfl ?_
            refine g_goto (pc := 98) (tgt := 10) dX11_calledFrom_98 (by decide) ?_
            refine g_sub (lv2 := [(0, .ref 0), (1, .int l1), (2, .int l2), (3, .int l3), (4, .int l4), (5, .int (if l6 < 0 then 1 else (if l5 < (1 : Int32) then 1 else l5 : Int32) : Int32)), (6, .int (if l6 < 0 then l7 else (if l5 < (1 : Int32) then l7 else l6 : Int32) : Int32)), (7, .int (l7 + 1))]) [0, 1, 2, 3, 4, 5, 6, 7] rfl ?_
            exact h
          refine g_if_lt (pc := 74) (tgt := 87) dX11_calledFrom_74 (by decide) (fun q74 => ?_) (fun q74 => ?_)
          · refine g_iload (pc := 87) dX11_calledFrom_87 7 rfl ?_
            refine g_istore (pc := 89) (lv2 := [(0, .ref 0), (1, .int l1), (2, .int l2), (3, .int l3), (4, .int l4), (5, .int l5), (6, .int l7), (7, .int l7), (8, .int 1)]) dX11_calledFrom_89 (Nat.le_of_ble_eq_true rfl) rfl ?_
            refine g_iload (pc := 91) dX11_calledFrom_91 8 rfl ?_
            refine g_istore (pc := 93) (lv2 := [(0, .ref 0), (1, .int l1), (2, .int l2), (3, .int l3), (4, .int l4), (5, .int 1), (6, .int l7), (7, .int l7), (8, .int 1)]) dX11_calledFrom_93 (Nat.le_of_ble_eq_true rfl) rfl ?_
            first | (exfalso; contradiction) | exact cast (by simp only [if_pos q74]) hJ
          · refine g_iload (pc := 77) dX11_calledFrom_77 8 rfl ?_
            refine g_iload (pc := 79) dX11_calledFrom_79 5 rfl ?_
            refine g_icmp_gt (pc := 81) (tgt := 87) dX11_calledFrom_81 (by decide) (fun q81 => ?_) (fun q81 => ?_)
            · refine g_iload (pc := 87) dX11_calledFrom_87 7 rfl ?_
              refine g_istore (pc := 89) (lv2 := [(0, .ref 0), (1, .int l1), (2, .int l2), (3, .int l3), (4, .int l4), (5, .int l5), (6, .int l7), (7, .int l7), (8, .int 1)]) dX11_calledFrom_89 (Nat.le_of_ble_eq_true rfl) rfl ?_
              refine g_iload (pc := 91) dX11_calledFrom_91 8 rfl ?_
              refine g_istore (pc := 93) (lv2 := [(0, .ref 0), (1, .int l1), (2, .int l2), (3, .int l3), (4, .int l4), (5, .int 1), (6, .int l7), (7, .int l7), (8, .int 1)]) dX11_calledFrom_93 (Nat.le_of_ble_eq_true rfl) rfl ?_
              first | (exfalso; contradiction) | exact cast (by simp only [if_neg q74, if_pos q81]) hJ
            · refine g_goto (pc := 84) (tgt := 95) dX11_calledFrom_84 (by decide) ?_
              first | (exfalso; contradiction) | exact cast (by simp only [if_neg q74, if_neg q81]) hJ
      · have h := h.1 q
        refine g_goto (pc := 39) (tgt := 95) dX11_calledFrom_39 (by decide) ?_
        refine g_iinc (pc := 95) (v := l7 + 1) (lv2 := [(0, .ref 0), (1, .int l1), (2, .int l2), (3, .int l3), (4, .int l4), (5, .int l5), (6, .int l6), (7, .int (l7 + 1))]) dX11_calledFrom_95 7 rfl (Nat.le_of_ble_eq_true rfl) rfl rfl ?_
        refine g_goto (pc := 98) (tgt := 10) dX11_calledFrom_98 (by decide) ?_
        exact h
set_option maxHeartbeats 4000000 in
set_option maxRecDepth 100000 in
theorem TX11_callWhy (a1 : Int32) (a2 : Int32) (w : Wd) (hR : w.2.2 = RM) (Q : Option Value → Wd → Prop) (h : ClI SR mX11_isDance [.ref 0, .int a1] w (fun x2 w1 => w1.2.2 = RM ∧ Q (some (.int (vXX11_why x2 (vXX11_in a2 0 8)))) w1)) : Cl SR mX11_callWhy [.ref 0, .int a1, .int a2] w Q := by
  refine cl_of (by decide) (Nat.le_of_ble_eq_true rfl) ?_
  show Go SR mX11_callWhy 0 [(0, .ref 0), (1, .int a1), (2, .int a2)] [] w Q
  refine g_aload_n (pc := 0) dX11_callWhy_0 rfl 0 rfl ?_
  refine g_aload_n (pc := 1) dX11_callWhy_1 rfl 0 rfl ?_
  refine g_iload_n (pc := 2) dX11_callWhy_2 rfl 1 rfl ?_
  refine g_callV (pc := 3) (M' := mX11_isDance) (n := 1) (a := 0) (as := [.int a1]) (st := [.ref 0]) dX11_callWhy_3 rfl kX11_239 vX11_isDance (Nat.le_of_ble_eq_true rfl) rfl qX11 rfl rfl (Nat.le_of_ble_eq_true rfl) ?_
  refine cl_mono (fun r w1 hr => ?_) h
  obtain ⟨x2, rfl, hw1, h⟩ := hr
  show Go SR mX11_callWhy 6 [(0, .ref 0), (1, .int a1), (2, .int a2)] [.int x2, .ref 0] w1 Q
  refine g_iload_n (pc := 6) dX11_callWhy_6 rfl 2 rfl ?_
  refine g_iconst (pc := 7) dX11_callWhy_7 c_0 ?_
  refine g_bipush (pc := 8) (v := 8) dX11_callWhy_8 (by decide) ?_
  refine g_callS (pc := 10) (M' := mX11_in) (n := 3) (as := [.int a2, .int 0, .int 8]) (st := [.int x2, .ref 0]) dX11_callWhy_10 rfl kX11_143 sX11_in (Nat.le_of_ble_eq_true rfl) rfl rfl (Nat.le_of_ble_eq_true rfl) ?_
  refine zX11_in (a1 := a2) (a2 := 0) (a3 := 8) (w := w1) (hR := hw1) ?_
  show Go SR mX11_callWhy 13 [(0, .ref 0), (1, .int a1), (2, .int a2)] [.int (vXX11_in a2 0 8), .int x2, .ref 0] w1 Q
  refine g_callV (pc := 13) (M' := mX11_why) (n := 2) (a := 0) (as := [.int x2, .int (vXX11_in a2 0 8)]) (st := []) dX11_callWhy_13 rfl kX11_297 vX11_why (Nat.le_of_ble_eq_true rfl) rfl qX11 rfl rfl (Nat.le_of_ble_eq_true rfl) ?_
  refine zX11_why (a1 := x2) (a2 := (vXX11_in a2 0 8)) (w := w1) (hR := hw1) ?_
  show Go SR mX11_callWhy 16 [(0, .ref 0), (1, .int a1), (2, .int a2)] [.int (vXX11_why x2 (vXX11_in a2 0 8))] w1 Q
  exact g_iret (pc := 16) dX11_callWhy_16 rfl h
set_option maxHeartbeats 4000000 in
set_option maxRecDepth 100000 in
theorem TX11_callers (a1 : Int32) (a2 : Int32) (w : Wd) (hR : w.2.2 = RM) (Q : Option Value → Wd → Prop) (h : ClI SR mX11_callWhy [.ref 0, .int a1, .int a2] (wXX11_anew w) (fun x2 w1 => w1.2.2 = RM ∧ ((x2 = 0 → vp_in a1 10 ∧ vp_in (5 + a1) 10 ∧ ClI SR (mX11_calledFrom 8) [.ref 0, .int (wi w1 5 a1.toNatClampNeg), .int (wi w1 5 ((5 + a1).toNatClampNeg)), .int a2, .int 1] w1 (fun x6 w5 => w5.2.2 = RM ∧ Q (some (.int (if x6 ≤ 0 then (if 0 ≤ x6 then 0 else 2 : Int32) else 1 : Int32))) w5)) ∧ (¬ (x2 = 0) → Q (some (.int (vXX11_no x2))) (wXX11_no x2 w1))))) : Cl SR mX11_callers [.ref 0, .int a1, .int a2] w Q := by
  refine cl_of (by decide) (Nat.le_of_ble_eq_true rfl) ?_
  show Go SR mX11_callers 0 [(0, .ref 0), (1, .int a1), (2, .int a2)] [] w Q
  refine g_aload_n (pc := 0) dX11_callers_0 rfl 0 rfl ?_
  refine g_callV (pc := 1) (M' := mX11_anew) (n := 0) (a := 0) (as := []) (st := []) dX11_callers_1 rfl kX11_147 vX11_anew (Nat.le_of_ble_eq_true rfl) rfl qX11 rfl rfl (Nat.le_of_ble_eq_true rfl) ?_
  refine zX11_anew (w := w) (hR := hR) ?_
  show Go SR mX11_callers 4 [(0, .ref 0), (1, .int a1), (2, .int a2)] [] (wXX11_anew w) Q
  refine g_aload_n (pc := 4) dX11_callers_4 rfl 0 rfl ?_
  refine g_iload_n (pc := 5) dX11_callers_5 rfl 1 rfl ?_
  refine g_iload_n (pc := 6) dX11_callers_6 rfl 2 rfl ?_
  refine g_callV (pc := 7) (M' := mX11_callWhy) (n := 2) (a := 0) (as := [.int a1, .int a2]) (st := []) dX11_callers_7 rfl kX11_377 vX11_callWhy (Nat.le_of_ble_eq_true rfl) rfl qX11 rfl rfl (Nat.le_of_ble_eq_true rfl) ?_
  refine cl_mono (fun r w1 hr => ?_) h
  obtain ⟨x2, rfl, hw1, h⟩ := hr
  show Go SR mX11_callers 10 [(0, .ref 0), (1, .int a1), (2, .int a2)] [.int x2] w1 Q
  refine g_istore_n (pc := 10) (lv2 := [(0, .ref 0), (1, .int a1), (2, .int a2), (3, .int x2)]) dX11_callers_10 rfl (Nat.le_of_ble_eq_true rfl) rfl ?_
  refine g_iload_n (pc := 11) dX11_callers_11 rfl 3 rfl ?_
  refine g_if_eq (pc := 12) (tgt := 21) dX11_callers_12 (by decide) (fun q => ?_) (fun q => ?_)
  · have h := h.1 q
    refine g_aload_n (pc := 21) dX11_callers_21 rfl 0 rfl ?_
    refine g_aload_n (pc := 22) dX11_callers_22 rfl 0 rfl ?_
    refine g_getR (pc := 23) (a := 0) (b := 5) dX11_callers_23 rfl fX11_26 rfl (rm_18 hw1) ?_
    refine g_iload_n (pc := 26) dX11_callers_26 rfl 1 rfl ?_
    obtain ⟨hi3, h⟩ := h
    refine g_iald (pc := 27) (a := 5) (j := a1.toNatClampNeg) dX11_callers_27 rfl hi3 rfl ?_
    refine g_aload_n (pc := 28) dX11_callers_28 rfl 0 rfl ?_
    refine g_getR (pc := 29) (a := 0) (b := 5) dX11_callers_29 rfl fX11_26 rfl (rm_18 hw1) ?_
    refine g_iconst (pc := 32) dX11_callers_32 c_5 ?_
    refine g_iload_n (pc := 33) dX11_callers_33 rfl 1 rfl ?_
    refine g_iadd (pc := 34) dX11_callers_34 ?_
    obtain ⟨hi4, h⟩ := h
    refine g_iald (pc := 35) (a := 5) (j := (5 + a1).toNatClampNeg) dX11_callers_35 rfl hi4 rfl ?_
    refine g_iload_n (pc := 36) dX11_callers_36 rfl 2 rfl ?_
    refine g_iconst (pc := 37) dX11_callers_37 c_1 ?_
    refine g_callV (pc := 38) (M' := (mX11_calledFrom 8)) (n := 4) (a := 0) (as := [.int (wi w1 5 a1.toNatClampNeg), .int (wi w1 5 ((5 + a1).toNatClampNeg)), .int a2, .int 1]) (st := []) dX11_callers_38 rfl kX11_370 vX11_calledFrom (Nat.le_of_ble_eq_true rfl) rfl qX11 rfl rfl (Nat.le_of_ble_eq_true rfl) ?_
    refine cl_mono (fun r w5 hr => ?_) h
    obtain ⟨x6, rfl, hw5, h⟩ := hr
    show Go SR mX11_callers 41 [(0, .ref 0), (1, .int a1), (2, .int a2), (3, .int x2)] [.int x6] w5 Q
    refine g_istore (pc := 41) (lv2 := [(0, .ref 0), (1, .int a1), (2, .int a2), (3, .int x2), (4, .int x6)]) dX11_callers_41 (Nat.le_of_ble_eq_true rfl) rfl ?_
    refine g_iload (pc := 43) dX11_callers_43 4 rfl ?_
    have hJ : Go SR mX11_callers 62 [(0, .ref 0), (1, .int a1), (2, .int a2), (3, .int x2), (4, .int x6)] [.int (if x6 ≤ 0 then (if 0 ≤ x6 then 0 else 2 : Int32) else 1 : Int32)] w5 Q := by
      exact g_iret (pc := 62) dX11_callers_62 rfl h
    refine g_if_le (pc := 45) (tgt := 52) dX11_callers_45 (by decide) (fun q45 => ?_) (fun q45 => ?_)
    · refine g_iload (pc := 52) dX11_callers_52 4 rfl ?_
      refine g_if_ge (pc := 54) (tgt := 61) dX11_callers_54 (by decide) (fun q54 => ?_) (fun q54 => ?_)
      · refine g_iconst (pc := 61) dX11_callers_61 c_0 ?_
        first | (exfalso; contradiction) | exact cast (by simp only [if_pos q45, if_pos q54]) hJ
      · refine g_iconst (pc := 57) dX11_callers_57 c_2 ?_
        refine g_goto (pc := 58) (tgt := 62) dX11_callers_58 (by decide) ?_
        first | (exfalso; contradiction) | exact cast (by simp only [if_pos q45, if_neg q54]) hJ
    · refine g_iconst (pc := 48) dX11_callers_48 c_1 ?_
      refine g_goto (pc := 49) (tgt := 62) dX11_callers_49 (by decide) ?_
      first | (exfalso; contradiction) | exact cast (by simp only [if_neg q45]) hJ
  · have h := h.2 q
    refine g_aload_n (pc := 15) dX11_callers_15 rfl 0 rfl ?_
    refine g_iload_n (pc := 16) dX11_callers_16 rfl 3 rfl ?_
    refine g_callV (pc := 17) (M' := mX11_no) (n := 1) (a := 0) (as := [.int x2]) (st := []) dX11_callers_17 rfl kX11_150 vX11_no (Nat.le_of_ble_eq_true rfl) rfl qX11 rfl rfl (Nat.le_of_ble_eq_true rfl) ?_
    refine zX11_no (a1 := x2) (w := w1) (hR := hw1) ?_
    show Go SR mX11_callers 20 [(0, .ref 0), (1, .int a1), (2, .int a2), (3, .int x2)] [.int (vXX11_no x2)] (wXX11_no x2 w1) Q
    exact g_iret (pc := 20) dX11_callers_20 rfl h
set_option maxHeartbeats 4000000 in
set_option maxRecDepth 100000 in
theorem TX11_callsBy (a1 : Int32) (a2 : Int32) (w : Wd) (hR : w.2.2 = RM) (Q : Option Value → Wd → Prop) (h : ClI SR mX11_callWhy [.ref 0, .int a1, .int a2] (wXX11_anew w) (fun x2 w1 => w1.2.2 = RM ∧ ((x2 = 0 → vp_in a1 10 ∧ vp_in (5 + a1) 10 ∧ ClI SR (mX11_calledFrom 8) [.ref 0, .int (wi w1 5 a1.toNatClampNeg), .int (wi w1 5 ((5 + a1).toNatClampNeg)), .int a2, .int 1] w1 (fun x6 w5 => w5.2.2 = RM ∧ Q (some (.int (wi w5 0 44))) w5)) ∧ (¬ (x2 = 0) → Q (some (.int (vXX11_no x2))) (wXX11_no x2 w1))))) : Cl SR mX11_callsBy [.ref 0, .int a1, .int a2] w Q := by
  refine cl_of (by decide) (Nat.le_of_ble_eq_true rfl) ?_
  show Go SR mX11_callsBy 0 [(0, .ref 0), (1, .int a1), (2, .int a2)] [] w Q
  refine g_aload_n (pc := 0) dX11_callsBy_0 rfl 0 rfl ?_
  refine g_callV (pc := 1) (M' := mX11_anew) (n := 0) (a := 0) (as := []) (st := []) dX11_callsBy_1 rfl kX11_147 vX11_anew (Nat.le_of_ble_eq_true rfl) rfl qX11 rfl rfl (Nat.le_of_ble_eq_true rfl) ?_
  refine zX11_anew (w := w) (hR := hR) ?_
  show Go SR mX11_callsBy 4 [(0, .ref 0), (1, .int a1), (2, .int a2)] [] (wXX11_anew w) Q
  refine g_aload_n (pc := 4) dX11_callsBy_4 rfl 0 rfl ?_
  refine g_iload_n (pc := 5) dX11_callsBy_5 rfl 1 rfl ?_
  refine g_iload_n (pc := 6) dX11_callsBy_6 rfl 2 rfl ?_
  refine g_callV (pc := 7) (M' := mX11_callWhy) (n := 2) (a := 0) (as := [.int a1, .int a2]) (st := []) dX11_callsBy_7 rfl kX11_377 vX11_callWhy (Nat.le_of_ble_eq_true rfl) rfl qX11 rfl rfl (Nat.le_of_ble_eq_true rfl) ?_
  refine cl_mono (fun r w1 hr => ?_) h
  obtain ⟨x2, rfl, hw1, h⟩ := hr
  show Go SR mX11_callsBy 10 [(0, .ref 0), (1, .int a1), (2, .int a2)] [.int x2] w1 Q
  refine g_istore_n (pc := 10) (lv2 := [(0, .ref 0), (1, .int a1), (2, .int a2), (3, .int x2)]) dX11_callsBy_10 rfl (Nat.le_of_ble_eq_true rfl) rfl ?_
  refine g_iload_n (pc := 11) dX11_callsBy_11 rfl 3 rfl ?_
  refine g_if_eq (pc := 12) (tgt := 21) dX11_callsBy_12 (by decide) (fun q => ?_) (fun q => ?_)
  · have h := h.1 q
    refine g_aload_n (pc := 21) dX11_callsBy_21 rfl 0 rfl ?_
    refine g_aload_n (pc := 22) dX11_callsBy_22 rfl 0 rfl ?_
    refine g_getR (pc := 23) (a := 0) (b := 5) dX11_callsBy_23 rfl fX11_26 rfl (rm_18 hw1) ?_
    refine g_iload_n (pc := 26) dX11_callsBy_26 rfl 1 rfl ?_
    obtain ⟨hi3, h⟩ := h
    refine g_iald (pc := 27) (a := 5) (j := a1.toNatClampNeg) dX11_callsBy_27 rfl hi3 rfl ?_
    refine g_aload_n (pc := 28) dX11_callsBy_28 rfl 0 rfl ?_
    refine g_getR (pc := 29) (a := 0) (b := 5) dX11_callsBy_29 rfl fX11_26 rfl (rm_18 hw1) ?_
    refine g_iconst (pc := 32) dX11_callsBy_32 c_5 ?_
    refine g_iload_n (pc := 33) dX11_callsBy_33 rfl 1 rfl ?_
    refine g_iadd (pc := 34) dX11_callsBy_34 ?_
    obtain ⟨hi4, h⟩ := h
    refine g_iald (pc := 35) (a := 5) (j := (5 + a1).toNatClampNeg) dX11_callsBy_35 rfl hi4 rfl ?_
    refine g_iload_n (pc := 36) dX11_callsBy_36 rfl 2 rfl ?_
    refine g_iconst (pc := 37) dX11_callsBy_37 c_1 ?_
    refine g_callV (pc := 38) (M' := (mX11_calledFrom 8)) (n := 4) (a := 0) (as := [.int (wi w1 5 a1.toNatClampNeg), .int (wi w1 5 ((5 + a1).toNatClampNeg)), .int a2, .int 1]) (st := []) dX11_callsBy_38 rfl kX11_370 vX11_calledFrom (Nat.le_of_ble_eq_true rfl) rfl qX11 rfl rfl (Nat.le_of_ble_eq_true rfl) ?_
    refine cl_mono (fun r w5 hr => ?_) h
    obtain ⟨x6, rfl, hw5, h⟩ := hr
    show Go SR mX11_callsBy 41 [(0, .ref 0), (1, .int a1), (2, .int a2), (3, .int x2)] [.int x6] w5 Q
    refine g_pop (pc := 41) dX11_callsBy_41 rfl ?_
    refine g_aload_n (pc := 42) dX11_callsBy_42 rfl 0 rfl ?_
    refine g_getI (pc := 43) (a := 0) dX11_callsBy_43 rfl fX11_374 rfl ?_
    exact g_iret (pc := 46) dX11_callsBy_46 rfl h
  · have h := h.2 q
    refine g_aload_n (pc := 15) dX11_callsBy_15 rfl 0 rfl ?_
    refine g_iload_n (pc := 16) dX11_callsBy_16 rfl 3 rfl ?_
    refine g_callV (pc := 17) (M' := mX11_no) (n := 1) (a := 0) (as := [.int x2]) (st := []) dX11_callsBy_17 rfl kX11_150 vX11_no (Nat.le_of_ble_eq_true rfl) rfl qX11 rfl rfl (Nat.le_of_ble_eq_true rfl) ?_
    refine zX11_no (a1 := x2) (w := w1) (hR := hw1) ?_
    show Go SR mX11_callsBy 20 [(0, .ref 0), (1, .int a1), (2, .int a2), (3, .int x2)] [.int (vXX11_no x2)] (wXX11_no x2 w1) Q
    exact g_iret (pc := 20) dX11_callsBy_20 rfl h
set_option maxHeartbeats 4000000 in
set_option maxRecDepth 100000 in
theorem TX11_seekRests (a1 : Int32) (w : Wd) (hR : w.2.2 = RM) (Q : Option Value → Wd → Prop) (h : Go SR mX11_seekRests 10 [(0, .ref 0), (1, .int a1), (2, .int 0), (3, .int 0)] [] (si w 0 45 (-2)) Q) : Cl SR mX11_seekRests [.ref 0, .int a1] w Q := by
  refine cl_of (by decide) (Nat.le_of_ble_eq_true rfl) ?_
  show Go SR mX11_seekRests 0 [(0, .ref 0), (1, .int a1)] [] w Q
  refine g_iconst (pc := 0) dX11_seekRests_0 c_0 ?_
  refine g_istore_n (pc := 1) (lv2 := [(0, .ref 0), (1, .int a1), (2, .int 0)]) dX11_seekRests_1 rfl (Nat.le_of_ble_eq_true rfl) rfl ?_
  refine g_aload_n (pc := 2) dX11_seekRests_2 rfl 0 rfl ?_
  refine g_bipush (pc := 3) (v := (-2)) dX11_seekRests_3 (by decide) ?_
  refine g_putI (pc := 5) dX11_seekRests_5 rfl fX11_384 pX11_45 rfl ?_
  refine g_iconst (pc := 8) dX11_seekRests_8 c_0 ?_
  refine g_istore_n (pc := 9) (lv2 := [(0, .ref 0), (1, .int a1), (2, .int 0), (3, .int 0)]) dX11_seekRests_9 rfl (Nat.le_of_ble_eq_true rfl) rfl ?_
  exact h
set_option maxHeartbeats 4000000 in
set_option maxRecDepth 100000 in
theorem BX11_seekRests_10  (l1 : Int32) (l2 : Int32) (l3 : Int32) (w : Wd) (hR : w.2.2 = RM) (Q : Option Value → Wd → Prop) (h : ((4 ≤ l3 → Q (some (.int l2)) w) ∧ (¬ (4 ≤ l3) → (((vXX11_bowsOf l1 (if l3 ≤ 1 then 0 else 1 : Int32) (if (l3 % 2) = 1 then 1 else 0 : Int32)) < (vXX11_bowsOf l1 (if (if l3 ≤ 1 then 0 else 1 : Int32) = (0 : Int32) then 1 else 0 : Int32) (if (l3 % 2) = 1 then 1 else 0 : Int32)) → Go SR mX11_seekRests 10 [(0, .ref 0), (1, .int l1), (2, .int l2), (3, .int (l3 + 1))] [] w Q) ∧ (¬ ((vXX11_bowsOf l1 (if l3 ≤ 1 then 0 else 1 : Int32) (if (l3 % 2) = 1 then 1 else 0 : Int32)) < (vXX11_bowsOf l1 (if (if l3 ≤ 1 then 0 else 1 : Int32) = (0 : Int32) then 1 else 0 : Int32) (if (l3 % 2) = 1 then 1 else 0 : Int32))) → (((vXX11_bowsOf l1 (if (if (l3 % 2) = 1 then 1 else 0 : Int32) = (0 : Int32) then 1 else 0 : Int32) (if l3 ≤ 1 then 0 else 1 : Int32)) ≤ (vXX11_bowsOf l1 (if (l3 % 2) = 1 then 1 else 0 : Int32) (if l3 ≤ 1 then 0 else 1 : Int32)) → ((l2 = 0 → Go SR mX11_seekRests 10 [(0, .ref 0), (1, .int l1), (2, .int (l2 + 1)), (3, .int (l3 + 1))] [] (si w 0 45 ((10 * (l3 / 2)) + (l3 % 2))) Q) ∧ (¬ (l2 = 0) → Go SR mX11_seekRests 10 [(0, .ref 0), (1, .int l1), (2, .int (l2 + 1)), (3, .int (l3 + 1))] [] w Q))) ∧ (¬ ((vXX11_bowsOf l1 (if (if (l3 % 2) = 1 then 1 else 0 : Int32) = (0 : Int32) then 1 else 0 : Int32) (if l3 ≤ 1 then 0 else 1 : Int32)) ≤ (vXX11_bowsOf l1 (if (l3 % 2) = 1 then 1 else 0 : Int32) (if l3 ≤ 1 then 0 else 1 : Int32))) → Go SR mX11_seekRests 10 [(0, .ref 0), (1, .int l1), (2, .int l2), (3, .int (l3 + 1))] [] w Q))))))) : Go SR mX11_seekRests 10 [(0, .ref 0), (1, .int l1), (2, .int l2), (3, .int l3)] [] w Q := by
  refine g_iload_n (pc := 10) dX11_seekRests_10 rfl 3 rfl ?_
  refine g_iconst (pc := 11) dX11_seekRests_11 c_4 ?_
  refine g_icmp_ge (pc := 12) (tgt := 125) dX11_seekRests_12 (by decide) (fun q => ?_) (fun q => ?_)
  · have h := h.1 q
    refine g_iload_n (pc := 125) dX11_seekRests_125 rfl 2 rfl ?_
    exact g_iret (pc := 126) dX11_seekRests_126 rfl h
  · have h := h.2 q
    refine g_iload_n (pc := 15) dX11_seekRests_15 rfl 3 rfl ?_
    refine g_iconst (pc := 16) dX11_seekRests_16 c_1 ?_
    have hJ : Go SR mX11_seekRests 25 [(0, .ref 0), (1, .int l1), (2, .int l2), (3, .int l3)] [.int (if l3 ≤ 1 then 0 else 1 : Int32)] w Q := by
      refine g_istore (pc := 25) (lv2 := [(0, .ref 0), (1, .int l1), (2, .int l2), (3, .int l3), (4, .int (if l3 ≤ 1 then 0 else 1 : Int32))]) dX11_seekRests_25 (Nat.le_of_ble_eq_true rfl) rfl ?_
      refine g_iload_n (pc := 27) dX11_seekRests_27 rfl 3 rfl ?_
      refine g_iconst (pc := 28) dX11_seekRests_28 c_2 ?_
      refine g_irem (pc := 29) dX11_seekRests_29 (by decide) ?_
      refine g_iconst (pc := 30) dX11_seekRests_30 c_1 ?_
      have hJ : Go SR mX11_seekRests 39 [(0, .ref 0), (1, .int l1), (2, .int l2), (3, .int l3), (4, .int (if l3 ≤ 1 then 0 else 1 : Int32))] [.int (if (l3 % 2) = 1 then 1 else 0 : Int32)] w Q := by
        refine g_istore (pc := 39) (lv2 := [(0, .ref 0), (1, .int l1), (2, .int l2), (3, .int l3), (4, .int (if l3 ≤ 1 then 0 else 1 : Int32)), (5, .int (if (l3 % 2) = 1 then 1 else 0 : Int32))]) dX11_seekRests_39 (Nat.le_of_ble_eq_true rfl) rfl ?_
        refine g_iload_n (pc := 41) dX11_seekRests_41 rfl 1 rfl ?_
        refine g_iload (pc := 42) dX11_seekRests_42 4 rfl ?_
        have hJ : Go SR mX11_seekRests 52 [(0, .ref 0), (1, .int l1), (2, .int l2), (3, .int l3), (4, .int (if l3 ≤ 1 then 0 else 1 : Int32)), (5, .int (if (l3 % 2) = 1 then 1 else 0 : Int32))] [.int (if (if l3 ≤ 1 then 0 else 1 : Int32) = (0 : Int32) then 1 else 0 : Int32), .int l1] w Q := by
          refine g_iload (pc := 52) dX11_seekRests_52 5 rfl ?_
          refine g_callS (pc := 54) (M' := mX11_bowsOf) (n := 3) (as := [.int l1, .int (if (if l3 ≤ 1 then 0 else 1 : Int32) = (0 : Int32) then 1 else 0 : Int32), .int (if (l3 % 2) = 1 then 1 else 0 : Int32)]) (st := []) dX11_seekRests_54 rfl kX11_380 sX11_bowsOf (Nat.le_of_ble_eq_true rfl) rfl rfl (Nat.le_of_ble_eq_true rfl) ?_
          refine zX11_bowsOf (a1 := l1) (a2 := (if (if l3 ≤ 1 then 0 else 1 : Int32) = (0 : Int32) then 1 else 0 : Int32)) (a3 := (if (l3 % 2) = 1 then 1 else 0 : Int32)) (w := w) (hR := hR) ?_
          show Go SR mX11_seekRests 57 [(0, .ref 0), (1, .int l1), (2, .int l2), (3, .int l3), (4, .int (if l3 ≤ 1 then 0 else 1 : Int32)), (5, .int (if (l3 % 2) = 1 then 1 else 0 : Int32))] [.int (vXX11_bowsOf l1 (if (if l3 ≤ 1 then 0 else 1 : Int32) = (0 : Int32) then 1 else 0 : Int32) (if (l3 % 2) = 1 then 1 else 0 : Int32))] w Q
          refine g_iload_n (pc := 57) dX11_seekRests_57 rfl 1 rfl ?_
          refine g_iload (pc := 58) dX11_seekRests_58 4 rfl ?_
          refine g_iload (pc := 60) dX11_seekRests_60 5 rfl ?_
          refine g_callS (pc := 62) (M' := mX11_bowsOf) (n := 3) (as := [.int l1, .int (if l3 ≤ 1 then 0 else 1 : Int32), .int (if (l3 % 2) = 1 then 1 else 0 : Int32)]) (st := [.int (vXX11_bowsOf l1 (if (if l3 ≤ 1 then 0 else 1 : Int32) = (0 : Int32) then 1 else 0 : Int32) (if (l3 % 2) = 1 then 1 else 0 : Int32))]) dX11_seekRests_62 rfl kX11_380 sX11_bowsOf (Nat.le_of_ble_eq_true rfl) rfl rfl (Nat.le_of_ble_eq_true rfl) ?_
          refine zX11_bowsOf (a1 := l1) (a2 := (if l3 ≤ 1 then 0 else 1 : Int32)) (a3 := (if (l3 % 2) = 1 then 1 else 0 : Int32)) (w := w) (hR := hR) ?_
          show Go SR mX11_seekRests 65 [(0, .ref 0), (1, .int l1), (2, .int l2), (3, .int l3), (4, .int (if l3 ≤ 1 then 0 else 1 : Int32)), (5, .int (if (l3 % 2) = 1 then 1 else 0 : Int32))] [.int (vXX11_bowsOf l1 (if l3 ≤ 1 then 0 else 1 : Int32) (if (l3 % 2) = 1 then 1 else 0 : Int32)), .int (vXX11_bowsOf l1 (if (if l3 ≤ 1 then 0 else 1 : Int32) = (0 : Int32) then 1 else 0 : Int32) (if (l3 % 2) = 1 then 1 else 0 : Int32))] w Q
          refine g_icmp_gt (pc := 65) (tgt := 119) dX11_seekRests_65 (by decide) (fun q => ?_) (fun q => ?_)
          · have h := h.1 q
            refine g_iinc (pc := 119) (v := l3 + 1) (lv2 := [(0, .ref 0), (1, .int l1), (2, .int l2), (3, .int (l3 + 1)), (4, .int (if l3 ≤ 1 then 0 else 1 : Int32)), (5, .int (if (l3 % 2) = 1 then 1 else 0 : Int32))]) dX11_seekRests_119 3 rfl (Nat.le_of_ble_eq_true rfl) rfl rfl ?_
            refine g_goto (pc := 122) (tgt := 10) dX11_seekRests_122 (by decide) ?_
            refine g_sub (lv2 := [(0, .ref 0), (1, .int l1), (2, .int l2), (3, .int (l3 + 1))]) [0, 1, 2, 3] rfl ?_
            exact h
          · have h := h.2 q
            refine g_iload_n (pc := 68) dX11_seekRests_68 rfl 1 rfl ?_
            refine g_iload (pc := 69) dX11_seekRests_69 5 rfl ?_
            have hJ : Go SR mX11_seekRests 79 [(0, .ref 0), (1, .int l1), (2, .int l2), (3, .int l3), (4, .int (if l3 ≤ 1 then 0 else 1 : Int32)), (5, .int (if (l3 % 2) = 1 then 1 else 0 : Int32))] [.int (if (if (l3 % 2) = 1 then 1 else 0 : Int32) = (0 : Int32) then 1 else 0 : Int32), .int l1] w Q := by
              refine g_iload (pc := 79) dX11_seekRests_79 4 rfl ?_
              refine g_callS (pc := 81) (M' := mX11_bowsOf) (n := 3) (as := [.int l1, .int (if (if (l3 % 2) = 1 then 1 else 0 : Int32) = (0 : Int32) then 1 else 0 : Int32), .int (if l3 ≤ 1 then 0 else 1 : Int32)]) (st := []) dX11_seekRests_81 rfl kX11_380 sX11_bowsOf (Nat.le_of_ble_eq_true rfl) rfl rfl (Nat.le_of_ble_eq_true rfl) ?_
              refine zX11_bowsOf (a1 := l1) (a2 := (if (if (l3 % 2) = 1 then 1 else 0 : Int32) = (0 : Int32) then 1 else 0 : Int32)) (a3 := (if l3 ≤ 1 then 0 else 1 : Int32)) (w := w) (hR := hR) ?_
              show Go SR mX11_seekRests 84 [(0, .ref 0), (1, .int l1), (2, .int l2), (3, .int l3), (4, .int (if l3 ≤ 1 then 0 else 1 : Int32)), (5, .int (if (l3 % 2) = 1 then 1 else 0 : Int32))] [.int (vXX11_bowsOf l1 (if (if (l3 % 2) = 1 then 1 else 0 : Int32) = (0 : Int32) then 1 else 0 : Int32) (if l3 ≤ 1 then 0 else 1 : Int32))] w Q
              refine g_iload_n (pc := 84) dX11_seekRests_84 rfl 1 rfl ?_
              refine g_iload (pc := 85) dX11_seekRests_85 5 rfl ?_
              refine g_iload (pc := 87) dX11_seekRests_87 4 rfl ?_
              refine g_callS (pc := 89) (M' := mX11_bowsOf) (n := 3) (as := [.int l1, .int (if (l3 % 2) = 1 then 1 else 0 : Int32), .int (if l3 ≤ 1 then 0 else 1 : Int32)]) (st := [.int (vXX11_bowsOf l1 (if (if (l3 % 2) = 1 then 1 else 0 : Int32) = (0 : Int32) then 1 else 0 : Int32) (if l3 ≤ 1 then 0 else 1 : Int32))]) dX11_seekRests_89 rfl kX11_380 sX11_bowsOf (Nat.le_of_ble_eq_true rfl) rfl rfl (Nat.le_of_ble_eq_true rfl) ?_
              refine zX11_bowsOf (a1 := l1) (a2 := (if (l3 % 2) = 1 then 1 else 0 : Int32)) (a3 := (if l3 ≤ 1 then 0 else 1 : Int32)) (w := w) (hR := hR) ?_
              show Go SR mX11_seekRests 92 [(0, .ref 0), (1, .int l1), (2, .int l2), (3, .int l3), (4, .int (if l3 ≤ 1 then 0 else 1 : Int32)), (5, .int (if (l3 % 2) = 1 then 1 else 0 : Int32))] [.int (vXX11_bowsOf l1 (if (l3 % 2) = 1 then 1 else 0 : Int32) (if l3 ≤ 1 then 0 else 1 : Int32)), .int (vXX11_bowsOf l1 (if (if (l3 % 2) = 1 then 1 else 0 : Int32) = (0 : Int32) then 1 else 0 : Int32) (if l3 ≤ 1 then 0 else 1 : Int32))] w Q
              refine g_icmp_le (pc := 92) (tgt := 98) dX11_seekRests_92 (by decide) (fun q => ?_) (fun q => ?_)
              · have h := h.1 q
                refine g_iload_n (pc := 98) dX11_seekRests_98 rfl 2 rfl ?_
                refine g_if_ne (pc := 99) (tgt := 116) dX11_seekRests_99 (by decide) (fun q => ?_) (fun q => ?_)
                · have h := h.2 q
                  refine g_iinc (pc := 116) (v := l2 + 1) (lv2 := [(0, .ref 0), (1, .int l1), (2, .int (l2 + 1)), (3, .int l3), (4, .int (if l3 ≤ 1 then 0 else 1 : Int32)), (5, .int (if (l3 % 2) = 1 then 1 else 0 : Int32))]) dX11_seekRests_116 2 rfl (Nat.le_of_ble_eq_true rfl) rfl rfl ?_
                  refine g_iinc (pc := 119) (v := l3 + 1) (lv2 := [(0, .ref 0), (1, .int l1), (2, .int (l2 + 1)), (3, .int (l3 + 1)), (4, .int (if l3 ≤ 1 then 0 else 1 : Int32)), (5, .int (if (l3 % 2) = 1 then 1 else 0 : Int32))]) dX11_seekRests_119 3 rfl (Nat.le_of_ble_eq_true rfl) rfl rfl ?_
                  refine g_goto (pc := 122) (tgt := 10) dX11_seekRests_122 (by decide) ?_
                  refine g_sub (lv2 := [(0, .ref 0), (1, .int l1), (2, .int (l2 + 1)), (3, .int (l3 + 1))]) [0, 1, 2, 3] rfl ?_
                  exact h
                · have h := h.1 q
                  refine g_aload_n (pc := 102) dX11_seekRests_102 rfl 0 rfl ?_
                  refine g_bipush (pc := 103) (v := 10) dX11_seekRests_103 (by decide) ?_
                  refine g_iload_n (pc := 105) dX11_seekRests_105 rfl 3 rfl ?_
                  refine g_iconst (pc := 106) dX11_seekRests_106 c_2 ?_
                  refine g_idiv (pc := 107) dX11_seekRests_107 (by decide) ?_
                  refine g_imul (pc := 108) dX11_seekRests_108 ?_
                  refine g_iload_n (pc := 109) dX11_seekRests_109 rfl 3 rfl ?_
                  refine g_iconst (pc := 110) dX11_seekRests_110 c_2 ?_
                  refine g_irem (pc := 111) dX11_seekRests_111 (by decide) ?_
                  refine g_iadd (pc := 112) dX11_seekRests_112 ?_
                  refine g_putI (pc := 113) dX11_seekRests_113 rfl fX11_384 pX11_45 rfl ?_
                  refine g_iinc (pc := 116) (v := l2 + 1) (lv2 := [(0, .ref 0), (1, .int l1), (2, .int (l2 + 1)), (3, .int l3), (4, .int (if l3 ≤ 1 then 0 else 1 : Int32)), (5, .int (if (l3 % 2) = 1 then 1 else 0 : Int32))]) dX11_seekRests_116 2 rfl (Nat.le_of_ble_eq_true rfl) rfl rfl ?_
                  refine g_iinc (pc := 119) (v := l3 + 1) (lv2 := [(0, .ref 0), (1, .int l1), (2, .int (l2 + 1)), (3, .int (l3 + 1)), (4, .int (if l3 ≤ 1 then 0 else 1 : Int32)), (5, .int (if (l3 % 2) = 1 then 1 else 0 : Int32))]) dX11_seekRests_119 3 rfl (Nat.le_of_ble_eq_true rfl) rfl rfl ?_
                  refine g_goto (pc := 122) (tgt := 10) dX11_seekRests_122 (by decide) ?_
                  refine g_sub (lv2 := [(0, .ref 0), (1, .int l1), (2, .int (l2 + 1)), (3, .int (l3 + 1))]) [0, 1, 2, 3] rfl ?_
                  exact h
              · have h := h.2 q
                refine g_goto (pc := 95) (tgt := 119) dX11_seekRests_95 (by decide) ?_
                refine g_iinc (pc := 119) (v := l3 + 1) (lv2 := [(0, .ref 0), (1, .int l1), (2, .int l2), (3, .int (l3 + 1)), (4, .int (if l3 ≤ 1 then 0 else 1 : Int32)), (5, .int (if (l3 % 2) = 1 then 1 else 0 : Int32))]) dX11_seekRests_119 3 rfl (Nat.le_of_ble_eq_true rfl) rfl rfl ?_
                refine g_goto (pc := 122) (tgt := 10) dX11_seekRests_122 (by decide) ?_
                refine g_sub (lv2 := [(0, .ref 0), (1, .int l1), (2, .int l2), (3, .int (l3 + 1))]) [0, 1, 2, 3] rfl ?_
                exact h
            refine g_if_ne (pc := 71) (tgt := 78) dX11_seekRests_71 (by decide) (fun q71 => ?_) (fun q71 => ?_)
            · refine g_iconst (pc := 78) dX11_seekRests_78 c_0 ?_
              first | (exfalso; contradiction) | exact cast (by simp only [if_neg q71]) hJ
            · refine g_iconst (pc := 74) dX11_seekRests_74 c_1 ?_
              refine g_goto (pc := 75) (tgt := 79) dX11_seekRests_75 (by decide) ?_
              first | (exfalso; contradiction) | exact cast (by simp only [if_pos q71]) hJ
        refine g_if_ne (pc := 44) (tgt := 51) dX11_seekRests_44 (by decide) (fun q44 => ?_) (fun q44 => ?_)
        · refine g_iconst (pc := 51) dX11_seekRests_51 c_0 ?_
          first | (exfalso; contradiction) | exact cast (by simp only [if_neg q44]) hJ
        · refine g_iconst (pc := 47) dX11_seekRests_47 c_1 ?_
          refine g_goto (pc := 48) (tgt := 52) dX11_seekRests_48 (by decide) ?_
          first | (exfalso; contradiction) | exact cast (by simp only [if_pos q44]) hJ
      refine g_icmp_ne (pc := 31) (tgt := 38) dX11_seekRests_31 (by decide) (fun q31 => ?_) (fun q31 => ?_)
      · refine g_iconst (pc := 38) dX11_seekRests_38 c_0 ?_
        first | (exfalso; contradiction) | exact cast (by simp only [if_neg q31]) hJ
      · refine g_iconst (pc := 34) dX11_seekRests_34 c_1 ?_
        refine g_goto (pc := 35) (tgt := 39) dX11_seekRests_35 (by decide) ?_
        first | (exfalso; contradiction) | exact cast (by simp only [if_pos q31]) hJ
    refine g_icmp_le (pc := 17) (tgt := 24) dX11_seekRests_17 (by decide) (fun q17 => ?_) (fun q17 => ?_)
    · refine g_iconst (pc := 24) dX11_seekRests_24 c_0 ?_
      first | (exfalso; contradiction) | exact cast (by simp only [if_pos q17]) hJ
    · refine g_iconst (pc := 20) dX11_seekRests_20 c_1 ?_
      refine g_goto (pc := 21) (tgt := 25) dX11_seekRests_21 (by decide) ?_
      first | (exfalso; contradiction) | exact cast (by simp only [if_neg q17]) hJ
set_option maxHeartbeats 4000000 in
set_option maxRecDepth 100000 in
theorem TX11_rests (a1 : Int32) (w : Wd) (hR : w.2.2 = RM) (Q : Option Value → Wd → Prop) (h : (((vXX11_why (wi (wXX11_anew w) 0 15) (vXX11_in a1 0 9)) = 0 → ClI SR mX11_seekRests [.ref 0, .int a1] (wXX11_anew w) (fun x2 w1 => w1.2.2 = RM ∧ Q (some (.int x2)) w1)) ∧ (¬ ((vXX11_why (wi (wXX11_anew w) 0 15) (vXX11_in a1 0 9)) = 0) → Q (some (.int (vXX11_no (vXX11_why (wi (wXX11_anew w) 0 15) (vXX11_in a1 0 9))))) (wXX11_no (vXX11_why (wi (wXX11_anew w) 0 15) (vXX11_in a1 0 9)) (wXX11_anew w))))) : Cl SR mX11_rests [.ref 0, .int a1] w Q := by
  refine cl_of (by decide) (Nat.le_of_ble_eq_true rfl) ?_
  show Go SR mX11_rests 0 [(0, .ref 0), (1, .int a1)] [] w Q
  refine g_aload_n (pc := 0) dX11_rests_0 rfl 0 rfl ?_
  refine g_callV (pc := 1) (M' := mX11_anew) (n := 0) (a := 0) (as := []) (st := []) dX11_rests_1 rfl kX11_147 vX11_anew (Nat.le_of_ble_eq_true rfl) rfl qX11 rfl rfl (Nat.le_of_ble_eq_true rfl) ?_
  refine zX11_anew (w := w) (hR := hR) ?_
  show Go SR mX11_rests 4 [(0, .ref 0), (1, .int a1)] [] (wXX11_anew w) Q
  refine g_aload_n (pc := 4) dX11_rests_4 rfl 0 rfl ?_
  refine g_aload_n (pc := 5) dX11_rests_5 rfl 0 rfl ?_
  refine g_getZ (pc := 6) (a := 0) dX11_rests_6 rfl fX11_163 rfl ?_
  refine g_iload_n (pc := 9) dX11_rests_9 rfl 1 rfl ?_
  refine g_iconst (pc := 10) dX11_rests_10 c_0 ?_
  refine g_bipush (pc := 11) (v := 9) dX11_rests_11 (by decide) ?_
  refine g_callS (pc := 13) (M' := mX11_in) (n := 3) (as := [.int a1, .int 0, .int 9]) (st := [.int (wi (wXX11_anew w) 0 15), .ref 0]) dX11_rests_13 rfl kX11_143 sX11_in (Nat.le_of_ble_eq_true rfl) rfl rfl (Nat.le_of_ble_eq_true rfl) ?_
  refine zX11_in (a1 := a1) (a2 := 0) (a3 := 9) (w := wXX11_anew w) (hR := hR) ?_
  show Go SR mX11_rests 16 [(0, .ref 0), (1, .int a1)] [.int (vXX11_in a1 0 9), .int (wi (wXX11_anew w) 0 15), .ref 0] (wXX11_anew w) Q
  refine g_callV (pc := 16) (M' := mX11_why) (n := 2) (a := 0) (as := [.int (wi (wXX11_anew w) 0 15), .int (vXX11_in a1 0 9)]) (st := []) dX11_rests_16 rfl kX11_297 vX11_why (Nat.le_of_ble_eq_true rfl) rfl qX11 rfl rfl (Nat.le_of_ble_eq_true rfl) ?_
  refine zX11_why (a1 := (wi (wXX11_anew w) 0 15)) (a2 := (vXX11_in a1 0 9)) (w := wXX11_anew w) (hR := hR) ?_
  show Go SR mX11_rests 19 [(0, .ref 0), (1, .int a1)] [.int (vXX11_why (wi (wXX11_anew w) 0 15) (vXX11_in a1 0 9))] (wXX11_anew w) Q
  refine g_istore_n (pc := 19) (lv2 := [(0, .ref 0), (1, .int a1), (2, .int (vXX11_why (wi (wXX11_anew w) 0 15) (vXX11_in a1 0 9)))]) dX11_rests_19 rfl (Nat.le_of_ble_eq_true rfl) rfl ?_
  refine g_iload_n (pc := 20) dX11_rests_20 rfl 2 rfl ?_
  refine g_if_eq (pc := 21) (tgt := 32) dX11_rests_21 (by decide) (fun q => ?_) (fun q => ?_)
  · have h := h.1 q
    refine g_aload_n (pc := 32) dX11_rests_32 rfl 0 rfl ?_
    refine g_iload_n (pc := 33) dX11_rests_33 rfl 1 rfl ?_
    refine g_callV (pc := 34) (M' := mX11_seekRests) (n := 1) (a := 0) (as := [.int a1]) (st := []) dX11_rests_34 rfl kX11_387 vX11_seekRests (Nat.le_of_ble_eq_true rfl) rfl qX11 rfl rfl (Nat.le_of_ble_eq_true rfl) ?_
    refine cl_mono (fun r w1 hr => ?_) h
    obtain ⟨x2, rfl, hw1, h⟩ := hr
    show Go SR mX11_rests 37 [(0, .ref 0), (1, .int a1), (2, .int (vXX11_why (wi (wXX11_anew w) 0 15) (vXX11_in a1 0 9)))] [.int x2] w1 Q
    exact g_iret (pc := 37) dX11_rests_37 rfl h
  · have h := h.2 q
    refine g_aload_n (pc := 24) dX11_rests_24 rfl 0 rfl ?_
    refine g_iload_n (pc := 25) dX11_rests_25 rfl 2 rfl ?_
    refine g_callV (pc := 26) (M' := mX11_no) (n := 1) (a := 0) (as := [.int (vXX11_why (wi (wXX11_anew w) 0 15) (vXX11_in a1 0 9))]) (st := []) dX11_rests_26 rfl kX11_150 vX11_no (Nat.le_of_ble_eq_true rfl) rfl qX11 rfl rfl (Nat.le_of_ble_eq_true rfl) ?_
    refine zX11_no (a1 := (vXX11_why (wi (wXX11_anew w) 0 15) (vXX11_in a1 0 9))) (w := wXX11_anew w) (hR := hR) ?_
    show Go SR mX11_rests 29 [(0, .ref 0), (1, .int a1), (2, .int (vXX11_why (wi (wXX11_anew w) 0 15) (vXX11_in a1 0 9)))] [.int (vXX11_no (vXX11_why (wi (wXX11_anew w) 0 15) (vXX11_in a1 0 9)))] (wXX11_no (vXX11_why (wi (wXX11_anew w) 0 15) (vXX11_in a1 0 9)) (wXX11_anew w)) Q
    refine g_goto (pc := 29) (tgt := 37) dX11_rests_29 (by decide) ?_
    exact g_iret (pc := 37) dX11_rests_37 rfl h
set_option maxHeartbeats 4000000 in
set_option maxRecDepth 100000 in
theorem TX11_rest (a1 : Int32) (w : Wd) (hR : w.2.2 = RM) (Q : Option Value → Wd → Prop) (h : (((vXX11_why (wi (wXX11_anew w) 0 15) (vXX11_in a1 0 9)) = 0 → ClI SR mX11_seekRests [.ref 0, .int a1] (wXX11_anew w) (fun x2 w1 => w1.2.2 = RM ∧ Q (some (.int (wi w1 0 45))) w1)) ∧ (¬ ((vXX11_why (wi (wXX11_anew w) 0 15) (vXX11_in a1 0 9)) = 0) → Q (some (.int (vXX11_no (vXX11_why (wi (wXX11_anew w) 0 15) (vXX11_in a1 0 9))))) (wXX11_no (vXX11_why (wi (wXX11_anew w) 0 15) (vXX11_in a1 0 9)) (wXX11_anew w))))) : Cl SR mX11_rest [.ref 0, .int a1] w Q := by
  refine cl_of (by decide) (Nat.le_of_ble_eq_true rfl) ?_
  show Go SR mX11_rest 0 [(0, .ref 0), (1, .int a1)] [] w Q
  refine g_aload_n (pc := 0) dX11_rest_0 rfl 0 rfl ?_
  refine g_callV (pc := 1) (M' := mX11_anew) (n := 0) (a := 0) (as := []) (st := []) dX11_rest_1 rfl kX11_147 vX11_anew (Nat.le_of_ble_eq_true rfl) rfl qX11 rfl rfl (Nat.le_of_ble_eq_true rfl) ?_
  refine zX11_anew (w := w) (hR := hR) ?_
  show Go SR mX11_rest 4 [(0, .ref 0), (1, .int a1)] [] (wXX11_anew w) Q
  refine g_aload_n (pc := 4) dX11_rest_4 rfl 0 rfl ?_
  refine g_aload_n (pc := 5) dX11_rest_5 rfl 0 rfl ?_
  refine g_getZ (pc := 6) (a := 0) dX11_rest_6 rfl fX11_163 rfl ?_
  refine g_iload_n (pc := 9) dX11_rest_9 rfl 1 rfl ?_
  refine g_iconst (pc := 10) dX11_rest_10 c_0 ?_
  refine g_bipush (pc := 11) (v := 9) dX11_rest_11 (by decide) ?_
  refine g_callS (pc := 13) (M' := mX11_in) (n := 3) (as := [.int a1, .int 0, .int 9]) (st := [.int (wi (wXX11_anew w) 0 15), .ref 0]) dX11_rest_13 rfl kX11_143 sX11_in (Nat.le_of_ble_eq_true rfl) rfl rfl (Nat.le_of_ble_eq_true rfl) ?_
  refine zX11_in (a1 := a1) (a2 := 0) (a3 := 9) (w := wXX11_anew w) (hR := hR) ?_
  show Go SR mX11_rest 16 [(0, .ref 0), (1, .int a1)] [.int (vXX11_in a1 0 9), .int (wi (wXX11_anew w) 0 15), .ref 0] (wXX11_anew w) Q
  refine g_callV (pc := 16) (M' := mX11_why) (n := 2) (a := 0) (as := [.int (wi (wXX11_anew w) 0 15), .int (vXX11_in a1 0 9)]) (st := []) dX11_rest_16 rfl kX11_297 vX11_why (Nat.le_of_ble_eq_true rfl) rfl qX11 rfl rfl (Nat.le_of_ble_eq_true rfl) ?_
  refine zX11_why (a1 := (wi (wXX11_anew w) 0 15)) (a2 := (vXX11_in a1 0 9)) (w := wXX11_anew w) (hR := hR) ?_
  show Go SR mX11_rest 19 [(0, .ref 0), (1, .int a1)] [.int (vXX11_why (wi (wXX11_anew w) 0 15) (vXX11_in a1 0 9))] (wXX11_anew w) Q
  refine g_istore_n (pc := 19) (lv2 := [(0, .ref 0), (1, .int a1), (2, .int (vXX11_why (wi (wXX11_anew w) 0 15) (vXX11_in a1 0 9)))]) dX11_rest_19 rfl (Nat.le_of_ble_eq_true rfl) rfl ?_
  refine g_iload_n (pc := 20) dX11_rest_20 rfl 2 rfl ?_
  refine g_if_eq (pc := 21) (tgt := 30) dX11_rest_21 (by decide) (fun q => ?_) (fun q => ?_)
  · have h := h.1 q
    refine g_aload_n (pc := 30) dX11_rest_30 rfl 0 rfl ?_
    refine g_iload_n (pc := 31) dX11_rest_31 rfl 1 rfl ?_
    refine g_callV (pc := 32) (M' := mX11_seekRests) (n := 1) (a := 0) (as := [.int a1]) (st := []) dX11_rest_32 rfl kX11_387 vX11_seekRests (Nat.le_of_ble_eq_true rfl) rfl qX11 rfl rfl (Nat.le_of_ble_eq_true rfl) ?_
    refine cl_mono (fun r w1 hr => ?_) h
    obtain ⟨x2, rfl, hw1, h⟩ := hr
    show Go SR mX11_rest 35 [(0, .ref 0), (1, .int a1), (2, .int (vXX11_why (wi (wXX11_anew w) 0 15) (vXX11_in a1 0 9)))] [.int x2] w1 Q
    refine g_pop (pc := 35) dX11_rest_35 rfl ?_
    refine g_aload_n (pc := 36) dX11_rest_36 rfl 0 rfl ?_
    refine g_getI (pc := 37) (a := 0) dX11_rest_37 rfl fX11_384 rfl ?_
    exact g_iret (pc := 40) dX11_rest_40 rfl h
  · have h := h.2 q
    refine g_aload_n (pc := 24) dX11_rest_24 rfl 0 rfl ?_
    refine g_iload_n (pc := 25) dX11_rest_25 rfl 2 rfl ?_
    refine g_callV (pc := 26) (M' := mX11_no) (n := 1) (a := 0) (as := [.int (vXX11_why (wi (wXX11_anew w) 0 15) (vXX11_in a1 0 9))]) (st := []) dX11_rest_26 rfl kX11_150 vX11_no (Nat.le_of_ble_eq_true rfl) rfl qX11 rfl rfl (Nat.le_of_ble_eq_true rfl) ?_
    refine zX11_no (a1 := (vXX11_why (wi (wXX11_anew w) 0 15) (vXX11_in a1 0 9))) (w := wXX11_anew w) (hR := hR) ?_
    show Go SR mX11_rest 29 [(0, .ref 0), (1, .int a1), (2, .int (vXX11_why (wi (wXX11_anew w) 0 15) (vXX11_in a1 0 9)))] [.int (vXX11_no (vXX11_why (wi (wXX11_anew w) 0 15) (vXX11_in a1 0 9)))] (wXX11_no (vXX11_why (wi (wXX11_anew w) 0 15) (vXX11_in a1 0 9)) (wXX11_anew w)) Q
    exact g_iret (pc := 29) dX11_rest_29 rfl h
set_option maxHeartbeats 4000000 in
set_option maxRecDepth 100000 in
theorem TX11_trySlips (a1 : Int32) (a2 : Int32) (a3 : Int32) (a4 : Int32) (w : Wd) (hR : w.2.2 = RM) (Q : Option Value → Wd → Prop) (h : Go SR mX11_trySlips 23 [(0, .ref 0), (1, .int a1), (2, .int a2), (3, .int a3), (4, .int a4), (5, .int 0)] [] (sl (sl (sl (sl w 0 46 0) 0 47 0) 0 48 0) 0 49 0) Q) : Cl SR mX11_trySlips [.ref 0, .int a1, .int a2, .int a3, .int a4] w Q := by
  refine cl_of (by decide) (Nat.le_of_ble_eq_true rfl) ?_
  show Go SR mX11_trySlips 0 [(0, .ref 0), (1, .int a1), (2, .int a2), (3, .int a3), (4, .int a4)] [] w Q
  refine g_aload_n (pc := 0) dX11_trySlips_0 rfl 0 rfl ?_
  refine g_lconst (pc := 1) (v := 0) dX11_trySlips_1 (by decide) ?_
  refine g_putL (pc := 2) dX11_trySlips_2 rfl fX11_390 pX11_46 rfl ?_
  refine g_aload_n (pc := 5) dX11_trySlips_5 rfl 0 rfl ?_
  refine g_lconst (pc := 6) (v := 0) dX11_trySlips_6 (by decide) ?_
  refine g_putL (pc := 7) dX11_trySlips_7 rfl fX11_394 pX11_47 rfl ?_
  refine g_aload_n (pc := 10) dX11_trySlips_10 rfl 0 rfl ?_
  refine g_lconst (pc := 11) (v := 0) dX11_trySlips_11 (by decide) ?_
  refine g_putL (pc := 12) dX11_trySlips_12 rfl fX11_397 pX11_48 rfl ?_
  refine g_aload_n (pc := 15) dX11_trySlips_15 rfl 0 rfl ?_
  refine g_lconst (pc := 16) (v := 0) dX11_trySlips_16 (by decide) ?_
  refine g_putL (pc := 17) dX11_trySlips_17 rfl fX11_400 pX11_49 rfl ?_
  refine g_iconst (pc := 20) dX11_trySlips_20 c_0 ?_
  refine g_istore (pc := 21) (lv2 := [(0, .ref 0), (1, .int a1), (2, .int a2), (3, .int a3), (4, .int a4), (5, .int 0)]) dX11_trySlips_21 (Nat.le_of_ble_eq_true rfl) rfl ?_
  exact h
set_option maxHeartbeats 4000000 in
set_option maxRecDepth 100000 in
theorem BX11_trySlips_23  (l1 : Int32) (l2 : Int32) (l3 : Int32) (l4 : Int32) (l5 : Int32) (w : Wd) (hR : w.2.2 = RM) (Q : Option Value → Wd → Prop) (h : (((1 <<< (l2 &&& 31)) ≤ l5 → Q none w) ∧ (¬ ((1 <<< (l2 &&& 31)) ≤ l5) → Go SR mX11_trySlips 37 [(0, .ref 0), (1, .int l1), (2, .int l2), (3, .int l3), (4, .int l4), (5, .int l5), (6, .long 1), (8, .int 0)] [] w Q))) : Go SR mX11_trySlips 23 [(0, .ref 0), (1, .int l1), (2, .int l2), (3, .int l3), (4, .int l4), (5, .int l5)] [] w Q := by
  refine g_iload (pc := 23) dX11_trySlips_23 5 rfl ?_
  refine g_iconst (pc := 25) dX11_trySlips_25 c_1 ?_
  refine g_iload_n (pc := 26) dX11_trySlips_26 rfl 2 rfl ?_
  refine g_ishl (pc := 27) dX11_trySlips_27 ?_
  refine g_icmp_ge (pc := 28) (tgt := 174) dX11_trySlips_28 (by decide) (fun q => ?_) (fun q => ?_)
  · have h := h.1 q
    exact g_vret (pc := 174) dX11_trySlips_174 rfl h
  · have h := h.2 q
    refine g_lconst (pc := 31) (v := 1) dX11_trySlips_31 (by decide) ?_
    refine g_lstore (pc := 32) (lv2 := [(0, .ref 0), (1, .int l1), (2, .int l2), (3, .int l3), (4, .int l4), (5, .int l5), (6, .long 1)]) dX11_trySlips_32 (Nat.le_of_ble_eq_true rfl) rfl ?_
    refine g_iconst (pc := 34) dX11_trySlips_34 c_0 ?_
    refine g_istore (pc := 35) (lv2 := [(0, .ref 0), (1, .int l1), (2, .int l2), (3, .int l3), (4, .int l4), (5, .int l5), (6, .long 1), (8, .int 0)]) dX11_trySlips_35 (Nat.le_of_ble_eq_true rfl) rfl ?_
    exact h
set_option maxHeartbeats 4000000 in
set_option maxRecDepth 100000 in
theorem BX11_trySlips_37  (l1 : Int32) (l2 : Int32) (l3 : Int32) (l4 : Int32) (l5 : Int32) (l6 : Int64) (l8 : Int32) (w : Wd) (hR : w.2.2 = RM) (Q : Option Value → Wd → Prop) (h : ((l2 ≤ l8 → ClV SR mX11_dance [.ref 0, .int l1, .int l2, .int 0, .int l5] w (fun w1 => w1.2.2 = RM ∧ ClI SR mX11_layParts [.ref 0] (sl (sl (sl w1 0 46 ((wl w1 0 46) + l6)) 0 47 ((wl (sl w1 0 46 ((wl w1 0 46) + l6)) 0 47) + (if (vXX11_endOf l3 (sl w1 0 46 ((wl w1 0 46) + l6))) = l4 then l6 else 0 : Int64))) 0 48 ((wl (sl (sl w1 0 46 ((wl w1 0 46) + l6)) 0 47 ((wl (sl w1 0 46 ((wl w1 0 46) + l6)) 0 47) + (if (vXX11_endOf l3 (sl w1 0 46 ((wl w1 0 46) + l6))) = l4 then l6 else 0 : Int64))) 0 48) + (if (vXX11_isNothing (sl (sl w1 0 46 ((wl w1 0 46) + l6)) 0 47 ((wl (sl w1 0 46 ((wl w1 0 46) + l6)) 0 47) + (if (vXX11_endOf l3 (sl w1 0 46 ((wl w1 0 46) + l6))) = l4 then l6 else 0 : Int64)))) = 0 then 0 else l6 : Int64))) (fun x3 w2 => w2.2.2 = RM ∧ Go SR mX11_trySlips 23 [(0, .ref 0), (1, .int l1), (2, .int l2), (3, .int l3), (4, .int l4), (5, .int (l5 + 1))] [] (sl w2 0 49 ((wl (sl (sl (sl w1 0 46 ((wl w1 0 46) + l6)) 0 47 ((wl (sl w1 0 46 ((wl w1 0 46) + l6)) 0 47) + (if (vXX11_endOf l3 (sl w1 0 46 ((wl w1 0 46) + l6))) = l4 then l6 else 0 : Int64))) 0 48 ((wl (sl (sl w1 0 46 ((wl w1 0 46) + l6)) 0 47 ((wl (sl w1 0 46 ((wl w1 0 46) + l6)) 0 47) + (if (vXX11_endOf l3 (sl w1 0 46 ((wl w1 0 46) + l6))) = l4 then l6 else 0 : Int64))) 0 48) + (if (vXX11_isNothing (sl (sl w1 0 46 ((wl w1 0 46) + l6)) 0 47 ((wl (sl w1 0 46 ((wl w1 0 46) + l6)) 0 47) + (if (vXX11_endOf l3 (sl w1 0 46 ((wl w1 0 46) + l6))) = l4 then l6 else 0 : Int64)))) = 0 then 0 else l6 : Int64))) 0 49) + (l6 * x3.toInt64))) Q))) ∧ (¬ (l2 ≤ l8) → (((vXX11_hasBit l5 l8) = 0 → Go SR mX11_trySlips 37 [(0, .ref 0), (1, .int l1), (2, .int l2), (3, .int l3), (4, .int l4), (5, .int l5), (6, .long (l6 * ((100 - (wi w 3 0)).toInt64))), (8, .int (l8 + 1))] [] w Q) ∧ (¬ ((vXX11_hasBit l5 l8) = 0) → Go SR mX11_trySlips 37 [(0, .ref 0), (1, .int l1), (2, .int l2), (3, .int l3), (4, .int l4), (5, .int l5), (6, .long (l6 * ((wi w 3 0).toInt64))), (8, .int (l8 + 1))] [] w Q))))) : Go SR mX11_trySlips 37 [(0, .ref 0), (1, .int l1), (2, .int l2), (3, .int l3), (4, .int l4), (5, .int l5), (6, .long l6), (8, .int l8)] [] w Q := by
  refine g_iload (pc := 37) dX11_trySlips_37 7 rfl ?_
  refine g_iload_n (pc := 39) dX11_trySlips_39 rfl 2 rfl ?_
  refine g_icmp_ge (pc := 40) (tgt := 84) dX11_trySlips_40 (by decide) (fun q => ?_) (fun q => ?_)
  · have h := h.1 q
    refine g_aload_n (pc := 84) dX11_trySlips_84 rfl 0 rfl ?_
    refine g_iload_n (pc := 85) dX11_trySlips_85 rfl 1 rfl ?_
    refine g_iload_n (pc := 86) dX11_trySlips_86 rfl 2 rfl ?_
    refine g_iconst (pc := 87) dX11_trySlips_87 c_0 ?_
    refine g_iload (pc := 88) dX11_trySlips_88 5 rfl ?_
    refine g_callV (pc := 90) (M' := mX11_dance) (n := 4) (a := 0) (as := [.int l1, .int l2, .int 0, .int l5]) (st := []) dX11_trySlips_90 rfl kX11_166 vX11_dance (Nat.le_of_ble_eq_true rfl) rfl qX11 rfl rfl (Nat.le_of_ble_eq_true rfl) ?_
    refine cl_mono (fun r w1 hr => ?_) h
    obtain ⟨rfl, hw1, h⟩ := hr
    show Go SR mX11_trySlips 93 [(0, .ref 0), (1, .int l1), (2, .int l2), (3, .int l3), (4, .int l4), (5, .int l5), (6, .long l6), (8, .int l8)] [] w1 Q
    refine g_aload_n (pc := 93) dX11_trySlips_93 rfl 0 rfl ?_
    refine g_dup (pc := 94) dX11_trySlips_94 rfl ?_
    refine g_getL (pc := 95) (a := 0) dX11_trySlips_95 rfl fX11_390 rfl ?_
    refine g_lload (pc := 98) dX11_trySlips_98 6 rfl ?_
    refine g_ladd (pc := 100) dX11_trySlips_100 ?_
    refine g_putL (pc := 101) dX11_trySlips_101 rfl fX11_390 pX11_46 rfl ?_
    refine g_aload_n (pc := 104) dX11_trySlips_104 rfl 0 rfl ?_
    refine g_dup (pc := 105) dX11_trySlips_105 rfl ?_
    refine g_getL (pc := 106) (a := 0) dX11_trySlips_106 rfl fX11_394 rfl ?_
    refine g_aload_n (pc := 109) dX11_trySlips_109 rfl 0 rfl ?_
    refine g_iload_n (pc := 110) dX11_trySlips_110 rfl 3 rfl ?_
    refine g_callV (pc := 111) (M' := mX11_endOf) (n := 1) (a := 0) (as := [.int l3]) (st := [.long (wl (sl w1 0 46 ((wl w1 0 46) + l6)) 0 47), .ref 0]) dX11_trySlips_111 rfl kX11_248 vX11_endOf (Nat.le_of_ble_eq_true rfl) rfl qX11 rfl rfl (Nat.le_of_ble_eq_true rfl) ?_
    refine zX11_endOf (a1 := l3) (w := sl w1 0 46 ((wl w1 0 46) + l6)) (hR := hw1) ?_
    show Go SR mX11_trySlips 114 [(0, .ref 0), (1, .int l1), (2, .int l2), (3, .int l3), (4, .int l4), (5, .int l5), (6, .long l6), (8, .int l8)] [.int (vXX11_endOf l3 (sl w1 0 46 ((wl w1 0 46) + l6))), .long (wl (sl w1 0 46 ((wl w1 0 46) + l6)) 0 47), .ref 0] (sl w1 0 46 ((wl w1 0 46) + l6)) Q
    refine g_iload (pc := 114) dX11_trySlips_114 4 rfl ?_
    have hJ : Go SR mX11_trySlips 125 [(0, .ref 0), (1, .int l1), (2, .int l2), (3, .int l3), (4, .int l4), (5, .int l5), (6, .long l6), (8, .int l8)] [.long (if (vXX11_endOf l3 (sl w1 0 46 ((wl w1 0 46) + l6))) = l4 then l6 else 0 : Int64), .long (wl (sl w1 0 46 ((wl w1 0 46) + l6)) 0 47), .ref 0] (sl w1 0 46 ((wl w1 0 46) + l6)) Q := by
      refine g_ladd (pc := 125) dX11_trySlips_125 ?_
      refine g_putL (pc := 126) dX11_trySlips_126 rfl fX11_394 pX11_47 rfl ?_
      refine g_aload_n (pc := 129) dX11_trySlips_129 rfl 0 rfl ?_
      refine g_dup (pc := 130) dX11_trySlips_130 rfl ?_
      refine g_getL (pc := 131) (a := 0) dX11_trySlips_131 rfl fX11_397 rfl ?_
      refine g_aload_n (pc := 134) dX11_trySlips_134 rfl 0 rfl ?_
      refine g_callV (pc := 135) (M' := mX11_isNothing) (n := 0) (a := 0) (as := []) (st := [.long (wl (sl (sl w1 0 46 ((wl w1 0 46) + l6)) 0 47 ((wl (sl w1 0 46 ((wl w1 0 46) + l6)) 0 47) + (if (vXX11_endOf l3 (sl w1 0 46 ((wl w1 0 46) + l6))) = l4 then l6 else 0 : Int64))) 0 48), .ref 0]) dX11_trySlips_135 rfl kX11_263 vX11_isNothing (Nat.le_of_ble_eq_true rfl) rfl qX11 rfl rfl (Nat.le_of_ble_eq_true rfl) ?_
      refine zX11_isNothing (w := sl (sl w1 0 46 ((wl w1 0 46) + l6)) 0 47 ((wl (sl w1 0 46 ((wl w1 0 46) + l6)) 0 47) + (if (vXX11_endOf l3 (sl w1 0 46 ((wl w1 0 46) + l6))) = l4 then l6 else 0 : Int64))) (hR := hw1) ?_
      show Go SR mX11_trySlips 138 [(0, .ref 0), (1, .int l1), (2, .int l2), (3, .int l3), (4, .int l4), (5, .int l5), (6, .long l6), (8, .int l8)] [.int (vXX11_isNothing (sl (sl w1 0 46 ((wl w1 0 46) + l6)) 0 47 ((wl (sl w1 0 46 ((wl w1 0 46) + l6)) 0 47) + (if (vXX11_endOf l3 (sl w1 0 46 ((wl w1 0 46) + l6))) = l4 then l6 else 0 : Int64)))), .long (wl (sl (sl w1 0 46 ((wl w1 0 46) + l6)) 0 47 ((wl (sl w1 0 46 ((wl w1 0 46) + l6)) 0 47) + (if (vXX11_endOf l3 (sl w1 0 46 ((wl w1 0 46) + l6))) = l4 then l6 else 0 : Int64))) 0 48), .ref 0] (sl (sl w1 0 46 ((wl w1 0 46) + l6)) 0 47 ((wl (sl w1 0 46 ((wl w1 0 46) + l6)) 0 47) + (if (vXX11_endOf l3 (sl w1 0 46 ((wl w1 0 46) + l6))) = l4 then l6 else 0 : Int64))) Q
      have hJ : Go SR mX11_trySlips 147 [(0, .ref 0), (1, .int l1), (2, .int l2), (3, .int l3), (4, .int l4), (5, .int l5), (6, .long l6), (8, .int l8)] [.long (if (vXX11_isNothing (sl (sl w1 0 46 ((wl w1 0 46) + l6)) 0 47 ((wl (sl w1 0 46 ((wl w1 0 46) + l6)) 0 47) + (if (vXX11_endOf l3 (sl w1 0 46 ((wl w1 0 46) + l6))) = l4 then l6 else 0 : Int64)))) = 0 then 0 else l6 : Int64), .long (wl (sl (sl w1 0 46 ((wl w1 0 46) + l6)) 0 47 ((wl (sl w1 0 46 ((wl w1 0 46) + l6)) 0 47) + (if (vXX11_endOf l3 (sl w1 0 46 ((wl w1 0 46) + l6))) = l4 then l6 else 0 : Int64))) 0 48), .ref 0] (sl (sl w1 0 46 ((wl w1 0 46) + l6)) 0 47 ((wl (sl w1 0 46 ((wl w1 0 46) + l6)) 0 47) + (if (vXX11_endOf l3 (sl w1 0 46 ((wl w1 0 46) + l6))) = l4 then l6 else 0 : Int64))) Q := by
        refine g_ladd (pc := 147) dX11_trySlips_147 ?_
        refine g_putL (pc := 148) dX11_trySlips_148 rfl fX11_397 pX11_48 rfl ?_
        refine g_aload_n (pc := 151) dX11_trySlips_151 rfl 0 rfl ?_
        refine g_dup (pc := 152) dX11_trySlips_152 rfl ?_
        refine g_getL (pc := 153) (a := 0) dX11_trySlips_153 rfl fX11_400 rfl ?_
        refine g_lload (pc := 156) dX11_trySlips_156 6 rfl ?_
        refine g_aload_n (pc := 158) dX11_trySlips_158 rfl 0 rfl ?_
        refine g_callV (pc := 159) (M' := mX11_layParts) (n := 0) (a := 0) (as := []) (st := [.long l6, .long (wl (sl (sl (sl w1 0 46 ((wl w1 0 46) + l6)) 0 47 ((wl (sl w1 0 46 ((wl w1 0 46) + l6)) 0 47) + (if (vXX11_endOf l3 (sl w1 0 46 ((wl w1 0 46) + l6))) = l4 then l6 else 0 : Int64))) 0 48 ((wl (sl (sl w1 0 46 ((wl w1 0 46) + l6)) 0 47 ((wl (sl w1 0 46 ((wl w1 0 46) + l6)) 0 47) + (if (vXX11_endOf l3 (sl w1 0 46 ((wl w1 0 46) + l6))) = l4 then l6 else 0 : Int64))) 0 48) + (if (vXX11_isNothing (sl (sl w1 0 46 ((wl w1 0 46) + l6)) 0 47 ((wl (sl w1 0 46 ((wl w1 0 46) + l6)) 0 47) + (if (vXX11_endOf l3 (sl w1 0 46 ((wl w1 0 46) + l6))) = l4 then l6 else 0 : Int64)))) = 0 then 0 else l6 : Int64))) 0 49), .ref 0]) dX11_trySlips_159 rfl kX11_251 vX11_layParts (Nat.le_of_ble_eq_true rfl) rfl qX11 rfl rfl (Nat.le_of_ble_eq_true rfl) ?_
        refine cl_mono (fun r w2 hr => ?_) h
        obtain ⟨x3, rfl, hw2, h⟩ := hr
        show Go SR mX11_trySlips 162 [(0, .ref 0), (1, .int l1), (2, .int l2), (3, .int l3), (4, .int l4), (5, .int l5), (6, .long l6), (8, .int l8)] [.int x3, .long l6, .long (wl (sl (sl (sl w1 0 46 ((wl w1 0 46) + l6)) 0 47 ((wl (sl w1 0 46 ((wl w1 0 46) + l6)) 0 47) + (if (vXX11_endOf l3 (sl w1 0 46 ((wl w1 0 46) + l6))) = l4 then l6 else 0 : Int64))) 0 48 ((wl (sl (sl w1 0 46 ((wl w1 0 46) + l6)) 0 47 ((wl (sl w1 0 46 ((wl w1 0 46) + l6)) 0 47) + (if (vXX11_endOf l3 (sl w1 0 46 ((wl w1 0 46) + l6))) = l4 then l6 else 0 : Int64))) 0 48) + (if (vXX11_isNothing (sl (sl w1 0 46 ((wl w1 0 46) + l6)) 0 47 ((wl (sl w1 0 46 ((wl w1 0 46) + l6)) 0 47) + (if (vXX11_endOf l3 (sl w1 0 46 ((wl w1 0 46) + l6))) = l4 then l6 else 0 : Int64)))) = 0 then 0 else l6 : Int64))) 0 49), .ref 0] w2 Q
        refine g_i2l (pc := 162) dX11_trySlips_162 ?_
        refine g_lmul (pc := 163) dX11_trySlips_163 ?_
        refine g_ladd (pc := 164) dX11_trySlips_164 ?_
        refine g_putL (pc := 165) dX11_trySlips_165 rfl fX11_400 pX11_49 rfl ?_
        refine g_iinc (pc := 168) (v := l5 + 1) (lv2 := [(0, .ref 0), (1, .int l1), (2, .int l2), (3, .int l3), (4, .int l4), (5, .int (l5 + 1)), (6, .long l6), (8, .int l8)]) dX11_trySlips_168 5 rfl (Nat.le_of_ble_eq_true rfl) rfl rfl ?_
        refine g_goto (pc := 171) (tgt := 23) dX11_trySlips_171 (by decide) ?_
        refine g_sub (lv2 := [(0, .ref 0), (1, .int l1), (2, .int l2), (3, .int l3), (4, .int l4), (5, .int (l5 + 1))]) [0, 1, 2, 3, 4, 5] rfl ?_
        exact h
      refine g_if_eq (pc := 138) (tgt := 146) dX11_trySlips_138 (by decide) (fun q138 => ?_) (fun q138 => ?_)
      · refine g_lconst (pc := 146) (v := 0) dX11_trySlips_146 (by decide) ?_
        first | (exfalso; contradiction) | exact cast (by simp only [if_pos q138]) hJ
      · refine g_lload (pc := 141) dX11_trySlips_141 6 rfl ?_
        refine g_goto (pc := 143) (tgt := 147) dX11_trySlips_143 (by decide) ?_
        first | (exfalso; contradiction) | exact cast (by simp only [if_neg q138]) hJ
    refine g_icmp_ne (pc := 116) (tgt := 124) dX11_trySlips_116 (by decide) (fun q116 => ?_) (fun q116 => ?_)
    · refine g_lconst (pc := 124) (v := 0) dX11_trySlips_124 (by decide) ?_
      first | (exfalso; contradiction) | exact cast (by simp only [if_neg q116]) hJ
    · refine g_lload (pc := 119) dX11_trySlips_119 6 rfl ?_
      refine g_goto (pc := 121) (tgt := 125) dX11_trySlips_121 (by decide) ?_
      first | (exfalso; contradiction) | exact cast (by simp only [if_pos q116]) hJ
  · have h := h.2 q
    refine g_lload (pc := 43) dX11_trySlips_43 6 rfl ?_
    refine g_iload (pc := 45) dX11_trySlips_45 5 rfl ?_
    refine g_iload (pc := 47) dX11_trySlips_47 7 rfl ?_
    refine g_callS (pc := 49) (M' := mX11_hasBit) (n := 2) (as := [.int l5, .int l8]) (st := [.long l6]) dX11_trySlips_49 rfl kX11_232 sX11_hasBit (Nat.le_of_ble_eq_true rfl) rfl rfl (Nat.le_of_ble_eq_true rfl) ?_
    refine zX11_hasBit (a1 := l5) (a2 := l8) (w := w) (hR := hR) ?_
    show Go SR mX11_trySlips 52 [(0, .ref 0), (1, .int l1), (2, .int l2), (3, .int l3), (4, .int l4), (5, .int l5), (6, .long l6), (8, .int l8)] [.int (vXX11_hasBit l5 l8), .long l6] w Q
    refine g_if_eq (pc := 52) (tgt := 65) dX11_trySlips_52 (by decide) (fun q => ?_) (fun q => ?_)
    · have h := h.1 q
      refine g_bipush (pc := 65) (v := 100) dX11_trySlips_65 (by decide) ?_
      refine g_aload_n (pc := 67) dX11_trySlips_67 rfl 0 rfl ?_
      refine g_getR (pc := 68) (a := 0) (b := 3) dX11_trySlips_68 rfl fX11_20 rfl (rm_16 hR) ?_
      refine g_iconst (pc := 71) dX11_trySlips_71 c_0 ?_
      refine g_iald (pc := 72) (a := 3) (j := 0) dX11_trySlips_72 rfl (vin (by decide) (by decide)) (by decide) ?_
      refine g_isub (pc := 73) dX11_trySlips_73 ?_
      refine g_i2l (pc := 74) dX11_trySlips_74 ?_
      refine g_lmul (pc := 75) dX11_trySlips_75 ?_
      refine g_lstore (pc := 76) (lv2 := [(0, .ref 0), (1, .int l1), (2, .int l2), (3, .int l3), (4, .int l4), (5, .int l5), (6, .long (l6 * ((100 - (wi w 3 0)).toInt64))), (8, .int l8)]) dX11_trySlips_76 (Nat.le_of_ble_eq_true rfl) rfl ?_
      refine g_iinc (pc := 78) (v := l8 + 1) (lv2 := [(0, .ref 0), (1, .int l1), (2, .int l2), (3, .int l3), (4, .int l4), (5, .int l5), (6, .long (l6 * ((100 - (wi w 3 0)).toInt64))), (8, .int (l8 + 1))]) dX11_trySlips_78 7 rfl (Nat.le_of_ble_eq_true rfl) rfl rfl ?_
      refine g_goto (pc := 81) (tgt := 37) dX11_trySlips_81 (by decide) ?_
      exact h
    · have h := h.2 q
      refine g_aload_n (pc := 55) dX11_trySlips_55 rfl 0 rfl ?_
      refine g_getR (pc := 56) (a := 0) (b := 3) dX11_trySlips_56 rfl fX11_20 rfl (rm_16 hR) ?_
      refine g_iconst (pc := 59) dX11_trySlips_59 c_0 ?_
      refine g_iald (pc := 60) (a := 3) (j := 0) dX11_trySlips_60 rfl (vin (by decide) (by decide)) (by decide) ?_
      refine g_i2l (pc := 61) dX11_trySlips_61 ?_
      refine g_goto (pc := 62) (tgt := 75) dX11_trySlips_62 (by decide) ?_
      refine g_lmul (pc := 75) dX11_trySlips_75 ?_
      refine g_lstore (pc := 76) (lv2 := [(0, .ref 0), (1, .int l1), (2, .int l2), (3, .int l3), (4, .int l4), (5, .int l5), (6, .long (l6 * ((wi w 3 0).toInt64))), (8, .int l8)]) dX11_trySlips_76 (Nat.le_of_ble_eq_true rfl) rfl ?_
      refine g_iinc (pc := 78) (v := l8 + 1) (lv2 := [(0, .ref 0), (1, .int l1), (2, .int l2), (3, .int l3), (4, .int l4), (5, .int l5), (6, .long (l6 * ((wi w 3 0).toInt64))), (8, .int (l8 + 1))]) dX11_trySlips_78 7 rfl (Nat.le_of_ble_eq_true rfl) rfl rfl ?_
      refine g_goto (pc := 81) (tgt := 37) dX11_trySlips_81 (by decide) ?_
      exact h
