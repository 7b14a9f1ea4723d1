set_option maxHeartbeats 4000000 in
set_option maxRecDepth 100000 in
theorem TX11_isDance (a1 : Int32) (w : Wd) (hR : w.2.2 = RM) (Q : Option Value → Wd → Prop) (h : (((wi w 0 15) = 0 → Q (some (.int 0)) w) ∧ (¬ ((wi w 0 15) = 0) → Q (some (.int (if (vXX11_in a1 0 ((wi w 3 1) - 1)) = 0 then 0 else 1 : Int32))) w))) : Cl SR mX11_isDance [.ref 0, .int a1] w Q := by
  refine cl_of (by decide) (Nat.le_of_ble_eq_true rfl) ?_
  show Go SR mX11_isDance 0 [(0, .ref 0), (1, .int a1)] [] w Q
  refine g_aload_n (pc := 0) dX11_isDance_0 rfl 0 rfl ?_
  refine g_getZ (pc := 1) (a := 0) dX11_isDance_1 rfl fX11_163 rfl ?_
  refine g_if_eq (pc := 4) (tgt := 27) dX11_isDance_4 (by decide) (fun q => ?_) (fun q => ?_)
  · have h := h.1 q
    refine g_iconst (pc := 27) dX11_isDance_27 c_0 ?_
    exact g_bret (pc := 28) dX11_isDance_28 rfl (Or.inl rfl) h
  · have h := h.2 q
    refine g_iload_n (pc := 7) dX11_isDance_7 rfl 1 rfl ?_
    refine g_iconst (pc := 8) dX11_isDance_8 c_0 ?_
    refine g_aload_n (pc := 9) dX11_isDance_9 rfl 0 rfl ?_
    refine g_getR (pc := 10) (a := 0) (b := 3) dX11_isDance_10 rfl fX11_20 rfl (rm_16 hR) ?_
    refine g_iconst (pc := 13) dX11_isDance_13 c_1 ?_
    refine g_iald (pc := 14) (a := 3) (j := 1) dX11_isDance_14 rfl (vin (by decide) (by decide)) (by decide) ?_
    refine g_iconst (pc := 15) dX11_isDance_15 c_1 ?_
    refine g_isub (pc := 16) dX11_isDance_16 ?_
    refine g_callS (pc := 17) (M' := mX11_in) (n := 3) (as := [.int a1, .int 0, .int ((wi w 3 1) - 1)]) (st := []) dX11_isDance_17 rfl kX11_143 sX11_in (Nat.le_of_ble_eq_true rfl) rfl rfl (Nat.le_of_ble_eq_true rfl) ?_
    refine zX11_in (a1 := a1) (a2 := 0) (a3 := ((wi w 3 1) - 1)) (w := w) (hR := hR) ?_
    show Go SR mX11_isDance 20 [(0, .ref 0), (1, .int a1)] [.int (vXX11_in a1 0 ((wi w 3 1) - 1))] w Q
    have hJ : Go SR mX11_isDance 28 [(0, .ref 0), (1, .int a1)] [.int (if (vXX11_in a1 0 ((wi w 3 1) - 1)) = 0 then 0 else 1 : Int32)] w Q := by
      exact g_bret (pc := 28) dX11_isDance_28 rfl (z_ite (Or.inl rfl) (Or.inr rfl)) h
    refine g_if_eq (pc := 20) (tgt := 27) dX11_isDance_20 (by decide) (fun q20 => ?_) (fun q20 => ?_)
    · refine g_iconst (pc := 27) dX11_isDance_27 c_0 ?_
      first | (exfalso; contradiction) | exact cast (by simp only [if_pos q20]) hJ
    · refine g_iconst (pc := 23) dX11_isDance_23 c_1 ?_
      refine g_goto (pc := 24) (tgt := 28) dX11_isDance_24 (by decide) ?_
      first | (exfalso; contradiction) | exact cast (by simp only [if_neg q20]) hJ
set_option maxHeartbeats 4000000 in
set_option maxRecDepth 100000 in
theorem TX11_look (a1 : Int32) (w : Wd) (hR : w.2.2 = RM) (Q : Option Value → Wd → Prop) (h : vp_in a1 10 ∧ vp_in (5 + a1) 10 ∧ Q none (si (si w 0 23 (wi w 5 a1.toNatClampNeg)) 0 24 (wi (si w 0 23 (wi w 5 a1.toNatClampNeg)) 5 ((5 + a1).toNatClampNeg)))) : Cl SR mX11_look [.ref 0, .int a1] w Q := by
  refine cl_of (by decide) (Nat.le_of_ble_eq_true rfl) ?_
  show Go SR mX11_look 0 [(0, .ref 0), (1, .int a1)] [] w Q
  refine g_aload_n (pc := 0) dX11_look_0 rfl 0 rfl ?_
  refine g_aload_n (pc := 1) dX11_look_1 rfl 0 rfl ?_
  refine g_getR (pc := 2) (a := 0) (b := 5) dX11_look_2 rfl fX11_26 rfl (rm_18 hR) ?_
  refine g_iload_n (pc := 5) dX11_look_5 rfl 1 rfl ?_
  obtain ⟨hi1, h⟩ := h
  refine g_iald (pc := 6) (a := 5) (j := a1.toNatClampNeg) dX11_look_6 rfl hi1 rfl ?_
  refine g_putI (pc := 7) dX11_look_7 rfl fX11_169 pX11_23 rfl ?_
  refine g_aload_n (pc := 10) dX11_look_10 rfl 0 rfl ?_
  refine g_aload_n (pc := 11) dX11_look_11 rfl 0 rfl ?_
  refine g_getR (pc := 12) (a := 0) (b := 5) dX11_look_12 rfl fX11_26 rfl (rm_18 hR) ?_
  refine g_iconst (pc := 15) dX11_look_15 c_5 ?_
  refine g_iload_n (pc := 16) dX11_look_16 rfl 1 rfl ?_
  refine g_iadd (pc := 17) dX11_look_17 ?_
  obtain ⟨hi2, h⟩ := h
  refine g_iald (pc := 18) (a := 5) (j := (5 + a1).toNatClampNeg) dX11_look_18 rfl hi2 rfl ?_
  refine g_putI (pc := 19) dX11_look_19 rfl fX11_172 pX11_24 rfl ?_
  exact g_vret (pc := 22) dX11_look_22 rfl h
set_option maxHeartbeats 4000000 in
set_option maxRecDepth 100000 in
theorem TX11_calls (a1 : Int32) (w : Wd) (hR : w.2.2 = RM) (Q : Option Value → Wd → Prop) (h : ClV SR mX11_figureOn [.ref 0, .int a1] w (fun w1 => w1.2.2 = RM ∧ (((vXX11_isHigh w1) = 0 → Q (some (.int 1)) w1) ∧ (¬ ((vXX11_isHigh w1) = 0) → Q (some (.int 0)) (si (si w1 0 23 (wi w 0 23)) 0 24 (wi w 0 24)))))) : Cl SR mX11_calls [.ref 0, .int a1] w Q := by
  refine cl_of (by decide) (Nat.le_of_ble_eq_true rfl) ?_
  show Go SR mX11_calls 0 [(0, .ref 0), (1, .int a1)] [] w Q
  refine g_aload_n (pc := 0) dX11_calls_0 rfl 0 rfl ?_
  refine g_getI (pc := 1) (a := 0) dX11_calls_1 rfl fX11_169 rfl ?_
  refine g_istore_n (pc := 4) (lv2 := [(0, .ref 0), (1, .int a1), (2, .int (wi w 0 23))]) dX11_calls_4 rfl (Nat.le_of_ble_eq_true rfl) rfl ?_
  refine g_aload_n (pc := 5) dX11_calls_5 rfl 0 rfl ?_
  refine g_getI (pc := 6) (a := 0) dX11_calls_6 rfl fX11_172 rfl ?_
  refine g_istore_n (pc := 9) (lv2 := [(0, .ref 0), (1, .int a1), (2, .int (wi w 0 23)), (3, .int (wi w 0 24))]) dX11_calls_9 rfl (Nat.le_of_ble_eq_true rfl) rfl ?_
  refine g_aload_n (pc := 10) dX11_calls_10 rfl 0 rfl ?_
  refine g_iload_n (pc := 11) dX11_calls_11 rfl 1 rfl ?_
  refine g_callV (pc := 12) (M' := mX11_figureOn) (n := 1) (a := 0) (as := [.int a1]) (st := []) dX11_calls_12 rfl kX11_225 vX11_figureOn (Nat.le_of_ble_eq_true rfl) rfl qX11 rfl rfl (Nat.le_of_ble_eq_true rfl) ?_
  refine cl_mono (fun r w1 hr => ?_) h
  obtain ⟨rfl, hw1, h⟩ := hr
  show Go SR mX11_calls 15 [(0, .ref 0), (1, .int a1), (2, .int (wi w 0 23)), (3, .int (wi w 0 24))] [] w1 Q
  refine g_aload_n (pc := 15) dX11_calls_15 rfl 0 rfl ?_
  refine g_callV (pc := 16) (M' := mX11_isHigh) (n := 0) (a := 0) (as := []) (st := []) dX11_calls_16 rfl kX11_228 vX11_isHigh (Nat.le_of_ble_eq_true rfl) rfl qX11 rfl rfl (Nat.le_of_ble_eq_true rfl) ?_
  refine zX11_isHigh (w := w1) (hR := hw1) ?_
  show Go SR mX11_calls 19 [(0, .ref 0), (1, .int a1), (2, .int (wi w 0 23)), (3, .int (wi w 0 24))] [.int (vXX11_isHigh w1)] w1 Q
  refine g_if_ne (pc := 19) (tgt := 24) dX11_calls_19 (by decide) (fun q => ?_) (fun q => ?_)
  · have h := h.2 q
    refine g_aload_n (pc := 24) dX11_calls_24 rfl 0 rfl ?_
    refine g_iload_n (pc := 25) dX11_calls_25 rfl 2 rfl ?_
    refine g_putI (pc := 26) dX11_calls_26 rfl fX11_169 pX11_23 rfl ?_
    refine g_aload_n (pc := 29) dX11_calls_29 rfl 0 rfl ?_
    refine g_iload_n (pc := 30) dX11_calls_30 rfl 3 rfl ?_
    refine g_putI (pc := 31) dX11_calls_31 rfl fX11_172 pX11_24 rfl ?_
    refine g_iconst (pc := 34) dX11_calls_34 c_0 ?_
    exact g_bret (pc := 35) dX11_calls_35 rfl (Or.inl rfl) h
  · have h := h.1 q
    refine g_iconst (pc := 22) dX11_calls_22 c_1 ?_
    exact g_bret (pc := 23) dX11_calls_23 rfl (Or.inr rfl) h
set_option maxHeartbeats 4000000 in
set_option maxRecDepth 100000 in
theorem TX11_layParts  (w : Wd) (hR : w.2.2 = RM) (Q : Option Value → Wd → Prop) (h : Go SR mX11_layParts 20 [(0, .ref 0), (1, .int (vXX11_away (wi w 0 23))), (2, .int (wi w 0 24)), (3, .int 0)] [] (si w 0 26 0) Q) : Cl SR mX11_layParts [.ref 0] w Q := by
  refine cl_of (by decide) (Nat.le_of_ble_eq_true rfl) ?_
  show Go SR mX11_layParts 0 [(0, .ref 0)] [] w Q
  refine g_aload_n (pc := 0) dX11_layParts_0 rfl 0 rfl ?_
  refine g_getI (pc := 1) (a := 0) dX11_layParts_1 rfl fX11_169 rfl ?_
  refine g_callS (pc := 4) (M' := mX11_away) (n := 1) (as := [.int (wi w 0 23)]) (st := []) dX11_layParts_4 rfl kX11_60 sX11_away (Nat.le_of_ble_eq_true rfl) rfl rfl (Nat.le_of_ble_eq_true rfl) ?_
  refine zX11_away (a1 := (wi w 0 23)) (w := w) (hR := hR) ?_
  show Go SR mX11_layParts 7 [(0, .ref 0)] [.int (vXX11_away (wi w 0 23))] w Q
  refine g_istore_n (pc := 7) (lv2 := [(0, .ref 0), (1, .int (vXX11_away (wi w 0 23)))]) dX11_layParts_7 rfl (Nat.le_of_ble_eq_true rfl) rfl ?_
  refine g_aload_n (pc := 8) dX11_layParts_8 rfl 0 rfl ?_
  refine g_getI (pc := 9) (a := 0) dX11_layParts_9 rfl fX11_172 rfl ?_
  refine g_istore_n (pc := 12) (lv2 := [(0, .ref 0), (1, .int (vXX11_away (wi w 0 23))), (2, .int (wi w 0 24))]) dX11_layParts_12 rfl (Nat.le_of_ble_eq_true rfl) rfl ?_
  refine g_iconst (pc := 13) dX11_layParts_13 c_0 ?_
  refine g_istore_n (pc := 14) (lv2 := [(0, .ref 0), (1, .int (vXX11_away (wi w 0 23))), (2, .int (wi w 0 24)), (3, .int 0)]) dX11_layParts_14 rfl (Nat.le_of_ble_eq_true rfl) rfl ?_
  refine g_aload_n (pc := 15) dX11_layParts_15 rfl 0 rfl ?_
  refine g_iconst (pc := 16) dX11_layParts_16 c_0 ?_
  refine g_putI (pc := 17) dX11_layParts_17 rfl fX11_236 pX11_26 rfl ?_
  exact h
set_option maxHeartbeats 4000000 in
set_option maxRecDepth 100000 in
theorem BX11_layParts_20  (l1 : Int32) (l2 : Int32) (l3 : Int32) (w : Wd) (hR : w.2.2 = RM) (Q : Option Value → Wd → Prop) (h : ((l2 ≤ 0 → Q (some (.int l3)) w) ∧ (¬ (l2 ≤ 0) → ¬ l2 = 0 ∧ vp_in (wi w 0 26) 40 ∧ ¬ l2 = 0 ∧ ¬ l2 = 0 ∧ Go SR mX11_layParts 20 [(0, .ref 0), (1, .int l2), (2, .int (l1 % l2)), (3, .int (l3 + (l1 / l2)))] [] (si (si w 8 ((wi w 0 26).toNatClampNeg) (l1 / l2)) 0 26 ((wi (si w 8 ((wi w 0 26).toNatClampNeg) (l1 / l2)) 0 26) + 1)) Q))) : Go SR mX11_layParts 20 [(0, .ref 0), (1, .int l1), (2, .int l2), (3, .int l3)] [] w Q := by
  refine g_iload_n (pc := 20) dX11_layParts_20 rfl 2 rfl ?_
  refine g_if_le (pc := 21) (tgt := 65) dX11_layParts_21 (by decide) (fun q => ?_) (fun q => ?_)
  · have h := h.1 q
    refine g_iload_n (pc := 65) dX11_layParts_65 rfl 3 rfl ?_
    exact g_iret (pc := 66) dX11_layParts_66 rfl h
  · have h := h.2 q
    refine g_aload_n (pc := 24) dX11_layParts_24 rfl 0 rfl ?_
    refine g_getR (pc := 25) (a := 0) (b := 8) dX11_layParts_25 rfl fX11_35 rfl (rm_25 hR) ?_
    refine g_aload_n (pc := 28) dX11_layParts_28 rfl 0 rfl ?_
    refine g_getI (pc := 29) (a := 0) dX11_layParts_29 rfl fX11_236 rfl ?_
    refine g_iload_n (pc := 32) dX11_layParts_32 rfl 1 rfl ?_
    refine g_iload_n (pc := 33) dX11_layParts_33 rfl 2 rfl ?_
    obtain ⟨hz1, h⟩ := h
    refine g_idiv (pc := 34) dX11_layParts_34 hz1 ?_
    obtain ⟨hi2, h⟩ := h
    refine g_iast (pc := 35) (a := 8) (j := (wi w 0 26).toNatClampNeg) dX11_layParts_35 rfl hi2 rfl ?_
    refine g_iload_n (pc := 36) dX11_layParts_36 rfl 3 rfl ?_
    refine g_iload_n (pc := 37) dX11_layParts_37 rfl 1 rfl ?_
    refine g_iload_n (pc := 38) dX11_layParts_38 rfl 2 rfl ?_
    obtain ⟨hz3, h⟩ := h
    refine g_idiv (pc := 39) dX11_layParts_39 hz3 ?_
    refine g_iadd (pc := 40) dX11_layParts_40 ?_
    refine g_istore_n (pc := 41) (lv2 := [(0, .ref 0), (1, .int l1), (2, .int l2), (3, .int (l3 + (l1 / l2)))]) dX11_layParts_41 rfl (Nat.le_of_ble_eq_true rfl) rfl ?_
    refine g_aload_n (pc := 42) dX11_layParts_42 rfl 0 rfl ?_
    refine g_dup (pc := 43) dX11_layParts_43 rfl ?_
    refine g_getI (pc := 44) (a := 0) dX11_layParts_44 rfl fX11_236 rfl ?_
    refine g_iconst (pc := 47) dX11_layParts_47 c_1 ?_
    refine g_iadd (pc := 48) dX11_layParts_48 ?_
    refine g_putI (pc := 49) dX11_layParts_49 rfl fX11_236 pX11_26 rfl ?_
    refine g_iload_n (pc := 52) dX11_layParts_52 rfl 1 rfl ?_
    refine g_iload_n (pc := 53) dX11_layParts_53 rfl 2 rfl ?_
    obtain ⟨hz4, h⟩ := h
    refine g_irem (pc := 54) dX11_layParts_54 hz4 ?_
    refine g_istore (pc := 55) (lv2 := [(0, .ref 0), (1, .int l1), (2, .int l2), (3, .int (l3 + (l1 / l2))), (4, .int (l1 % l2))]) dX11_layParts_55 (Nat.le_of_ble_eq_true rfl) rfl ?_
    refine g_iload_n (pc := 57) dX11_layParts_57 rfl 2 rfl ?_
    refine g_istore_n (pc := 58) (lv2 := [(0, .ref 0), (1, .int l2), (2, .int l2), (3, .int (l3 + (l1 / l2))), (4, .int (l1 % l2))]) dX11_layParts_58 rfl (Nat.le_of_ble_eq_true rfl) rfl ?_
    refine g_iload (pc := 59) dX11_layParts_59 4 rfl ?_
    refine g_istore_n (pc := 61) (lv2 := [(0, .ref 0), (1, .int l2), (2, .int (l1 % l2)), (3, .int (l3 + (l1 / l2))), (4, .int (l1 % l2))]) dX11_layParts_61 rfl (Nat.le_of_ble_eq_true rfl) rfl ?_
    refine g_goto (pc := 62) (tgt := 20) dX11_layParts_62 (by decide) ?_
    refine g_sub (lv2 := [(0, .ref 0), (1, .int l2), (2, .int (l1 % l2)), (3, .int (l3 + (l1 / l2)))]) [0, 1, 2, 3] rfl ?_
    exact h
set_option maxHeartbeats 4000000 in
set_option maxRecDepth 100000 in
theorem TX11_upper (a1 : Int32) (w : Wd) (hR : w.2.2 = RM) (Q : Option Value → Wd → Prop) (h : ClI SR mX11_isDance [.ref 0, .int a1] (wXX11_anew w) (fun x2 w1 => w1.2.2 = RM ∧ ((x2 = 0 → Q (some (.int (vXX11_nowhere 1))) (wXX11_nowhere 1 w1)) ∧ (¬ (x2 = 0) → vp_in a1 10 ∧ Q (some (.int (wi w1 5 a1.toNatClampNeg))) w1)))) : Cl SR mX11_upper [.ref 0, .int a1] w Q := by
  refine cl_of (by decide) (Nat.le_of_ble_eq_true rfl) ?_
  show Go SR mX11_upper 0 [(0, .ref 0), (1, .int a1)] [] w Q
  refine g_aload_n (pc := 0) dX11_upper_0 rfl 0 rfl ?_
  refine g_callV (pc := 1) (M' := mX11_anew) (n := 0) (a := 0) (as := []) (st := []) dX11_upper_1 rfl kX11_147 vX11_anew (Nat.le_of_ble_eq_true rfl) rfl qX11 rfl rfl (Nat.le_of_ble_eq_true rfl) ?_
  refine zX11_anew (w := w) (hR := hR) ?_
  show Go SR mX11_upper 4 [(0, .ref 0), (1, .int a1)] [] (wXX11_anew w) Q
  refine g_aload_n (pc := 4) dX11_upper_4 rfl 0 rfl ?_
  refine g_iload_n (pc := 5) dX11_upper_5 rfl 1 rfl ?_
  refine g_callV (pc := 6) (M' := mX11_isDance) (n := 1) (a := 0) (as := [.int a1]) (st := []) dX11_upper_6 rfl kX11_239 vX11_isDance (Nat.le_of_ble_eq_true rfl) rfl qX11 rfl rfl (Nat.le_of_ble_eq_true rfl) ?_
  refine cl_mono (fun r w1 hr => ?_) h
  obtain ⟨x2, rfl, hw1, h⟩ := hr
  show Go SR mX11_upper 9 [(0, .ref 0), (1, .int a1)] [.int x2] w1 Q
  refine g_if_eq (pc := 9) (tgt := 21) dX11_upper_9 (by decide) (fun q => ?_) (fun q => ?_)
  · have h := h.1 q
    refine g_aload_n (pc := 21) dX11_upper_21 rfl 0 rfl ?_
    refine g_iconst (pc := 22) dX11_upper_22 c_1 ?_
    refine g_callV (pc := 23) (M' := mX11_nowhere) (n := 1) (a := 0) (as := [.int 1]) (st := []) dX11_upper_23 rfl kX11_242 vX11_nowhere (Nat.le_of_ble_eq_true rfl) rfl qX11 rfl rfl (Nat.le_of_ble_eq_true rfl) ?_
    refine zX11_nowhere (a1 := 1) (w := w1) (hR := hw1) ?_
    show Go SR mX11_upper 26 [(0, .ref 0), (1, .int a1)] [.int (vXX11_nowhere 1)] (wXX11_nowhere 1 w1) Q
    exact g_iret (pc := 26) dX11_upper_26 rfl h
  · have h := h.2 q
    refine g_aload_n (pc := 12) dX11_upper_12 rfl 0 rfl ?_
    refine g_getR (pc := 13) (a := 0) (b := 5) dX11_upper_13 rfl fX11_26 rfl (rm_18 hw1) ?_
    refine g_iload_n (pc := 16) dX11_upper_16 rfl 1 rfl ?_
    obtain ⟨hi3, h⟩ := h
    refine g_iald (pc := 17) (a := 5) (j := a1.toNatClampNeg) dX11_upper_17 rfl hi3 rfl ?_
    refine g_goto (pc := 18) (tgt := 26) dX11_upper_18 (by decide) ?_
    exact g_iret (pc := 26) dX11_upper_26 rfl h
set_option maxHeartbeats 4000000 in
set_option maxRecDepth 100000 in
theorem TX11_lower (a1 : Int32) (w : Wd) (hR : w.2.2 = RM) (Q : Option Value → Wd → Prop) (h : ClI SR mX11_isDance [.ref 0, .int a1] (wXX11_anew w) (fun x2 w1 => w1.2.2 = RM ∧ ((x2 = 0 → Q (some (.int (vXX11_no 1))) (wXX11_no 1 w1)) ∧ (¬ (x2 = 0) → vp_in (5 + a1) 10 ∧ Q (some (.int (wi w1 5 ((5 + a1).toNatClampNeg)))) w1)))) : Cl SR mX11_lower [.ref 0, .int a1] w Q := by
  refine cl_of (by decide) (Nat.le_of_ble_eq_true rfl) ?_
  show Go SR mX11_lower 0 [(0, .ref 0), (1, .int a1)] [] w Q
  refine g_aload_n (pc := 0) dX11_lower_0 rfl 0 rfl ?_
  refine g_callV (pc := 1) (M' := mX11_anew) (n := 0) (a := 0) (as := []) (st := []) dX11_lower_1 rfl kX11_147 vX11_anew (Nat.le_of_ble_eq_true rfl) rfl qX11 rfl rfl (Nat.le_of_ble_eq_true rfl) ?_
  refine zX11_anew (w := w) (hR := hR) ?_
  show Go SR mX11_lower 4 [(0, .ref 0), (1, .int a1)] [] (wXX11_anew w) Q
  refine g_aload_n (pc := 4) dX11_lower_4 rfl 0 rfl ?_
  refine g_iload_n (pc := 5) dX11_lower_5 rfl 1 rfl ?_
  refine g_callV (pc := 6) (M' := mX11_isDance) (n := 1) (a := 0) (as := [.int a1]) (st := []) dX11_lower_6 rfl kX11_239 vX11_isDance (Nat.le_of_ble_eq_true rfl) rfl qX11 rfl rfl (Nat.le_of_ble_eq_true rfl) ?_
  refine cl_mono (fun r w1 hr => ?_) h
  obtain ⟨x2, rfl, hw1, h⟩ := hr
  show Go SR mX11_lower 9 [(0, .ref 0), (1, .int a1)] [.int x2] w1 Q
  refine g_if_eq (pc := 9) (tgt := 23) dX11_lower_9 (by decide) (fun q => ?_) (fun q => ?_)
  · have h := h.1 q
    refine g_aload_n (pc := 23) dX11_lower_23 rfl 0 rfl ?_
    refine g_iconst (pc := 24) dX11_lower_24 c_1 ?_
    refine g_callV (pc := 25) (M' := mX11_no) (n := 1) (a := 0) (as := [.int 1]) (st := []) dX11_lower_25 rfl kX11_150 vX11_no (Nat.le_of_ble_eq_true rfl) rfl qX11 rfl rfl (Nat.le_of_ble_eq_true rfl) ?_
    refine zX11_no (a1 := 1) (w := w1) (hR := hw1) ?_
    show Go SR mX11_lower 28 [(0, .ref 0), (1, .int a1)] [.int (vXX11_no 1)] (wXX11_no 1 w1) Q
    exact g_iret (pc := 28) dX11_lower_28 rfl h
  · have h := h.2 q
    refine g_aload_n (pc := 12) dX11_lower_12 rfl 0 rfl ?_
    refine g_getR (pc := 13) (a := 0) (b := 5) dX11_lower_13 rfl fX11_26 rfl (rm_18 hw1) ?_
    refine g_iconst (pc := 16) dX11_lower_16 c_5 ?_
    refine g_iload_n (pc := 17) dX11_lower_17 rfl 1 rfl ?_
    refine g_iadd (pc := 18) dX11_lower_18 ?_
    obtain ⟨hi3, h⟩ := h
    refine g_iald (pc := 19) (a := 5) (j := (5 + a1).toNatClampNeg) dX11_lower_19 rfl hi3 rfl ?_
    refine g_goto (pc := 20) (tgt := 28) dX11_lower_20 (by decide) ?_
    exact g_iret (pc := 28) dX11_lower_28 rfl h
set_option maxHeartbeats 4000000 in
set_option maxRecDepth 100000 in
theorem TX11_end (a1 : Int32) (a2 : Int32) (w : Wd) (hR : w.2.2 = RM) (Q : Option Value → Wd → Prop) (h : ClI SR mX11_isDance [.ref 0, .int a1] (wXX11_anew w) (fun x2 w1 => w1.2.2 = RM ∧ ((x2 = 0 → Q (some (.int (vXX11_no 1))) (wXX11_no 1 w1)) ∧ (¬ (x2 = 0) → (((vXX11_in a2 0 3) = 0 → Q (some (.int (vXX11_no 1))) (wXX11_no 1 w1)) ∧ (¬ ((vXX11_in a2 0 3) = 0) → ClV SR mX11_look [.ref 0, .int a1] w1 (fun w3 => w3.2.2 = RM ∧ Q (some (.int (vXX11_endOf a2 w3))) w3))))))) : Cl SR mX11_end [.ref 0, .int a1, .int a2] w Q := by
  refine cl_of (by decide) (Nat.le_of_ble_eq_true rfl) ?_
  show Go SR mX11_end 0 [(0, .ref 0), (1, .int a1), (2, .int a2)] [] w Q
  refine g_aload_n (pc := 0) dX11_end_0 rfl 0 rfl ?_
  refine g_callV (pc := 1) (M' := mX11_anew) (n := 0) (a := 0) (as := []) (st := []) dX11_end_1 rfl kX11_147 vX11_anew (Nat.le_of_ble_eq_true rfl) rfl qX11 rfl rfl (Nat.le_of_ble_eq_true rfl) ?_
  refine zX11_anew (w := w) (hR := hR) ?_
  show Go SR mX11_end 4 [(0, .ref 0), (1, .int a1), (2, .int a2)] [] (wXX11_anew w) Q
  refine g_aload_n (pc := 4) dX11_end_4 rfl 0 rfl ?_
  refine g_iload_n (pc := 5) dX11_end_5 rfl 1 rfl ?_
  refine g_callV (pc := 6) (M' := mX11_isDance) (n := 1) (a := 0) (as := [.int a1]) (st := []) dX11_end_6 rfl kX11_239 vX11_isDance (Nat.le_of_ble_eq_true rfl) rfl qX11 rfl rfl (Nat.le_of_ble_eq_true rfl) ?_
  refine cl_mono (fun r w1 hr => ?_) h
  obtain ⟨x2, rfl, hw1, h⟩ := hr
  show Go SR mX11_end 9 [(0, .ref 0), (1, .int a1), (2, .int a2)] [.int x2] w1 Q
  refine g_if_eq (pc := 9) (tgt := 21) dX11_end_9 (by decide) (fun q => ?_) (fun q => ?_)
  · have h := h.1 q
    refine g_aload_n (pc := 21) dX11_end_21 rfl 0 rfl ?_
    refine g_iconst (pc := 22) dX11_end_22 c_1 ?_
    refine g_callV (pc := 23) (M' := mX11_no) (n := 1) (a := 0) (as := [.int 1]) (st := []) dX11_end_23 rfl kX11_150 vX11_no (Nat.le_of_ble_eq_true rfl) rfl qX11 rfl rfl (Nat.le_of_ble_eq_true rfl) ?_
    refine zX11_no (a1 := 1) (w := w1) (hR := hw1) ?_
    show Go SR mX11_end 26 [(0, .ref 0), (1, .int a1), (2, .int a2)] [.int (vXX11_no 1)] (wXX11_no 1 w1) Q
    exact g_iret (pc := 26) dX11_end_26 rfl h
  · have h := h.2 q
    refine g_iload_n (pc := 12) dX11_end_12 rfl 2 rfl ?_
    refine g_iconst (pc := 13) dX11_end_13 c_0 ?_
    refine g_iconst (pc := 14) dX11_end_14 c_3 ?_
    refine g_callS (pc := 15) (M' := mX11_in) (n := 3) (as := [.int a2, .int 0, .int 3]) (st := []) dX11_end_15 rfl kX11_143 sX11_in (Nat.le_of_ble_eq_true rfl) rfl rfl (Nat.le_of_ble_eq_true rfl) ?_
    refine zX11_in (a1 := a2) (a2 := 0) (a3 := 3) (w := w1) (hR := hw1) ?_
    show Go SR mX11_end 18 [(0, .ref 0), (1, .int a1), (2, .int a2)] [.int (vXX11_in a2 0 3)] w1 Q
    refine g_if_ne (pc := 18) (tgt := 27) dX11_end_18 (by decide) (fun q => ?_) (fun q => ?_)
    · have h := h.2 q
      refine g_aload_n (pc := 27) dX11_end_27 rfl 0 rfl ?_
      refine g_iload_n (pc := 28) dX11_end_28 rfl 1 rfl ?_
      refine g_callV (pc := 29) (M' := mX11_look) (n := 1) (a := 0) (as := [.int a1]) (st := []) dX11_end_29 rfl kX11_245 vX11_look (Nat.le_of_ble_eq_true rfl) rfl qX11 rfl rfl (Nat.le_of_ble_eq_true rfl) ?_
      refine cl_mono (fun r w3 hr => ?_) h
      obtain ⟨rfl, hw3, h⟩ := hr
      show Go SR mX11_end 32 [(0, .ref 0), (1, .int a1), (2, .int a2)] [] w3 Q
      refine g_aload_n (pc := 32) dX11_end_32 rfl 0 rfl ?_
      refine g_iload_n (pc := 33) dX11_end_33 rfl 2 rfl ?_
      refine g_callV (pc := 34) (M' := mX11_endOf) (n := 1) (a := 0) (as := [.int a2]) (st := []) dX11_end_34 rfl kX11_248 vX11_endOf (Nat.le_of_ble_eq_true rfl) rfl qX11 rfl rfl (Nat.le_of_ble_eq_true rfl) ?_
      refine zX11_endOf (a1 := a2) (w := w3) (hR := hw3) ?_
      show Go SR mX11_end 37 [(0, .ref 0), (1, .int a1), (2, .int a2)] [.int (vXX11_endOf a2 w3)] w3 Q
      exact g_iret (pc := 37) dX11_end_37 rfl h
    · have h := h.1 q
      refine g_aload_n (pc := 21) dX11_end_21 rfl 0 rfl ?_
      refine g_iconst (pc := 22) dX11_end_22 c_1 ?_
      refine g_callV (pc := 23) (M' := mX11_no) (n := 1) (a := 0) (as := [.int 1]) (st := []) dX11_end_23 rfl kX11_150 vX11_no (Nat.le_of_ble_eq_true rfl) rfl qX11 rfl rfl (Nat.le_of_ble_eq_true rfl) ?_
      refine zX11_no (a1 := 1) (w := w1) (hR := hw1) ?_
      show Go SR mX11_end 26 [(0, .ref 0), (1, .int a1), (2, .int a2)] [.int (vXX11_no 1)] (wXX11_no 1 w1) Q
      exact g_iret (pc := 26) dX11_end_26 rfl h
set_option maxHeartbeats 4000000 in
set_option maxRecDepth 100000 in
theorem TX11_parts (a1 : Int32) (w : Wd) (hR : w.2.2 = RM) (Q : Option Value → Wd → Prop) (h : ClI SR mX11_isDance [.ref 0, .int a1] (wXX11_anew w) (fun x2 w1 => w1.2.2 = RM ∧ ((x2 = 0 → Q (some (.int (vXX11_no 1))) (wXX11_no 1 w1)) ∧ (¬ (x2 = 0) → ClV SR mX11_look [.ref 0, .int a1] w1 (fun w3 => w3.2.2 = RM ∧ ClI SR mX11_layParts [.ref 0] w3 (fun x5 w4 => w4.2.2 = RM ∧ Q (some (.int (wi w4 0 26))) w4)))))) : Cl SR mX11_parts [.ref 0, .int a1] w Q := by
  refine cl_of (by decide) (Nat.le_of_ble_eq_true rfl) ?_
  show Go SR mX11_parts 0 [(0, .ref 0), (1, .int a1)] [] w Q
  refine g_aload_n (pc := 0) dX11_parts_0 rfl 0 rfl ?_
  refine g_callV (pc := 1) (M' := mX11_anew) (n := 0) (a := 0) (as := []) (st := []) dX11_parts_1 rfl kX11_147 vX11_anew (Nat.le_of_ble_eq_true rfl) rfl qX11 rfl rfl (Nat.le_of_ble_eq_true rfl) ?_
  refine zX11_anew (w := w) (hR := hR) ?_
  show Go SR mX11_parts 4 [(0, .ref 0), (1, .int a1)] [] (wXX11_anew w) Q
  refine g_aload_n (pc := 4) dX11_parts_4 rfl 0 rfl ?_
  refine g_iload_n (pc := 5) dX11_parts_5 rfl 1 rfl ?_
  refine g_callV (pc := 6) (M' := mX11_isDance) (n := 1) (a := 0) (as := [.int a1]) (st := []) dX11_parts_6 rfl kX11_239 vX11_isDance (Nat.le_of_ble_eq_true rfl) rfl qX11 rfl rfl (Nat.le_of_ble_eq_true rfl) ?_
  refine cl_mono (fun r w1 hr => ?_) h
  obtain ⟨x2, rfl, hw1, h⟩ := hr
  show Go SR mX11_parts 9 [(0, .ref 0), (1, .int a1)] [.int x2] w1 Q
  refine g_if_ne (pc := 9) (tgt := 18) dX11_parts_9 (by decide) (fun q => ?_) (fun q => ?_)
  · have h := h.2 q
    refine g_aload_n (pc := 18) dX11_parts_18 rfl 0 rfl ?_
    refine g_iload_n (pc := 19) dX11_parts_19 rfl 1 rfl ?_
    refine g_callV (pc := 20) (M' := mX11_look) (n := 1) (a := 0) (as := [.int a1]) (st := []) dX11_parts_20 rfl kX11_245 vX11_look (Nat.le_of_ble_eq_true rfl) rfl qX11 rfl rfl (Nat.le_of_ble_eq_true rfl) ?_
    refine cl_mono (fun r w3 hr => ?_) h
    obtain ⟨rfl, hw3, h⟩ := hr
    show Go SR mX11_parts 23 [(0, .ref 0), (1, .int a1)] [] w3 Q
    refine g_aload_n (pc := 23) dX11_parts_23 rfl 0 rfl ?_
    refine g_callV (pc := 24) (M' := mX11_layParts) (n := 0) (a := 0) (as := []) (st := []) dX11_parts_24 rfl kX11_251 vX11_layParts (Nat.le_of_ble_eq_true rfl) rfl qX11 rfl rfl (Nat.le_of_ble_eq_true rfl) ?_
    refine cl_mono (fun r w4 hr => ?_) h
    obtain ⟨x5, rfl, hw4, h⟩ := hr
    show Go SR mX11_parts 27 [(0, .ref 0), (1, .int a1)] [.int x5] w4 Q
    refine g_pop (pc := 27) dX11_parts_27 rfl ?_
    refine g_aload_n (pc := 28) dX11_parts_28 rfl 0 rfl ?_
    refine g_getI (pc := 29) (a := 0) dX11_parts_29 rfl fX11_236 rfl ?_
    exact g_iret (pc := 32) dX11_parts_32 rfl h
  · have h := h.1 q
    refine g_aload_n (pc := 12) dX11_parts_12 rfl 0 rfl ?_
    refine g_iconst (pc := 13) dX11_parts_13 c_1 ?_
    refine g_callV (pc := 14) (M' := mX11_no) (n := 1) (a := 0) (as := [.int 1]) (st := []) dX11_parts_14 rfl kX11_150 vX11_no (Nat.le_of_ble_eq_true rfl) rfl qX11 rfl rfl (Nat.le_of_ble_eq_true rfl) ?_
    refine zX11_no (a1 := 1) (w := w1) (hR := hw1) ?_
    show Go SR mX11_parts 17 [(0, .ref 0), (1, .int a1)] [.int (vXX11_no 1)] (wXX11_no 1 w1) Q
    exact g_iret (pc := 17) dX11_parts_17 rfl h
set_option maxHeartbeats 4000000 in
set_option maxRecDepth 100000 in
theorem TX11_part (a1 : Int32) (a2 : Int32) (w : Wd) (hR : w.2.2 = RM) (Q : Option Value → Wd → Prop) (h : ClI SR mX11_isDance [.ref 0, .int a1] (wXX11_anew w) (fun x2 w1 => w1.2.2 = RM ∧ ((x2 = 0 → Q (some (.int (vXX11_no 1))) (wXX11_no 1 w1)) ∧ (¬ (x2 = 0) → ClV SR mX11_look [.ref 0, .int a1] w1 (fun w3 => w3.2.2 = RM ∧ ClI SR mX11_layParts [.ref 0] w3 (fun x5 w4 => w4.2.2 = RM ∧ (((vXX11_in a2 0 ((wi w4 0 26) - 1)) = 0 → Q (some (.int (vXX11_no 1))) (wXX11_no 1 w4)) ∧ (¬ ((vXX11_in a2 0 ((wi w4 0 26) - 1)) = 0) → vp_in a2 40 ∧ Q (some (.int (wi w4 8 a2.toNatClampNeg))) w4)))))))) : Cl SR mX11_part [.ref 0, .int a1, .int a2] w Q := by
  refine cl_of (by decide) (Nat.le_of_ble_eq_true rfl) ?_
  show Go SR mX11_part 0 [(0, .ref 0), (1, .int a1), (2, .int a2)] [] w Q
  refine g_aload_n (pc := 0) dX11_part_0 rfl 0 rfl ?_
  refine g_callV (pc := 1) (M' := mX11_anew) (n := 0) (a := 0) (as := []) (st := []) dX11_part_1 rfl kX11_147 vX11_anew (Nat.le_of_ble_eq_true rfl) rfl qX11 rfl rfl (Nat.le_of_ble_eq_true rfl) ?_
  refine zX11_anew (w := w) (hR := hR) ?_
  show Go SR mX11_part 4 [(0, .ref 0), (1, .int a1), (2, .int a2)] [] (wXX11_anew w) Q
  refine g_aload_n (pc := 4) dX11_part_4 rfl 0 rfl ?_
  refine g_iload_n (pc := 5) dX11_part_5 rfl 1 rfl ?_
  refine g_callV (pc := 6) (M' := mX11_isDance) (n := 1) (a := 0) (as := [.int a1]) (st := []) dX11_part_6 rfl kX11_239 vX11_isDance (Nat.le_of_ble_eq_true rfl) rfl qX11 rfl rfl (Nat.le_of_ble_eq_true rfl) ?_
  refine cl_mono (fun r w1 hr => ?_) h
  obtain ⟨x2, rfl, hw1, h⟩ := hr
  show Go SR mX11_part 9 [(0, .ref 0), (1, .int a1), (2, .int a2)] [.int x2] w1 Q
  refine g_if_ne (pc := 9) (tgt := 18) dX11_part_9 (by decide) (fun q => ?_) (fun q => ?_)
  · have h := h.2 q
    refine g_aload_n (pc := 18) dX11_part_18 rfl 0 rfl ?_
    refine g_iload_n (pc := 19) dX11_part_19 rfl 1 rfl ?_
    refine g_callV (pc := 20) (M' := mX11_look) (n := 1) (a := 0) (as := [.int a1]) (st := []) dX11_part_20 rfl kX11_245 vX11_look (Nat.le_of_ble_eq_true rfl) rfl qX11 rfl rfl (Nat.le_of_ble_eq_true rfl) ?_
    refine cl_mono (fun r w3 hr => ?_) h
    obtain ⟨rfl, hw3, h⟩ := hr
    show Go SR mX11_part 23 [(0, .ref 0), (1, .int a1), (2, .int a2)] [] w3 Q
    refine g_aload_n (pc := 23) dX11_part_23 rfl 0 rfl ?_
    refine g_callV (pc := 24) (M' := mX11_layParts) (n := 0) (a := 0) (as := []) (st := []) dX11_part_24 rfl kX11_251 vX11_layParts (Nat.le_of_ble_eq_true rfl) rfl qX11 rfl rfl (Nat.le_of_ble_eq_true rfl) ?_
    refine cl_mono (fun r w4 hr => ?_) h
    obtain ⟨x5, rfl, hw4, h⟩ := hr
    show Go SR mX11_part 27 [(0, .ref 0), (1, .int a1), (2, .int a2)] [.int x5] w4 Q
    refine g_pop (pc := 27) dX11_part_27 rfl ?_
    refine g_iload_n (pc := 28) dX11_part_28 rfl 2 rfl ?_
    refine g_iconst (pc := 29) dX11_part_29 c_0 ?_
    refine g_aload_n (pc := 30) dX11_part_30 rfl 0 rfl ?_
    refine g_getI (pc := 31) (a := 0) dX11_part_31 rfl fX11_236 rfl ?_
    refine g_iconst (pc := 34) dX11_part_34 c_1 ?_
    refine g_isub (pc := 35) dX11_part_35 ?_
    refine g_callS (pc := 36) (M' := mX11_in) (n := 3) (as := [.int a2, .int 0, .int ((wi w4 0 26) - 1)]) (st := []) dX11_part_36 rfl kX11_143 sX11_in (Nat.le_of_ble_eq_true rfl) rfl rfl (Nat.le_of_ble_eq_true rfl) ?_
    refine zX11_in (a1 := a2) (a2 := 0) (a3 := ((wi w4 0 26) - 1)) (w := w4) (hR := hw4) ?_
    show Go SR mX11_part 39 [(0, .ref 0), (1, .int a1), (2, .int a2)] [.int (vXX11_in a2 0 ((wi w4 0 26) - 1))] w4 Q
    refine g_if_eq (pc := 39) (tgt := 51) dX11_part_39 (by decide) (fun q => ?_) (fun q => ?_)
    · have h := h.1 q
      refine g_aload_n (pc := 51) dX11_part_51 rfl 0 rfl ?_
      refine g_iconst (pc := 52) dX11_part_52 c_1 ?_
      refine g_callV (pc := 53) (M' := mX11_no) (n := 1) (a := 0) (as := [.int 1]) (st := []) dX11_part_53 rfl kX11_150 vX11_no (Nat.le_of_ble_eq_true rfl) rfl qX11 rfl rfl (Nat.le_of_ble_eq_true rfl) ?_
      refine zX11_no (a1 := 1) (w := w4) (hR := hw4) ?_
      show Go SR mX11_part 56 [(0, .ref 0), (1, .int a1), (2, .int a2)] [.int (vXX11_no 1)] (wXX11_no 1 w4) Q
      exact g_iret (pc := 56) dX11_part_56 rfl h
    · have h := h.2 q
      refine g_aload_n (pc := 42) dX11_part_42 rfl 0 rfl ?_
      refine g_getR (pc := 43) (a := 0) (b := 8) dX11_part_43 rfl fX11_35 rfl (rm_25 hw4) ?_
      refine g_iload_n (pc := 46) dX11_part_46 rfl 2 rfl ?_
      obtain ⟨hi6, h⟩ := h
      refine g_iald (pc := 47) (a := 8) (j := a2.toNatClampNeg) dX11_part_47 rfl hi6 rfl ?_
      refine g_goto (pc := 48) (tgt := 56) dX11_part_48 (by decide) ?_
      exact g_iret (pc := 56) dX11_part_56 rfl h
  · have h := h.1 q
    refine g_aload_n (pc := 12) dX11_part_12 rfl 0 rfl ?_
    refine g_iconst (pc := 13) dX11_part_13 c_1 ?_
    refine g_callV (pc := 14) (M' := mX11_no) (n := 1) (a := 0) (as := [.int 1]) (st := []) dX11_part_14 rfl kX11_150 vX11_no (Nat.le_of_ble_eq_true rfl) rfl qX11 rfl rfl (Nat.le_of_ble_eq_true rfl) ?_
    refine zX11_no (a1 := 1) (w := w1) (hR := hw1) ?_
    show Go SR mX11_part 17 [(0, .ref 0), (1, .int a1), (2, .int a2)] [.int (vXX11_no 1)] (wXX11_no 1 w1) Q
    exact g_iret (pc := 17) dX11_part_17 rfl h
set_option maxHeartbeats 4000000 in
set_option maxRecDepth 100000 in
theorem TX11_crossings (a1 : Int32) (w : Wd) (hR : w.2.2 = RM) (Q : Option Value → Wd → Prop) (h : ClI SR mX11_isDance [.ref 0, .int a1] (wXX11_anew w) (fun x2 w1 => w1.2.2 = RM ∧ ((x2 = 0 → Q (some (.int (vXX11_no 1))) (wXX11_no 1 w1)) ∧ (¬ (x2 = 0) → ClV SR mX11_look [.ref 0, .int a1] w1 (fun w3 => w3.2.2 = RM ∧ ClI SR mX11_layParts [.ref 0] w3 (fun x5 w4 => w4.2.2 = RM ∧ Q (some (.int x5)) w4)))))) : Cl SR mX11_crossings [.ref 0, .int a1] w Q := by
  refine cl_of (by decide) (Nat.le_of_ble_eq_true rfl) ?_
  show Go SR mX11_crossings 0 [(0, .ref 0), (1, .int a1)] [] w Q
  refine g_aload_n (pc := 0) dX11_crossings_0 rfl 0 rfl ?_
  refine g_callV (pc := 1) (M' := mX11_anew) (n := 0) (a := 0) (as := []) (st := []) dX11_crossings_1 rfl kX11_147 vX11_anew (Nat.le_of_ble_eq_true rfl) rfl qX11 rfl rfl (Nat.le_of_ble_eq_true rfl) ?_
  refine zX11_anew (w := w) (hR := hR) ?_
  show Go SR mX11_crossings 4 [(0, .ref 0), (1, .int a1)] [] (wXX11_anew w) Q
  refine g_aload_n (pc := 4) dX11_crossings_4 rfl 0 rfl ?_
  refine g_iload_n (pc := 5) dX11_crossings_5 rfl 1 rfl ?_
  refine g_callV (pc := 6) (M' := mX11_isDance) (n := 1) (a := 0) (as := [.int a1]) (st := []) dX11_crossings_6 rfl kX11_239 vX11_isDance (Nat.le_of_ble_eq_true rfl) rfl qX11 rfl rfl (Nat.le_of_ble_eq_true rfl) ?_
  refine cl_mono (fun r w1 hr => ?_) h
  obtain ⟨x2, rfl, hw1, h⟩ := hr
  show Go SR mX11_crossings 9 [(0, .ref 0), (1, .int a1)] [.int x2] w1 Q
  refine g_if_ne (pc := 9) (tgt := 18) dX11_crossings_9 (by decide) (fun q => ?_) (fun q => ?_)
  · have h := h.2 q
    refine g_aload_n (pc := 18) dX11_crossings_18 rfl 0 rfl ?_
    refine g_iload_n (pc := 19) dX11_crossings_19 rfl 1 rfl ?_
    refine g_callV (pc := 20) (M' := mX11_look) (n := 1) (a := 0) (as := [.int a1]) (st := []) dX11_crossings_20 rfl kX11_245 vX11_look (Nat.le_of_ble_eq_true rfl) rfl qX11 rfl rfl (Nat.le_of_ble_eq_true rfl) ?_
    refine cl_mono (fun r w3 hr => ?_) h
    obtain ⟨rfl, hw3, h⟩ := hr
    show Go SR mX11_crossings 23 [(0, .ref 0), (1, .int a1)] [] w3 Q
    refine g_aload_n (pc := 23) dX11_crossings_23 rfl 0 rfl ?_
    refine g_callV (pc := 24) (M' := mX11_layParts) (n := 0) (a := 0) (as := []) (st := []) dX11_crossings_24 rfl kX11_251 vX11_layParts (Nat.le_of_ble_eq_true rfl) rfl qX11 rfl rfl (Nat.le_of_ble_eq_true rfl) ?_
    refine cl_mono (fun r w4 hr => ?_) h
    obtain ⟨x5, rfl, hw4, h⟩ := hr
    show Go SR mX11_crossings 27 [(0, .ref 0), (1, .int a1)] [.int x5] w4 Q
    exact g_iret (pc := 27) dX11_crossings_27 rfl h
  · have h := h.1 q
    refine g_aload_n (pc := 12) dX11_crossings_12 rfl 0 rfl ?_
    refine g_iconst (pc := 13) dX11_crossings_13 c_1 ?_
    refine g_callV (pc := 14) (M' := mX11_no) (n := 1) (a := 0) (as := [.int 1]) (st := []) dX11_crossings_14 rfl kX11_150 vX11_no (Nat.le_of_ble_eq_true rfl) rfl qX11 rfl rfl (Nat.le_of_ble_eq_true rfl) ?_
    refine zX11_no (a1 := 1) (w := w1) (hR := hw1) ?_
    show Go SR mX11_crossings 17 [(0, .ref 0), (1, .int a1)] [.int (vXX11_no 1)] (wXX11_no 1 w1) Q
    exact g_iret (pc := 17) dX11_crossings_17 rfl h
set_option maxHeartbeats 4000000 in
set_option maxRecDepth 100000 in
theorem TX11_figures (a1 : Int32) (w : Wd) (hR : w.2.2 = RM) (Q : Option Value → Wd → Prop) (h : ClI SR mX11_isDance [.ref 0, .int a1] (wXX11_anew w) (fun x2 w1 => w1.2.2 = RM ∧ ((x2 = 0 → Q (some (.int (vXX11_no 1))) (wXX11_no 1 w1)) ∧ (¬ (x2 = 0) → vp_in (4 + a1) 146 ∧ Q (some (.int (wi w1 3 ((4 + a1).toNatClampNeg)))) w1)))) : Cl SR mX11_figures [.ref 0, .int a1] w Q := by
  refine cl_of (by decide) (Nat.le_of_ble_eq_true rfl) ?_
  show Go SR mX11_figures 0 [(0, .ref 0), (1, .int a1)] [] w Q
  refine g_aload_n (pc := 0) dX11_figures_0 rfl 0 rfl ?_
  refine g_callV (pc := 1) (M' := mX11_anew) (n := 0) (a := 0) (as := []) (st := []) dX11_figures_1 rfl kX11_147 vX11_anew (Nat.le_of_ble_eq_true rfl) rfl qX11 rfl rfl (Nat.le_of_ble_eq_true rfl) ?_
  refine zX11_anew (w := w) (hR := hR) ?_
  show Go SR mX11_figures 4 [(0, .ref 0), (1, .int a1)] [] (wXX11_anew w) Q
  refine g_aload_n (pc := 4) dX11_figures_4 rfl 0 rfl ?_
  refine g_iload_n (pc := 5) dX11_figures_5 rfl 1 rfl ?_
  refine g_callV (pc := 6) (M' := mX11_isDance) (n := 1) (a := 0) (as := [.int a1]) (st := []) dX11_figures_6 rfl kX11_239 vX11_isDance (Nat.le_of_ble_eq_true rfl) rfl qX11 rfl rfl (Nat.le_of_ble_eq_true rfl) ?_
  refine cl_mono (fun r w1 hr => ?_) h
  obtain ⟨x2, rfl, hw1, h⟩ := hr
  show Go SR mX11_figures 9 [(0, .ref 0), (1, .int a1)] [.int x2] w1 Q
  refine g_if_eq (pc := 9) (tgt := 23) dX11_figures_9 (by decide) (fun q => ?_) (fun q => ?_)
  · have h := h.1 q
    refine g_aload_n (pc := 23) dX11_figures_23 rfl 0 rfl ?_
    refine g_iconst (pc := 24) dX11_figures_24 c_1 ?_
    refine g_callV (pc := 25) (M' := mX11_no) (n := 1) (a := 0) (as := [.int 1]) (st := []) dX11_figures_25 rfl kX11_150 vX11_no (Nat.le_of_ble_eq_true rfl) rfl qX11 rfl rfl (Nat.le_of_ble_eq_true rfl) ?_
    refine zX11_no (a1 := 1) (w := w1) (hR := hw1) ?_
    show Go SR mX11_figures 28 [(0, .ref 0), (1, .int a1)] [.int (vXX11_no 1)] (wXX11_no 1 w1) Q
    exact g_iret (pc := 28) dX11_figures_28 rfl h
  · have h := h.2 q
    refine g_aload_n (pc := 12) dX11_figures_12 rfl 0 rfl ?_
    refine g_getR (pc := 13) (a := 0) (b := 3) dX11_figures_13 rfl fX11_20 rfl (rm_16 hw1) ?_
    refine g_iconst (pc := 16) dX11_figures_16 c_4 ?_
    refine g_iload_n (pc := 17) dX11_figures_17 rfl 1 rfl ?_
    refine g_iadd (pc := 18) dX11_figures_18 ?_
    obtain ⟨hi3, h⟩ := h
    refine g_iald (pc := 19) (a := 3) (j := (4 + a1).toNatClampNeg) dX11_figures_19 rfl hi3 rfl ?_
    refine g_goto (pc := 20) (tgt := 28) dX11_figures_20 (by decide) ?_
    exact g_iret (pc := 28) dX11_figures_28 rfl h
set_option maxHeartbeats 4000000 in
set_option maxRecDepth 100000 in
theorem TX11_figure (a1 : Int32) (a2 : Int32) (w : Wd) (hR : w.2.2 = RM) (Q : Option Value → Wd → Prop) (h : ClI SR mX11_isDance [.ref 0, .int a1] (wXX11_anew w) (fun x2 w1 => w1.2.2 = RM ∧ ((x2 = 0 → Q (some (.int (vXX11_no 1))) (wXX11_no 1 w1)) ∧ (¬ (x2 = 0) → vp_in (4 + a1) 146 ∧ (((vXX11_in a2 0 ((wi w1 3 ((4 + a1).toNatClampNeg)) - 1)) = 0 → Q (some (.int (vXX11_no 1))) (wXX11_no 1 w1)) ∧ (¬ ((vXX11_in a2 0 ((wi w1 3 ((4 + a1).toNatClampNeg)) - 1)) = 0) → vp_in ((9 + (12 * a1)) + a2) 146 ∧ Q (some (.int (wi w1 3 (((9 + (12 * a1)) + a2).toNatClampNeg)))) w1)))))) : Cl SR mX11_figure [.ref 0, .int a1, .int a2] w Q := by
  refine cl_of (by decide) (Nat.le_of_ble_eq_true rfl) ?_
  show Go SR mX11_figure 0 [(0, .ref 0), (1, .int a1), (2, .int a2)] [] w Q
  refine g_aload_n (pc := 0) dX11_figure_0 rfl 0 rfl ?_
  refine g_callV (pc := 1) (M' := mX11_anew) (n := 0) (a := 0) (as := []) (st := []) dX11_figure_1 rfl kX11_147 vX11_anew (Nat.le_of_ble_eq_true rfl) rfl qX11 rfl rfl (Nat.le_of_ble_eq_true rfl) ?_
  refine zX11_anew (w := w) (hR := hR) ?_
  show Go SR mX11_figure 4 [(0, .ref 0), (1, .int a1), (2, .int a2)] [] (wXX11_anew w) Q
  refine g_aload_n (pc := 4) dX11_figure_4 rfl 0 rfl ?_
  refine g_iload_n (pc := 5) dX11_figure_5 rfl 1 rfl ?_
  refine g_callV (pc := 6) (M' := mX11_isDance) (n := 1) (a := 0) (as := [.int a1]) (st := []) dX11_figure_6 rfl kX11_239 vX11_isDance (Nat.le_of_ble_eq_true rfl) rfl qX11 rfl rfl (Nat.le_of_ble_eq_true rfl) ?_
  refine cl_mono (fun r w1 hr => ?_) h
  obtain ⟨x2, rfl, hw1, h⟩ := hr
  show Go SR mX11_figure 9 [(0, .ref 0), (1, .int a1), (2, .int a2)] [.int x2] w1 Q
  refine g_if_eq (pc := 9) (tgt := 47) dX11_figure_9 (by decide) (fun q => ?_) (fun q => ?_)
  · have h := h.1 q
    refine g_aload_n (pc := 47) dX11_figure_47 rfl 0 rfl ?_
    refine g_iconst (pc := 48) dX11_figure_48 c_1 ?_
    refine g_callV (pc := 49) (M' := mX11_no) (n := 1) (a := 0) (as := [.int 1]) (st := []) dX11_figure_49 rfl kX11_150 vX11_no (Nat.le_of_ble_eq_true rfl) rfl qX11 rfl rfl (Nat.le_of_ble_eq_true rfl) ?_
    refine zX11_no (a1 := 1) (w := w1) (hR := hw1) ?_
    show Go SR mX11_figure 52 [(0, .ref 0), (1, .int a1), (2, .int a2)] [.int (vXX11_no 1)] (wXX11_no 1 w1) Q
    exact g_iret (pc := 52) dX11_figure_52 rfl h
  · have h := h.2 q
    refine g_iload_n (pc := 12) dX11_figure_12 rfl 2 rfl ?_
    refine g_iconst (pc := 13) dX11_figure_13 c_0 ?_
    refine g_aload_n (pc := 14) dX11_figure_14 rfl 0 rfl ?_
    refine g_getR (pc := 15) (a := 0) (b := 3) dX11_figure_15 rfl fX11_20 rfl (rm_16 hw1) ?_
    refine g_iconst (pc := 18) dX11_figure_18 c_4 ?_
    refine g_iload_n (pc := 19) dX11_figure_19 rfl 1 rfl ?_
    refine g_iadd (pc := 20) dX11_figure_20 ?_
    obtain ⟨hi3, h⟩ := h
    refine g_iald (pc := 21) (a := 3) (j := (4 + a1).toNatClampNeg) dX11_figure_21 rfl hi3 rfl ?_
    refine g_iconst (pc := 22) dX11_figure_22 c_1 ?_
    refine g_isub (pc := 23) dX11_figure_23 ?_
    refine g_callS (pc := 24) (M' := mX11_in) (n := 3) (as := [.int a2, .int 0, .int ((wi w1 3 ((4 + a1).toNatClampNeg)) - 1)]) (st := []) dX11_figure_24 rfl kX11_143 sX11_in (Nat.le_of_ble_eq_true rfl) rfl rfl (Nat.le_of_ble_eq_true rfl) ?_
    refine zX11_in (a1 := a2) (a2 := 0) (a3 := ((wi w1 3 ((4 + a1).toNatClampNeg)) - 1)) (w := w1) (hR := hw1) ?_
    show Go SR mX11_figure 27 [(0, .ref 0), (1, .int a1), (2, .int a2)] [.int (vXX11_in a2 0 ((wi w1 3 ((4 + a1).toNatClampNeg)) - 1))] w1 Q
    refine g_if_eq (pc := 27) (tgt := 47) dX11_figure_27 (by decide) (fun q => ?_) (fun q => ?_)
    · have h := h.1 q
      refine g_aload_n (pc := 47) dX11_figure_47 rfl 0 rfl ?_
      refine g_iconst (pc := 48) dX11_figure_48 c_1 ?_
      refine g_callV (pc := 49) (M' := mX11_no) (n := 1) (a := 0) (as := [.int 1]) (st := []) dX11_figure_49 rfl kX11_150 vX11_no (Nat.le_of_ble_eq_true rfl) rfl qX11 rfl rfl (Nat.le_of_ble_eq_true rfl) ?_
      refine zX11_no (a1 := 1) (w := w1) (hR := hw1) ?_
      show Go SR mX11_figure 52 [(0, .ref 0), (1, .int a1), (2, .int a2)] [.int (vXX11_no 1)] (wXX11_no 1 w1) Q
      exact g_iret (pc := 52) dX11_figure_52 rfl h
    · have h := h.2 q
      refine g_aload_n (pc := 30) dX11_figure_30 rfl 0 rfl ?_
      refine g_getR (pc := 31) (a := 0) (b := 3) dX11_figure_31 rfl fX11_20 rfl (rm_16 hw1) ?_
      refine g_bipush (pc := 34) (v := 9) dX11_figure_34 (by decide) ?_
      refine g_bipush (pc := 36) (v := 12) dX11_figure_36 (by decide) ?_
      refine g_iload_n (pc := 38) dX11_figure_38 rfl 1 rfl ?_
      refine g_imul (pc := 39) dX11_figure_39 ?_
      refine g_iadd (pc := 40) dX11_figure_40 ?_
      refine g_iload_n (pc := 41) dX11_figure_41 rfl 2 rfl ?_
      refine g_iadd (pc := 42) dX11_figure_42 ?_
      obtain ⟨hi4, h⟩ := h
      refine g_iald (pc := 43) (a := 3) (j := ((9 + (12 * a1)) + a2).toNatClampNeg) dX11_figure_43 rfl hi4 rfl ?_
      refine g_goto (pc := 44) (tgt := 52) dX11_figure_44 (by decide) ?_
      exact g_iret (pc := 52) dX11_figure_52 rfl h
set_option maxHeartbeats 4000000 in
set_option maxRecDepth 100000 in
theorem TX11_rowWhy (a1 : Int32) (a2 : Int32) (w : Wd) (hR : w.2.2 = RM) (Q : Option Value → Wd → Prop) (h : ClI SR mX11_isDance [.ref 0, .int a1] w (fun x2 w1 => w1.2.2 = RM ∧ ((x2 = 0 → Q (some (.int 1)) w1) ∧ (¬ (x2 = 0) → vp_in (4 + a1) 146 ∧ Q (some (.int (if (vXX11_in a2 0 (wi w1 3 ((4 + a1).toNatClampNeg))) = 0 then 2 else 0 : Int32))) w1)))) : Cl SR mX11_rowWhy [.ref 0, .int a1, .int a2] w Q := by
  refine cl_of (by decide) (Nat.le_of_ble_eq_true rfl) ?_
  show Go SR mX11_rowWhy 0 [(0, .ref 0), (1, .int a1), (2, .int a2)] [] w Q
  refine g_aload_n (pc := 0) dX11_rowWhy_0 rfl 0 rfl ?_
  refine g_iload_n (pc := 1) dX11_rowWhy_1 rfl 1 rfl ?_
  refine g_callV (pc := 2) (M' := mX11_isDance) (n := 1) (a := 0) (as := [.int a1]) (st := []) dX11_rowWhy_2 rfl kX11_239 vX11_isDance (Nat.le_of_ble_eq_true rfl) rfl qX11 rfl rfl (Nat.le_of_ble_eq_true rfl) ?_
  refine cl_mono (fun r w1 hr => ?_) h
  obtain ⟨x2, rfl, hw1, h⟩ := hr
  show Go SR mX11_rowWhy 5 [(0, .ref 0), (1, .int a1), (2, .int a2)] [.int x2] w1 Q
  refine g_if_ne (pc := 5) (tgt := 12) dX11_rowWhy_5 (by decide) (fun q => ?_) (fun q => ?_)
  · have h := h.2 q
    refine g_iload_n (pc := 12) dX11_rowWhy_12 rfl 2 rfl ?_
    refine g_iconst (pc := 13) dX11_rowWhy_13 c_0 ?_
    refine g_aload_n (pc := 14) dX11_rowWhy_14 rfl 0 rfl ?_
    refine g_getR (pc := 15) (a := 0) (b := 3) dX11_rowWhy_15 rfl fX11_20 rfl (rm_16 hw1) ?_
    refine g_iconst (pc := 18) dX11_rowWhy_18 c_4 ?_
    refine g_iload_n (pc := 19) dX11_rowWhy_19 rfl 1 rfl ?_
    refine g_iadd (pc := 20) dX11_rowWhy_20 ?_
    obtain ⟨hi3, h⟩ := h
    refine g_iald (pc := 21) (a := 3) (j := (4 + a1).toNatClampNeg) dX11_rowWhy_21 rfl hi3 rfl ?_
    refine g_callS (pc := 22) (M' := mX11_in) (n := 3) (as := [.int a2, .int 0, .int (wi w1 3 ((4 + a1).toNatClampNeg))]) (st := []) dX11_rowWhy_22 rfl kX11_143 sX11_in (Nat.le_of_ble_eq_true rfl) rfl rfl (Nat.le_of_ble_eq_true rfl) ?_
    refine zX11_in (a1 := a2) (a2 := 0) (a3 := (wi w1 3 ((4 + a1).toNatClampNeg))) (w := w1) (hR := hw1) ?_
    show Go SR mX11_rowWhy 25 [(0, .ref 0), (1, .int a1), (2, .int a2)] [.int (vXX11_in a2 0 (wi w1 3 ((4 + a1).toNatClampNeg)))] w1 Q
    have hJ : Go SR mX11_rowWhy 33 [(0, .ref 0), (1, .int a1), (2, .int a2)] [.int (if (vXX11_in a2 0 (wi w1 3 ((4 + a1).toNatClampNeg))) = 0 then 2 else 0 : Int32)] w1 Q := by
      exact g_iret (pc := 33) dX11_rowWhy_33 rfl h
    refine g_if_eq (pc := 25) (tgt := 32) dX11_rowWhy_25 (by decide) (fun q25 => ?_) (fun q25 => ?_)
    · refine g_iconst (pc := 32) dX11_rowWhy_32 c_2 ?_
      first | (exfalso; contradiction) | exact cast (by simp only [if_pos q25]) hJ
    · refine g_iconst (pc := 28) dX11_rowWhy_28 c_0 ?_
      refine g_goto (pc := 29) (tgt := 33) dX11_rowWhy_29 (by decide) ?_
      first | (exfalso; contradiction) | exact cast (by simp only [if_neg q25]) hJ
  · have h := h.1 q
    refine g_iconst (pc := 8) dX11_rowWhy_8 c_1 ?_
    refine g_goto (pc := 9) (tgt := 33) dX11_rowWhy_9 (by decide) ?_
    exact g_iret (pc := 33) dX11_rowWhy_33 rfl h
set_option maxHeartbeats 4000000 in
set_option maxRecDepth 100000 in
theorem TX11_upperAfter (a1 : Int32) (a2 : Int32) (w : Wd) (hR : w.2.2 = RM) (Q : Option Value → Wd → Prop) (h : ClI SR mX11_rowWhy [.ref 0, .int a1, .int a2] (wXX11_anew w) (fun x2 w1 => w1.2.2 = RM ∧ ((x2 = 0 → ClV SR mX11_dance [.ref 0, .int a1, .int a2, .int 0, .int 0] w1 (fun w3 => w3.2.2 = RM ∧ Q (some (.int (wi w3 0 23))) w3)) ∧ (¬ (x2 = 0) → ClI SR mX11_rowWhy [.ref 0, .int a1, .int a2] w1 (fun x5 w4 => w4.2.2 = RM ∧ Q (some (.int (vXX11_nowhere x5))) (wXX11_nowhere x5 w4)))))) : Cl SR mX11_upperAfter [.ref 0, .int a1, .int a2] w Q := by
  refine cl_of (by decide) (Nat.le_of_ble_eq_true rfl) ?_
  show Go SR mX11_upperAfter 0 [(0, .ref 0), (1, .int a1), (2, .int a2)] [] w Q
  refine g_aload_n (pc := 0) dX11_upperAfter_0 rfl 0 rfl ?_
  refine g_callV (pc := 1) (M' := mX11_anew) (n := 0) (a := 0) (as := []) (st := []) dX11_upperAfter_1 rfl kX11_147 vX11_anew (Nat.le_of_ble_eq_true rfl) rfl qX11 rfl rfl (Nat.le_of_ble_eq_true rfl) ?_
  refine zX11_anew (w := w) (hR := hR) ?_
  show Go SR mX11_upperAfter 4 [(0, .ref 0), (1, .int a1), (2, .int a2)] [] (wXX11_anew w) Q
  refine g_aload_n (pc := 4) dX11_upperAfter_4 rfl 0 rfl ?_
  refine g_iload_n (pc := 5) dX11_upperAfter_5 rfl 1 rfl ?_
  refine g_iload_n (pc := 6) dX11_upperAfter_6 rfl 2 rfl ?_
  refine g_callV (pc := 7) (M' := mX11_rowWhy) (n := 2) (a := 0) (as := [.int a1, .int a2]) (st := []) dX11_upperAfter_7 rfl kX11_254 vX11_rowWhy (Nat.le_of_ble_eq_true rfl) rfl qX11 rfl rfl (Nat.le_of_ble_eq_true rfl) ?_
  refine cl_mono (fun r w1 hr => ?_) h
  obtain ⟨x2, rfl, hw1, h⟩ := hr
  show Go SR mX11_upperAfter 10 [(0, .ref 0), (1, .int a1), (2, .int a2)] [.int x2] w1 Q
  refine g_if_eq (pc := 10) (tgt := 24) dX11_upperAfter_10 (by decide) (fun q => ?_) (fun q => ?_)
  · have h := h.1 q
    refine g_aload_n (pc := 24) dX11_upperAfter_24 rfl 0 rfl ?_
    refine g_iload_n (pc := 25) dX11_upperAfter_25 rfl 1 rfl ?_
    refine g_iload_n (pc := 26) dX11_upperAfter_26 rfl 2 rfl ?_
    refine g_iconst (pc := 27) dX11_upperAfter_27 c_0 ?_
    refine g_iconst (pc := 28) dX11_upperAfter_28 c_0 ?_
    refine g_callV (pc := 29) (M' := mX11_dance) (n := 4) (a := 0) (as := [.int a1, .int a2, .int 0, .int 0]) (st := []) dX11_upperAfter_29 rfl kX11_166 vX11_dance (Nat.le_of_ble_eq_true rfl) rfl qX11 rfl rfl (Nat.le_of_ble_eq_true rfl) ?_
    refine cl_mono (fun r w3 hr => ?_) h
    obtain ⟨rfl, hw3, h⟩ := hr
    show Go SR mX11_upperAfter 32 [(0, .ref 0), (1, .int a1), (2, .int a2)] [] w3 Q
    refine g_aload_n (pc := 32) dX11_upperAfter_32 rfl 0 rfl ?_
    refine g_getI (pc := 33) (a := 0) dX11_upperAfter_33 rfl fX11_169 rfl ?_
    exact g_iret (pc := 36) dX11_upperAfter_36 rfl h
  · have h := h.2 q
    refine g_aload_n (pc := 13) dX11_upperAfter_13 rfl 0 rfl ?_
    refine g_aload_n (pc := 14) dX11_upperAfter_14 rfl 0 rfl ?_
    refine g_iload_n (pc := 15) dX11_upperAfter_15 rfl 1 rfl ?_
    refine g_iload_n (pc := 16) dX11_upperAfter_16 rfl 2 rfl ?_
    refine g_callV (pc := 17) (M' := mX11_rowWhy) (n := 2) (a := 0) (as := [.int a1, .int a2]) (st := [.ref 0]) dX11_upperAfter_17 rfl kX11_254 vX11_rowWhy (Nat.le_of_ble_eq_true rfl) rfl qX11 rfl rfl (Nat.le_of_ble_eq_true rfl) ?_
    refine cl_mono (fun r w4 hr => ?_) h
    obtain ⟨x5, rfl, hw4, h⟩ := hr
    show Go SR mX11_upperAfter 20 [(0, .ref 0), (1, .int a1), (2, .int a2)] [.int x5, .ref 0] w4 Q
    refine g_callV (pc := 20) (M' := mX11_nowhere) (n := 1) (a := 0) (as := [.int x5]) (st := []) dX11_upperAfter_20 rfl kX11_242 vX11_nowhere (Nat.le_of_ble_eq_true rfl) rfl qX11 rfl rfl (Nat.le_of_ble_eq_true rfl) ?_
    refine zX11_nowhere (a1 := x5) (w := w4) (hR := hw4) ?_
    show Go SR mX11_upperAfter 23 [(0, .ref 0), (1, .int a1), (2, .int a2)] [.int (vXX11_nowhere x5)] (wXX11_nowhere x5 w4) Q
    exact g_iret (pc := 23) dX11_upperAfter_23 rfl h
set_option maxHeartbeats 4000000 in
set_option maxRecDepth 100000 in
theorem TX11_lowerAfter (a1 : Int32) (a2 : Int32) (w : Wd) (hR : w.2.2 = RM) (Q : Option Value → Wd → Prop) (h : ClI SR mX11_rowWhy [.ref 0, .int a1, .int a2] (wXX11_anew w) (fun x2 w1 => w1.2.2 = RM ∧ ((x2 = 0 → ClV SR mX11_dance [.ref 0, .int a1, .int a2, .int 0, .int 0] w1 (fun w3 => w3.2.2 = RM ∧ Q (some (.int (wi w3 0 24))) w3)) ∧ (¬ (x2 = 0) → ClI SR mX11_rowWhy [.ref 0, .int a1, .int a2] w1 (fun x5 w4 => w4.2.2 = RM ∧ Q (some (.int (vXX11_no x5))) (wXX11_no x5 w4)))))) : Cl SR mX11_lowerAfter [.ref 0, .int a1, .int a2] w Q := by
  refine cl_of (by decide) (Nat.le_of_ble_eq_true rfl) ?_
  show Go SR mX11_lowerAfter 0 [(0, .ref 0), (1, .int a1), (2, .int a2)] [] w Q
  refine g_aload_n (pc := 0) dX11_lowerAfter_0 rfl 0 rfl ?_
  refine g_callV (pc := 1) (M' := mX11_anew) (n := 0) (a := 0) (as := []) (st := []) dX11_lowerAfter_1 rfl kX11_147 vX11_anew (Nat.le_of_ble_eq_true rfl) rfl qX11 rfl rfl (Nat.le_of_ble_eq_true rfl) ?_
  refine zX11_anew (w := w) (hR := hR) ?_
  show Go SR mX11_lowerAfter 4 [(0, .ref 0), (1, .int a1), (2, .int a2)] [] (wXX11_anew w) Q
  refine g_aload_n (pc := 4) dX11_lowerAfter_4 rfl 0 rfl ?_
  refine g_iload_n (pc := 5) dX11_lowerAfter_5 rfl 1 rfl ?_
  refine g_iload_n (pc := 6) dX11_lowerAfter_6 rfl 2 rfl ?_
  refine g_callV (pc := 7) (M' := mX11_rowWhy) (n := 2) (a := 0) (as := [.int a1, .int a2]) (st := []) dX11_lowerAfter_7 rfl kX11_254 vX11_rowWhy (Nat.le_of_ble_eq_true rfl) rfl qX11 rfl rfl (Nat.le_of_ble_eq_true rfl) ?_
  refine cl_mono (fun r w1 hr => ?_) h
  obtain ⟨x2, rfl, hw1, h⟩ := hr
  show Go SR mX11_lowerAfter 10 [(0, .ref 0), (1, .int a1), (2, .int a2)] [.int x2] w1 Q
  refine g_if_eq (pc := 10) (tgt := 24) dX11_lowerAfter_10 (by decide) (fun q => ?_) (fun q => ?_)
  · have h := h.1 q
    refine g_aload_n (pc := 24) dX11_lowerAfter_24 rfl 0 rfl ?_
    refine g_iload_n (pc := 25) dX11_lowerAfter_25 rfl 1 rfl ?_
    refine g_iload_n (pc := 26) dX11_lowerAfter_26 rfl 2 rfl ?_
    refine g_iconst (pc := 27) dX11_lowerAfter_27 c_0 ?_
    refine g_iconst (pc := 28) dX11_lowerAfter_28 c_0 ?_
    refine g_callV (pc := 29) (M' := mX11_dance) (n := 4) (a := 0) (as := [.int a1, .int a2, .int 0, .int 0]) (st := []) dX11_lowerAfter_29 rfl kX11_166 vX11_dance (Nat.le_of_ble_eq_true rfl) rfl qX11 rfl rfl (Nat.le_of_ble_eq_true rfl) ?_
    refine cl_mono (fun r w3 hr => ?_) h
    obtain ⟨rfl, hw3, h⟩ := hr
    show Go SR mX11_lowerAfter 32 [(0, .ref 0), (1, .int a1), (2, .int a2)] [] w3 Q
    refine g_aload_n (pc := 32) dX11_lowerAfter_32 rfl 0 rfl ?_
    refine g_getI (pc := 33) (a := 0) dX11_lowerAfter_33 rfl fX11_172 rfl ?_
    exact g_iret (pc := 36) dX11_lowerAfter_36 rfl h
  · have h := h.2 q
    refine g_aload_n (pc := 13) dX11_lowerAfter_13 rfl 0 rfl ?_
    refine g_aload_n (pc := 14) dX11_lowerAfter_14 rfl 0 rfl ?_
    refine g_iload_n (pc := 15) dX11_lowerAfter_15 rfl 1 rfl ?_
    refine g_iload_n (pc := 16) dX11_lowerAfter_16 rfl 2 rfl ?_
    refine g_callV (pc := 17) (M' := mX11_rowWhy) (n := 2) (a := 0) (as := [.int a1, .int a2]) (st := [.ref 0]) dX11_lowerAfter_17 rfl kX11_254 vX11_rowWhy (Nat.le_of_ble_eq_true rfl) rfl qX11 rfl rfl (Nat.le_of_ble_eq_true rfl) ?_
    refine cl_mono (fun r w4 hr => ?_) h
    obtain ⟨x5, rfl, hw4, h⟩ := hr
    show Go SR mX11_lowerAfter 20 [(0, .ref 0), (1, .int a1), (2, .int a2)] [.int x5, .ref 0] w4 Q
    refine g_callV (pc := 20) (M' := mX11_no) (n := 1) (a := 0) (as := [.int x5]) (st := []) dX11_lowerAfter_20 rfl kX11_150 vX11_no (Nat.le_of_ble_eq_true rfl) rfl qX11 rfl rfl (Nat.le_of_ble_eq_true rfl) ?_
    refine zX11_no (a1 := x5) (w := w4) (hR := hw4) ?_
    show Go SR mX11_lowerAfter 23 [(0, .ref 0), (1, .int a1), (2, .int a2)] [.int (vXX11_no x5)] (wXX11_no x5 w4) Q
    exact g_iret (pc := 23) dX11_lowerAfter_23 rfl h
set_option maxHeartbeats 4000000 in
set_option maxRecDepth 100000 in
theorem TX11_mostAt (a1 : Int32) (w : Wd) (hR : w.2.2 = RM) (Q : Option Value → Wd → Prop) (h : ClI SR mX11_isDance [.ref 0, .int a1] (wXX11_anew w) (fun x2 w1 => w1.2.2 = RM ∧ ((x2 = 0 → Q (some (.int (vXX11_no 1))) (wXX11_no 1 w1)) ∧ (¬ (x2 = 0) → Go SR mX11_mostAt 25 [(0, .ref 0), (1, .int a1), (2, .int 0), (3, .int (-1)), (4, .int 0)] [] w1 Q)))) : Cl SR mX11_mostAt [.ref 0, .int a1] w Q := by
  refine cl_of (by decide) (Nat.le_of_ble_eq_true rfl) ?_
  show Go SR mX11_mostAt 0 [(0, .ref 0), (1, .int a1)] [] w Q
  refine g_aload_n (pc := 0) dX11_mostAt_0 rfl 0 rfl ?_
  refine g_callV (pc := 1) (M' := mX11_anew) (n := 0) (a := 0) (as := []) (st := []) dX11_mostAt_1 rfl kX11_147 vX11_anew (Nat.le_of_ble_eq_true rfl) rfl qX11 rfl rfl (Nat.le_of_ble_eq_true rfl) ?_
  refine zX11_anew (w := w) (hR := hR) ?_
  show Go SR mX11_mostAt 4 [(0, .ref 0), (1, .int a1)] [] (wXX11_anew w) Q
  refine g_aload_n (pc := 4) dX11_mostAt_4 rfl 0 rfl ?_
  refine g_iload_n (pc := 5) dX11_mostAt_5 rfl 1 rfl ?_
  refine g_callV (pc := 6) (M' := mX11_isDance) (n := 1) (a := 0) (as := [.int a1]) (st := []) dX11_mostAt_6 rfl kX11_239 vX11_isDance (Nat.le_of_ble_eq_true rfl) rfl qX11 rfl rfl (Nat.le_of_ble_eq_true rfl) ?_
  refine cl_mono (fun r w1 hr => ?_) h
  obtain ⟨x2, rfl, hw1, h⟩ := hr
  show Go SR mX11_mostAt 9 [(0, .ref 0), (1, .int a1)] [.int x2] w1 Q
  refine g_if_ne (pc := 9) (tgt := 18) dX11_mostAt_9 (by decide) (fun q => ?_) (fun q => ?_)
  · have h := h.2 q
    refine g_iconst (pc := 18) dX11_mostAt_18 c_0 ?_
    refine g_istore_n (pc := 19) (lv2 := [(0, .ref 0), (1, .int a1), (2, .int 0)]) dX11_mostAt_19 rfl (Nat.le_of_ble_eq_true rfl) rfl ?_
    refine g_iconst (pc := 20) dX11_mostAt_20 cN_1 ?_
    refine g_istore_n (pc := 21) (lv2 := [(0, .ref 0), (1, .int a1), (2, .int 0), (3, .int (-1))]) dX11_mostAt_21 rfl (Nat.le_of_ble_eq_true rfl) rfl ?_
    refine g_iconst (pc := 22) dX11_mostAt_22 c_0 ?_
    refine g_istore (pc := 23) (lv2 := [(0, .ref 0), (1, .int a1), (2, .int 0), (3, .int (-1)), (4, .int 0)]) dX11_mostAt_23 (Nat.le_of_ble_eq_true rfl) rfl ?_
    exact h
  · have h := h.1 q
    refine g_aload_n (pc := 12) dX11_mostAt_12 rfl 0 rfl ?_
    refine g_iconst (pc := 13) dX11_mostAt_13 c_1 ?_
    refine g_callV (pc := 14) (M' := mX11_no) (n := 1) (a := 0) (as := [.int 1]) (st := []) dX11_mostAt_14 rfl kX11_150 vX11_no (Nat.le_of_ble_eq_true rfl) rfl qX11 rfl rfl (Nat.le_of_ble_eq_true rfl) ?_
    refine zX11_no (a1 := 1) (w := w1) (hR := hw1) ?_
    show Go SR mX11_mostAt 17 [(0, .ref 0), (1, .int a1)] [.int (vXX11_no 1)] (wXX11_no 1 w1) Q
    exact g_iret (pc := 17) dX11_mostAt_17 rfl h
set_option maxHeartbeats 4000000 in
set_option maxRecDepth 100000 in
theorem BX11_mostAt_25  (l1 : Int32) (l2 : Int32) (l3 : Int32) (l4 : Int32) (w : Wd) (hR : w.2.2 = RM) (Q : Option Value → Wd → Prop) (h : vp_in (4 + l1) 146 ∧ (((wi w 3 ((4 + l1).toNatClampNeg)) < l4 → Q (some (.int l2)) w) ∧ (¬ ((wi w 3 ((4 + l1).toNatClampNeg)) < l4) → ClV SR mX11_dance [.ref 0, .int l1, .int l4, .int 0, .int 0] w (fun w2 => w2.2.2 = RM ∧ ClI SR mX11_layParts [.ref 0] w2 (fun x4 w3 => w3.2.2 = RM ∧ Go SR mX11_mostAt 25 [(0, .ref 0), (1, .int l1), (2, .int (if l3 < x4 then l4 else l2 : Int32)), (3, .int (if l3 < x4 then x4 else l3 : Int32)), (4, .int (l4 + 1))] [] w3 Q))))) : Go SR mX11_mostAt 25 [(0, .ref 0), (1, .int l1), (2, .int l2), (3, .int l3), (4, .int l4)] [] w Q := by
  refine g_iload (pc := 25) dX11_mostAt_25 4 rfl ?_
  refine g_aload_n (pc := 27) dX11_mostAt_27 rfl 0 rfl ?_
  refine g_getR (pc := 28) (a := 0) (b := 3) dX11_mostAt_28 rfl fX11_20 rfl (rm_16 hR) ?_
  refine g_iconst (pc := 31) dX11_mostAt_31 c_4 ?_
  refine g_iload_n (pc := 32) dX11_mostAt_32 rfl 1 rfl ?_
  refine g_iadd (pc := 33) dX11_mostAt_33 ?_
  obtain ⟨hi1, h⟩ := h
  refine g_iald (pc := 34) (a := 3) (j := (4 + l1).toNatClampNeg) dX11_mostAt_34 rfl hi1 rfl ?_
  refine g_icmp_gt (pc := 35) (tgt := 74) dX11_mostAt_35 (by decide) (fun q => ?_) (fun q => ?_)
  · have h := h.1 q
    refine g_iload_n (pc := 74) dX11_mostAt_74 rfl 2 rfl ?_
    exact g_iret (pc := 75) dX11_mostAt_75 rfl h
  · have h := h.2 q
    refine g_aload_n (pc := 38) dX11_mostAt_38 rfl 0 rfl ?_
    refine g_iload_n (pc := 39) dX11_mostAt_39 rfl 1 rfl ?_
    refine g_iload (pc := 40) dX11_mostAt_40 4 rfl ?_
    refine g_iconst (pc := 42) dX11_mostAt_42 c_0 ?_
    refine g_iconst (pc := 43) dX11_mostAt_43 c_0 ?_
    refine g_callV (pc := 44) (M' := mX11_dance) (n := 4) (a := 0) (as := [.int l1, .int l4, .int 0, .int 0]) (st := []) dX11_mostAt_44 rfl kX11_166 vX11_dance (Nat.le_of_ble_eq_true rfl) rfl qX11 rfl rfl (Nat.le_of_ble_eq_true rfl) ?_
    refine cl_mono (fun r w2 hr => ?_) h
    obtain ⟨rfl, hw2, h⟩ := hr
    show Go SR mX11_mostAt 47 [(0, .ref 0), (1, .int l1), (2, .int l2), (3, .int l3), (4, .int l4)] [] w2 Q
    refine g_aload_n (pc := 47) dX11_mostAt_47 rfl 0 rfl ?_
    refine g_callV (pc := 48) (M' := mX11_layParts) (n := 0) (a := 0) (as := []) (st := []) dX11_mostAt_48 rfl kX11_251 vX11_layParts (Nat.le_of_ble_eq_true rfl) rfl qX11 rfl rfl (Nat.le_of_ble_eq_true rfl) ?_
    refine cl_mono (fun r w3 hr => ?_) h
    obtain ⟨x4, rfl, hw3, h⟩ := hr
    show Go SR mX11_mostAt 51 [(0, .ref 0), (1, .int l1), (2, .int l2), (3, .int l3), (4, .int l4)] [.int x4] w3 Q
    refine g_istore (pc := 51) (lv2 := [(0, .ref 0), (1, .int l1), (2, .int l2), (3, .int l3), (4, .int l4), (5, .int x4)]) dX11_mostAt_51 (Nat.le_of_ble_eq_true rfl) rfl ?_
    refine g_iload (pc := 53) dX11_mostAt_53 5 rfl ?_
    refine g_iload_n (pc := 55) dX11_mostAt_55 rfl 3 rfl ?_
    have hJ : Go SR mX11_mostAt 68 [(0, .ref 0), (1, .int l1), (2, .int (if l3 < x4 then l4 else l2 : Int32)), (3, .int (if l3 < x4 then x4 else l3 : Int32)), (4, .int l4), (5, .int x4)] [] w3 Q := by
      refine g_iinc (pc := 68) (v := l4 + 1) (lv2 := [(0, .ref 0), (1, .int l1), (2, .int (if l3 < x4 then l4 else l2 : Int32)), (3, .int (if l3 < x4 then x4 else l3 : Int32)), (4, .int (l4 + 1)), (5, .int x4)]) dX11_mostAt_68 4 rfl (Nat.le_of_ble_eq_true rfl) rfl rfl ?_
      refine g_goto (pc := 71) (tgt := 25) dX11_mostAt_71 (by decide) ?_
      refine g_sub (lv2 := [(0, .ref 0), (1, .int l1), (2, .int (if l3 < x4 then l4 else l2 : Int32)), (3, .int (if l3 < x4 then x4 else l3 : Int32)), (4, .int (l4 + 1))]) [0, 1, 2, 3, 4] rfl ?_
      exact h
    refine g_icmp_gt (pc := 56) (tgt := 62) dX11_mostAt_56 (by decide) (fun q56 => ?_) (fun q56 => ?_)
    · refine g_iload (pc := 62) dX11_mostAt_62 4 rfl ?_
      refine g_istore_n (pc := 64) (lv2 := [(0, .ref 0), (1, .int l1), (2, .int l4), (3, .int l3), (4, .int l4), (5, .int x4)]) dX11_mostAt_64 rfl (Nat.le_of_ble_eq_true rfl) rfl ?_
      refine g_iload (pc := 65) dX11_mostAt_65 5 rfl ?_
      refine g_istore_n (pc := 67) (lv2 := [(0, .ref 0), (1, .int l1), (2, .int l4), (3, .int x4), (4, .int l4), (5, .int x4)]) dX11_mostAt_67 rfl (Nat.le_of_ble_eq_true rfl) rfl ?_
      first | (exfalso; contradiction) | exact cast (by simp only [if_pos q56]) hJ
    · refine g_goto (pc := 59) (tgt := 68) dX11_mostAt_59 (by decide) ?_
      first | (exfalso; contradiction) | exact cast (by simp only [if_neg q56]) hJ
set_option maxHeartbeats 4000000 in
set_option maxRecDepth 100000 in
theorem TX11_goesFirst (a1 : Int32) (a2 : Int32) (a3 : Int32) (w : Wd) (hR : w.2.2 = RM) (Q : Option Value → Wd → Prop) (h : ClI SR mX11_isDance [.ref 0, .int a1] (wXX11_anew w) (fun x2 w1 => w1.2.2 = RM ∧ ((x2 = 0 → Q (some (.int (vXX11_no 1))) (wXX11_no 1 w1)) ∧ (¬ (x2 = 0) → (((vXX11_areCorners a2 a3) = 0 → Q (some (.int (vXX11_no 1))) (wXX11_no 1 w1)) ∧ (¬ ((vXX11_areCorners a2 a3) = 0) → Go SR mX11_goesFirst 30 [(0, .ref 0), (1, .int a1), (2, .int a2), (3, .int a3), (4, .int 0)] [] w1 Q)))))) : Cl SR mX11_goesFirst [.ref 0, .int a1, .int a2, .int a3] w Q := by
  refine cl_of (by decide) (Nat.le_of_ble_eq_true rfl) ?_
  show Go SR mX11_goesFirst 0 [(0, .ref 0), (1, .int a1), (2, .int a2), (3, .int a3)] [] w Q
  refine g_aload_n (pc := 0) dX11_goesFirst_0 rfl 0 rfl ?_
  refine g_callV (pc := 1) (M' := mX11_anew) (n := 0) (a := 0) (as := []) (st := []) dX11_goesFirst_1 rfl kX11_147 vX11_anew (Nat.le_of_ble_eq_true rfl) rfl qX11 rfl rfl (Nat.le_of_ble_eq_true rfl) ?_
  refine zX11_anew (w := w) (hR := hR) ?_
  show Go SR mX11_goesFirst 4 [(0, .ref 0), (1, .int a1), (2, .int a2), (3, .int a3)] [] (wXX11_anew w) Q
  refine g_aload_n (pc := 4) dX11_goesFirst_4 rfl 0 rfl ?_
  refine g_iload_n (pc := 5) dX11_goesFirst_5 rfl 1 rfl ?_
  refine g_callV (pc := 6) (M' := mX11_isDance) (n := 1) (a := 0) (as := [.int a1]) (st := []) dX11_goesFirst_6 rfl kX11_239 vX11_isDance (Nat.le_of_ble_eq_true rfl) rfl qX11 rfl rfl (Nat.le_of_ble_eq_true rfl) ?_
  refine cl_mono (fun r w1 hr => ?_) h
  obtain ⟨x2, rfl, hw1, h⟩ := hr
  show Go SR mX11_goesFirst 9 [(0, .ref 0), (1, .int a1), (2, .int a2), (3, .int a3)] [.int x2] w1 Q
  refine g_if_eq (pc := 9) (tgt := 21) dX11_goesFirst_9 (by decide) (fun q => ?_) (fun q => ?_)
  · have h := h.1 q
    refine g_aload_n (pc := 21) dX11_goesFirst_21 rfl 0 rfl ?_
    refine g_iconst (pc := 22) dX11_goesFirst_22 c_1 ?_
    refine g_callV (pc := 23) (M' := mX11_no) (n := 1) (a := 0) (as := [.int 1]) (st := []) dX11_goesFirst_23 rfl kX11_150 vX11_no (Nat.le_of_ble_eq_true rfl) rfl qX11 rfl rfl (Nat.le_of_ble_eq_true rfl) ?_
    refine zX11_no (a1 := 1) (w := w1) (hR := hw1) ?_
    show Go SR mX11_goesFirst 26 [(0, .ref 0), (1, .int a1), (2, .int a2), (3, .int a3)] [.int (vXX11_no 1)] (wXX11_no 1 w1) Q
    exact g_iret (pc := 26) dX11_goesFirst_26 rfl h
  · have h := h.2 q
    refine g_aload_n (pc := 12) dX11_goesFirst_12 rfl 0 rfl ?_
    refine g_iload_n (pc := 13) dX11_goesFirst_13 rfl 2 rfl ?_
    refine g_iload_n (pc := 14) dX11_goesFirst_14 rfl 3 rfl ?_
    refine g_callV (pc := 15) (M' := mX11_areCorners) (n := 2) (a := 0) (as := [.int a2, .int a3]) (st := []) dX11_goesFirst_15 rfl kX11_257 vX11_areCorners (Nat.le_of_ble_eq_true rfl) rfl qX11 rfl rfl (Nat.le_of_ble_eq_true rfl) ?_
    refine zX11_areCorners (a1 := a2) (a2 := a3) (w := w1) (hR := hw1) ?_
    show Go SR mX11_goesFirst 18 [(0, .ref 0), (1, .int a1), (2, .int a2), (3, .int a3)] [.int (vXX11_areCorners a2 a3)] w1 Q
    refine g_if_ne (pc := 18) (tgt := 27) dX11_goesFirst_18 (by decide) (fun q => ?_) (fun q => ?_)
    · have h := h.2 q
      refine g_iconst (pc := 27) dX11_goesFirst_27 c_0 ?_
      refine g_istore (pc := 28) (lv2 := [(0, .ref 0), (1, .int a1), (2, .int a2), (3, .int a3), (4, .int 0)]) dX11_goesFirst_28 (Nat.le_of_ble_eq_true rfl) rfl ?_
      exact h
    · have h := h.1 q
      refine g_aload_n (pc := 21) dX11_goesFirst_21 rfl 0 rfl ?_
      refine g_iconst (pc := 22) dX11_goesFirst_22 c_1 ?_
      refine g_callV (pc := 23) (M' := mX11_no) (n := 1) (a := 0) (as := [.int 1]) (st := []) dX11_goesFirst_23 rfl kX11_150 vX11_no (Nat.le_of_ble_eq_true rfl) rfl qX11 rfl rfl (Nat.le_of_ble_eq_true rfl) ?_
      refine zX11_no (a1 := 1) (w := w1) (hR := hw1) ?_
      show Go SR mX11_goesFirst 26 [(0, .ref 0), (1, .int a1), (2, .int a2), (3, .int a3)] [.int (vXX11_no 1)] (wXX11_no 1 w1) Q
      exact g_iret (pc := 26) dX11_goesFirst_26 rfl h
set_option maxHeartbeats 4000000 in
set_option maxRecDepth 100000 in
theorem BX11_goesFirst_30  (l1 : Int32) (l2 : Int32) (l3 : Int32) (l4 : Int32) (w : Wd) (hR : w.2.2 = RM) (Q : Option Value → Wd → Prop) (h : vp_in (4 + l1) 146 ∧ (((wi w 3 ((4 + l1).toNatClampNeg)) < l4 → Q (some (.int (-2))) w) ∧ (¬ ((wi w 3 ((4 + l1).toNatClampNeg)) < l4) → ClV SR mX11_dance [.ref 0, .int l1, .int l4, .int 0, .int 0] w (fun w2 => w2.2.2 = RM ∧ (((vXX11_endOf l2 w2) = l3 → Q (some (.int l4)) w2) ∧ (¬ ((vXX11_endOf l2 w2) = l3) → Go SR mX11_goesFirst 30 [(0, .ref 0), (1, .int l1), (2, .int l2), (3, .int l3), (4, .int (l4 + 1))] [] w2 Q)))))) : Go SR mX11_goesFirst 30 [(0, .ref 0), (1, .int l1), (2, .int l2), (3, .int l3), (4, .int l4)] [] w Q := by
  refine g_iload (pc := 30) dX11_goesFirst_30 4 rfl ?_
  refine g_aload_n (pc := 32) dX11_goesFirst_32 rfl 0 rfl ?_
  refine g_getR (pc := 33) (a := 0) (b := 3) dX11_goesFirst_33 rfl fX11_20 rfl (rm_16 hR) ?_
  refine g_iconst (pc := 36) dX11_goesFirst_36 c_4 ?_
  refine g_iload_n (pc := 37) dX11_goesFirst_37 rfl 1 rfl ?_
  refine g_iadd (pc := 38) dX11_goesFirst_38 ?_
  obtain ⟨hi1, h⟩ := h
  refine g_iald (pc := 39) (a := 3) (j := (4 + l1).toNatClampNeg) dX11_goesFirst_39 rfl hi1 rfl ?_
  refine g_icmp_gt (pc := 40) (tgt := 70) dX11_goesFirst_40 (by decide) (fun q => ?_) (fun q => ?_)
  · have h := h.1 q
    refine g_bipush (pc := 70) (v := (-2)) dX11_goesFirst_70 (by decide) ?_
    exact g_iret (pc := 72) dX11_goesFirst_72 rfl h
  · have h := h.2 q
    refine g_aload_n (pc := 43) dX11_goesFirst_43 rfl 0 rfl ?_
    refine g_iload_n (pc := 44) dX11_goesFirst_44 rfl 1 rfl ?_
    refine g_iload (pc := 45) dX11_goesFirst_45 4 rfl ?_
    refine g_iconst (pc := 47) dX11_goesFirst_47 c_0 ?_
    refine g_iconst (pc := 48) dX11_goesFirst_48 c_0 ?_
    refine g_callV (pc := 49) (M' := mX11_dance) (n := 4) (a := 0) (as := [.int l1, .int l4, .int 0, .int 0]) (st := []) dX11_goesFirst_49 rfl kX11_166 vX11_dance (Nat.le_of_ble_eq_true rfl) rfl qX11 rfl rfl (Nat.le_of_ble_eq_true rfl) ?_
    refine cl_mono (fun r w2 hr => ?_) h
    obtain ⟨rfl, hw2, h⟩ := hr
    show Go SR mX11_goesFirst 52 [(0, .ref 0), (1, .int l1), (2, .int l2), (3, .int l3), (4, .int l4)] [] w2 Q
    refine g_aload_n (pc := 52) dX11_goesFirst_52 rfl 0 rfl ?_
    refine g_iload_n (pc := 53) dX11_goesFirst_53 rfl 2 rfl ?_
    refine g_callV (pc := 54) (M' := mX11_endOf) (n := 1) (a := 0) (as := [.int l2]) (st := []) dX11_goesFirst_54 rfl kX11_248 vX11_endOf (Nat.le_of_ble_eq_true rfl) rfl qX11 rfl rfl (Nat.le_of_ble_eq_true rfl) ?_
    refine zX11_endOf (a1 := l2) (w := w2) (hR := hw2) ?_
    show Go SR mX11_goesFirst 57 [(0, .ref 0), (1, .int l1), (2, .int l2), (3, .int l3), (4, .int l4)] [.int (vXX11_endOf l2 w2)] w2 Q
    refine g_iload_n (pc := 57) dX11_goesFirst_57 rfl 3 rfl ?_
    refine g_icmp_ne (pc := 58) (tgt := 64) dX11_goesFirst_58 (by decide) (fun q => ?_) (fun q => ?_)
    · have h := h.2 q
      refine g_iinc (pc := 64) (v := l4 + 1) (lv2 := [(0, .ref 0), (1, .int l1), (2, .int l2), (3, .int l3), (4, .int (l4 + 1))]) dX11_goesFirst_64 4 rfl (Nat.le_of_ble_eq_true rfl) rfl rfl ?_
      refine g_goto (pc := 67) (tgt := 30) dX11_goesFirst_67 (by decide) ?_
      exact h
    · have h := h.1 q
      refine g_iload (pc := 61) dX11_goesFirst_61 4 rfl ?_
      exact g_iret (pc := 63) dX11_goesFirst_63 rfl h
set_option maxHeartbeats 4000000 in
set_option maxRecDepth 100000 in
theorem TX11_again (a1 : Int32) (w : Wd) (hR : w.2.2 = RM) (Q : Option Value → Wd → Prop) (h : ClI SR mX11_isDance [.ref 0, .int a1] (wXX11_anew w) (fun x2 w1 => w1.2.2 = RM ∧ ((x2 = 0 → Q (some (.int (vXX11_no 1))) (wXX11_no 1 w1)) ∧ (¬ (x2 = 0) → Go SR mX11_again 30 [(0, .ref 0), (1, .int a1), (2, .int 1)] [] (si (si w1 0 23 0) 0 24 1) Q)))) : Cl SR mX11_again [.ref 0, .int a1] w Q := by
  refine cl_of (by decide) (Nat.le_of_ble_eq_true rfl) ?_
  show Go SR mX11_again 0 [(0, .ref 0), (1, .int a1)] [] w Q
  refine g_aload_n (pc := 0) dX11_again_0 rfl 0 rfl ?_
  refine g_callV (pc := 1) (M' := mX11_anew) (n := 0) (a := 0) (as := []) (st := []) dX11_again_1 rfl kX11_147 vX11_anew (Nat.le_of_ble_eq_true rfl) rfl qX11 rfl rfl (Nat.le_of_ble_eq_true rfl) ?_
  refine zX11_anew (w := w) (hR := hR) ?_
  show Go SR mX11_again 4 [(0, .ref 0), (1, .int a1)] [] (wXX11_anew w) Q
  refine g_aload_n (pc := 4) dX11_again_4 rfl 0 rfl ?_
  refine g_iload_n (pc := 5) dX11_again_5 rfl 1 rfl ?_
  refine g_callV (pc := 6) (M' := mX11_isDance) (n := 1) (a := 0) (as := [.int a1]) (st := []) dX11_again_6 rfl kX11_239 vX11_isDance (Nat.le_of_ble_eq_true rfl) rfl qX11 rfl rfl (Nat.le_of_ble_eq_true rfl) ?_
  refine cl_mono (fun r w1 hr => ?_) h
  obtain ⟨x2, rfl, hw1, h⟩ := hr
  show Go SR mX11_again 9 [(0, .ref 0), (1, .int a1)] [.int x2] w1 Q
  refine g_if_ne (pc := 9) (tgt := 18) dX11_again_9 (by decide) (fun q => ?_) (fun q => ?_)
  · have h := h.2 q
    refine g_aload_n (pc := 18) dX11_again_18 rfl 0 rfl ?_
    refine g_iconst (pc := 19) dX11_again_19 c_0 ?_
    refine g_putI (pc := 20) dX11_again_20 rfl fX11_169 pX11_23 rfl ?_
    refine g_aload_n (pc := 23) dX11_again_23 rfl 0 rfl ?_
    refine g_iconst (pc := 24) dX11_again_24 c_1 ?_
    refine g_putI (pc := 25) dX11_again_25 rfl fX11_172 pX11_24 rfl ?_
    refine g_iconst (pc := 28) dX11_again_28 c_1 ?_
    refine g_istore_n (pc := 29) (lv2 := [(0, .ref 0), (1, .int a1), (2, .int 1)]) dX11_again_29 rfl (Nat.le_of_ble_eq_true rfl) rfl ?_
    exact h
  · have h := h.1 q
    refine g_aload_n (pc := 12) dX11_again_12 rfl 0 rfl ?_
    refine g_iconst (pc := 13) dX11_again_13 c_1 ?_
    refine g_callV (pc := 14) (M' := mX11_no) (n := 1) (a := 0) (as := [.int 1]) (st := []) dX11_again_14 rfl kX11_150 vX11_no (Nat.le_of_ble_eq_true rfl) rfl qX11 rfl rfl (Nat.le_of_ble_eq_true rfl) ?_
    refine zX11_no (a1 := 1) (w := w1) (hR := hw1) ?_
    show Go SR mX11_again 17 [(0, .ref 0), (1, .int a1)] [.int (vXX11_no 1)] (wXX11_no 1 w1) Q
    exact g_iret (pc := 17) dX11_again_17 rfl h
set_option maxHeartbeats 4000000 in
set_option maxRecDepth 100000 in
theorem BX11_again_30  (l1 : Int32) (l2 : Int32) (w : Wd) (hR : w.2.2 = RM) (Q : Option Value → Wd → Prop) (h : ((60 < l2 → Q (some (.int (-2))) w) ∧ (¬ (60 < l2) → Go SR mX11_again 38 [(0, .ref 0), (1, .int l1), (2, .int l2), (3, .int 0)] [] w Q))) : Go SR mX11_again 30 [(0, .ref 0), (1, .int l1), (2, .int l2)] [] w Q := by
  refine g_iload_n (pc := 30) dX11_again_30 rfl 2 rfl ?_
  refine g_bipush (pc := 31) (v := 60) dX11_again_31 (by decide) ?_
  refine g_icmp_gt (pc := 33) (tgt := 95) dX11_again_33 (by decide) (fun q => ?_) (fun q => ?_)
  · have h := h.1 q
    refine g_bipush (pc := 95) (v := (-2)) dX11_again_95 (by decide) ?_
    exact g_iret (pc := 97) dX11_again_97 rfl h
  · have h := h.2 q
    refine g_iconst (pc := 36) dX11_again_36 c_0 ?_
    refine g_istore_n (pc := 37) (lv2 := [(0, .ref 0), (1, .int l1), (2, .int l2), (3, .int 0)]) dX11_again_37 rfl (Nat.le_of_ble_eq_true rfl) rfl ?_
    exact h
set_option maxHeartbeats 4000000 in
set_option maxRecDepth 100000 in
theorem BX11_again_38  (l1 : Int32) (l2 : Int32) (l3 : Int32) (w : Wd) (hR : w.2.2 = RM) (Q : Option Value → Wd → Prop) (h : vp_in (4 + l1) 146 ∧ (((wi w 3 ((4 + l1).toNatClampNeg)) ≤ l3 → (((vXX11_isNothing w) = 0 → Go SR mX11_again 30 [(0, .ref 0), (1, .int l1), (2, .int (l2 + 1))] [] w Q) ∧ (¬ ((vXX11_isNothing w) = 0) → Q (some (.int l2)) w))) ∧ (¬ ((wi w 3 ((4 + l1).toNatClampNeg)) ≤ l3) → vp_in ((9 + (12 * l1)) + l3) 146 ∧ ClI SR mX11_calls [.ref 0, .int (wi w 3 (((9 + (12 * l1)) + l3).toNatClampNeg))] w (fun x4 w3 => w3.2.2 = RM ∧ ((x4 = 0 → Q (some (.int (-2))) w3) ∧ (¬ (x4 = 0) → Go SR mX11_again 38 [(0, .ref 0), (1, .int l1), (2, .int l2), (3, .int (l3 + 1))] [] w3 Q)))))) : Go SR mX11_again 38 [(0, .ref 0), (1, .int l1), (2, .int l2), (3, .int l3)] [] w Q := by
  refine g_iload_n (pc := 38) dX11_again_38 rfl 3 rfl ?_
  refine g_aload_n (pc := 39) dX11_again_39 rfl 0 rfl ?_
  refine g_getR (pc := 40) (a := 0) (b := 3) dX11_again_40 rfl fX11_20 rfl (rm_16 hR) ?_
  refine g_iconst (pc := 43) dX11_again_43 c_4 ?_
  refine g_iload_n (pc := 44) dX11_again_44 rfl 1 rfl ?_
  refine g_iadd (pc := 45) dX11_again_45 ?_
  obtain ⟨hi1, h⟩ := h
  refine g_iald (pc := 46) (a := 3) (j := (4 + l1).toNatClampNeg) dX11_again_46 rfl hi1 rfl ?_
  refine g_icmp_ge (pc := 47) (tgt := 80) dX11_again_47 (by decide) (fun q => ?_) (fun q => ?_)
  · have h := h.1 q
    refine g_aload_n (pc := 80) dX11_again_80 rfl 0 rfl ?_
    refine g_callV (pc := 81) (M' := mX11_isNothing) (n := 0) (a := 0) (as := []) (st := []) dX11_again_81 rfl kX11_263 vX11_isNothing (Nat.le_of_ble_eq_true rfl) rfl qX11 rfl rfl (Nat.le_of_ble_eq_true rfl) ?_
    refine zX11_isNothing (w := w) (hR := hR) ?_
    show Go SR mX11_again 84 [(0, .ref 0), (1, .int l1), (2, .int l2), (3, .int l3)] [.int (vXX11_isNothing w)] w Q
    refine g_if_eq (pc := 84) (tgt := 89) dX11_again_84 (by decide) (fun q => ?_) (fun q => ?_)
    · have h := h.1 q
      refine g_iinc (pc := 89) (v := l2 + 1) (lv2 := [(0, .ref 0), (1, .int l1), (2, .int (l2 + 1)), (3, .int l3)]) dX11_again_89 2 rfl (Nat.le_of_ble_eq_true rfl) rfl rfl ?_
      refine g_goto (pc := 92) (tgt := 30) dX11_again_92 (by decide) ?_
      refine g_sub (lv2 := [(0, .ref 0), (1, .int l1), (2, .int (l2 + 1))]) [0, 1, 2] rfl ?_
      exact h
    · have h := h.2 q
      refine g_iload_n (pc := 87) dX11_again_87 rfl 2 rfl ?_
      exact g_iret (pc := 88) dX11_again_88 rfl h
  · have h := h.2 q
    refine g_aload_n (pc := 50) dX11_again_50 rfl 0 rfl ?_
    refine g_aload_n (pc := 51) dX11_again_51 rfl 0 rfl ?_
    refine g_getR (pc := 52) (a := 0) (b := 3) dX11_again_52 rfl fX11_20 rfl (rm_16 hR) ?_
    refine g_bipush (pc := 55) (v := 9) dX11_again_55 (by decide) ?_
    refine g_bipush (pc := 57) (v := 12) dX11_again_57 (by decide) ?_
    refine g_iload_n (pc := 59) dX11_again_59 rfl 1 rfl ?_
    refine g_imul (pc := 60) dX11_again_60 ?_
    refine g_iadd (pc := 61) dX11_again_61 ?_
    refine g_iload_n (pc := 62) dX11_again_62 rfl 3 rfl ?_
    refine g_iadd (pc := 63) dX11_again_63 ?_
    obtain ⟨hi2, h⟩ := h
    refine g_iald (pc := 64) (a := 3) (j := ((9 + (12 * l1)) + l3).toNatClampNeg) dX11_again_64 rfl hi2 rfl ?_
    refine g_callV (pc := 65) (M' := mX11_calls) (n := 1) (a := 0) (as := [.int (wi w 3 (((9 + (12 * l1)) + l3).toNatClampNeg))]) (st := []) dX11_again_65 rfl kX11_260 vX11_calls (Nat.le_of_ble_eq_true rfl) rfl qX11 rfl rfl (Nat.le_of_ble_eq_true rfl) ?_
    refine cl_mono (fun r w3 hr => ?_) h
    obtain ⟨x4, rfl, hw3, h⟩ := hr
    show Go SR mX11_again 68 [(0, .ref 0), (1, .int l1), (2, .int l2), (3, .int l3)] [.int x4] w3 Q
    refine g_if_ne (pc := 68) (tgt := 74) dX11_again_68 (by decide) (fun q => ?_) (fun q => ?_)
    · have h := h.2 q
      refine g_iinc (pc := 74) (v := l3 + 1) (lv2 := [(0, .ref 0), (1, .int l1), (2, .int l2), (3, .int (l3 + 1))]) dX11_again_74 3 rfl (Nat.le_of_ble_eq_true rfl) rfl rfl ?_
      refine g_goto (pc := 77) (tgt := 38) dX11_again_77 (by decide) ?_
      exact h
    · have h := h.1 q
      refine g_bipush (pc := 71) (v := (-2)) dX11_again_71 (by decide) ?_
      exact g_iret (pc := 73) dX11_again_73 rfl h
set_option maxHeartbeats 4000000 in
set_option maxRecDepth 100000 in
theorem TX11_layRow (a1 : Int32) (a2 na2 : Nat) (ha2 : SR[a2]? = some (.inr (0, na2))) (w : Wd) (hR : w.2.2 = RM) (Q : Option Value → Wd → Prop) (h : vp_in (0 : Int32) na2 ∧ vp_in (1 : Int32) na2 ∧ vp_in (2 : Int32) na2 ∧ vp_in (3 : Int32) na2 ∧ Go SR mX11_layRow 18 [(0, .ref 0), (1, .int a1), (2, .ref a2), (3, .int 0)] [] (si (si (si (si w a2 0 1) a2 1 0) a2 2 0) a2 3 1) Q) : Cl SR mX11_layRow [.ref 0, .int a1, .ref a2] w Q := by
  refine cl_of (by decide) (Nat.le_of_ble_eq_true rfl) ?_
  show Go SR mX11_layRow 0 [(0, .ref 0), (1, .int a1), (2, .ref a2)] [] w Q
  refine g_aload_n (pc := 0) dX11_layRow_0 rfl 2 rfl ?_
  refine g_iconst (pc := 1) dX11_layRow_1 c_0 ?_
  refine g_iconst (pc := 2) dX11_layRow_2 c_1 ?_
  obtain ⟨hi1, h⟩ := h
  refine g_iast (pc := 3) (a := a2) (j := 0) dX11_layRow_3 ha2 hi1 (by decide) ?_
  refine g_aload_n (pc := 4) dX11_layRow_4 rfl 2 rfl ?_
  refine g_iconst (pc := 5) dX11_layRow_5 c_1 ?_
  refine g_iconst (pc := 6) dX11_layRow_6 c_0 ?_
  obtain ⟨hi2, h⟩ := h
  refine g_iast (pc := 7) (a := a2) (j := 1) dX11_layRow_7 ha2 hi2 (by decide) ?_
  refine g_aload_n (pc := 8) dX11_layRow_8 rfl 2 rfl ?_
  refine g_iconst (pc := 9) dX11_layRow_9 c_2 ?_
  refine g_iconst (pc := 10) dX11_layRow_10 c_0 ?_
  obtain ⟨hi3, h⟩ := h
  refine g_iast (pc := 11) (a := a2) (j := 2) dX11_layRow_11 ha2 hi3 (by decide) ?_
  refine g_aload_n (pc := 12) dX11_layRow_12 rfl 2 rfl ?_
  refine g_iconst (pc := 13) dX11_layRow_13 c_3 ?_
  refine g_iconst (pc := 14) dX11_layRow_14 c_1 ?_
  obtain ⟨hi4, h⟩ := h
  refine g_iast (pc := 15) (a := a2) (j := 3) dX11_layRow_15 ha2 hi4 (by decide) ?_
  refine g_iconst (pc := 16) dX11_layRow_16 c_0 ?_
  refine g_istore_n (pc := 17) (lv2 := [(0, .ref 0), (1, .int a1), (2, .ref a2), (3, .int 0)]) dX11_layRow_17 rfl (Nat.le_of_ble_eq_true rfl) rfl ?_
  exact h
set_option maxHeartbeats 4000000 in
set_option maxRecDepth 100000 in
theorem BX11_layRow_18 (a2 na2 : Nat) (ha2 : SR[a2]? = some (.inr (0, na2))) (l1 : Int32) (l3 : Int32) (w : Wd) (hR : w.2.2 = RM) (Q : Option Value → Wd → Prop) (h : vp_in (4 + l1) 146 ∧ (((wi w 3 ((4 + l1).toNatClampNeg)) ≤ l3 → Q none w) ∧ (¬ ((wi w 3 ((4 + l1).toNatClampNeg)) ≤ l3) → vp_in ((9 + (12 * l1)) + l3) 146 ∧ vp_in (0 : Int32) na2 ∧ vp_in (1 : Int32) na2 ∧ (((wi w 3 (((9 + (12 * l1)) + l3).toNatClampNeg)) = 2 → vp_in (2 : Int32) na2 ∧ vp_in (0 : Int32) na2 ∧ vp_in (3 : Int32) na2 ∧ vp_in (1 : Int32) na2 ∧ vp_in (2 : Int32) na2 ∧ vp_in (3 : Int32) na2 ∧ Go SR mX11_layRow 18 [(0, .ref 0), (1, .int l1), (2, .ref a2), (3, .int (l3 + 1))] [] (si (si (si (si w a2 0 (-(wi w a2 2))) a2 1 (-(wi (si w a2 0 (-(wi w a2 2))) a2 3))) a2 2 (wi w a2 0)) a2 3 (wi w a2 1)) Q) ∧ (¬ ((wi w 3 (((9 + (12 * l1)) + l3).toNatClampNeg)) = 2) → vp_in (0 : Int32) na2 ∧ (((wi w 3 (((9 + (12 * l1)) + l3).toNatClampNeg)) = 0 → vp_in (2 : Int32) na2 ∧ vp_in (0 : Int32) na2 ∧ vp_in (1 : Int32) na2 ∧ (((wi w 3 (((9 + (12 * l1)) + l3).toNatClampNeg)) = 0 → vp_in (3 : Int32) na2 ∧ vp_in (1 : Int32) na2 ∧ Go SR mX11_layRow 18 [(0, .ref 0), (1, .int l1), (2, .ref a2), (3, .int (l3 + 1))] [] (si (si w a2 0 ((wi w a2 0) + (wi w a2 2))) a2 1 ((wi (si w a2 0 ((wi w a2 0) + (wi w a2 2))) a2 1) + (wi (si w a2 0 ((wi w a2 0) + (wi w a2 2))) a2 3))) Q) ∧ (¬ ((wi w 3 (((9 + (12 * l1)) + l3).toNatClampNeg)) = 0) → vp_in (3 : Int32) na2 ∧ vp_in (1 : Int32) na2 ∧ Go SR mX11_layRow 18 [(0, .ref 0), (1, .int l1), (2, .ref a2), (3, .int (l3 + 1))] [] (si (si w a2 0 ((wi w a2 0) + (wi w a2 2))) a2 1 ((wi (si w a2 0 ((wi w a2 0) + (wi w a2 2))) a2 1) + (-(wi (si w a2 0 ((wi w a2 0) + (wi w a2 2))) a2 3)))) Q))) ∧ (¬ ((wi w 3 (((9 + (12 * l1)) + l3).toNatClampNeg)) = 0) → vp_in (2 : Int32) na2 ∧ vp_in (0 : Int32) na2 ∧ vp_in (1 : Int32) na2 ∧ (((wi w 3 (((9 + (12 * l1)) + l3).toNatClampNeg)) = 0 → vp_in (3 : Int32) na2 ∧ vp_in (1 : Int32) na2 ∧ Go SR mX11_layRow 18 [(0, .ref 0), (1, .int l1), (2, .ref a2), (3, .int (l3 + 1))] [] (si (si w a2 0 ((wi w a2 0) + (-(wi w a2 2)))) a2 1 ((wi (si w a2 0 ((wi w a2 0) + (-(wi w a2 2)))) a2 1) + (wi (si w a2 0 ((wi w a2 0) + (-(wi w a2 2)))) a2 3))) Q) ∧ (¬ ((wi w 3 (((9 + (12 * l1)) + l3).toNatClampNeg)) = 0) → vp_in (3 : Int32) na2 ∧ vp_in (1 : Int32) na2 ∧ Go SR mX11_layRow 18 [(0, .ref 0), (1, .int l1), (2, .ref a2), (3, .int (l3 + 1))] [] (si (si w a2 0 ((wi w a2 0) + (-(wi w a2 2)))) a2 1 ((wi (si w a2 0 ((wi w a2 0) + (-(wi w a2 2)))) a2 1) + (-(wi (si w a2 0 ((wi w a2 0) + (-(wi w a2 2)))) a2 3)))) Q))))))))) : Go SR mX11_layRow 18 [(0, .ref 0), (1, .int l1), (2, .ref a2), (3, .int l3)] [] w Q := by
  refine g_iload_n (pc := 18) dX11_layRow_18 rfl 3 rfl ?_
  refine g_aload_n (pc := 19) dX11_layRow_19 rfl 0 rfl ?_
  refine g_getR (pc := 20) (a := 0) (b := 3) dX11_layRow_20 rfl fX11_20 rfl (rm_16 hR) ?_
  refine g_iconst (pc := 23) dX11_layRow_23 c_4 ?_
  refine g_iload_n (pc := 24) dX11_layRow_24 rfl 1 rfl ?_
  refine g_iadd (pc := 25) dX11_layRow_25 ?_
  obtain ⟨hi1, h⟩ := h
  refine g_iald (pc := 26) (a := 3) (j := (4 + l1).toNatClampNeg) dX11_layRow_26 rfl hi1 rfl ?_
  refine g_icmp_ge (pc := 27) (tgt := 137) dX11_layRow_27 (by decide) (fun q => ?_) (fun q => ?_)
  · have h := h.1 q
    exact g_vret (pc := 137) dX11_layRow_137 rfl h
  · have h := h.2 q
    refine g_aload_n (pc := 30) dX11_layRow_30 rfl 0 rfl ?_
    refine g_getR (pc := 31) (a := 0) (b := 3) dX11_layRow_31 rfl fX11_20 rfl (rm_16 hR) ?_
    refine g_bipush (pc := 34) (v := 9) dX11_layRow_34 (by decide) ?_
    refine g_bipush (pc := 36) (v := 12) dX11_layRow_36 (by decide) ?_
    refine g_iload_n (pc := 38) dX11_layRow_38 rfl 1 rfl ?_
    refine g_imul (pc := 39) dX11_layRow_39 ?_
    refine g_iadd (pc := 40) dX11_layRow_40 ?_
    refine g_iload_n (pc := 41) dX11_layRow_41 rfl 3 rfl ?_
    refine g_iadd (pc := 42) dX11_layRow_42 ?_
    obtain ⟨hi2, h⟩ := h
    refine g_iald (pc := 43) (a := 3) (j := ((9 + (12 * l1)) + l3).toNatClampNeg) dX11_layRow_43 rfl hi2 rfl ?_
    refine g_istore (pc := 44) (lv2 := [(0, .ref 0), (1, .int l1), (2, .ref a2), (3, .int l3), (4, .int (wi w 3 (((9 + (12 * l1)) + l3).toNatClampNeg)))]) dX11_layRow_44 (Nat.le_of_ble_eq_true rfl) rfl ?_
    refine g_aload_n (pc := 46) dX11_layRow_46 rfl 2 rfl ?_
    refine g_iconst (pc := 47) dX11_layRow_47 c_0 ?_
    obtain ⟨hi3, h⟩ := h
    refine g_iald (pc := 48) (a := a2) (j := 0) dX11_layRow_48 ha2 hi3 (by decide) ?_
    refine g_istore (pc := 49) (lv2 := [(0, .ref 0), (1, .int l1), (2, .ref a2), (3, .int l3), (4, .int (wi w 3 (((9 + (12 * l1)) + l3).toNatClampNeg))), (5, .int (wi w a2 0))]) dX11_layRow_49 (Nat.le_of_ble_eq_true rfl) rfl ?_
    refine g_aload_n (pc := 51) dX11_layRow_51 rfl 2 rfl ?_
    refine g_iconst (pc := 52) dX11_layRow_52 c_1 ?_
    obtain ⟨hi4, h⟩ := h
    refine g_iald (pc := 53) (a := a2) (j := 1) dX11_layRow_53 ha2 hi4 (by decide) ?_
    refine g_istore (pc := 54) (lv2 := [(0, .ref 0), (1, .int l1), (2, .ref a2), (3, .int l3), (4, .int (wi w 3 (((9 + (12 * l1)) + l3).toNatClampNeg))), (5, .int (wi w a2 0)), (6, .int (wi w a2 1))]) dX11_layRow_54 (Nat.le_of_ble_eq_true rfl) rfl ?_
    refine g_iload (pc := 56) dX11_layRow_56 4 rfl ?_
    refine g_iconst (pc := 58) dX11_layRow_58 c_2 ?_
    refine g_icmp_ne (pc := 59) (tgt := 89) dX11_layRow_59 (by decide) (fun q => ?_) (fun q => ?_)
    · have h := h.2 q
      refine g_aload_n (pc := 89) dX11_layRow_89 rfl 2 rfl ?_
      refine g_iconst (pc := 90) dX11_layRow_90 c_0 ?_
      refine g_dup2 (pc := 91) dX11_layRow_91 rfl rfl ?_
      obtain ⟨hi5, h⟩ := h
      refine g_iald (pc := 92) (a := a2) (j := 0) dX11_layRow_92 ha2 hi5 (by decide) ?_
      refine g_iload (pc := 93) dX11_layRow_93 4 rfl ?_
      refine g_if_ne (pc := 95) (tgt := 104) dX11_layRow_95 (by decide) (fun q => ?_) (fun q => ?_)
      · have h := h.2 q
        refine g_aload_n (pc := 104) dX11_layRow_104 rfl 2 rfl ?_
        refine g_iconst (pc := 105) dX11_layRow_105 c_2 ?_
        obtain ⟨hi6, h⟩ := h
        refine g_iald (pc := 106) (a := a2) (j := 2) dX11_layRow_106 ha2 hi6 (by decide) ?_
        refine g_ineg (pc := 107) dX11_layRow_107 ?_
        refine g_iadd (pc := 108) dX11_layRow_108 ?_
        obtain ⟨hi7, h⟩ := h
        refine g_iast (pc := 109) (a := a2) (j := 0) dX11_layRow_109 ha2 hi7 (by decide) ?_
        refine g_aload_n (pc := 110) dX11_layRow_110 rfl 2 rfl ?_
        refine g_iconst (pc := 111) dX11_layRow_111 c_1 ?_
        refine g_dup2 (pc := 112) dX11_layRow_112 rfl rfl ?_
        obtain ⟨hi8, h⟩ := h
        refine g_iald (pc := 113) (a := a2) (j := 1) dX11_layRow_113 ha2 hi8 (by decide) ?_
        refine g_iload (pc := 114) dX11_layRow_114 4 rfl ?_
        refine g_if_ne (pc := 116) (tgt := 125) dX11_layRow_116 (by decide) (fun q => ?_) (fun q => ?_)
        · have h := h.2 q
          refine g_aload_n (pc := 125) dX11_layRow_125 rfl 2 rfl ?_
          refine g_iconst (pc := 126) dX11_layRow_126 c_3 ?_
          obtain ⟨hi9, h⟩ := h
          refine g_iald (pc := 127) (a := a2) (j := 3) dX11_layRow_127 ha2 hi9 (by decide) ?_
          refine g_ineg (pc := 128) dX11_layRow_128 ?_
          refine g_iadd (pc := 129) dX11_layRow_129 ?_
          obtain ⟨hi10, h⟩ := h
          refine g_iast (pc := 130) (a := a2) (j := 1) dX11_layRow_130 ha2 hi10 (by decide) ?_
          refine g_iinc (pc := 131) (v := l3 + 1) (lv2 := [(0, .ref 0), (1, .int l1), (2, .ref a2), (3, .int (l3 + 1)), (4, .int (wi w 3 (((9 + (12 * l1)) + l3).toNatClampNeg))), (5, .int (wi w a2 0)), (6, .int (wi w a2 1))]) dX11_layRow_131 3 rfl (Nat.le_of_ble_eq_true rfl) rfl rfl ?_
          refine g_goto (pc := 134) (tgt := 18) dX11_layRow_134 (by decide) ?_
          refine g_sub (lv2 := [(0, .ref 0), (1, .int l1), (2, .ref a2), (3, .int (l3 + 1))]) [0, 1, 2, 3] rfl ?_
          exact h
        · have h := h.1 q
          refine g_aload_n (pc := 119) dX11_layRow_119 rfl 2 rfl ?_
          refine g_iconst (pc := 120) dX11_layRow_120 c_3 ?_
          obtain ⟨hi11, h⟩ := h
          refine g_iald (pc := 121) (a := a2) (j := 3) dX11_layRow_121 ha2 hi11 (by decide) ?_
          refine g_goto (pc := 122) (tgt := 129) dX11_layRow_122 (by decide) ?_
          refine g_iadd (pc := 129) dX11_layRow_129 ?_
          obtain ⟨hi12, h⟩ := h
          refine g_iast (pc := 130) (a := a2) (j := 1) dX11_layRow_130 ha2 hi12 (by decide) ?_
          refine g_iinc (pc := 131) (v := l3 + 1) (lv2 := [(0, .ref 0), (1, .int l1), (2, .ref a2), (3, .int (l3 + 1)), (4, .int (wi w 3 (((9 + (12 * l1)) + l3).toNatClampNeg))), (5, .int (wi w a2 0)), (6, .int (wi w a2 1))]) dX11_layRow_131 3 rfl (Nat.le_of_ble_eq_true rfl) rfl rfl ?_
          refine g_goto (pc := 134) (tgt := 18) dX11_layRow_134 (by decide) ?_
          refine g_sub (lv2 := [(0, .ref 0), (1, .int l1), (2, .ref a2), (3, .int (l3 + 1))]) [0, 1, 2, 3] rfl ?_
          exact h
      · have h := h.1 q
        refine g_aload_n (pc := 98) dX11_layRow_98 rfl 2 rfl ?_
        refine g_iconst (pc := 99) dX11_layRow_99 c_2 ?_
        obtain ⟨hi13, h⟩ := h
        refine g_iald (pc := 100) (a := a2) (j := 2) dX11_layRow_100 ha2 hi13 (by decide) ?_
        refine g_goto (pc := 101) (tgt := 108) dX11_layRow_101 (by decide) ?_
        refine g_iadd (pc := 108) dX11_layRow_108 ?_
        obtain ⟨hi14, h⟩ := h
        refine g_iast (pc := 109) (a := a2) (j := 0) dX11_layRow_109 ha2 hi14 (by decide) ?_
        refine g_aload_n (pc := 110) dX11_layRow_110 rfl 2 rfl ?_
        refine g_iconst (pc := 111) dX11_layRow_111 c_1 ?_
        refine g_dup2 (pc := 112) dX11_layRow_112 rfl rfl ?_
        obtain ⟨hi15, h⟩ := h
        refine g_iald (pc := 113) (a := a2) (j := 1) dX11_layRow_113 ha2 hi15 (by decide) ?_
        refine g_iload (pc := 114) dX11_layRow_114 4 rfl ?_
        refine g_if_ne (pc := 116) (tgt := 125) dX11_layRow_116 (by decide) (fun q => ?_) (fun q => ?_)
        · have h := h.2 q
          refine g_aload_n (pc := 125) dX11_layRow_125 rfl 2 rfl ?_
          refine g_iconst (pc := 126) dX11_layRow_126 c_3 ?_
          obtain ⟨hi16, h⟩ := h
          refine g_iald (pc := 127) (a := a2) (j := 3) dX11_layRow_127 ha2 hi16 (by decide) ?_
          refine g_ineg (pc := 128) dX11_layRow_128 ?_
          refine g_iadd (pc := 129) dX11_layRow_129 ?_
          obtain ⟨hi17, h⟩ := h
          refine g_iast (pc := 130) (a := a2) (j := 1) dX11_layRow_130 ha2 hi17 (by decide) ?_
          refine g_iinc (pc := 131) (v := l3 + 1) (lv2 := [(0, .ref 0), (1, .int l1), (2, .ref a2), (3, .int (l3 + 1)), (4, .int (wi w 3 (((9 + (12 * l1)) + l3).toNatClampNeg))), (5, .int (wi w a2 0)), (6, .int (wi w a2 1))]) dX11_layRow_131 3 rfl (Nat.le_of_ble_eq_true rfl) rfl rfl ?_
          refine g_goto (pc := 134) (tgt := 18) dX11_layRow_134 (by decide) ?_
          refine g_sub (lv2 := [(0, .ref 0), (1, .int l1), (2, .ref a2), (3, .int (l3 + 1))]) [0, 1, 2, 3] rfl ?_
          exact h
        · have h := h.1 q
          refine g_aload_n (pc := 119) dX11_layRow_119 rfl 2 rfl ?_
          refine g_iconst (pc := 120) dX11_layRow_120 c_3 ?_
          obtain ⟨hi18, h⟩ := h
          refine g_iald (pc := 121) (a := a2) (j := 3) dX11_layRow_121 ha2 hi18 (by decide) ?_
          refine g_goto (pc := 122) (tgt := 129) dX11_layRow_122 (by decide) ?_
          refine g_iadd (pc := 129) dX11_layRow_129 ?_
          obtain ⟨hi19, h⟩ := h
          refine g_iast (pc := 130) (a := a2) (j := 1) dX11_layRow_130 ha2 hi19 (by decide) ?_
          refine g_iinc (pc := 131) (v := l3 + 1) (lv2 := [(0, .ref 0), (1, .int l1), (2, .ref a2), (3, .int (l3 + 1)), (4, .int (wi w 3 (((9 + (12 * l1)) + l3).toNatClampNeg))), (5, .int (wi w a2 0)), (6, .int (wi w a2 1))]) dX11_layRow_131 3 rfl (Nat.le_of_ble_eq_true rfl) rfl rfl ?_
          refine g_goto (pc := 134) (tgt := 18) dX11_layRow_134 (by decide) ?_
          refine g_sub (lv2 := [(0, .ref 0), (1, .int l1), (2, .ref a2), (3, .int (l3 + 1))]) [0, 1, 2, 3] rfl ?_
          exact h
    · have h := h.1 q
      refine g_aload_n (pc := 62) dX11_layRow_62 rfl 2 rfl ?_
      refine g_iconst (pc := 63) dX11_layRow_63 c_0 ?_
      refine g_aload_n (pc := 64) dX11_layRow_64 rfl 2 rfl ?_
      refine g_iconst (pc := 65) dX11_layRow_65 c_2 ?_
      obtain ⟨hi20, h⟩ := h
      refine g_iald (pc := 66) (a := a2) (j := 2) dX11_layRow_66 ha2 hi20 (by decide) ?_
      refine g_ineg (pc := 67) dX11_layRow_67 ?_
      obtain ⟨hi21, h⟩ := h
      refine g_iast (pc := 68) (a := a2) (j := 0) dX11_layRow_68 ha2 hi21 (by decide) ?_
      refine g_aload_n (pc := 69) dX11_layRow_69 rfl 2 rfl ?_
      refine g_iconst (pc := 70) dX11_layRow_70 c_1 ?_
      refine g_aload_n (pc := 71) dX11_layRow_71 rfl 2 rfl ?_
      refine g_iconst (pc := 72) dX11_layRow_72 c_3 ?_
      obtain ⟨hi22, h⟩ := h
      refine g_iald (pc := 73) (a := a2) (j := 3) dX11_layRow_73 ha2 hi22 (by decide) ?_
      refine g_ineg (pc := 74) dX11_layRow_74 ?_
      obtain ⟨hi23, h⟩ := h
      refine g_iast (pc := 75) (a := a2) (j := 1) dX11_layRow_75 ha2 hi23 (by decide) ?_
      refine g_aload_n (pc := 76) dX11_layRow_76 rfl 2 rfl ?_
      refine g_iconst (pc := 77) dX11_layRow_77 c_2 ?_
      refine g_iload (pc := 78) dX11_layRow_78 5 rfl ?_
      obtain ⟨hi24, h⟩ := h
      refine g_iast (pc := 80) (a := a2) (j := 2) dX11_layRow_80 ha2 hi24 (by decide) ?_
      refine g_aload_n (pc := 81) dX11_layRow_81 rfl 2 rfl ?_
      refine g_iconst (pc := 82) dX11_layRow_82 c_3 ?_
      refine g_iload (pc := 83) dX11_layRow_83 6 rfl ?_
      obtain ⟨hi25, h⟩ := h
      refine g_iast (pc := 85) (a := a2) (j := 3) dX11_layRow_85 ha2 hi25 (by decide) ?_
      refine g_goto (pc := 86) (tgt := 131) dX11_layRow_86 (by decide) ?_
      refine g_iinc (pc := 131) (v := l3 + 1) (lv2 := [(0, .ref 0), (1, .int l1), (2, .ref a2), (3, .int (l3 + 1)), (4, .int (wi w 3 (((9 + (12 * l1)) + l3).toNatClampNeg))), (5, .int (wi w a2 0)), (6, .int (wi w a2 1))]) dX11_layRow_131 3 rfl (Nat.le_of_ble_eq_true rfl) rfl rfl ?_
      refine g_goto (pc := 134) (tgt := 18) dX11_layRow_134 (by decide) ?_
      refine g_sub (lv2 := [(0, .ref 0), (1, .int l1), (2, .ref a2), (3, .int (l3 + 1))]) [0, 1, 2, 3] rfl ?_
      exact h
set_option maxHeartbeats 4000000 in
set_option maxRecDepth 100000 in
theorem TX11_trace (a1 : Int32) (w : Wd) (hR : w.2.2 = RM) (Q : Option Value → Wd → Prop) (h : ClI SR mX11_isDance [.ref 0, .int a1] (wXX11_anew w) (fun x2 w1 => w1.2.2 = RM ∧ ((x2 = 0 → Q (some (.int (vXX11_no 1))) (wXX11_no 1 w1)) ∧ (¬ (x2 = 0) → ClV SR mX11_layRow [.ref 0, .int a1, .ref 9] w1 (fun w3 => w3.2.2 = RM ∧ Q (some (.int (vXX11_away ((wi w3 9 0) + (wi w3 9 3))))) w3))))) : Cl SR mX11_trace [.ref 0, .int a1] w Q := by
  refine cl_of (by decide) (Nat.le_of_ble_eq_true rfl) ?_
  show Go SR mX11_trace 0 [(0, .ref 0), (1, .int a1)] [] w Q
  refine g_aload_n (pc := 0) dX11_trace_0 rfl 0 rfl ?_
  refine g_callV (pc := 1) (M' := mX11_anew) (n := 0) (a := 0) (as := []) (st := []) dX11_trace_1 rfl kX11_147 vX11_anew (Nat.le_of_ble_eq_true rfl) rfl qX11 rfl rfl (Nat.le_of_ble_eq_true rfl) ?_
  refine zX11_anew (w := w) (hR := hR) ?_
  show Go SR mX11_trace 4 [(0, .ref 0), (1, .int a1)] [] (wXX11_anew w) Q
  refine g_aload_n (pc := 4) dX11_trace_4 rfl 0 rfl ?_
  refine g_iload_n (pc := 5) dX11_trace_5 rfl 1 rfl ?_
  refine g_callV (pc := 6) (M' := mX11_isDance) (n := 1) (a := 0) (as := [.int a1]) (st := []) dX11_trace_6 rfl kX11_239 vX11_isDance (Nat.le_of_ble_eq_true rfl) rfl qX11 rfl rfl (Nat.le_of_ble_eq_true rfl) ?_
  refine cl_mono (fun r w1 hr => ?_) h
  obtain ⟨x2, rfl, hw1, h⟩ := hr
  show Go SR mX11_trace 9 [(0, .ref 0), (1, .int a1)] [.int x2] w1 Q
  refine g_if_ne (pc := 9) (tgt := 18) dX11_trace_9 (by decide) (fun q => ?_) (fun q => ?_)
  · have h := h.2 q
    refine g_aload_n (pc := 18) dX11_trace_18 rfl 0 rfl ?_
    refine g_iload_n (pc := 19) dX11_trace_19 rfl 1 rfl ?_
    refine g_aload_n (pc := 20) dX11_trace_20 rfl 0 rfl ?_
    refine g_getR (pc := 21) (a := 0) (b := 9) dX11_trace_21 rfl fX11_38 rfl (rm_27 hw1) ?_
    refine g_callV (pc := 24) (M' := mX11_layRow) (n := 2) (a := 0) (as := [.int a1, .ref 9]) (st := []) dX11_trace_24 rfl kX11_266 vX11_layRow (Nat.le_of_ble_eq_true rfl) rfl qX11 rfl rfl (Nat.le_of_ble_eq_true rfl) ?_
    refine cl_mono (fun r w3 hr => ?_) h
    obtain ⟨rfl, hw3, h⟩ := hr
    show Go SR mX11_trace 27 [(0, .ref 0), (1, .int a1)] [] w3 Q
    refine g_aload_n (pc := 27) dX11_trace_27 rfl 0 rfl ?_
    refine g_getR (pc := 28) (a := 0) (b := 9) dX11_trace_28 rfl fX11_38 rfl (rm_27 hw3) ?_
    refine g_iconst (pc := 31) dX11_trace_31 c_0 ?_
    refine g_iald (pc := 32) (a := 9) (j := 0) dX11_trace_32 rfl (vin (by decide) (by decide)) (by decide) ?_
    refine g_aload_n (pc := 33) dX11_trace_33 rfl 0 rfl ?_
    refine g_getR (pc := 34) (a := 0) (b := 9) dX11_trace_34 rfl fX11_38 rfl (rm_27 hw3) ?_
    refine g_iconst (pc := 37) dX11_trace_37 c_3 ?_
    refine g_iald (pc := 38) (a := 9) (j := 3) dX11_trace_38 rfl (vin (by decide) (by decide)) (by decide) ?_
    refine g_iadd (pc := 39) dX11_trace_39 ?_
    refine g_callS (pc := 40) (M' := mX11_away) (n := 1) (as := [.int ((wi w3 9 0) + (wi w3 9 3))]) (st := []) dX11_trace_40 rfl kX11_60 sX11_away (Nat.le_of_ble_eq_true rfl) rfl rfl (Nat.le_of_ble_eq_true rfl) ?_
    refine zX11_away (a1 := ((wi w3 9 0) + (wi w3 9 3))) (w := w3) (hR := hw3) ?_
    show Go SR mX11_trace 43 [(0, .ref 0), (1, .int a1)] [.int (vXX11_away ((wi w3 9 0) + (wi w3 9 3)))] w3 Q
    exact g_iret (pc := 43) dX11_trace_43 rfl h
  · have h := h.1 q
    refine g_aload_n (pc := 12) dX11_trace_12 rfl 0 rfl ?_
    refine g_iconst (pc := 13) dX11_trace_13 c_1 ?_
    refine g_callV (pc := 14) (M' := mX11_no) (n := 1) (a := 0) (as := [.int 1]) (st := []) dX11_trace_14 rfl kX11_150 vX11_no (Nat.le_of_ble_eq_true rfl) rfl qX11 rfl rfl (Nat.le_of_ble_eq_true rfl) ?_
    refine zX11_no (a1 := 1) (w := w1) (hR := hw1) ?_
    show Go SR mX11_trace 17 [(0, .ref 0), (1, .int a1)] [.int (vXX11_no 1)] (wXX11_no 1 w1) Q
    exact g_iret (pc := 17) dX11_trace_17 rfl h
set_option maxHeartbeats 4000000 in
set_option maxRecDepth 100000 in
theorem TX11_sameDance (a1 : Int32) (a2 : Int32) (w : Wd) (hR : w.2.2 = RM) (Q : Option Value → Wd → Prop) (h : ClI SR mX11_isDance [.ref 0, .int a1] (wXX11_anew w) (fun x2 w1 => w1.2.2 = RM ∧ ((x2 = 0 → Q (some (.int (vXX11_no 1))) (wXX11_no 1 w1)) ∧ (¬ (x2 = 0) → ClI SR mX11_isDance [.ref 0, .int a2] w1 (fun x4 w3 => w3.2.2 = RM ∧ ((x4 = 0 → Q (some (.int (vXX11_no 1))) (wXX11_no 1 w3)) ∧ (¬ (x4 = 0) → ClV SR mX11_layRow [.ref 0, .int a1, .ref 9] w3 (fun w5 => w5.2.2 = RM ∧ ClV SR mX11_layRow [.ref 0, .int a2, .ref 10] w5 (fun w6 => w6.2.2 = RM ∧ Go SR mX11_sameDance 52 [(0, .ref 0), (1, .int a1), (2, .int a2), (3, .int 1), (4, .int 1), (5, .int 0)] [] w6 Q))))))))) : Cl SR mX11_sameDance [.ref 0, .int a1, .int a2] w Q := by
  refine cl_of (by decide) (Nat.le_of_ble_eq_true rfl) ?_
  show Go SR mX11_sameDance 0 [(0, .ref 0), (1, .int a1), (2, .int a2)] [] w Q
  refine g_aload_n (pc := 0) dX11_sameDance_0 rfl 0 rfl ?_
  refine g_callV (pc := 1) (M' := mX11_anew) (n := 0) (a := 0) (as := []) (st := []) dX11_sameDance_1 rfl kX11_147 vX11_anew (Nat.le_of_ble_eq_true rfl) rfl qX11 rfl rfl (Nat.le_of_ble_eq_true rfl) ?_
  refine zX11_anew (w := w) (hR := hR) ?_
  show Go SR mX11_sameDance 4 [(0, .ref 0), (1, .int a1), (2, .int a2)] [] (wXX11_anew w) Q
  refine g_aload_n (pc := 4) dX11_sameDance_4 rfl 0 rfl ?_
  refine g_iload_n (pc := 5) dX11_sameDance_5 rfl 1 rfl ?_
  refine g_callV (pc := 6) (M' := mX11_isDance) (n := 1) (a := 0) (as := [.int a1]) (st := []) dX11_sameDance_6 rfl kX11_239 vX11_isDance (Nat.le_of_ble_eq_true rfl) rfl qX11 rfl rfl (Nat.le_of_ble_eq_true rfl) ?_
  refine cl_mono (fun r w1 hr => ?_) h
  obtain ⟨x2, rfl, hw1, h⟩ := hr
  show Go SR mX11_sameDance 9 [(0, .ref 0), (1, .int a1), (2, .int a2)] [.int x2] w1 Q
  refine g_if_eq (pc := 9) (tgt := 20) dX11_sameDance_9 (by decide) (fun q => ?_) (fun q => ?_)
  · have h := h.1 q
    refine g_aload_n (pc := 20) dX11_sameDance_20 rfl 0 rfl ?_
    refine g_iconst (pc := 21) dX11_sameDance_21 c_1 ?_
    refine g_callV (pc := 22) (M' := mX11_no) (n := 1) (a := 0) (as := [.int 1]) (st := []) dX11_sameDance_22 rfl kX11_150 vX11_no (Nat.le_of_ble_eq_true rfl) rfl qX11 rfl rfl (Nat.le_of_ble_eq_true rfl) ?_
    refine zX11_no (a1 := 1) (w := w1) (hR := hw1) ?_
    show Go SR mX11_sameDance 25 [(0, .ref 0), (1, .int a1), (2, .int a2)] [.int (vXX11_no 1)] (wXX11_no 1 w1) Q
    exact g_iret (pc := 25) dX11_sameDance_25 rfl h
  · have h := h.2 q
    refine g_aload_n (pc := 12) dX11_sameDance_12 rfl 0 rfl ?_
    refine g_iload_n (pc := 13) dX11_sameDance_13 rfl 2 rfl ?_
    refine g_callV (pc := 14) (M' := mX11_isDance) (n := 1) (a := 0) (as := [.int a2]) (st := []) dX11_sameDance_14 rfl kX11_239 vX11_isDance (Nat.le_of_ble_eq_true rfl) rfl qX11 rfl rfl (Nat.le_of_ble_eq_true rfl) ?_
    refine cl_mono (fun r w3 hr => ?_) h
    obtain ⟨x4, rfl, hw3, h⟩ := hr
    show Go SR mX11_sameDance 17 [(0, .ref 0), (1, .int a1), (2, .int a2)] [.int x4] w3 Q
    refine g_if_ne (pc := 17) (tgt := 26) dX11_sameDance_17 (by decide) (fun q => ?_) (fun q => ?_)
    · have h := h.2 q
      refine g_aload_n (pc := 26) dX11_sameDance_26 rfl 0 rfl ?_
      refine g_iload_n (pc := 27) dX11_sameDance_27 rfl 1 rfl ?_
      refine g_aload_n (pc := 28) dX11_sameDance_28 rfl 0 rfl ?_
      refine g_getR (pc := 29) (a := 0) (b := 9) dX11_sameDance_29 rfl fX11_38 rfl (rm_27 hw3) ?_
      refine g_callV (pc := 32) (M' := mX11_layRow) (n := 2) (a := 0) (as := [.int a1, .ref 9]) (st := []) dX11_sameDance_32 rfl kX11_266 vX11_layRow (Nat.le_of_ble_eq_true rfl) rfl qX11 rfl rfl (Nat.le_of_ble_eq_true rfl) ?_
      refine cl_mono (fun r w5 hr => ?_) h
      obtain ⟨rfl, hw5, h⟩ := hr
      show Go SR mX11_sameDance 35 [(0, .ref 0), (1, .int a1), (2, .int a2)] [] w5 Q
      refine g_aload_n (pc := 35) dX11_sameDance_35 rfl 0 rfl ?_
      refine g_iload_n (pc := 36) dX11_sameDance_36 rfl 2 rfl ?_
      refine g_aload_n (pc := 37) dX11_sameDance_37 rfl 0 rfl ?_
      refine g_getR (pc := 38) (a := 0) (b := 10) dX11_sameDance_38 rfl fX11_41 rfl (rm_28 hw5) ?_
      refine g_callV (pc := 41) (M' := mX11_layRow) (n := 2) (a := 0) (as := [.int a2, .ref 10]) (st := []) dX11_sameDance_41 rfl kX11_266 vX11_layRow (Nat.le_of_ble_eq_true rfl) rfl qX11 rfl rfl (Nat.le_of_ble_eq_true rfl) ?_
      refine cl_mono (fun r w6 hr => ?_) h
      obtain ⟨rfl, hw6, h⟩ := hr
      show Go SR mX11_sameDance 44 [(0, .ref 0), (1, .int a1), (2, .int a2)] [] w6 Q
      refine g_iconst (pc := 44) dX11_sameDance_44 c_1 ?_
      refine g_istore_n (pc := 45) (lv2 := [(0, .ref 0), (1, .int a1), (2, .int a2), (3, .int 1)]) dX11_sameDance_45 rfl (Nat.le_of_ble_eq_true rfl) rfl ?_
      refine g_iconst (pc := 46) dX11_sameDance_46 c_1 ?_
      refine g_istore (pc := 47) (lv2 := [(0, .ref 0), (1, .int a1), (2, .int a2), (3, .int 1), (4, .int 1)]) dX11_sameDance_47 (Nat.le_of_ble_eq_true rfl) rfl ?_
      refine g_iconst (pc := 49) dX11_sameDance_49 c_0 ?_
      refine g_istore (pc := 50) (lv2 := [(0, .ref 0), (1, .int a1), (2, .int a2), (3, .int 1), (4, .int 1), (5, .int 0)]) dX11_sameDance_50 (Nat.le_of_ble_eq_true rfl) rfl ?_
      exact h
    · have h := h.1 q
      refine g_aload_n (pc := 20) dX11_sameDance_20 rfl 0 rfl ?_
      refine g_iconst (pc := 21) dX11_sameDance_21 c_1 ?_
      refine g_callV (pc := 22) (M' := mX11_no) (n := 1) (a := 0) (as := [.int 1]) (st := []) dX11_sameDance_22 rfl kX11_150 vX11_no (Nat.le_of_ble_eq_true rfl) rfl qX11 rfl rfl (Nat.le_of_ble_eq_true rfl) ?_
      refine zX11_no (a1 := 1) (w := w3) (hR := hw3) ?_
      show Go SR mX11_sameDance 25 [(0, .ref 0), (1, .int a1), (2, .int a2)] [.int (vXX11_no 1)] (wXX11_no 1 w3) Q
      exact g_iret (pc := 25) dX11_sameDance_25 rfl h
set_option maxHeartbeats 4000000 in
set_option maxRecDepth 100000 in
theorem BX11_sameDance_52  (l1 : Int32) (l2 : Int32) (l3 : Int32) (l4 : Int32) (l5 : Int32) (w : Wd) (hR : w.2.2 = RM) (Q : Option Value → Wd → Prop) (h : ((4 ≤ l5 → Q (some (.int (if l3 = 0 then (if l4 = 0 then 0 else 1 : Int32) else 1 : Int32))) w) ∧ (¬ (4 ≤ l5) → ((l3 = 0 → ((l4 = 0 → Go SR mX11_sameDance 52 [(0, .ref 0), (1, .int l1), (2, .int l2), (3, .int 0), (4, .int 0), (5, .int (l5 + 1))] [] w Q) ∧ (¬ (l4 = 0) → vp_in l5 4 ∧ vp_in l5 4 ∧ Go SR mX11_sameDance 52 [(0, .ref 0), (1, .int l1), (2, .int l2), (3, .int 0), (4, .int (if (wi w 9 l5.toNatClampNeg) = (-(wi w 10 l5.toNatClampNeg)) then 1 else 0 : Int32)), (5, .int (l5 + 1))] [] w Q))) ∧ (¬ (l3 = 0) → vp_in l5 4 ∧ vp_in l5 4 ∧ ((l4 = 0 → Go SR mX11_sameDance 52 [(0, .ref 0), (1, .int l1), (2, .int l2), (3, .int (if (wi w 9 l5.toNatClampNeg) = (wi w 10 l5.toNatClampNeg) then 1 else 0 : Int32)), (4, .int 0), (5, .int (l5 + 1))] [] w Q) ∧ (¬ (l4 = 0) → vp_in l5 4 ∧ vp_in l5 4 ∧ Go SR mX11_sameDance 52 [(0, .ref 0), (1, .int l1), (2, .int l2), (3, .int (if (wi w 9 l5.toNatClampNeg) = (wi w 10 l5.toNatClampNeg) then 1 else 0 : Int32)), (4, .int (if (wi w 9 l5.toNatClampNeg) = (-(wi w 10 l5.toNatClampNeg)) then 1 else 0 : Int32)), (5, .int (l5 + 1))] [] w Q))))))) : Go SR mX11_sameDance 52 [(0, .ref 0), (1, .int l1), (2, .int l2), (3, .int l3), (4, .int l4), (5, .int l5)] [] w Q := by
  refine g_iload (pc := 52) dX11_sameDance_52 5 rfl ?_
  refine g_iconst (pc := 54) dX11_sameDance_54 c_4 ?_
  refine g_icmp_ge (pc := 55) (tgt := 121) dX11_sameDance_55 (by decide) (fun q => ?_) (fun q => ?_)
  · have h := h.1 q
    refine g_iload_n (pc := 121) dX11_sameDance_121 rfl 3 rfl ?_
    have hJ : Go SR mX11_sameDance 135 [(0, .ref 0), (1, .int l1), (2, .int l2), (3, .int l3), (4, .int l4), (5, .int l5)] [.int (if l3 = 0 then (if l4 = 0 then 0 else 1 : Int32) else 1 : Int32)] w Q := by
      exact g_iret (pc := 135) dX11_sameDance_135 rfl h
    refine g_if_ne (pc := 122) (tgt := 130) dX11_sameDance_122 (by decide) (fun q122 => ?_) (fun q122 => ?_)
    · refine g_iconst (pc := 130) dX11_sameDance_130 c_1 ?_
      refine g_goto (pc := 131) (tgt := 135) dX11_sameDance_131 (by decide) ?_
      first | (exfalso; contradiction) | exact cast (by simp only [if_neg q122]) hJ
    · refine g_iload (pc := 125) dX11_sameDance_125 4 rfl ?_
      refine g_if_eq (pc := 127) (tgt := 134) dX11_sameDance_127 (by decide) (fun q127 => ?_) (fun q127 => ?_)
      · refine g_iconst (pc := 134) dX11_sameDance_134 c_0 ?_
        first | (exfalso; contradiction) | exact cast (by simp only [if_pos q122, if_pos q127]) hJ
      · refine g_iconst (pc := 130) dX11_sameDance_130 c_1 ?_
        refine g_goto (pc := 131) (tgt := 135) dX11_sameDance_131 (by decide) ?_
        first | (exfalso; contradiction) | exact cast (by simp only [if_pos q122, if_neg q127]) hJ
  · have h := h.2 q
    refine g_iload_n (pc := 58) dX11_sameDance_58 rfl 3 rfl ?_
    refine g_if_eq (pc := 59) (tgt := 83) dX11_sameDance_59 (by decide) (fun q => ?_) (fun q => ?_)
    · have h := h.1 q
      refine g_iconst (pc := 83) dX11_sameDance_83 c_0 ?_
      refine g_istore_n (pc := 84) (lv2 := [(0, .ref 0), (1, .int l1), (2, .int l2), (3, .int 0), (4, .int l4), (5, .int l5)]) dX11_sameDance_84 rfl (Nat.le_of_ble_eq_true rfl) rfl ?_
      refine g_iload (pc := 85) dX11_sameDance_85 4 rfl ?_
      refine g_if_eq (pc := 87) (tgt := 112) dX11_sameDance_87 (by decide) (fun q => ?_) (fun q => ?_)
      · have h := h.1 q
        refine g_iconst (pc := 112) dX11_sameDance_112 c_0 ?_
        refine g_istore (pc := 113) (lv2 := [(0, .ref 0), (1, .int l1), (2, .int l2), (3, .int 0), (4, .int 0), (5, .int l5)]) dX11_sameDance_113 (Nat.le_of_ble_eq_true rfl) rfl ?_
        refine g_iinc (pc := 115) (v := l5 + 1) (lv2 := [(0, .ref 0), (1, .int l1), (2, .int l2), (3, .int 0), (4, .int 0), (5, .int (l5 + 1))]) dX11_sameDance_115 5 rfl (Nat.le_of_ble_eq_true rfl) rfl rfl ?_
        refine g_goto (pc := 118) (tgt := 52) dX11_sameDance_118 (by decide) ?_
        exact h
      · have h := h.2 q
        refine g_aload_n (pc := 90) dX11_sameDance_90 rfl 0 rfl ?_
        refine g_getR (pc := 91) (a := 0) (b := 9) dX11_sameDance_91 rfl fX11_38 rfl (rm_27 hR) ?_
        refine g_iload (pc := 94) dX11_sameDance_94 5 rfl ?_
        obtain ⟨hi1, h⟩ := h
        refine g_iald (pc := 96) (a := 9) (j := l5.toNatClampNeg) dX11_sameDance_96 rfl hi1 rfl ?_
        refine g_aload_n (pc := 97) dX11_sameDance_97 rfl 0 rfl ?_
        refine g_getR (pc := 98) (a := 0) (b := 10) dX11_sameDance_98 rfl fX11_41 rfl (rm_28 hR) ?_
        refine g_iload (pc := 101) dX11_sameDance_101 5 rfl ?_
        obtain ⟨hi2, h⟩ := h
        refine g_iald (pc := 103) (a := 10) (j := l5.toNatClampNeg) dX11_sameDance_103 rfl hi2 rfl ?_
        refine g_ineg (pc := 104) dX11_sameDance_104 ?_
        have hJ : Go SR mX11_sameDance 113 [(0, .ref 0), (1, .int l1), (2, .int l2), (3, .int 0), (4, .int l4), (5, .int l5)] [.int (if (wi w 9 l5.toNatClampNeg) = (-(wi w 10 l5.toNatClampNeg)) then 1 else 0 : Int32)] w Q := by
          refine g_istore (pc := 113) (lv2 := [(0, .ref 0), (1, .int l1), (2, .int l2), (3, .int 0), (4, .int (if (wi w 9 l5.toNatClampNeg) = (-(wi w 10 l5.toNatClampNeg)) then 1 else 0 : Int32)), (5, .int l5)]) dX11_sameDance_113 (Nat.le_of_ble_eq_true rfl) rfl ?_
          refine g_iinc (pc := 115) (v := l5 + 1) (lv2 := [(0, .ref 0), (1, .int l1), (2, .int l2), (3, .int 0), (4, .int (if (wi w 9 l5.toNatClampNeg) = (-(wi w 10 l5.toNatClampNeg)) then 1 else 0 : Int32)), (5, .int (l5 + 1))]) dX11_sameDance_115 5 rfl (Nat.le_of_ble_eq_true rfl) rfl rfl ?_
          refine g_goto (pc := 118) (tgt := 52) dX11_sameDance_118 (by decide) ?_
          exact h
        refine g_icmp_ne (pc := 105) (tgt := 112) dX11_sameDance_105 (by decide) (fun q105 => ?_) (fun q105 => ?_)
        · refine g_iconst (pc := 112) dX11_sameDance_112 c_0 ?_
          first | (exfalso; contradiction) | exact cast (by simp only [if_neg q105]) hJ
        · refine g_iconst (pc := 108) dX11_sameDance_108 c_1 ?_
          refine g_goto (pc := 109) (tgt := 113) dX11_sameDance_109 (by decide) ?_
          first | (exfalso; contradiction) | exact cast (by simp only [if_pos q105]) hJ
    · have h := h.2 q
      refine g_aload_n (pc := 62) dX11_sameDance_62 rfl 0 rfl ?_
      refine g_getR (pc := 63) (a := 0) (b := 9) dX11_sameDance_63 rfl fX11_38 rfl (rm_27 hR) ?_
      refine g_iload (pc := 66) dX11_sameDance_66 5 rfl ?_
      obtain ⟨hi3, h⟩ := h
      refine g_iald (pc := 68) (a := 9) (j := l5.toNatClampNeg) dX11_sameDance_68 rfl hi3 rfl ?_
      refine g_aload_n (pc := 69) dX11_sameDance_69 rfl 0 rfl ?_
      refine g_getR (pc := 70) (a := 0) (b := 10) dX11_sameDance_70 rfl fX11_41 rfl (rm_28 hR) ?_
      refine g_iload (pc := 73) dX11_sameDance_73 5 rfl ?_
      obtain ⟨hi4, h⟩ := h
      refine g_iald (pc := 75) (a := 10) (j := l5.toNatClampNeg) dX11_sameDance_75 rfl hi4 rfl ?_
      have hJ : Go SR mX11_sameDance 84 [(0, .ref 0), (1, .int l1), (2, .int l2), (3, .int l3), (4, .int l4), (5, .int l5)] [.int (if (wi w 9 l5.toNatClampNeg) = (wi w 10 l5.toNatClampNeg) then 1 else 0 : Int32)] w Q := by
        refine g_istore_n (pc := 84) (lv2 := [(0, .ref 0), (1, .int l1), (2, .int l2), (3, .int (if (wi w 9 l5.toNatClampNeg) = (wi w 10 l5.toNatClampNeg) then 1 else 0 : Int32)), (4, .int l4), (5, .int l5)]) dX11_sameDance_84 rfl (Nat.le_of_ble_eq_true rfl) rfl ?_
        refine g_iload (pc := 85) dX11_sameDance_85 4 rfl ?_
        refine g_if_eq (pc := 87) (tgt := 112) dX11_sameDance_87 (by decide) (fun q => ?_) (fun q => ?_)
        · have h := h.1 q
          refine g_iconst (pc := 112) dX11_sameDance_112 c_0 ?_
          refine g_istore (pc := 113) (lv2 := [(0, .ref 0), (1, .int l1), (2, .int l2), (3, .int (if (wi w 9 l5.toNatClampNeg) = (wi w 10 l5.toNatClampNeg) then 1 else 0 : Int32)), (4, .int 0), (5, .int l5)]) dX11_sameDance_113 (Nat.le_of_ble_eq_true rfl) rfl ?_
          refine g_iinc (pc := 115) (v := l5 + 1) (lv2 := [(0, .ref 0), (1, .int l1), (2, .int l2), (3, .int (if (wi w 9 l5.toNatClampNeg) = (wi w 10 l5.toNatClampNeg) then 1 else 0 : Int32)), (4, .int 0), (5, .int (l5 + 1))]) dX11_sameDance_115 5 rfl (Nat.le_of_ble_eq_true rfl) rfl rfl ?_
          refine g_goto (pc := 118) (tgt := 52) dX11_sameDance_118 (by decide) ?_
          exact h
        · have h := h.2 q
          refine g_aload_n (pc := 90) dX11_sameDance_90 rfl 0 rfl ?_
          refine g_getR (pc := 91) (a := 0) (b := 9) dX11_sameDance_91 rfl fX11_38 rfl (rm_27 hR) ?_
          refine g_iload (pc := 94) dX11_sameDance_94 5 rfl ?_
          obtain ⟨hi5, h⟩ := h
          refine g_iald (pc := 96) (a := 9) (j := l5.toNatClampNeg) dX11_sameDance_96 rfl hi5 rfl ?_
          refine g_aload_n (pc := 97) dX11_sameDance_97 rfl 0 rfl ?_
          refine g_getR (pc := 98) (a := 0) (b := 10) dX11_sameDance_98 rfl fX11_41 rfl (rm_28 hR) ?_
          refine g_iload (pc := 101) dX11_sameDance_101 5 rfl ?_
          obtain ⟨hi6, h⟩ := h
          refine g_iald (pc := 103) (a := 10) (j := l5.toNatClampNeg) dX11_sameDance_103 rfl hi6 rfl ?_
          refine g_ineg (pc := 104) dX11_sameDance_104 ?_
          have hJ : Go SR mX11_sameDance 113 [(0, .ref 0), (1, .int l1), (2, .int l2), (3, .int (if (wi w 9 l5.toNatClampNeg) = (wi w 10 l5.toNatClampNeg) then 1 else 0 : Int32)), (4, .int l4), (5, .int l5)] [.int (if (wi w 9 l5.toNatClampNeg) = (-(wi w 10 l5.toNatClampNeg)) then 1 else 0 : Int32)] w Q := by
            refine g_istore (pc := 113) (lv2 := [(0, .ref 0), (1, .int l1), (2, .int l2), (3, .int (if (wi w 9 l5.toNatClampNeg) = (wi w 10 l5.toNatClampNeg) then 1 else 0 : Int32)), (4, .int (if (wi w 9 l5.toNatClampNeg) = (-(wi w 10 l5.toNatClampNeg)) then 1 else 0 : Int32)), (5, .int l5)]) dX11_sameDance_113 (Nat.le_of_ble_eq_true rfl) rfl ?_
            refine g_iinc (pc := 115) (v := l5 + 1) (lv2 := [(0, .ref 0), (1, .int l1), (2, .int l2), (3, .int (if (wi w 9 l5.toNatClampNeg) = (wi w 10 l5.toNatClampNeg) then 1 else 0 : Int32)), (4, .int (if (wi w 9 l5.toNatClampNeg) = (-(wi w 10 l5.toNatClampNeg)) then 1 else 0 : Int32)), (5, .int (l5 + 1))]) dX11_sameDance_115 5 rfl (Nat.le_of_ble_eq_true rfl) rfl rfl ?_
            refine g_goto (pc := 118) (tgt := 52) dX11_sameDance_118 (by decide) ?_
            exact h
          refine g_icmp_ne (pc := 105) (tgt := 112) dX11_sameDance_105 (by decide) (fun q105 => ?_) (fun q105 => ?_)
          · refine g_iconst (pc := 112) dX11_sameDance_112 c_0 ?_
            first | (exfalso; contradiction) | exact cast (by simp only [if_neg q105]) hJ
          · refine g_iconst (pc := 108) dX11_sameDance_108 c_1 ?_
            refine g_goto (pc := 109) (tgt := 113) dX11_sameDance_109 (by decide) ?_
            first | (exfalso; contradiction) | exact cast (by simp only [if_pos q105]) hJ
      refine g_icmp_ne (pc := 76) (tgt := 83) dX11_sameDance_76 (by decide) (fun q76 => ?_) (fun q76 => ?_)
      · refine g_iconst (pc := 83) dX11_sameDance_83 c_0 ?_
        first | (exfalso; contradiction) | exact cast (by simp only [if_neg q76]) hJ
      · refine g_iconst (pc := 79) dX11_sameDance_79 c_1 ?_
        refine g_goto (pc := 80) (tgt := 84) dX11_sameDance_80 (by decide) ?_
        first | (exfalso; contradiction) | exact cast (by simp only [if_pos q76]) hJ
set_option maxHeartbeats 4000000 in
set_option maxRecDepth 100000 in
theorem TX11_seekUntied (a1 : Int32) (a2 : Int32) (w : Wd) (hR : w.2.2 = RM) (Q : Option Value → Wd → Prop) (h : ClV SR mX11_look [.ref 0, .int a1] w (fun w1 => w1.2.2 = RM ∧ Go SR mX11_seekUntied 28 [(0, .ref 0), (1, .int a1), (2, .int a2)] [] (si (si (si (si w1 0 29 0) 0 30 0) 0 31 (wi (si (si w1 0 29 0) 0 30 0) 0 24)) 0 32 (-1)) Q)) : Cl SR mX11_seekUntied [.ref 0, .int a1, .int a2] w Q := by
  refine cl_of (by decide) (Nat.le_of_ble_eq_true rfl) ?_
  show Go SR mX11_seekUntied 0 [(0, .ref 0), (1, .int a1), (2, .int a2)] [] w Q
  refine g_aload_n (pc := 0) dX11_seekUntied_0 rfl 0 rfl ?_
  refine g_iload_n (pc := 1) dX11_seekUntied_1 rfl 1 rfl ?_
  refine g_callV (pc := 2) (M' := mX11_look) (n := 1) (a := 0) (as := [.int a1]) (st := []) dX11_seekUntied_2 rfl kX11_245 vX11_look (Nat.le_of_ble_eq_true rfl) rfl qX11 rfl rfl (Nat.le_of_ble_eq_true rfl) ?_
  refine cl_mono (fun r w1 hr => ?_) h
  obtain ⟨rfl, hw1, h⟩ := hr
  show Go SR mX11_seekUntied 5 [(0, .ref 0), (1, .int a1), (2, .int a2)] [] w1 Q
  refine g_aload_n (pc := 5) dX11_seekUntied_5 rfl 0 rfl ?_
  refine g_iconst (pc := 6) dX11_seekUntied_6 c_0 ?_
  refine g_putI (pc := 7) dX11_seekUntied_7 rfl fX11_270 pX11_29 rfl ?_
  refine g_aload_n (pc := 10) dX11_seekUntied_10 rfl 0 rfl ?_
  refine g_iconst (pc := 11) dX11_seekUntied_11 c_0 ?_
  refine g_putI (pc := 12) dX11_seekUntied_12 rfl fX11_273 pX11_30 rfl ?_
  refine g_aload_n (pc := 15) dX11_seekUntied_15 rfl 0 rfl ?_
  refine g_aload_n (pc := 16) dX11_seekUntied_16 rfl 0 rfl ?_
  refine g_getI (pc := 17) (a := 0) dX11_seekUntied_17 rfl fX11_172 rfl ?_
  refine g_putI (pc := 20) dX11_seekUntied_20 rfl fX11_276 pX11_31 rfl ?_
  refine g_aload_n (pc := 23) dX11_seekUntied_23 rfl 0 rfl ?_
  refine g_iconst (pc := 24) dX11_seekUntied_24 cN_1 ?_
  refine g_putI (pc := 25) dX11_seekUntied_25 rfl fX11_279 pX11_32 rfl ?_
  exact h
set_option maxHeartbeats 4000000 in
set_option maxRecDepth 100000 in
theorem BX11_seekUntied_28  (l1 : Int32) (l2 : Int32) (w : Wd) (hR : w.2.2 = RM) (Q : Option Value → Wd → Prop) (h : (((vXX11_isNothing w) = 0 → (((wi w 0 29) = l2 → ClV SR mX11_figureOn [.ref 0, .int (if 0 ≤ (wi w 0 23) then 2 else 0 : Int32)] (si (si (si w 0 32 (if 0 ≤ (wi w 0 23) then 2 else 0 : Int32)) 0 30 ((wi (si w 0 32 (if 0 ≤ (wi w 0 23) then 2 else 0 : Int32)) 0 30) + (if (if 0 ≤ (wi w 0 23) then 2 else 0 : Int32) = (2 : Int32) then 1 else 0 : Int32))) 0 29 ((wi (si (si w 0 32 (if 0 ≤ (wi w 0 23) then 2 else 0 : Int32)) 0 30 ((wi (si w 0 32 (if 0 ≤ (wi w 0 23) then 2 else 0 : Int32)) 0 30) + (if (if 0 ≤ (wi w 0 23) then 2 else 0 : Int32) = (2 : Int32) then 1 else 0 : Int32))) 0 29) + 1)) (fun w2 => w2.2.2 = RM ∧ Go SR mX11_seekUntied 28 [(0, .ref 0), (1, .int l1), (2, .int l2)] [] (si w2 0 31 (if (wi w2 0 24) ≤ (wi w2 0 31) then wi w2 0 31 else wi w2 0 24 : Int32)) Q)) ∧ (¬ ((wi w 0 29) = l2) → ClV SR mX11_figureOn [.ref 0, .int (if 0 ≤ (wi w 0 23) then 2 else 0 : Int32)] (si (si w 0 30 ((wi w 0 30) + (if (if 0 ≤ (wi w 0 23) then 2 else 0 : Int32) = (2 : Int32) then 1 else 0 : Int32))) 0 29 ((wi (si w 0 30 ((wi w 0 30) + (if (if 0 ≤ (wi w 0 23) then 2 else 0 : Int32) = (2 : Int32) then 1 else 0 : Int32))) 0 29) + 1)) (fun w1 => w1.2.2 = RM ∧ Go SR mX11_seekUntied 28 [(0, .ref 0), (1, .int l1), (2, .int l2)] [] (si w1 0 31 (if (wi w1 0 24) ≤ (wi w1 0 31) then wi w1 0 31 else wi w1 0 24 : Int32)) Q)))) ∧ (¬ ((vXX11_isNothing w) = 0) → Q none w))) : Go SR mX11_seekUntied 28 [(0, .ref 0), (1, .int l1), (2, .int l2)] [] w Q := by
  refine g_aload_n (pc := 28) dX11_seekUntied_28 rfl 0 rfl ?_
  refine g_callV (pc := 29) (M' := mX11_isNothing) (n := 0) (a := 0) (as := []) (st := []) dX11_seekUntied_29 rfl kX11_263 vX11_isNothing (Nat.le_of_ble_eq_true rfl) rfl qX11 rfl rfl (Nat.le_of_ble_eq_true rfl) ?_
  refine zX11_isNothing (w := w) (hR := hR) ?_
  show Go SR mX11_seekUntied 32 [(0, .ref 0), (1, .int l1), (2, .int l2)] [.int (vXX11_isNothing w)] w Q
  refine g_if_ne (pc := 32) (tgt := 124) dX11_seekUntied_32 (by decide) (fun q => ?_) (fun q => ?_)
  · have h := h.2 q
    exact g_vret (pc := 124) dX11_seekUntied_124 rfl h
  · have h := h.1 q
    refine g_aload_n (pc := 35) dX11_seekUntied_35 rfl 0 rfl ?_
    refine g_getI (pc := 36) (a := 0) dX11_seekUntied_36 rfl fX11_169 rfl ?_
    have hJ : Go SR mX11_seekUntied 47 [(0, .ref 0), (1, .int l1), (2, .int l2)] [.int (if 0 ≤ (wi w 0 23) then 2 else 0 : Int32)] w Q := by
      refine g_istore_n (pc := 47) (lv2 := [(0, .ref 0), (1, .int l1), (2, .int l2), (3, .int (if 0 ≤ (wi w 0 23) then 2 else 0 : Int32))]) dX11_seekUntied_47 rfl (Nat.le_of_ble_eq_true rfl) rfl ?_
      refine g_aload_n (pc := 48) dX11_seekUntied_48 rfl 0 rfl ?_
      refine g_getI (pc := 49) (a := 0) dX11_seekUntied_49 rfl fX11_270 rfl ?_
      refine g_iload_n (pc := 52) dX11_seekUntied_52 rfl 2 rfl ?_
      refine g_icmp_ne (pc := 53) (tgt := 61) dX11_seekUntied_53 (by decide) (fun q => ?_) (fun q => ?_)
      · have h := h.2 q
        refine g_aload_n (pc := 61) dX11_seekUntied_61 rfl 0 rfl ?_
        refine g_dup (pc := 62) dX11_seekUntied_62 rfl ?_
        refine g_getI (pc := 63) (a := 0) dX11_seekUntied_63 rfl fX11_273 rfl ?_
        refine g_iload_n (pc := 66) dX11_seekUntied_66 rfl 3 rfl ?_
        refine g_iconst (pc := 67) dX11_seekUntied_67 c_2 ?_
        have hJ : Go SR mX11_seekUntied 76 [(0, .ref 0), (1, .int l1), (2, .int l2), (3, .int (if 0 ≤ (wi w 0 23) then 2 else 0 : Int32))] [.int (if (if 0 ≤ (wi w 0 23) then 2 else 0 : Int32) = (2 : Int32) then 1 else 0 : Int32), .int (wi w 0 30), .ref 0] w Q := by
          refine g_iadd (pc := 76) dX11_seekUntied_76 ?_
          refine g_putI (pc := 77) dX11_seekUntied_77 rfl fX11_273 pX11_30 rfl ?_
          refine g_aload_n (pc := 80) dX11_seekUntied_80 rfl 0 rfl ?_
          refine g_dup (pc := 81) dX11_seekUntied_81 rfl ?_
          refine g_getI (pc := 82) (a := 0) dX11_seekUntied_82 rfl fX11_270 rfl ?_
          refine g_iconst (pc := 85) dX11_seekUntied_85 c_1 ?_
          refine g_iadd (pc := 86) dX11_seekUntied_86 ?_
          refine g_putI (pc := 87) dX11_seekUntied_87 rfl fX11_270 pX11_29 rfl ?_
          refine g_aload_n (pc := 90) dX11_seekUntied_90 rfl 0 rfl ?_
          refine g_iload_n (pc := 91) dX11_seekUntied_91 rfl 3 rfl ?_
          refine g_callV (pc := 92) (M' := mX11_figureOn) (n := 1) (a := 0) (as := [.int (if 0 ≤ (wi w 0 23) then 2 else 0 : Int32)]) (st := []) dX11_seekUntied_92 rfl kX11_225 vX11_figureOn (Nat.le_of_ble_eq_true rfl) rfl qX11 rfl rfl (Nat.le_of_ble_eq_true rfl) ?_
          refine cl_mono (fun r w1 hr => ?_) h
          obtain ⟨rfl, hw1, h⟩ := hr
          show Go SR mX11_seekUntied 95 [(0, .ref 0), (1, .int l1), (2, .int l2), (3, .int (if 0 ≤ (wi w 0 23) then 2 else 0 : Int32))] [] w1 Q
          refine g_aload_n (pc := 95) dX11_seekUntied_95 rfl 0 rfl ?_
          refine g_aload_n (pc := 96) dX11_seekUntied_96 rfl 0 rfl ?_
          refine g_getI (pc := 97) (a := 0) dX11_seekUntied_97 rfl fX11_172 rfl ?_
          refine g_aload_n (pc := 100) dX11_seekUntied_100 rfl 0 rfl ?_
          refine g_getI (pc := 101) (a := 0) dX11_seekUntied_101 rfl fX11_276 rfl ?_
          have hJ : Go SR mX11_seekUntied 118 [(0, .ref 0), (1, .int l1), (2, .int l2), (3, .int (if 0 ≤ (wi w 0 23) then 2 else 0 : Int32))] [.int (if (wi w1 0 24) ≤ (wi w1 0 31) then wi w1 0 31 else wi w1 0 24 : Int32), .ref 0] w1 Q := by
            refine g_putI (pc := 118) dX11_seekUntied_118 rfl fX11_276 pX11_31 rfl ?_
            refine g_goto (pc := 121) (tgt := 28) dX11_seekUntied_121 (by decide) ?_
            refine g_sub (lv2 := [(0, .ref 0), (1, .int l1), (2, .int l2)]) [0, 1, 2] rfl ?_
            exact h
          refine g_icmp_le (pc := 104) (tgt := 114) dX11_seekUntied_104 (by decide) (fun q104 => ?_) (fun q104 => ?_)
          · refine g_aload_n (pc := 114) dX11_seekUntied_114 rfl 0 rfl ?_
            refine g_getI (pc := 115) (a := 0) dX11_seekUntied_115 rfl fX11_276 rfl ?_
            first | (exfalso; contradiction) | exact cast (by simp only [if_pos q104]) hJ
          · refine g_aload_n (pc := 107) dX11_seekUntied_107 rfl 0 rfl ?_
            refine g_getI (pc := 108) (a := 0) dX11_seekUntied_108 rfl fX11_172 rfl ?_
            refine g_goto (pc := 111) (tgt := 118) dX11_seekUntied_111 (by decide) ?_
            first | (exfalso; contradiction) | exact cast (by simp only [if_neg q104]) hJ
        refine g_icmp_ne (pc := 68) (tgt := 75) dX11_seekUntied_68 (by decide) (fun q68 => ?_) (fun q68 => ?_)
        · refine g_iconst (pc := 75) dX11_seekUntied_75 c_0 ?_
          first | (exfalso; contradiction) | exact cast (by simp only [if_neg q68]) hJ
        · refine g_iconst (pc := 71) dX11_seekUntied_71 c_1 ?_
          refine g_goto (pc := 72) (tgt := 76) dX11_seekUntied_72 (by decide) ?_
          first | (exfalso; contradiction) | exact cast (by simp only [if_pos q68]) hJ
      · have h := h.1 q
        refine g_aload_n (pc := 56) dX11_seekUntied_56 rfl 0 rfl ?_
        refine g_iload_n (pc := 57) dX11_seekUntied_57 rfl 3 rfl ?_
        refine g_putI (pc := 58) dX11_seekUntied_58 rfl fX11_279 pX11_32 rfl ?_
        refine g_aload_n (pc := 61) dX11_seekUntied_61 rfl 0 rfl ?_
        refine g_dup (pc := 62) dX11_seekUntied_62 rfl ?_
        refine g_getI (pc := 63) (a := 0) dX11_seekUntied_63 rfl fX11_273 rfl ?_
        refine g_iload_n (pc := 66) dX11_seekUntied_66 rfl 3 rfl ?_
        refine g_iconst (pc := 67) dX11_seekUntied_67 c_2 ?_
        have hJ : Go SR mX11_seekUntied 76 [(0, .ref 0), (1, .int l1), (2, .int l2), (3, .int (if 0 ≤ (wi w 0 23) then 2 else 0 : Int32))] [.int (if (if 0 ≤ (wi w 0 23) then 2 else 0 : Int32) = (2 : Int32) then 1 else 0 : Int32), .int (wi (si w 0 32 (if 0 ≤ (wi w 0 23) then 2 else 0 : Int32)) 0 30), .ref 0] (si w 0 32 (if 0 ≤ (wi w 0 23) then 2 else 0 : Int32)) Q := by
          refine g_iadd (pc := 76) dX11_seekUntied_76 ?_
          refine g_putI (pc := 77) dX11_seekUntied_77 rfl fX11_273 pX11_30 rfl ?_
          refine g_aload_n (pc := 80) dX11_seekUntied_80 rfl 0 rfl ?_
          refine g_dup (pc := 81) dX11_seekUntied_81 rfl ?_
          refine g_getI (pc := 82) (a := 0) dX11_seekUntied_82 rfl fX11_270 rfl ?_
          refine g_iconst (pc := 85) dX11_seekUntied_85 c_1 ?_
          refine g_iadd (pc := 86) dX11_seekUntied_86 ?_
          refine g_putI (pc := 87) dX11_seekUntied_87 rfl fX11_270 pX11_29 rfl ?_
          refine g_aload_n (pc := 90) dX11_seekUntied_90 rfl 0 rfl ?_
          refine g_iload_n (pc := 91) dX11_seekUntied_91 rfl 3 rfl ?_
          refine g_callV (pc := 92) (M' := mX11_figureOn) (n := 1) (a := 0) (as := [.int (if 0 ≤ (wi w 0 23) then 2 else 0 : Int32)]) (st := []) dX11_seekUntied_92 rfl kX11_225 vX11_figureOn (Nat.le_of_ble_eq_true rfl) rfl qX11 rfl rfl (Nat.le_of_ble_eq_true rfl) ?_
          refine cl_mono (fun r w2 hr => ?_) h
          obtain ⟨rfl, hw2, h⟩ := hr
          show Go SR mX11_seekUntied 95 [(0, .ref 0), (1, .int l1), (2, .int l2), (3, .int (if 0 ≤ (wi w 0 23) then 2 else 0 : Int32))] [] w2 Q
          refine g_aload_n (pc := 95) dX11_seekUntied_95 rfl 0 rfl ?_
          refine g_aload_n (pc := 96) dX11_seekUntied_96 rfl 0 rfl ?_
          refine g_getI (pc := 97) (a := 0) dX11_seekUntied_97 rfl fX11_172 rfl ?_
          refine g_aload_n (pc := 100) dX11_seekUntied_100 rfl 0 rfl ?_
          refine g_getI (pc := 101) (a := 0) dX11_seekUntied_101 rfl fX11_276 rfl ?_
          have hJ : Go SR mX11_seekUntied 118 [(0, .ref 0), (1, .int l1), (2, .int l2), (3, .int (if 0 ≤ (wi w 0 23) then 2 else 0 : Int32))] [.int (if (wi w2 0 24) ≤ (wi w2 0 31) then wi w2 0 31 else wi w2 0 24 : Int32), .ref 0] w2 Q := by
            refine g_putI (pc := 118) dX11_seekUntied_118 rfl fX11_276 pX11_31 rfl ?_
            refine g_goto (pc := 121) (tgt := 28) dX11_seekUntied_121 (by decide) ?_
            refine g_sub (lv2 := [(0, .ref 0), (1, .int l1), (2, .int l2)]) [0, 1, 2] rfl ?_
            exact h
          refine g_icmp_le (pc := 104) (tgt := 114) dX11_seekUntied_104 (by decide) (fun q104 => ?_) (fun q104 => ?_)
          · refine g_aload_n (pc := 114) dX11_seekUntied_114 rfl 0 rfl ?_
            refine g_getI (pc := 115) (a := 0) dX11_seekUntied_115 rfl fX11_276 rfl ?_
            first | (exfalso; contradiction) | exact cast (by simp only [if_pos q104]) hJ
          · refine g_aload_n (pc := 107) dX11_seekUntied_107 rfl 0 rfl ?_
            refine g_getI (pc := 108) (a := 0) dX11_seekUntied_108 rfl fX11_172 rfl ?_
            refine g_goto (pc := 111) (tgt := 118) dX11_seekUntied_111 (by decide) ?_
            first | (exfalso; contradiction) | exact cast (by simp only [if_neg q104]) hJ
        refine g_icmp_ne (pc := 68) (tgt := 75) dX11_seekUntied_68 (by decide) (fun q68 => ?_) (fun q68 => ?_)
        · refine g_iconst (pc := 75) dX11_seekUntied_75 c_0 ?_
          first | (exfalso; contradiction) | exact cast (by simp only [if_neg q68]) hJ
        · refine g_iconst (pc := 71) dX11_seekUntied_71 c_1 ?_
          refine g_goto (pc := 72) (tgt := 76) dX11_seekUntied_72 (by decide) ?_
          first | (exfalso; contradiction) | exact cast (by simp only [if_pos q68]) hJ
    refine g_if_ge (pc := 39) (tgt := 46) dX11_seekUntied_39 (by decide) (fun q39 => ?_) (fun q39 => ?_)
    · refine g_iconst (pc := 46) dX11_seekUntied_46 c_2 ?_
      first | (exfalso; contradiction) | exact cast (by simp only [if_pos q39]) hJ
    · refine g_iconst (pc := 42) dX11_seekUntied_42 c_0 ?_
      refine g_goto (pc := 43) (tgt := 47) dX11_seekUntied_43 (by decide) ?_
      first | (exfalso; contradiction) | exact cast (by simp only [if_neg q39]) hJ
set_option maxHeartbeats 4000000 in
set_option maxRecDepth 100000 in
theorem TX11_untie (a1 : Int32) (w : Wd) (hR : w.2.2 = RM) (Q : Option Value → Wd → Prop) (h : ClI SR mX11_isDance [.ref 0, .int a1] (wXX11_anew w) (fun x2 w1 => w1.2.2 = RM ∧ ((x2 = 0 → Q (some (.int (vXX11_no 1))) (wXX11_no 1 w1)) ∧ (¬ (x2 = 0) → ClV SR mX11_seekUntied [.ref 0, .int a1, .int (-1)] w1 (fun w3 => w3.2.2 = RM ∧ Q (some (.int (wi w3 0 29))) w3))))) : Cl SR mX11_untie [.ref 0, .int a1] w Q := by
  refine cl_of (by decide) (Nat.le_of_ble_eq_true rfl) ?_
  show Go SR mX11_untie 0 [(0, .ref 0), (1, .int a1)] [] w Q
  refine g_aload_n (pc := 0) dX11_untie_0 rfl 0 rfl ?_
  refine g_callV (pc := 1) (M' := mX11_anew) (n := 0) (a := 0) (as := []) (st := []) dX11_untie_1 rfl kX11_147 vX11_anew (Nat.le_of_ble_eq_true rfl) rfl qX11 rfl rfl (Nat.le_of_ble_eq_true rfl) ?_
  refine zX11_anew (w := w) (hR := hR) ?_
  show Go SR mX11_untie 4 [(0, .ref 0), (1, .int a1)] [] (wXX11_anew w) Q
  refine g_aload_n (pc := 4) dX11_untie_4 rfl 0 rfl ?_
  refine g_iload_n (pc := 5) dX11_untie_5 rfl 1 rfl ?_
  refine g_callV (pc := 6) (M' := mX11_isDance) (n := 1) (a := 0) (as := [.int a1]) (st := []) dX11_untie_6 rfl kX11_239 vX11_isDance (Nat.le_of_ble_eq_true rfl) rfl qX11 rfl rfl (Nat.le_of_ble_eq_true rfl) ?_
  refine cl_mono (fun r w1 hr => ?_) h
  obtain ⟨x2, rfl, hw1, h⟩ := hr
  show Go SR mX11_untie 9 [(0, .ref 0), (1, .int a1)] [.int x2] w1 Q
  refine g_if_ne (pc := 9) (tgt := 18) dX11_untie_9 (by decide) (fun q => ?_) (fun q => ?_)
  · have h := h.2 q
    refine g_aload_n (pc := 18) dX11_untie_18 rfl 0 rfl ?_
    refine g_iload_n (pc := 19) dX11_untie_19 rfl 1 rfl ?_
    refine g_iconst (pc := 20) dX11_untie_20 cN_1 ?_
    refine g_callV (pc := 21) (M' := mX11_seekUntied) (n := 2) (a := 0) (as := [.int a1, .int (-1)]) (st := []) dX11_untie_21 rfl kX11_282 vX11_seekUntied (Nat.le_of_ble_eq_true rfl) rfl qX11 rfl rfl (Nat.le_of_ble_eq_true rfl) ?_
    refine cl_mono (fun r w3 hr => ?_) h
    obtain ⟨rfl, hw3, h⟩ := hr
    show Go SR mX11_untie 24 [(0, .ref 0), (1, .int a1)] [] w3 Q
    refine g_aload_n (pc := 24) dX11_untie_24 rfl 0 rfl ?_
    refine g_getI (pc := 25) (a := 0) dX11_untie_25 rfl fX11_270 rfl ?_
    exact g_iret (pc := 28) dX11_untie_28 rfl h
  · have h := h.1 q
    refine g_aload_n (pc := 12) dX11_untie_12 rfl 0 rfl ?_
    refine g_iconst (pc := 13) dX11_untie_13 c_1 ?_
    refine g_callV (pc := 14) (M' := mX11_no) (n := 1) (a := 0) (as := [.int 1]) (st := []) dX11_untie_14 rfl kX11_150 vX11_no (Nat.le_of_ble_eq_true rfl) rfl qX11 rfl rfl (Nat.le_of_ble_eq_true rfl) ?_
    refine zX11_no (a1 := 1) (w := w1) (hR := hw1) ?_
    show Go SR mX11_untie 17 [(0, .ref 0), (1, .int a1)] [.int (vXX11_no 1)] (wXX11_no 1 w1) Q
    exact g_iret (pc := 17) dX11_untie_17 rfl h
set_option maxHeartbeats 4000000 in
set_option maxRecDepth 100000 in
theorem TX11_turnsOf (a1 : Int32) (w : Wd) (hR : w.2.2 = RM) (Q : Option Value → Wd → Prop) (h : ClI SR mX11_isDance [.ref 0, .int a1] (wXX11_anew w) (fun x2 w1 => w1.2.2 = RM ∧ ((x2 = 0 → Q (some (.int (vXX11_no 1))) (wXX11_no 1 w1)) ∧ (¬ (x2 = 0) → ClV SR mX11_seekUntied [.ref 0, .int a1, .int (-1)] w1 (fun w3 => w3.2.2 = RM ∧ Q (some (.int (wi w3 0 30))) w3))))) : Cl SR mX11_turnsOf [.ref 0, .int a1] w Q := by
  refine cl_of (by decide) (Nat.le_of_ble_eq_true rfl) ?_
  show Go SR mX11_turnsOf 0 [(0, .ref 0), (1, .int a1)] [] w Q
  refine g_aload_n (pc := 0) dX11_turnsOf_0 rfl 0 rfl ?_
  refine g_callV (pc := 1) (M' := mX11_anew) (n := 0) (a := 0) (as := []) (st := []) dX11_turnsOf_1 rfl kX11_147 vX11_anew (Nat.le_of_ble_eq_true rfl) rfl qX11 rfl rfl (Nat.le_of_ble_eq_true rfl) ?_
  refine zX11_anew (w := w) (hR := hR) ?_
  show Go SR mX11_turnsOf 4 [(0, .ref 0), (1, .int a1)] [] (wXX11_anew w) Q
  refine g_aload_n (pc := 4) dX11_turnsOf_4 rfl 0 rfl ?_
  refine g_iload_n (pc := 5) dX11_turnsOf_5 rfl 1 rfl ?_
  refine g_callV (pc := 6) (M' := mX11_isDance) (n := 1) (a := 0) (as := [.int a1]) (st := []) dX11_turnsOf_6 rfl kX11_239 vX11_isDance (Nat.le_of_ble_eq_true rfl) rfl qX11 rfl rfl (Nat.le_of_ble_eq_true rfl) ?_
  refine cl_mono (fun r w1 hr => ?_) h
  obtain ⟨x2, rfl, hw1, h⟩ := hr
  show Go SR mX11_turnsOf 9 [(0, .ref 0), (1, .int a1)] [.int x2] w1 Q
  refine g_if_ne (pc := 9) (tgt := 18) dX11_turnsOf_9 (by decide) (fun q => ?_) (fun q => ?_)
  · have h := h.2 q
    refine g_aload_n (pc := 18) dX11_turnsOf_18 rfl 0 rfl ?_
    refine g_iload_n (pc := 19) dX11_turnsOf_19 rfl 1 rfl ?_
    refine g_iconst (pc := 20) dX11_turnsOf_20 cN_1 ?_
    refine g_callV (pc := 21) (M' := mX11_seekUntied) (n := 2) (a := 0) (as := [.int a1, .int (-1)]) (st := []) dX11_turnsOf_21 rfl kX11_282 vX11_seekUntied (Nat.le_of_ble_eq_true rfl) rfl qX11 rfl rfl (Nat.le_of_ble_eq_true rfl) ?_
    refine cl_mono (fun r w3 hr => ?_) h
    obtain ⟨rfl, hw3, h⟩ := hr
    show Go SR mX11_turnsOf 24 [(0, .ref 0), (1, .int a1)] [] w3 Q
    refine g_aload_n (pc := 24) dX11_turnsOf_24 rfl 0 rfl ?_
    refine g_getI (pc := 25) (a := 0) dX11_turnsOf_25 rfl fX11_273 rfl ?_
    exact g_iret (pc := 28) dX11_turnsOf_28 rfl h
  · have h := h.1 q
    refine g_aload_n (pc := 12) dX11_turnsOf_12 rfl 0 rfl ?_
    refine g_iconst (pc := 13) dX11_turnsOf_13 c_1 ?_
    refine g_callV (pc := 14) (M' := mX11_no) (n := 1) (a := 0) (as := [.int 1]) (st := []) dX11_turnsOf_14 rfl kX11_150 vX11_no (Nat.le_of_ble_eq_true rfl) rfl qX11 rfl rfl (Nat.le_of_ble_eq_true rfl) ?_
    refine zX11_no (a1 := 1) (w := w1) (hR := hw1) ?_
    show Go SR mX11_turnsOf 17 [(0, .ref 0), (1, .int a1)] [.int (vXX11_no 1)] (wXX11_no 1 w1) Q
    exact g_iret (pc := 17) dX11_turnsOf_17 rfl h
set_option maxHeartbeats 4000000 in
set_option maxRecDepth 100000 in
theorem TX11_untieAt (a1 : Int32) (a2 : Int32) (w : Wd) (hR : w.2.2 = RM) (Q : Option Value → Wd → Prop) (h : ClI SR mX11_isDance [.ref 0, .int a1] (wXX11_anew w) (fun x2 w1 => w1.2.2 = RM ∧ ((x2 = 0 → Q (some (.int (vXX11_no 1))) (wXX11_no 1 w1)) ∧ (¬ (x2 = 0) → ((0 ≤ a2 → ClV SR mX11_seekUntied [.ref 0, .int a1, .int a2] w1 (fun w3 => w3.2.2 = RM ∧ ((0 ≤ (wi w3 0 32) → Q (some (.int (wi w3 0 32))) w3) ∧ (¬ (0 ≤ (wi w3 0 32)) → Q (some (.int (vXX11_no 1))) (wXX11_no 1 w3))))) ∧ (¬ (0 ≤ a2) → Q (some (.int (vXX11_no 1))) (wXX11_no 1 w1))))))) : Cl SR mX11_untieAt [.ref 0, .int a1, .int a2] w Q := by
  refine cl_of (by decide) (Nat.le_of_ble_eq_true rfl) ?_
  show Go SR mX11_untieAt 0 [(0, .ref 0), (1, .int a1), (2, .int a2)] [] w Q
  refine g_aload_n (pc := 0) dX11_untieAt_0 rfl 0 rfl ?_
  refine g_callV (pc := 1) (M' := mX11_anew) (n := 0) (a := 0) (as := []) (st := []) dX11_untieAt_1 rfl kX11_147 vX11_anew (Nat.le_of_ble_eq_true rfl) rfl qX11 rfl rfl (Nat.le_of_ble_eq_true rfl) ?_
  refine zX11_anew (w := w) (hR := hR) ?_
  show Go SR mX11_untieAt 4 [(0, .ref 0), (1, .int a1), (2, .int a2)] [] (wXX11_anew w) Q
  refine g_aload_n (pc := 4) dX11_untieAt_4 rfl 0 rfl ?_
  refine g_iload_n (pc := 5) dX11_untieAt_5 rfl 1 rfl ?_
  refine g_callV (pc := 6) (M' := mX11_isDance) (n := 1) (a := 0) (as := [.int a1]) (st := []) dX11_untieAt_6 rfl kX11_239 vX11_isDance (Nat.le_of_ble_eq_true rfl) rfl qX11 rfl rfl (Nat.le_of_ble_eq_true rfl) ?_
  refine cl_mono (fun r w1 hr => ?_) h
  obtain ⟨x2, rfl, hw1, h⟩ := hr
  show Go SR mX11_untieAt 9 [(0, .ref 0), (1, .int a1), (2, .int a2)] [.int x2] w1 Q
  refine g_if_eq (pc := 9) (tgt := 16) dX11_untieAt_9 (by decide) (fun q => ?_) (fun q => ?_)
  · have h := h.1 q
    refine g_aload_n (pc := 16) dX11_untieAt_16 rfl 0 rfl ?_
    refine g_iconst (pc := 17) dX11_untieAt_17 c_1 ?_
    refine g_callV (pc := 18) (M' := mX11_no) (n := 1) (a := 0) (as := [.int 1]) (st := []) dX11_untieAt_18 rfl kX11_150 vX11_no (Nat.le_of_ble_eq_true rfl) rfl qX11 rfl rfl (Nat.le_of_ble_eq_true rfl) ?_
    refine zX11_no (a1 := 1) (w := w1) (hR := hw1) ?_
    show Go SR mX11_untieAt 21 [(0, .ref 0), (1, .int a1), (2, .int a2)] [.int (vXX11_no 1)] (wXX11_no 1 w1) Q
    exact g_iret (pc := 21) dX11_untieAt_21 rfl h
  · have h := h.2 q
    refine g_iload_n (pc := 12) dX11_untieAt_12 rfl 2 rfl ?_
    refine g_if_ge (pc := 13) (tgt := 22) dX11_untieAt_13 (by decide) (fun q => ?_) (fun q => ?_)
    · have h := h.1 q
      refine g_aload_n (pc := 22) dX11_untieAt_22 rfl 0 rfl ?_
      refine g_iload_n (pc := 23) dX11_untieAt_23 rfl 1 rfl ?_
      refine g_iload_n (pc := 24) dX11_untieAt_24 rfl 2 rfl ?_
      refine g_callV (pc := 25) (M' := mX11_seekUntied) (n := 2) (a := 0) (as := [.int a1, .int a2]) (st := []) dX11_untieAt_25 rfl kX11_282 vX11_seekUntied (Nat.le_of_ble_eq_true rfl) rfl qX11 rfl rfl (Nat.le_of_ble_eq_true rfl) ?_
      refine cl_mono (fun r w3 hr => ?_) h
      obtain ⟨rfl, hw3, h⟩ := hr
      show Go SR mX11_untieAt 28 [(0, .ref 0), (1, .int a1), (2, .int a2)] [] w3 Q
      refine g_aload_n (pc := 28) dX11_untieAt_28 rfl 0 rfl ?_
      refine g_getI (pc := 29) (a := 0) dX11_untieAt_29 rfl fX11_279 rfl ?_
      refine g_if_ge (pc := 32) (tgt := 43) dX11_untieAt_32 (by decide) (fun q => ?_) (fun q => ?_)
      · have h := h.1 q
        refine g_aload_n (pc := 43) dX11_untieAt_43 rfl 0 rfl ?_
        refine g_getI (pc := 44) (a := 0) dX11_untieAt_44 rfl fX11_279 rfl ?_
        exact g_iret (pc := 47) dX11_untieAt_47 rfl h
      · have h := h.2 q
        refine g_aload_n (pc := 35) dX11_untieAt_35 rfl 0 rfl ?_
        refine g_iconst (pc := 36) dX11_untieAt_36 c_1 ?_
        refine g_callV (pc := 37) (M' := mX11_no) (n := 1) (a := 0) (as := [.int 1]) (st := []) dX11_untieAt_37 rfl kX11_150 vX11_no (Nat.le_of_ble_eq_true rfl) rfl qX11 rfl rfl (Nat.le_of_ble_eq_true rfl) ?_
        refine zX11_no (a1 := 1) (w := w3) (hR := hw3) ?_
        show Go SR mX11_untieAt 40 [(0, .ref 0), (1, .int a1), (2, .int a2)] [.int (vXX11_no 1)] (wXX11_no 1 w3) Q
        refine g_goto (pc := 40) (tgt := 47) dX11_untieAt_40 (by decide) ?_
        exact g_iret (pc := 47) dX11_untieAt_47 rfl h
    · have h := h.2 q
      refine g_aload_n (pc := 16) dX11_untieAt_16 rfl 0 rfl ?_
      refine g_iconst (pc := 17) dX11_untieAt_17 c_1 ?_
      refine g_callV (pc := 18) (M' := mX11_no) (n := 1) (a := 0) (as := [.int 1]) (st := []) dX11_untieAt_18 rfl kX11_150 vX11_no (Nat.le_of_ble_eq_true rfl) rfl qX11 rfl rfl (Nat.le_of_ble_eq_true rfl) ?_
      refine zX11_no (a1 := 1) (w := w1) (hR := hw1) ?_
      show Go SR mX11_untieAt 21 [(0, .ref 0), (1, .int a1), (2, .int a2)] [.int (vXX11_no 1)] (wXX11_no 1 w1) Q
      exact g_iret (pc := 21) dX11_untieAt_21 rfl h
set_option maxHeartbeats 4000000 in
set_option maxRecDepth 100000 in
theorem TX11_widest (a1 : Int32) (w : Wd) (hR : w.2.2 = RM) (Q : Option Value → Wd → Prop) (h : ClI SR mX11_isDance [.ref 0, .int a1] (wXX11_anew w) (fun x2 w1 => w1.2.2 = RM ∧ ((x2 = 0 → Q (some (.int (vXX11_no 1))) (wXX11_no 1 w1)) ∧ (¬ (x2 = 0) → ClV SR mX11_seekUntied [.ref 0, .int a1, .int (-1)] w1 (fun w3 => w3.2.2 = RM ∧ Q (some (.int (wi w3 0 31))) w3))))) : Cl SR mX11_widest [.ref 0, .int a1] w Q := by
  refine cl_of (by decide) (Nat.le_of_ble_eq_true rfl) ?_
  show Go SR mX11_widest 0 [(0, .ref 0), (1, .int a1)] [] w Q
  refine g_aload_n (pc := 0) dX11_widest_0 rfl 0 rfl ?_
  refine g_callV (pc := 1) (M' := mX11_anew) (n := 0) (a := 0) (as := []) (st := []) dX11_widest_1 rfl kX11_147 vX11_anew (Nat.le_of_ble_eq_true rfl) rfl qX11 rfl rfl (Nat.le_of_ble_eq_true rfl) ?_
  refine zX11_anew (w := w) (hR := hR) ?_
  show Go SR mX11_widest 4 [(0, .ref 0), (1, .int a1)] [] (wXX11_anew w) Q
  refine g_aload_n (pc := 4) dX11_widest_4 rfl 0 rfl ?_
  refine g_iload_n (pc := 5) dX11_widest_5 rfl 1 rfl ?_
  refine g_callV (pc := 6) (M' := mX11_isDance) (n := 1) (a := 0) (as := [.int a1]) (st := []) dX11_widest_6 rfl kX11_239 vX11_isDance (Nat.le_of_ble_eq_true rfl) rfl qX11 rfl rfl (Nat.le_of_ble_eq_true rfl) ?_
  refine cl_mono (fun r w1 hr => ?_) h
  obtain ⟨x2, rfl, hw1, h⟩ := hr
  show Go SR mX11_widest 9 [(0, .ref 0), (1, .int a1)] [.int x2] w1 Q
  refine g_if_ne (pc := 9) (tgt := 18) dX11_widest_9 (by decide) (fun q => ?_) (fun q => ?_)
  · have h := h.2 q
    refine g_aload_n (pc := 18) dX11_widest_18 rfl 0 rfl ?_
    refine g_iload_n (pc := 19) dX11_widest_19 rfl 1 rfl ?_
    refine g_iconst (pc := 20) dX11_widest_20 cN_1 ?_
    refine g_callV (pc := 21) (M' := mX11_seekUntied) (n := 2) (a := 0) (as := [.int a1, .int (-1)]) (st := []) dX11_widest_21 rfl kX11_282 vX11_seekUntied (Nat.le_of_ble_eq_true rfl) rfl qX11 rfl rfl (Nat.le_of_ble_eq_true rfl) ?_
    refine cl_mono (fun r w3 hr => ?_) h
    obtain ⟨rfl, hw3, h⟩ := hr
    show Go SR mX11_widest 24 [(0, .ref 0), (1, .int a1)] [] w3 Q
    refine g_aload_n (pc := 24) dX11_widest_24 rfl 0 rfl ?_
    refine g_getI (pc := 25) (a := 0) dX11_widest_25 rfl fX11_276 rfl ?_
    exact g_iret (pc := 28) dX11_widest_28 rfl h
  · have h := h.1 q
    refine g_aload_n (pc := 12) dX11_widest_12 rfl 0 rfl ?_
    refine g_iconst (pc := 13) dX11_widest_13 c_1 ?_
    refine g_callV (pc := 14) (M' := mX11_no) (n := 1) (a := 0) (as := [.int 1]) (st := []) dX11_widest_14 rfl kX11_150 vX11_no (Nat.le_of_ble_eq_true rfl) rfl qX11 rfl rfl (Nat.le_of_ble_eq_true rfl) ?_
    refine zX11_no (a1 := 1) (w := w1) (hR := hw1) ?_
    show Go SR mX11_widest 17 [(0, .ref 0), (1, .int a1)] [.int (vXX11_no 1)] (wXX11_no 1 w1) Q
    exact g_iret (pc := 17) dX11_widest_17 rfl h
set_option maxHeartbeats 4000000 in
set_option maxRecDepth 100000 in
theorem TX11_isFraction (a1 : Int32) (a2 : Int32) (w : Wd) (hR : w.2.2 = RM) (Q : Option Value → Wd → Prop) (h : ((a2 < 0 → Q (some (.int 0)) w) ∧ (¬ (a2 < 0) → ((9999 < a2 → Q (some (.int 0)) w) ∧ (¬ (9999 < a2) → ((a1 < (-9999) → Q (some (.int 0)) w) ∧ (¬ (a1 < (-9999)) → ((a1 ≤ 9999 → ((a2 = 0 → Q (some (.int (if a1 = 1 then 1 else 0 : Int32))) w) ∧ (¬ (a2 = 0) → ClI SR mX11_common [.int a1, .int a2] w (fun x2 w1 => w1.2.2 = RM ∧ Q (some (.int (if x2 = 1 then 1 else 0 : Int32))) w1)))) ∧ (¬ (a1 ≤ 9999) → Q (some (.int 0)) w))))))))) : Cl SR mX11_isFraction [.ref 0, .int a1, .int a2] w Q := by
  refine cl_of (by decide) (Nat.le_of_ble_eq_true rfl) ?_
  show Go SR mX11_isFraction 0 [(0, .ref 0), (1, .int a1), (2, .int a2)] [] w Q
  refine g_iload_n (pc := 0) dX11_isFraction_0 rfl 2 rfl ?_
  refine g_if_lt (pc := 1) (tgt := 25) dX11_isFraction_1 (by decide) (fun q => ?_) (fun q => ?_)
  · have h := h.1 q
    refine g_iconst (pc := 25) dX11_isFraction_25 c_0 ?_
    exact g_bret (pc := 26) dX11_isFraction_26 rfl (Or.inl rfl) h
  · have h := h.2 q
    refine g_iload_n (pc := 4) dX11_isFraction_4 rfl 2 rfl ?_
    refine g_sipush (pc := 5) (v := 9999) dX11_isFraction_5 (by decide) ?_
    refine g_icmp_gt (pc := 8) (tgt := 25) dX11_isFraction_8 (by decide) (fun q => ?_) (fun q => ?_)
    · have h := h.1 q
      refine g_iconst (pc := 25) dX11_isFraction_25 c_0 ?_
      exact g_bret (pc := 26) dX11_isFraction_26 rfl (Or.inl rfl) h
    · have h := h.2 q
      refine g_iload_n (pc := 11) dX11_isFraction_11 rfl 1 rfl ?_
      refine g_sipush (pc := 12) (v := (-9999)) dX11_isFraction_12 (by decide) ?_
      refine g_icmp_lt (pc := 15) (tgt := 25) dX11_isFraction_15 (by decide) (fun q => ?_) (fun q => ?_)
      · have h := h.1 q
        refine g_iconst (pc := 25) dX11_isFraction_25 c_0 ?_
        exact g_bret (pc := 26) dX11_isFraction_26 rfl (Or.inl rfl) h
      · have h := h.2 q
        refine g_iload_n (pc := 18) dX11_isFraction_18 rfl 1 rfl ?_
        refine g_sipush (pc := 19) (v := 9999) dX11_isFraction_19 (by decide) ?_
        refine g_icmp_le (pc := 22) (tgt := 27) dX11_isFraction_22 (by decide) (fun q => ?_) (fun q => ?_)
        · have h := h.1 q
          refine g_iload_n (pc := 27) dX11_isFraction_27 rfl 2 rfl ?_
          refine g_if_ne (pc := 28) (tgt := 44) dX11_isFraction_28 (by decide) (fun q => ?_) (fun q => ?_)
          · have h := h.2 q
            refine g_iload_n (pc := 44) dX11_isFraction_44 rfl 1 rfl ?_
            refine g_iload_n (pc := 45) dX11_isFraction_45 rfl 2 rfl ?_
            refine g_callS (pc := 46) (M' := mX11_common) (n := 2) (as := [.int a1, .int a2]) (st := []) dX11_isFraction_46 rfl kX11_285 sX11_common (Nat.le_of_ble_eq_true rfl) rfl rfl (Nat.le_of_ble_eq_true rfl) ?_
            refine cl_mono (fun r w1 hr => ?_) h
            obtain ⟨x2, rfl, hw1, h⟩ := hr
            show Go SR mX11_isFraction 49 [(0, .ref 0), (1, .int a1), (2, .int a2)] [.int x2] w1 Q
            refine g_iconst (pc := 49) dX11_isFraction_49 c_1 ?_
            have hJ : Go SR mX11_isFraction 58 [(0, .ref 0), (1, .int a1), (2, .int a2)] [.int (if x2 = 1 then 1 else 0 : Int32)] w1 Q := by
              exact g_bret (pc := 58) dX11_isFraction_58 rfl (z_ite (Or.inr rfl) (Or.inl rfl)) h
            refine g_icmp_ne (pc := 50) (tgt := 57) dX11_isFraction_50 (by decide) (fun q50 => ?_) (fun q50 => ?_)
            · refine g_iconst (pc := 57) dX11_isFraction_57 c_0 ?_
              first | (exfalso; contradiction) | exact cast (by simp only [if_neg q50]) hJ
            · refine g_iconst (pc := 53) dX11_isFraction_53 c_1 ?_
              refine g_goto (pc := 54) (tgt := 58) dX11_isFraction_54 (by decide) ?_
              first | (exfalso; contradiction) | exact cast (by simp only [if_pos q50]) hJ
          · have h := h.1 q
            refine g_iload_n (pc := 31) dX11_isFraction_31 rfl 1 rfl ?_
            refine g_iconst (pc := 32) dX11_isFraction_32 c_1 ?_
            have hJ : Go SR mX11_isFraction 58 [(0, .ref 0), (1, .int a1), (2, .int a2)] [.int (if a1 = 1 then 1 else 0 : Int32)] w Q := by
              exact g_bret (pc := 58) dX11_isFraction_58 rfl (z_ite (Or.inr rfl) (Or.inl rfl)) h
            refine g_icmp_ne (pc := 33) (tgt := 40) dX11_isFraction_33 (by decide) (fun q33 => ?_) (fun q33 => ?_)
            · refine g_iconst (pc := 40) dX11_isFraction_40 c_0 ?_
              refine g_goto (pc := 41) (tgt := 58) dX11_isFraction_41 (by decide) ?_
              first | (exfalso; contradiction) | exact cast (by simp only [if_neg q33]) hJ
            · refine g_iconst (pc := 36) dX11_isFraction_36 c_1 ?_
              refine g_goto (pc := 37) (tgt := 58) dX11_isFraction_37 (by decide) ?_
              first | (exfalso; contradiction) | exact cast (by simp only [if_pos q33]) hJ
        · have h := h.2 q
          refine g_iconst (pc := 25) dX11_isFraction_25 c_0 ?_
          exact g_bret (pc := 26) dX11_isFraction_26 rfl (Or.inl rfl) h
set_option maxHeartbeats 4000000 in
set_option maxRecDepth 100000 in
theorem TX11_makes (a1 : Int32) (a2 : Int32) (w : Wd) (hR : w.2.2 = RM) (Q : Option Value → Wd → Prop) (h : Go SR mX11_makes 5 [(0, .ref 0), (1, .int a1), (2, .int a2), (3, .int 1), (4, .int 1)] [] w Q) : Cl SR mX11_makes [.ref 0, .int a1, .int a2] w Q := by
  refine cl_of (by decide) (Nat.le_of_ble_eq_true rfl) ?_
  show Go SR mX11_makes 0 [(0, .ref 0), (1, .int a1), (2, .int a2)] [] w Q
  refine g_iconst (pc := 0) dX11_makes_0 c_1 ?_
  refine g_istore_n (pc := 1) (lv2 := [(0, .ref 0), (1, .int a1), (2, .int a2), (3, .int 1)]) dX11_makes_1 rfl (Nat.le_of_ble_eq_true rfl) rfl ?_
  refine g_iconst (pc := 2) dX11_makes_2 c_1 ?_
  refine g_istore (pc := 3) (lv2 := [(0, .ref 0), (1, .int a1), (2, .int a2), (3, .int 1), (4, .int 1)]) dX11_makes_3 (Nat.le_of_ble_eq_true rfl) rfl ?_
  exact h
set_option maxHeartbeats 4000000 in
set_option maxRecDepth 100000 in
theorem BX11_makes_5  (l1 : Int32) (l2 : Int32) (l3 : Int32) (l4 : Int32) (w : Wd) (hR : w.2.2 = RM) (Q : Option Value → Wd → Prop) (h : ((l2 ≤ l4 → Go SR mX11_makes 24 [(0, .ref 0), (1, .int l1), (2, .int l2), (3, .int l3), (4, .int 0)] [] w Q) ∧ (¬ (l2 ≤ l4) → Go SR mX11_makes 5 [(0, .ref 0), (1, .int l1), (2, .int l2), (3, .int (l3 * 3)), (4, .int (l4 + 1))] [] w Q))) : Go SR mX11_makes 5 [(0, .ref 0), (1, .int l1), (2, .int l2), (3, .int l3), (4, .int l4)] [] w Q := by
  refine g_iload (pc := 5) dX11_makes_5 4 rfl ?_
  refine g_iload_n (pc := 7) dX11_makes_7 rfl 2 rfl ?_
  refine g_icmp_ge (pc := 8) (tgt := 21) dX11_makes_8 (by decide) (fun q => ?_) (fun q => ?_)
  · have h := h.1 q
    refine g_iconst (pc := 21) dX11_makes_21 c_0 ?_
    refine g_istore (pc := 22) (lv2 := [(0, .ref 0), (1, .int l1), (2, .int l2), (3, .int l3), (4, .int 0)]) dX11_makes_22 (Nat.le_of_ble_eq_true rfl) rfl ?_
    exact h
  · have h := h.2 q
    refine g_iload_n (pc := 11) dX11_makes_11 rfl 3 rfl ?_
    refine g_iconst (pc := 12) dX11_makes_12 c_3 ?_
    refine g_imul (pc := 13) dX11_makes_13 ?_
    refine g_istore_n (pc := 14) (lv2 := [(0, .ref 0), (1, .int l1), (2, .int l2), (3, .int (l3 * 3)), (4, .int l4)]) dX11_makes_14 rfl (Nat.le_of_ble_eq_true rfl) rfl ?_
    refine g_iinc (pc := 15) (v := l4 + 1) (lv2 := [(0, .ref 0), (1, .int l1), (2, .int l2), (3, .int (l3 * 3)), (4, .int (l4 + 1))]) dX11_makes_15 4 rfl (Nat.le_of_ble_eq_true rfl) rfl rfl ?_
    refine g_goto (pc := 18) (tgt := 5) dX11_makes_18 (by decide) ?_
    exact h
set_option maxHeartbeats 4000000 in
set_option maxRecDepth 100000 in
theorem BX11_makes_24  (l1 : Int32) (l2 : Int32) (l3 : Int32) (l4 : Int32) (w : Wd) (hR : w.2.2 = RM) (Q : Option Value → Wd → Prop) (h : ((l2 ≤ l4 → Q (some (.int 1)) w) ∧ (¬ (l2 ≤ l4) → ¬ l3 = 0 ∧ ClI SR mX11_calls [.ref 0, .int ((l1 / l3) % 3)] w (fun x3 w2 => w2.2.2 = RM ∧ ((x3 = 0 → Q (some (.int 0)) w2) ∧ (¬ (x3 = 0) → Go SR mX11_makes 24 [(0, .ref 0), (1, .int l1), (2, .int l2), (3, .int (if l3 ≤ 1 then 1 else l3 / 3 : Int32)), (4, .int (l4 + 1))] [] w2 Q)))))) : Go SR mX11_makes 24 [(0, .ref 0), (1, .int l1), (2, .int l2), (3, .int l3), (4, .int l4)] [] w Q := by
  refine g_iload (pc := 24) dX11_makes_24 4 rfl ?_
  refine g_iload_n (pc := 26) dX11_makes_26 rfl 2 rfl ?_
  refine g_icmp_ge (pc := 27) (tgt := 63) dX11_makes_27 (by decide) (fun q => ?_) (fun q => ?_)
  · have h := h.1 q
    refine g_iconst (pc := 63) dX11_makes_63 c_1 ?_
    exact g_bret (pc := 64) dX11_makes_64 rfl (Or.inr rfl) h
  · have h := h.2 q
    refine g_aload_n (pc := 30) dX11_makes_30 rfl 0 rfl ?_
    refine g_iload_n (pc := 31) dX11_makes_31 rfl 1 rfl ?_
    refine g_iload_n (pc := 32) dX11_makes_32 rfl 3 rfl ?_
    obtain ⟨hz1, h⟩ := h
    refine g_idiv (pc := 33) dX11_makes_33 hz1 ?_
    refine g_iconst (pc := 34) dX11_makes_34 c_3 ?_
    refine g_irem (pc := 35) dX11_makes_35 (by decide) ?_
    refine g_callV (pc := 36) (M' := mX11_calls) (n := 1) (a := 0) (as := [.int ((l1 / l3) % 3)]) (st := []) dX11_makes_36 rfl kX11_260 vX11_calls (Nat.le_of_ble_eq_true rfl) rfl qX11 rfl rfl (Nat.le_of_ble_eq_true rfl) ?_
    refine cl_mono (fun r w2 hr => ?_) h
    obtain ⟨x3, rfl, hw2, h⟩ := hr
    show Go SR mX11_makes 39 [(0, .ref 0), (1, .int l1), (2, .int l2), (3, .int l3), (4, .int l4)] [.int x3] w2 Q
    refine g_if_ne (pc := 39) (tgt := 44) dX11_makes_39 (by decide) (fun q => ?_) (fun q => ?_)
    · have h := h.2 q
      refine g_iload_n (pc := 44) dX11_makes_44 rfl 3 rfl ?_
      refine g_iconst (pc := 45) dX11_makes_45 c_1 ?_
      have hJ : Go SR mX11_makes 56 [(0, .ref 0), (1, .int l1), (2, .int l2), (3, .int l3), (4, .int l4)] [.int (if l3 ≤ 1 then 1 else l3 / 3 : Int32)] w2 Q := by
        refine g_istore_n (pc := 56) (lv2 := [(0, .ref 0), (1, .int l1), (2, .int l2), (3, .int (if l3 ≤ 1 then 1 else l3 / 3 : Int32)), (4, .int l4)]) dX11_makes_56 rfl (Nat.le_of_ble_eq_true rfl) rfl ?_
        refine g_iinc (pc := 57) (v := l4 + 1) (lv2 := [(0, .ref 0), (1, .int l1), (2, .int l2), (3, .int (if l3 ≤ 1 then 1 else l3 / 3 : Int32)), (4, .int (l4 + 1))]) dX11_makes_57 4 rfl (Nat.le_of_ble_eq_true rfl) rfl rfl ?_
        refine g_goto (pc := 60) (tgt := 24) dX11_makes_60 (by decide) ?_
        exact h
      refine g_icmp_le (pc := 46) (tgt := 55) dX11_makes_46 (by decide) (fun q46 => ?_) (fun q46 => ?_)
      · refine g_iconst (pc := 55) dX11_makes_55 c_1 ?_
        first | (exfalso; contradiction) | exact cast (by simp only [if_pos q46]) hJ
      · refine g_iload_n (pc := 49) dX11_makes_49 rfl 3 rfl ?_
        refine g_iconst (pc := 50) dX11_makes_50 c_3 ?_
        refine g_idiv (pc := 51) dX11_makes_51 (by decide) ?_
        refine g_goto (pc := 52) (tgt := 56) dX11_makes_52 (by decide) ?_
        first | (exfalso; contradiction) | exact cast (by simp only [if_neg q46]) hJ
    · have h := h.1 q
      refine g_iconst (pc := 42) dX11_makes_42 c_0 ?_
      exact g_bret (pc := 43) dX11_makes_43 rfl (Or.inl rfl) h
set_option maxHeartbeats 4000000 in
set_option maxRecDepth 100000 in
theorem TX11_comeCode (a1 : Int32) (a2 : Int32) (a3 : Int32) (w : Wd) (hR : w.2.2 = RM) (Q : Option Value → Wd → Prop) (h : Go SR mX11_comeCode 6 [(0, .ref 0), (1, .int a1), (2, .int a2), (3, .int a3), (4, .int 1), (5, .int 0)] [] w Q) : Cl SR mX11_comeCode [.ref 0, .int a1, .int a2, .int a3] w Q := by
  refine cl_of (by decide) (Nat.le_of_ble_eq_true rfl) ?_
  show Go SR mX11_comeCode 0 [(0, .ref 0), (1, .int a1), (2, .int a2), (3, .int a3)] [] w Q
  refine g_iconst (pc := 0) dX11_comeCode_0 c_1 ?_
  refine g_istore (pc := 1) (lv2 := [(0, .ref 0), (1, .int a1), (2, .int a2), (3, .int a3), (4, .int 1)]) dX11_comeCode_1 (Nat.le_of_ble_eq_true rfl) rfl ?_
  refine g_iconst (pc := 3) dX11_comeCode_3 c_0 ?_
  refine g_istore (pc := 4) (lv2 := [(0, .ref 0), (1, .int a1), (2, .int a2), (3, .int a3), (4, .int 1), (5, .int 0)]) dX11_comeCode_4 (Nat.le_of_ble_eq_true rfl) rfl ?_
  exact h
set_option maxHeartbeats 4000000 in
set_option maxRecDepth 100000 in
theorem BX11_comeCode_6  (l1 : Int32) (l2 : Int32) (l3 : Int32) (l4 : Int32) (l5 : Int32) (w : Wd) (hR : w.2.2 = RM) (Q : Option Value → Wd → Prop) (h : ((7 < l5 → Q (some (.int (-2))) (si w 0 33 (-2))) ∧ (¬ (7 < l5) → Go SR mX11_comeCode 16 [(0, .ref 0), (1, .int l1), (2, .int l2), (3, .int l3), (4, .int l4), (5, .int l5), (6, .int 0)] [] w Q))) : Go SR mX11_comeCode 6 [(0, .ref 0), (1, .int l1), (2, .int l2), (3, .int l3), (4, .int l4), (5, .int l5)] [] w Q := by
  refine g_iload (pc := 6) dX11_comeCode_6 5 rfl ?_
  refine g_bipush (pc := 8) (v := 7) dX11_comeCode_8 (by decide) ?_
  refine g_icmp_gt (pc := 10) (tgt := 85) dX11_comeCode_10 (by decide) (fun q => ?_) (fun q => ?_)
  · have h := h.1 q
    refine g_aload_n (pc := 85) dX11_comeCode_85 rfl 0 rfl ?_
    refine g_bipush (pc := 86) (v := (-2)) dX11_comeCode_86 (by decide) ?_
    refine g_putI (pc := 88) dX11_comeCode_88 rfl fX11_291 pX11_33 rfl ?_
    refine g_bipush (pc := 91) (v := (-2)) dX11_comeCode_91 (by decide) ?_
    exact g_iret (pc := 93) dX11_comeCode_93 rfl h
  · have h := h.2 q
    refine g_iconst (pc := 13) dX11_comeCode_13 c_0 ?_
    refine g_istore (pc := 14) (lv2 := [(0, .ref 0), (1, .int l1), (2, .int l2), (3, .int l3), (4, .int l4), (5, .int l5), (6, .int 0)]) dX11_comeCode_14 (Nat.le_of_ble_eq_true rfl) rfl ?_
    exact h
set_option maxHeartbeats 4000000 in
set_option maxRecDepth 100000 in
theorem BX11_comeCode_16  (l1 : Int32) (l2 : Int32) (l3 : Int32) (l4 : Int32) (l5 : Int32) (l6 : Int32) (w : Wd) (hR : w.2.2 = RM) (Q : Option Value → Wd → Prop) (h : ((l4 ≤ l6 → Go SR mX11_comeCode 6 [(0, .ref 0), (1, .int l1), (2, .int l2), (3, .int l3), (4, .int (l4 * 3)), (5, .int (l5 + 1))] [] w Q) ∧ (¬ (l4 ≤ l6) → ClV SR mX11_look [.ref 0, .int l1] w (fun w1 => w1.2.2 = RM ∧ ClI SR mX11_makes [.ref 0, .int l6, .int l5] w1 (fun x3 w2 => w2.2.2 = RM ∧ ((x3 = 0 → Go SR mX11_comeCode 16 [(0, .ref 0), (1, .int l1), (2, .int l2), (3, .int l3), (4, .int l4), (5, .int l5), (6, .int (l6 + 1))] [] w2 Q) ∧ (¬ (x3 = 0) → (((wi w2 0 23) = l2 → (((wi w2 0 24) = l3 → Q (some (.int l6)) (si w2 0 33 l5)) ∧ (¬ ((wi w2 0 24) = l3) → Go SR mX11_comeCode 16 [(0, .ref 0), (1, .int l1), (2, .int l2), (3, .int l3), (4, .int l4), (5, .int l5), (6, .int (l6 + 1))] [] w2 Q))) ∧ (¬ ((wi w2 0 23) = l2) → Go SR mX11_comeCode 16 [(0, .ref 0), (1, .int l1), (2, .int l2), (3, .int l3), (4, .int l4), (5, .int l5), (6, .int (l6 + 1))] [] w2 Q))))))))) : Go SR mX11_comeCode 16 [(0, .ref 0), (1, .int l1), (2, .int l2), (3, .int l3), (4, .int l4), (5, .int l5), (6, .int l6)] [] w Q := by
  refine g_iload (pc := 16) dX11_comeCode_16 6 rfl ?_
  refine g_iload (pc := 18) dX11_comeCode_18 4 rfl ?_
  refine g_icmp_ge (pc := 20) (tgt := 73) dX11_comeCode_20 (by decide) (fun q => ?_) (fun q => ?_)
  · have h := h.1 q
    refine g_iload (pc := 73) dX11_comeCode_73 4 rfl ?_
    refine g_iconst (pc := 75) dX11_comeCode_75 c_3 ?_
    refine g_imul (pc := 76) dX11_comeCode_76 ?_
    refine g_istore (pc := 77) (lv2 := [(0, .ref 0), (1, .int l1), (2, .int l2), (3, .int l3), (4, .int (l4 * 3)), (5, .int l5), (6, .int l6)]) dX11_comeCode_77 (Nat.le_of_ble_eq_true rfl) rfl ?_
    refine g_iinc (pc := 79) (v := l5 + 1) (lv2 := [(0, .ref 0), (1, .int l1), (2, .int l2), (3, .int l3), (4, .int (l4 * 3)), (5, .int (l5 + 1)), (6, .int l6)]) dX11_comeCode_79 5 rfl (Nat.le_of_ble_eq_true rfl) rfl rfl ?_
    refine g_goto (pc := 82) (tgt := 6) dX11_comeCode_82 (by decide) ?_
    refine g_sub (lv2 := [(0, .ref 0), (1, .int l1), (2, .int l2), (3, .int l3), (4, .int (l4 * 3)), (5, .int (l5 + 1))]) [0, 1, 2, 3, 4, 5] rfl ?_
    exact h
  · have h := h.2 q
    refine g_aload_n (pc := 23) dX11_comeCode_23 rfl 0 rfl ?_
    refine g_iload_n (pc := 24) dX11_comeCode_24 rfl 1 rfl ?_
    refine g_callV (pc := 25) (M' := mX11_look) (n := 1) (a := 0) (as := [.int l1]) (st := []) dX11_comeCode_25 rfl kX11_245 vX11_look (Nat.le_of_ble_eq_true rfl) rfl qX11 rfl rfl (Nat.le_of_ble_eq_true rfl) ?_
    refine cl_mono (fun r w1 hr => ?_) h
    obtain ⟨rfl, hw1, h⟩ := hr
    show Go SR mX11_comeCode 28 [(0, .ref 0), (1, .int l1), (2, .int l2), (3, .int l3), (4, .int l4), (5, .int l5), (6, .int l6)] [] w1 Q
    refine g_aload_n (pc := 28) dX11_comeCode_28 rfl 0 rfl ?_
    refine g_iload (pc := 29) dX11_comeCode_29 6 rfl ?_
    refine g_iload (pc := 31) dX11_comeCode_31 5 rfl ?_
    refine g_callV (pc := 33) (M' := mX11_makes) (n := 2) (a := 0) (as := [.int l6, .int l5]) (st := []) dX11_comeCode_33 rfl kX11_288 vX11_makes (Nat.le_of_ble_eq_true rfl) rfl qX11 rfl rfl (Nat.le_of_ble_eq_true rfl) ?_
    refine cl_mono (fun r w2 hr => ?_) h
    obtain ⟨x3, rfl, hw2, h⟩ := hr
    show Go SR mX11_comeCode 36 [(0, .ref 0), (1, .int l1), (2, .int l2), (3, .int l3), (4, .int l4), (5, .int l5), (6, .int l6)] [.int x3] w2 Q
    refine g_if_eq (pc := 36) (tgt := 67) dX11_comeCode_36 (by decide) (fun q => ?_) (fun q => ?_)
    · have h := h.1 q
      refine g_iinc (pc := 67) (v := l6 + 1) (lv2 := [(0, .ref 0), (1, .int l1), (2, .int l2), (3, .int l3), (4, .int l4), (5, .int l5), (6, .int (l6 + 1))]) dX11_comeCode_67 6 rfl (Nat.le_of_ble_eq_true rfl) rfl rfl ?_
      refine g_goto (pc := 70) (tgt := 16) dX11_comeCode_70 (by decide) ?_
      exact h
    · have h := h.2 q
      refine g_aload_n (pc := 39) dX11_comeCode_39 rfl 0 rfl ?_
      refine g_getI (pc := 40) (a := 0) dX11_comeCode_40 rfl fX11_169 rfl ?_
      refine g_iload_n (pc := 43) dX11_comeCode_43 rfl 2 rfl ?_
      refine g_icmp_ne (pc := 44) (tgt := 67) dX11_comeCode_44 (by decide) (fun q => ?_) (fun q => ?_)
      · have h := h.2 q
        refine g_iinc (pc := 67) (v := l6 + 1) (lv2 := [(0, .ref 0), (1, .int l1), (2, .int l2), (3, .int l3), (4, .int l4), (5, .int l5), (6, .int (l6 + 1))]) dX11_comeCode_67 6 rfl (Nat.le_of_ble_eq_true rfl) rfl rfl ?_
        refine g_goto (pc := 70) (tgt := 16) dX11_comeCode_70 (by decide) ?_
        exact h
      · have h := h.1 q
        refine g_aload_n (pc := 47) dX11_comeCode_47 rfl 0 rfl ?_
        refine g_getI (pc := 48) (a := 0) dX11_comeCode_48 rfl fX11_172 rfl ?_
        refine g_iload_n (pc := 51) dX11_comeCode_51 rfl 3 rfl ?_
        refine g_icmp_eq (pc := 52) (tgt := 58) dX11_comeCode_52 (by decide) (fun q => ?_) (fun q => ?_)
        · have h := h.1 q
          refine g_aload_n (pc := 58) dX11_comeCode_58 rfl 0 rfl ?_
          refine g_iload (pc := 59) dX11_comeCode_59 5 rfl ?_
          refine g_putI (pc := 61) dX11_comeCode_61 rfl fX11_291 pX11_33 rfl ?_
          refine g_iload (pc := 64) dX11_comeCode_64 6 rfl ?_
          exact g_iret (pc := 66) dX11_comeCode_66 rfl h
        · have h := h.2 q
          refine g_goto (pc := 55) (tgt := 67) dX11_comeCode_55 (by decide) ?_
          refine g_iinc (pc := 67) (v := l6 + 1) (lv2 := [(0, .ref 0), (1, .int l1), (2, .int l2), (3, .int l3), (4, .int l4), (5, .int l5), (6, .int (l6 + 1))]) dX11_comeCode_67 6 rfl (Nat.le_of_ble_eq_true rfl) rfl rfl ?_
          refine g_goto (pc := 70) (tgt := 16) dX11_comeCode_70 (by decide) ?_
          exact h
set_option maxHeartbeats 4000000 in
set_option maxRecDepth 100000 in
theorem TX11_comeWhy (a1 : Int32) (a2 : Int32) (a3 : Int32) (w : Wd) (hR : w.2.2 = RM) (Q : Option Value → Wd → Prop) (h : ClI SR mX11_isDance [.ref 0, .int a1] w (fun x2 w1 => w1.2.2 = RM ∧ ClI SR mX11_isFraction [.ref 0, .int a2, .int a3] w1 (fun x4 w3 => w3.2.2 = RM ∧ Q (some (.int (vXX11_why x2 x4))) w3))) : Cl SR mX11_comeWhy [.ref 0, .int a1, .int a2, .int a3] w Q := by
  refine cl_of (by decide) (Nat.le_of_ble_eq_true rfl) ?_
  show Go SR mX11_comeWhy 0 [(0, .ref 0), (1, .int a1), (2, .int a2), (3, .int a3)] [] w Q
  refine g_aload_n (pc := 0) dX11_comeWhy_0 rfl 0 rfl ?_
  refine g_aload_n (pc := 1) dX11_comeWhy_1 rfl 0 rfl ?_
  refine g_iload_n (pc := 2) dX11_comeWhy_2 rfl 1 rfl ?_
  refine g_callV (pc := 3) (M' := mX11_isDance) (n := 1) (a := 0) (as := [.int a1]) (st := [.ref 0]) dX11_comeWhy_3 rfl kX11_239 vX11_isDance (Nat.le_of_ble_eq_true rfl) rfl qX11 rfl rfl (Nat.le_of_ble_eq_true rfl) ?_
  refine cl_mono (fun r w1 hr => ?_) h
  obtain ⟨x2, rfl, hw1, h⟩ := hr
  show Go SR mX11_comeWhy 6 [(0, .ref 0), (1, .int a1), (2, .int a2), (3, .int a3)] [.int x2, .ref 0] w1 Q
  refine g_aload_n (pc := 6) dX11_comeWhy_6 rfl 0 rfl ?_
  refine g_iload_n (pc := 7) dX11_comeWhy_7 rfl 2 rfl ?_
  refine g_iload_n (pc := 8) dX11_comeWhy_8 rfl 3 rfl ?_
  refine g_callV (pc := 9) (M' := mX11_isFraction) (n := 2) (a := 0) (as := [.int a2, .int a3]) (st := [.int x2, .ref 0]) dX11_comeWhy_9 rfl kX11_294 vX11_isFraction (Nat.le_of_ble_eq_true rfl) rfl qX11 rfl rfl (Nat.le_of_ble_eq_true rfl) ?_
  refine cl_mono (fun r w3 hr => ?_) h
  obtain ⟨x4, rfl, hw3, h⟩ := hr
  show Go SR mX11_comeWhy 12 [(0, .ref 0), (1, .int a1), (2, .int a2), (3, .int a3)] [.int x4, .int x2, .ref 0] w3 Q
  refine g_callV (pc := 12) (M' := mX11_why) (n := 2) (a := 0) (as := [.int x2, .int x4]) (st := []) dX11_comeWhy_12 rfl kX11_297 vX11_why (Nat.le_of_ble_eq_true rfl) rfl qX11 rfl rfl (Nat.le_of_ble_eq_true rfl) ?_
  refine zX11_why (a1 := x2) (a2 := x4) (w := w3) (hR := hw3) ?_
  show Go SR mX11_comeWhy 15 [(0, .ref 0), (1, .int a1), (2, .int a2), (3, .int a3)] [.int (vXX11_why x2 x4)] w3 Q
  exact g_iret (pc := 15) dX11_comeWhy_15 rfl h
set_option maxHeartbeats 4000000 in
set_option maxRecDepth 100000 in
theorem TX11_come (a1 : Int32) (a2 : Int32) (a3 : Int32) (w : Wd) (hR : w.2.2 = RM) (Q : Option Value → Wd → Prop) (h : ClI SR mX11_comeWhy [.ref 0, .int a1, .int a2, .int a3] (wXX11_anew w) (fun x2 w1 => w1.2.2 = RM ∧ ((x2 = 0 → ClI SR mX11_comeCode [.ref 0, .int a1, .int a2, .int a3] w1 (fun x4 w3 => w3.2.2 = RM ∧ Q (some (.int (wi w3 0 33))) w3)) ∧ (¬ (x2 = 0) → Q (some (.int (vXX11_no x2))) (wXX11_no x2 w1))))) : Cl SR mX11_come [.ref 0, .int a1, .int a2, .int a3] w Q := by
  refine cl_of (by decide) (Nat.le_of_ble_eq_true rfl) ?_
  show Go SR mX11_come 0 [(0, .ref 0), (1, .int a1), (2, .int a2), (3, .int a3)] [] w Q
  refine g_aload_n (pc := 0) dX11_come_0 rfl 0 rfl ?_
  refine g_callV (pc := 1) (M' := mX11_anew) (n := 0) (a := 0) (as := []) (st := []) dX11_come_1 rfl kX11_147 vX11_anew (Nat.le_of_ble_eq_true rfl) rfl qX11 rfl rfl (Nat.le_of_ble_eq_true rfl) ?_
  refine zX11_anew (w := w) (hR := hR) ?_
  show Go SR mX11_come 4 [(0, .ref 0), (1, .int a1), (2, .int a2), (3, .int a3)] [] (wXX11_anew w) Q
  refine g_aload_n (pc := 4) dX11_come_4 rfl 0 rfl ?_
  refine g_iload_n (pc := 5) dX11_come_5 rfl 1 rfl ?_
  refine g_iload_n (pc := 6) dX11_come_6 rfl 2 rfl ?_
  refine g_iload_n (pc := 7) dX11_come_7 rfl 3 rfl ?_
  refine g_callV (pc := 8) (M' := mX11_comeWhy) (n := 3) (a := 0) (as := [.int a1, .int a2, .int a3]) (st := []) dX11_come_8 rfl kX11_301 vX11_comeWhy (Nat.le_of_ble_eq_true rfl) rfl qX11 rfl rfl (Nat.le_of_ble_eq_true rfl) ?_
  refine cl_mono (fun r w1 hr => ?_) h
  obtain ⟨x2, rfl, hw1, h⟩ := hr
  show Go SR mX11_come 11 [(0, .ref 0), (1, .int a1), (2, .int a2), (3, .int a3)] [.int x2] w1 Q
  refine g_istore (pc := 11) (lv2 := [(0, .ref 0), (1, .int a1), (2, .int a2), (3, .int a3), (4, .int x2)]) dX11_come_11 (Nat.le_of_ble_eq_true rfl) rfl ?_
  refine g_iload (pc := 13) dX11_come_13 4 rfl ?_
  refine g_if_eq (pc := 15) (tgt := 25) dX11_come_15 (by decide) (fun q => ?_) (fun q => ?_)
  · have h := h.1 q
    refine g_aload_n (pc := 25) dX11_come_25 rfl 0 rfl ?_
    refine g_iload_n (pc := 26) dX11_come_26 rfl 1 rfl ?_
    refine g_iload_n (pc := 27) dX11_come_27 rfl 2 rfl ?_
    refine g_iload_n (pc := 28) dX11_come_28 rfl 3 rfl ?_
    refine g_callV (pc := 29) (M' := mX11_comeCode) (n := 3) (a := 0) (as := [.int a1, .int a2, .int a3]) (st := []) dX11_come_29 rfl kX11_305 vX11_comeCode (Nat.le_of_ble_eq_true rfl) rfl qX11 rfl rfl (Nat.le_of_ble_eq_true rfl) ?_
    refine cl_mono (fun r w3 hr => ?_) h
    obtain ⟨x4, rfl, hw3, h⟩ := hr
    show Go SR mX11_come 32 [(0, .ref 0), (1, .int a1), (2, .int a2), (3, .int a3), (4, .int x2)] [.int x4] w3 Q
    refine g_pop (pc := 32) dX11_come_32 rfl ?_
    refine g_aload_n (pc := 33) dX11_come_33 rfl 0 rfl ?_
    refine g_getI (pc := 34) (a := 0) dX11_come_34 rfl fX11_291 rfl ?_
    exact g_iret (pc := 37) dX11_come_37 rfl h
  · have h := h.2 q
    refine g_aload_n (pc := 18) dX11_come_18 rfl 0 rfl ?_
    refine g_iload (pc := 19) dX11_come_19 4 rfl ?_
    refine g_callV (pc := 21) (M' := mX11_no) (n := 1) (a := 0) (as := [.int x2]) (st := []) dX11_come_21 rfl kX11_150 vX11_no (Nat.le_of_ble_eq_true rfl) rfl qX11 rfl rfl (Nat.le_of_ble_eq_true rfl) ?_
    refine zX11_no (a1 := x2) (w := w1) (hR := hw1) ?_
    show Go SR mX11_come 24 [(0, .ref 0), (1, .int a1), (2, .int a2), (3, .int a3), (4, .int x2)] [.int (vXX11_no x2)] (wXX11_no x2 w1) Q
    exact g_iret (pc := 24) dX11_come_24 rfl h
set_option maxHeartbeats 4000000 in
set_option maxRecDepth 100000 in
theorem TX11_comeRow (a1 : Int32) (a2 : Int32) (a3 : Int32) (w : Wd) (hR : w.2.2 = RM) (Q : Option Value → Wd → Prop) (h : ClI SR mX11_comeWhy [.ref 0, .int a1, .int a2, .int a3] (wXX11_anew w) (fun x2 w1 => w1.2.2 = RM ∧ ((x2 = 0 → ClI SR mX11_comeCode [.ref 0, .int a1, .int a2, .int a3] w1 (fun x4 w3 => w3.2.2 = RM ∧ ((0 ≤ x4 → Go SR mX11_comeRow 51 [(0, .ref 0), (1, .int a1), (2, .int a2), (3, .int a3), (4, .int x2), (5, .int x4), (6, .int 0), (7, .int 1), (8, .int 0)] [] w3 Q) ∧ (¬ (0 ≤ x4) → Q (some (.int (-2))) w3)))) ∧ (¬ (x2 = 0) → Q (some (.int (vXX11_no x2))) (wXX11_no x2 w1))))) : Cl SR mX11_comeRow [.ref 0, .int a1, .int a2, .int a3] w Q := by
  refine cl_of (by decide) (Nat.le_of_ble_eq_true rfl) ?_
  show Go SR mX11_comeRow 0 [(0, .ref 0), (1, .int a1), (2, .int a2), (3, .int a3)] [] w Q
  refine g_aload_n (pc := 0) dX11_comeRow_0 rfl 0 rfl ?_
  refine g_callV (pc := 1) (M' := mX11_anew) (n := 0) (a := 0) (as := []) (st := []) dX11_comeRow_1 rfl kX11_147 vX11_anew (Nat.le_of_ble_eq_true rfl) rfl qX11 rfl rfl (Nat.le_of_ble_eq_true rfl) ?_
  refine zX11_anew (w := w) (hR := hR) ?_
  show Go SR mX11_comeRow 4 [(0, .ref 0), (1, .int a1), (2, .int a2), (3, .int a3)] [] (wXX11_anew w) Q
  refine g_aload_n (pc := 4) dX11_comeRow_4 rfl 0 rfl ?_
  refine g_iload_n (pc := 5) dX11_comeRow_5 rfl 1 rfl ?_
  refine g_iload_n (pc := 6) dX11_comeRow_6 rfl 2 rfl ?_
  refine g_iload_n (pc := 7) dX11_comeRow_7 rfl 3 rfl ?_
  refine g_callV (pc := 8) (M' := mX11_comeWhy) (n := 3) (a := 0) (as := [.int a1, .int a2, .int a3]) (st := []) dX11_comeRow_8 rfl kX11_301 vX11_comeWhy (Nat.le_of_ble_eq_true rfl) rfl qX11 rfl rfl (Nat.le_of_ble_eq_true rfl) ?_
  refine cl_mono (fun r w1 hr => ?_) h
  obtain ⟨x2, rfl, hw1, h⟩ := hr
  show Go SR mX11_comeRow 11 [(0, .ref 0), (1, .int a1), (2, .int a2), (3, .int a3)] [.int x2] w1 Q
  refine g_istore (pc := 11) (lv2 := [(0, .ref 0), (1, .int a1), (2, .int a2), (3, .int a3), (4, .int x2)]) dX11_comeRow_11 (Nat.le_of_ble_eq_true rfl) rfl ?_
  refine g_iload (pc := 13) dX11_comeRow_13 4 rfl ?_
  refine g_if_eq (pc := 15) (tgt := 25) dX11_comeRow_15 (by decide) (fun q => ?_) (fun q => ?_)
  · have h := h.1 q
    refine g_aload_n (pc := 25) dX11_comeRow_25 rfl 0 rfl ?_
    refine g_iload_n (pc := 26) dX11_comeRow_26 rfl 1 rfl ?_
    refine g_iload_n (pc := 27) dX11_comeRow_27 rfl 2 rfl ?_
    refine g_iload_n (pc := 28) dX11_comeRow_28 rfl 3 rfl ?_
    refine g_callV (pc := 29) (M' := mX11_comeCode) (n := 3) (a := 0) (as := [.int a1, .int a2, .int a3]) (st := []) dX11_comeRow_29 rfl kX11_305 vX11_comeCode (Nat.le_of_ble_eq_true rfl) rfl qX11 rfl rfl (Nat.le_of_ble_eq_true rfl) ?_
    refine cl_mono (fun r w3 hr => ?_) h
    obtain ⟨x4, rfl, hw3, h⟩ := hr
    show Go SR mX11_comeRow 32 [(0, .ref 0), (1, .int a1), (2, .int a2), (3, .int a3), (4, .int x2)] [.int x4] w3 Q
    refine g_istore (pc := 32) (lv2 := [(0, .ref 0), (1, .int a1), (2, .int a2), (3, .int a3), (4, .int x2), (5, .int x4)]) dX11_comeRow_32 (Nat.le_of_ble_eq_true rfl) rfl ?_
    refine g_iload (pc := 34) dX11_comeRow_34 5 rfl ?_
    refine g_if_ge (pc := 36) (tgt := 42) dX11_comeRow_36 (by decide) (fun q => ?_) (fun q => ?_)
    · have h := h.1 q
      refine g_iconst (pc := 42) dX11_comeRow_42 c_0 ?_
      refine g_istore (pc := 43) (lv2 := [(0, .ref 0), (1, .int a1), (2, .int a2), (3, .int a3), (4, .int x2), (5, .int x4), (6, .int 0)]) dX11_comeRow_43 (Nat.le_of_ble_eq_true rfl) rfl ?_
      refine g_iconst (pc := 45) dX11_comeRow_45 c_1 ?_
      refine g_istore (pc := 46) (lv2 := [(0, .ref 0), (1, .int a1), (2, .int a2), (3, .int a3), (4, .int x2), (5, .int x4), (6, .int 0), (7, .int 1)]) dX11_comeRow_46 (Nat.le_of_ble_eq_true rfl) rfl ?_
      refine g_iconst (pc := 48) dX11_comeRow_48 c_0 ?_
      refine g_istore (pc := 49) (lv2 := [(0, .ref 0), (1, .int a1), (2, .int a2), (3, .int a3), (4, .int x2), (5, .int x4), (6, .int 0), (7, .int 1), (8, .int 0)]) dX11_comeRow_49 (Nat.le_of_ble_eq_true rfl) rfl ?_
      exact h
    · have h := h.2 q
      refine g_bipush (pc := 39) (v := (-2)) dX11_comeRow_39 (by decide) ?_
      exact g_iret (pc := 41) dX11_comeRow_41 rfl h
  · have h := h.2 q
    refine g_aload_n (pc := 18) dX11_comeRow_18 rfl 0 rfl ?_
    refine g_iload (pc := 19) dX11_comeRow_19 4 rfl ?_
    refine g_callV (pc := 21) (M' := mX11_no) (n := 1) (a := 0) (as := [.int x2]) (st := []) dX11_comeRow_21 rfl kX11_150 vX11_no (Nat.le_of_ble_eq_true rfl) rfl qX11 rfl rfl (Nat.le_of_ble_eq_true rfl) ?_
    refine zX11_no (a1 := x2) (w := w1) (hR := hw1) ?_
    show Go SR mX11_comeRow 24 [(0, .ref 0), (1, .int a1), (2, .int a2), (3, .int a3), (4, .int x2)] [.int (vXX11_no x2)] (wXX11_no x2 w1) Q
    exact g_iret (pc := 24) dX11_comeRow_24 rfl h
set_option maxHeartbeats 4000000 in
set_option maxRecDepth 100000 in
theorem BX11_comeRow_51  (l1 : Int32) (l2 : Int32) (l3 : Int32) (l4 : Int32) (l5 : Int32) (l6 : Int32) (l7 : Int32) (l8 : Int32) (w : Wd) (hR : w.2.2 = RM) (Q : Option Value → Wd → Prop) (h : (((wi w 0 33) ≤ l8 → Q (some (.int l6)) w) ∧ (¬ ((wi w 0 33) ≤ l8) → Go SR mX11_comeRow 51 [(0, .ref 0), (1, .int l1), (2, .int l2), (3, .int l3), (4, .int l4), (5, .int (l5 / 3)), (6, .int (l6 + (l7 * (1 + (l5 % 3))))), (7, .int (l7 * 10)), (8, .int (l8 + 1))] [] w Q))) : Go SR mX11_comeRow 51 [(0, .ref 0), (1, .int l1), (2, .int l2), (3, .int l3), (4, .int l4), (5, .int l5), (6, .int l6), (7, .int l7), (8, .int l8)] [] w Q := by
  refine g_iload (pc := 51) dX11_comeRow_51 8 rfl ?_
  refine g_aload_n (pc := 53) dX11_comeRow_53 rfl 0 rfl ?_
  refine g_getI (pc := 54) (a := 0) dX11_comeRow_54 rfl fX11_291 rfl ?_
  refine g_icmp_ge (pc := 57) (tgt := 93) dX11_comeRow_57 (by decide) (fun q => ?_) (fun q => ?_)
  · have h := h.1 q
    refine g_iload (pc := 93) dX11_comeRow_93 6 rfl ?_
    exact g_iret (pc := 95) dX11_comeRow_95 rfl h
  · have h := h.2 q
    refine g_iload (pc := 60) dX11_comeRow_60 6 rfl ?_
    refine g_iload (pc := 62) dX11_comeRow_62 7 rfl ?_
    refine g_iconst (pc := 64) dX11_comeRow_64 c_1 ?_
    refine g_iload (pc := 65) dX11_comeRow_65 5 rfl ?_
    refine g_iconst (pc := 67) dX11_comeRow_67 c_3 ?_
    refine g_irem (pc := 68) dX11_comeRow_68 (by decide) ?_
    refine g_iadd (pc := 69) dX11_comeRow_69 ?_
    refine g_imul (pc := 70) dX11_comeRow_70 ?_
    refine g_iadd (pc := 71) dX11_comeRow_71 ?_
    refine g_istore (pc := 72) (lv2 := [(0, .ref 0), (1, .int l1), (2, .int l2), (3, .int l3), (4, .int l4), (5, .int l5), (6, .int (l6 + (l7 * (1 + (l5 % 3))))), (7, .int l7), (8, .int l8)]) dX11_comeRow_72 (Nat.le_of_ble_eq_true rfl) rfl ?_
    refine g_iload (pc := 74) dX11_comeRow_74 5 rfl ?_
    refine g_iconst (pc := 76) dX11_comeRow_76 c_3 ?_
    refine g_idiv (pc := 77) dX11_comeRow_77 (by decide) ?_
    refine g_istore (pc := 78) (lv2 := [(0, .ref 0), (1, .int l1), (2, .int l2), (3, .int l3), (4, .int l4), (5, .int (l5 / 3)), (6, .int (l6 + (l7 * (1 + (l5 % 3))))), (7, .int l7), (8, .int l8)]) dX11_comeRow_78 (Nat.le_of_ble_eq_true rfl) rfl ?_
    refine g_iload (pc := 80) dX11_comeRow_80 7 rfl ?_
    refine g_bipush (pc := 82) (v := 10) dX11_comeRow_82 (by decide) ?_
    refine g_imul (pc := 84) dX11_comeRow_84 ?_
    refine g_istore (pc := 85) (lv2 := [(0, .ref 0), (1, .int l1), (2, .int l2), (3, .int l3), (4, .int l4), (5, .int (l5 / 3)), (6, .int (l6 + (l7 * (1 + (l5 % 3))))), (7, .int (l7 * 10)), (8, .int l8)]) dX11_comeRow_85 (Nat.le_of_ble_eq_true rfl) rfl ?_
    refine g_iinc (pc := 87) (v := l8 + 1) (lv2 := [(0, .ref 0), (1, .int l1), (2, .int l2), (3, .int l3), (4, .int l4), (5, .int (l5 / 3)), (6, .int (l6 + (l7 * (1 + (l5 % 3))))), (7, .int (l7 * 10)), (8, .int (l8 + 1))]) dX11_comeRow_87 8 rfl (Nat.le_of_ble_eq_true rfl) rfl rfl ?_
    refine g_goto (pc := 90) (tgt := 51) dX11_comeRow_90 (by decide) ?_
    exact h
set_option maxHeartbeats 4000000 in
set_option maxRecDepth 100000 in
theorem TX11_reach (a1 : Int32) (w : Wd) (hR : w.2.2 = RM) (Q : Option Value → Wd → Prop) (h : (((vXX11_why (wi (wXX11_anew w) 0 15) (vXX11_in a1 0 7)) = 0 → Go SR mX11_reach 52 [(0, .ref 0), (1, .int a1), (2, .int (vXX11_why (wi (wXX11_anew w) 0 15) (vXX11_in a1 0 7))), (3, .int 1), (4, .int 0), (5, .int 0)] [] (si (si (wXX11_anew w) 11 0 0) 12 0 1) Q) ∧ (¬ ((vXX11_why (wi (wXX11_anew w) 0 15) (vXX11_in a1 0 7)) = 0) → Q (some (.int (vXX11_no (vXX11_why (wi (wXX11_anew w) 0 15) (vXX11_in a1 0 7))))) (wXX11_no (vXX11_why (wi (wXX11_anew w) 0 15) (vXX11_in a1 0 7)) (wXX11_anew w))))) : Cl SR mX11_reach [.ref 0, .int a1] w Q := by
  refine cl_of (by decide) (Nat.le_of_ble_eq_true rfl) ?_
  show Go SR mX11_reach 0 [(0, .ref 0), (1, .int a1)] [] w Q
  refine g_aload_n (pc := 0) dX11_reach_0 rfl 0 rfl ?_
  refine g_callV (pc := 1) (M' := mX11_anew) (n := 0) (a := 0) (as := []) (st := []) dX11_reach_1 rfl kX11_147 vX11_anew (Nat.le_of_ble_eq_true rfl) rfl qX11 rfl rfl (Nat.le_of_ble_eq_true rfl) ?_
  refine zX11_anew (w := w) (hR := hR) ?_
  show Go SR mX11_reach 4 [(0, .ref 0), (1, .int a1)] [] (wXX11_anew w) Q
  refine g_aload_n (pc := 4) dX11_reach_4 rfl 0 rfl ?_
  refine g_aload_n (pc := 5) dX11_reach_5 rfl 0 rfl ?_
  refine g_getZ (pc := 6) (a := 0) dX11_reach_6 rfl fX11_163 rfl ?_
  refine g_iload_n (pc := 9) dX11_reach_9 rfl 1 rfl ?_
  refine g_iconst (pc := 10) dX11_reach_10 c_0 ?_
  refine g_bipush (pc := 11) (v := 7) dX11_reach_11 (by decide) ?_
  refine g_callS (pc := 13) (M' := mX11_in) (n := 3) (as := [.int a1, .int 0, .int 7]) (st := [.int (wi (wXX11_anew w) 0 15), .ref 0]) dX11_reach_13 rfl kX11_143 sX11_in (Nat.le_of_ble_eq_true rfl) rfl rfl (Nat.le_of_ble_eq_true rfl) ?_
  refine zX11_in (a1 := a1) (a2 := 0) (a3 := 7) (w := wXX11_anew w) (hR := hR) ?_
  show Go SR mX11_reach 16 [(0, .ref 0), (1, .int a1)] [.int (vXX11_in a1 0 7), .int (wi (wXX11_anew w) 0 15), .ref 0] (wXX11_anew w) Q
  refine g_callV (pc := 16) (M' := mX11_why) (n := 2) (a := 0) (as := [.int (wi (wXX11_anew w) 0 15), .int (vXX11_in a1 0 7)]) (st := []) dX11_reach_16 rfl kX11_297 vX11_why (Nat.le_of_ble_eq_true rfl) rfl qX11 rfl rfl (Nat.le_of_ble_eq_true rfl) ?_
  refine zX11_why (a1 := (wi (wXX11_anew w) 0 15)) (a2 := (vXX11_in a1 0 7)) (w := wXX11_anew w) (hR := hR) ?_
  show Go SR mX11_reach 19 [(0, .ref 0), (1, .int a1)] [.int (vXX11_why (wi (wXX11_anew w) 0 15) (vXX11_in a1 0 7))] (wXX11_anew w) Q
  refine g_istore_n (pc := 19) (lv2 := [(0, .ref 0), (1, .int a1), (2, .int (vXX11_why (wi (wXX11_anew w) 0 15) (vXX11_in a1 0 7)))]) dX11_reach_19 rfl (Nat.le_of_ble_eq_true rfl) rfl ?_
  refine g_iload_n (pc := 20) dX11_reach_20 rfl 2 rfl ?_
  refine g_if_eq (pc := 21) (tgt := 30) dX11_reach_21 (by decide) (fun q => ?_) (fun q => ?_)
  · have h := h.1 q
    refine g_iconst (pc := 30) dX11_reach_30 c_1 ?_
    refine g_istore_n (pc := 31) (lv2 := [(0, .ref 0), (1, .int a1), (2, .int (vXX11_why (wi (wXX11_anew w) 0 15) (vXX11_in a1 0 7))), (3, .int 1)]) dX11_reach_31 rfl (Nat.le_of_ble_eq_true rfl) rfl ?_
    refine g_aload_n (pc := 32) dX11_reach_32 rfl 0 rfl ?_
    refine g_getR (pc := 33) (a := 0) (b := 11) dX11_reach_33 rfl fX11_44 rfl (rm_34 hR) ?_
    refine g_iconst (pc := 36) dX11_reach_36 c_0 ?_
    refine g_iconst (pc := 37) dX11_reach_37 c_0 ?_
    refine g_iast (pc := 38) (a := 11) (j := 0) dX11_reach_38 rfl (vin (by decide) (by decide)) (by decide) ?_
    refine g_aload_n (pc := 39) dX11_reach_39 rfl 0 rfl ?_
    refine g_getR (pc := 40) (a := 0) (b := 12) dX11_reach_40 rfl fX11_47 rfl (rm_35 hR) ?_
    refine g_iconst (pc := 43) dX11_reach_43 c_0 ?_
    refine g_iconst (pc := 44) dX11_reach_44 c_1 ?_
    refine g_iast (pc := 45) (a := 12) (j := 0) dX11_reach_45 rfl (vin (by decide) (by decide)) (by decide) ?_
    refine g_iconst (pc := 46) dX11_reach_46 c_0 ?_
    refine g_istore (pc := 47) (lv2 := [(0, .ref 0), (1, .int a1), (2, .int (vXX11_why (wi (wXX11_anew w) 0 15) (vXX11_in a1 0 7))), (3, .int 1), (4, .int 0)]) dX11_reach_47 (Nat.le_of_ble_eq_true rfl) rfl ?_
    refine g_iconst (pc := 49) dX11_reach_49 c_0 ?_
    refine g_istore (pc := 50) (lv2 := [(0, .ref 0), (1, .int a1), (2, .int (vXX11_why (wi (wXX11_anew w) 0 15) (vXX11_in a1 0 7))), (3, .int 1), (4, .int 0), (5, .int 0)]) dX11_reach_50 (Nat.le_of_ble_eq_true rfl) rfl ?_
    exact h
  · have h := h.2 q
    refine g_aload_n (pc := 24) dX11_reach_24 rfl 0 rfl ?_
    refine g_iload_n (pc := 25) dX11_reach_25 rfl 2 rfl ?_
    refine g_callV (pc := 26) (M' := mX11_no) (n := 1) (a := 0) (as := [.int (vXX11_why (wi (wXX11_anew w) 0 15) (vXX11_in a1 0 7))]) (st := []) dX11_reach_26 rfl kX11_150 vX11_no (Nat.le_of_ble_eq_true rfl) rfl qX11 rfl rfl (Nat.le_of_ble_eq_true rfl) ?_
    refine zX11_no (a1 := (vXX11_why (wi (wXX11_anew w) 0 15) (vXX11_in a1 0 7))) (w := wXX11_anew w) (hR := hR) ?_
    show Go SR mX11_reach 29 [(0, .ref 0), (1, .int a1), (2, .int (vXX11_why (wi (wXX11_anew w) 0 15) (vXX11_in a1 0 7)))] [.int (vXX11_no (vXX11_why (wi (wXX11_anew w) 0 15) (vXX11_in a1 0 7)))] (wXX11_no (vXX11_why (wi (wXX11_anew w) 0 15) (vXX11_in a1 0 7)) (wXX11_anew w)) Q
    exact g_iret (pc := 29) dX11_reach_29 rfl h
set_option maxHeartbeats 4000000 in
set_option maxRecDepth 100000 in
theorem BX11_reach_52  (l1 : Int32) (l2 : Int32) (l3 : Int32) (l4 : Int32) (l5 : Int32) (w : Wd) (hR : w.2.2 = RM) (Q : Option Value → Wd → Prop) (h : ((l1 ≤ l5 → Q (some (.int l3)) w) ∧ (¬ (l1 ≤ l5) → Go SR mX11_reach 65 [(0, .ref 0), (1, .int l1), (2, .int l2), (3, .int l3), (4, .int l4), (5, .int l5), (6, .int l3), (7, .int l4)] [] w Q))) : Go SR mX11_reach 52 [(0, .ref 0), (1, .int l1), (2, .int l2), (3, .int l3), (4, .int l4), (5, .int l5)] [] w Q := by
  refine g_iload (pc := 52) dX11_reach_52 5 rfl ?_
  refine g_iload_n (pc := 54) dX11_reach_54 rfl 1 rfl ?_
  refine g_icmp_ge (pc := 55) (tgt := 226) dX11_reach_55 (by decide) (fun q => ?_) (fun q => ?_)
  · have h := h.1 q
    refine g_iload_n (pc := 226) dX11_reach_226 rfl 3 rfl ?_
    exact g_iret (pc := 227) dX11_reach_227 rfl h
  · have h := h.2 q
    refine g_iload_n (pc := 58) dX11_reach_58 rfl 3 rfl ?_
    refine g_istore (pc := 59) (lv2 := [(0, .ref 0), (1, .int l1), (2, .int l2), (3, .int l3), (4, .int l4), (5, .int l5), (6, .int l3)]) dX11_reach_59 (Nat.le_of_ble_eq_true rfl) rfl ?_
    refine g_iload (pc := 61) dX11_reach_61 4 rfl ?_
    refine g_istore (pc := 63) (lv2 := [(0, .ref 0), (1, .int l1), (2, .int l2), (3, .int l3), (4, .int l4), (5, .int l5), (6, .int l3), (7, .int l4)]) dX11_reach_63 (Nat.le_of_ble_eq_true rfl) rfl ?_
    exact h
set_option maxHeartbeats 4000000 in
set_option maxRecDepth 100000 in
theorem BX11_reach_65  (l1 : Int32) (l2 : Int32) (l3 : Int32) (l4 : Int32) (l5 : Int32) (l6 : Int32) (l7 : Int32) (w : Wd) (hR : w.2.2 = RM) (Q : Option Value → Wd → Prop) (h : ((l6 ≤ l7 → Go SR mX11_reach 52 [(0, .ref 0), (1, .int l1), (2, .int l2), (3, .int l3), (4, .int l6), (5, .int (l5 + 1))] [] w Q) ∧ (¬ (l6 ≤ l7) → Go SR mX11_reach 75 [(0, .ref 0), (1, .int l1), (2, .int l2), (3, .int l3), (4, .int l4), (5, .int l5), (6, .int l6), (7, .int l7), (8, .int 0)] [] w Q))) : Go SR mX11_reach 65 [(0, .ref 0), (1, .int l1), (2, .int l2), (3, .int l3), (4, .int l4), (5, .int l5), (6, .int l6), (7, .int l7)] [] w Q := by
  refine g_iload (pc := 65) dX11_reach_65 7 rfl ?_
  refine g_iload (pc := 67) dX11_reach_67 6 rfl ?_
  refine g_icmp_ge (pc := 69) (tgt := 216) dX11_reach_69 (by decide) (fun q => ?_) (fun q => ?_)
  · have h := h.1 q
    refine g_iload (pc := 216) dX11_reach_216 6 rfl ?_
    refine g_istore (pc := 218) (lv2 := [(0, .ref 0), (1, .int l1), (2, .int l2), (3, .int l3), (4, .int l6), (5, .int l5), (6, .int l6), (7, .int l7)]) dX11_reach_218 (Nat.le_of_ble_eq_true rfl) rfl ?_
    refine g_iinc (pc := 220) (v := l5 + 1) (lv2 := [(0, .ref 0), (1, .int l1), (2, .int l2), (3, .int l3), (4, .int l6), (5, .int (l5 + 1)), (6, .int l6), (7, .int l7)]) dX11_reach_220 5 rfl (Nat.le_of_ble_eq_true rfl) rfl rfl ?_
    refine g_goto (pc := 223) (tgt := 52) dX11_reach_223 (by decide) ?_
    refine g_sub (lv2 := [(0, .ref 0), (1, .int l1), (2, .int l2), (3, .int l3), (4, .int l6), (5, .int (l5 + 1))]) [0, 1, 2, 3, 4, 5] rfl ?_
    exact h
  · have h := h.2 q
    refine g_iconst (pc := 72) dX11_reach_72 c_0 ?_
    refine g_istore (pc := 73) (lv2 := [(0, .ref 0), (1, .int l1), (2, .int l2), (3, .int l3), (4, .int l4), (5, .int l5), (6, .int l6), (7, .int l7), (8, .int 0)]) dX11_reach_73 (Nat.le_of_ble_eq_true rfl) rfl ?_
    exact h
set_option maxHeartbeats 4000000 in
set_option maxRecDepth 100000 in
theorem BX11_reach_75  (l1 : Int32) (l2 : Int32) (l3 : Int32) (l4 : Int32) (l5 : Int32) (l6 : Int32) (l7 : Int32) (l8 : Int32) (w : Wd) (hR : w.2.2 = RM) (Q : Option Value → Wd → Prop) (h : ((3 ≤ l8 → Go SR mX11_reach 65 [(0, .ref 0), (1, .int l1), (2, .int l2), (3, .int l3), (4, .int l4), (5, .int l5), (6, .int l6), (7, .int (l7 + 1))] [] w Q) ∧ (¬ (3 ≤ l8) → vp_in l7 3280 ∧ vp_in l7 3280 ∧ ClI SR mX11_calls [.ref 0, .int l8] (si (si w 0 23 (wi w 11 l7.toNatClampNeg)) 0 24 (wi (si w 0 23 (wi w 11 l7.toNatClampNeg)) 12 l7.toNatClampNeg)) (fun x4 w3 => w3.2.2 = RM ∧ ((x4 = 0 → Go SR mX11_reach 75 [(0, .ref 0), (1, .int l1), (2, .int l2), (3, .int l3), (4, .int l4), (5, .int l5), (6, .int l6), (7, .int l7), (8, .int (l8 + 1))] [] w3 Q) ∧ (¬ (x4 = 0) → Go SR mX11_reach 121 [(0, .ref 0), (1, .int l1), (2, .int l2), (3, .int l3), (4, .int l4), (5, .int l5), (6, .int l6), (7, .int l7), (8, .int l8), (9, .int 1), (10, .int 0)] [] w3 Q)))))) : Go SR mX11_reach 75 [(0, .ref 0), (1, .int l1), (2, .int l2), (3, .int l3), (4, .int l4), (5, .int l5), (6, .int l6), (7, .int l7), (8, .int l8)] [] w Q := by
  refine g_iload (pc := 75) dX11_reach_75 8 rfl ?_
  refine g_iconst (pc := 77) dX11_reach_77 c_3 ?_
  refine g_icmp_ge (pc := 78) (tgt := 210) dX11_reach_78 (by decide) (fun q => ?_) (fun q => ?_)
  · have h := h.1 q
    refine g_iinc (pc := 210) (v := l7 + 1) (lv2 := [(0, .ref 0), (1, .int l1), (2, .int l2), (3, .int l3), (4, .int l4), (5, .int l5), (6, .int l6), (7, .int (l7 + 1)), (8, .int l8)]) dX11_reach_210 7 rfl (Nat.le_of_ble_eq_true rfl) rfl rfl ?_
    refine g_goto (pc := 213) (tgt := 65) dX11_reach_213 (by decide) ?_
    refine g_sub (lv2 := [(0, .ref 0), (1, .int l1), (2, .int l2), (3, .int l3), (4, .int l4), (5, .int l5), (6, .int l6), (7, .int (l7 + 1))]) [0, 1, 2, 3, 4, 5, 6, 7] rfl ?_
    exact h
  · have h := h.2 q
    refine g_aload_n (pc := 81) dX11_reach_81 rfl 0 rfl ?_
    refine g_aload_n (pc := 82) dX11_reach_82 rfl 0 rfl ?_
    refine g_getR (pc := 83) (a := 0) (b := 11) dX11_reach_83 rfl fX11_44 rfl (rm_34 hR) ?_
    refine g_iload (pc := 86) dX11_reach_86 7 rfl ?_
    obtain ⟨hi1, h⟩ := h
    refine g_iald (pc := 88) (a := 11) (j := l7.toNatClampNeg) dX11_reach_88 rfl hi1 rfl ?_
    refine g_putI (pc := 89) dX11_reach_89 rfl fX11_169 pX11_23 rfl ?_
    refine g_aload_n (pc := 92) dX11_reach_92 rfl 0 rfl ?_
    refine g_aload_n (pc := 93) dX11_reach_93 rfl 0 rfl ?_
    refine g_getR (pc := 94) (a := 0) (b := 12) dX11_reach_94 rfl fX11_47 rfl (rm_35 hR) ?_
    refine g_iload (pc := 97) dX11_reach_97 7 rfl ?_
    obtain ⟨hi2, h⟩ := h
    refine g_iald (pc := 99) (a := 12) (j := l7.toNatClampNeg) dX11_reach_99 rfl hi2 rfl ?_
    refine g_putI (pc := 100) dX11_reach_100 rfl fX11_172 pX11_24 rfl ?_
    refine g_aload_n (pc := 103) dX11_reach_103 rfl 0 rfl ?_
    refine g_iload (pc := 104) dX11_reach_104 8 rfl ?_
    refine g_callV (pc := 106) (M' := mX11_calls) (n := 1) (a := 0) (as := [.int l8]) (st := []) dX11_reach_106 rfl kX11_260 vX11_calls (Nat.le_of_ble_eq_true rfl) rfl qX11 rfl rfl (Nat.le_of_ble_eq_true rfl) ?_
    refine cl_mono (fun r w3 hr => ?_) h
    obtain ⟨x4, rfl, hw3, h⟩ := hr
    show Go SR mX11_reach 109 [(0, .ref 0), (1, .int l1), (2, .int l2), (3, .int l3), (4, .int l4), (5, .int l5), (6, .int l6), (7, .int l7), (8, .int l8)] [.int x4] w3 Q
    refine g_if_ne (pc := 109) (tgt := 115) dX11_reach_109 (by decide) (fun q => ?_) (fun q => ?_)
    · have h := h.2 q
      refine g_iconst (pc := 115) dX11_reach_115 c_1 ?_
      refine g_istore (pc := 116) (lv2 := [(0, .ref 0), (1, .int l1), (2, .int l2), (3, .int l3), (4, .int l4), (5, .int l5), (6, .int l6), (7, .int l7), (8, .int l8), (9, .int 1)]) dX11_reach_116 (Nat.le_of_ble_eq_true rfl) rfl ?_
      refine g_iconst (pc := 118) dX11_reach_118 c_0 ?_
      refine g_istore (pc := 119) (lv2 := [(0, .ref 0), (1, .int l1), (2, .int l2), (3, .int l3), (4, .int l4), (5, .int l5), (6, .int l6), (7, .int l7), (8, .int l8), (9, .int 1), (10, .int 0)]) dX11_reach_119 (Nat.le_of_ble_eq_true rfl) rfl ?_
      exact h
    · have h := h.1 q
      refine g_goto (pc := 112) (tgt := 204) dX11_reach_112 (by decide) ?_
      refine g_iinc (pc := 204) (v := l8 + 1) (lv2 := [(0, .ref 0), (1, .int l1), (2, .int l2), (3, .int l3), (4, .int l4), (5, .int l5), (6, .int l6), (7, .int l7), (8, .int (l8 + 1))]) dX11_reach_204 8 rfl (Nat.le_of_ble_eq_true rfl) rfl rfl ?_
      refine g_goto (pc := 207) (tgt := 75) dX11_reach_207 (by decide) ?_
      exact h
set_option maxHeartbeats 4000000 in
set_option maxRecDepth 100000 in
theorem BX11_reach_121  (l1 : Int32) (l2 : Int32) (l3 : Int32) (l4 : Int32) (l5 : Int32) (l6 : Int32) (l7 : Int32) (l8 : Int32) (l9 : Int32) (l10 : Int32) (w : Wd) (hR : w.2.2 = RM) (Q : Option Value → Wd → Prop) (h : ((l3 ≤ l10 → ((l9 = 0 → Go SR mX11_reach 75 [(0, .ref 0), (1, .int l1), (2, .int l2), (3, .int l3), (4, .int l4), (5, .int l5), (6, .int l6), (7, .int l7), (8, .int (l8 + 1))] [] w Q) ∧ (¬ (l9 = 0) → vp_in l3 3280 ∧ vp_in l3 3280 ∧ Go SR mX11_reach 75 [(0, .ref 0), (1, .int l1), (2, .int l2), (3, .int (l3 + 1)), (4, .int l4), (5, .int l5), (6, .int l6), (7, .int l7), (8, .int (l8 + 1))] [] (si (si w 11 l3.toNatClampNeg (wi w 0 23)) 12 l3.toNatClampNeg (wi (si w 11 l3.toNatClampNeg (wi w 0 23)) 0 24)) Q))) ∧ (¬ (l3 ≤ l10) → ((l9 = 0 → ((l9 = 0 → Go SR mX11_reach 75 [(0, .ref 0), (1, .int l1), (2, .int l2), (3, .int l3), (4, .int l4), (5, .int l5), (6, .int l6), (7, .int l7), (8, .int (l8 + 1))] [] w Q) ∧ (¬ (l9 = 0) → vp_in l3 3280 ∧ vp_in l3 3280 ∧ Go SR mX11_reach 75 [(0, .ref 0), (1, .int l1), (2, .int l2), (3, .int (l3 + 1)), (4, .int l4), (5, .int l5), (6, .int l6), (7, .int l7), (8, .int (l8 + 1))] [] (si (si w 11 l3.toNatClampNeg (wi w 0 23)) 12 l3.toNatClampNeg (wi (si w 11 l3.toNatClampNeg (wi w 0 23)) 0 24)) Q))) ∧ (¬ (l9 = 0) → vp_in l10 3280 ∧ (((wi w 11 l10.toNatClampNeg) = (wi w 0 23) → vp_in l10 3280 ∧ Go SR mX11_reach 121 [(0, .ref 0), (1, .int l1), (2, .int l2), (3, .int l3), (4, .int l4), (5, .int l5), (6, .int l6), (7, .int l7), (8, .int l8), (9, .int (if (wi w 12 l10.toNatClampNeg) = (wi w 0 24) then 0 else 1 : Int32)), (10, .int (l10 + 1))] [] w Q) ∧ (¬ ((wi w 11 l10.toNatClampNeg) = (wi w 0 23)) → Go SR mX11_reach 121 [(0, .ref 0), (1, .int l1), (2, .int l2), (3, .int l3), (4, .int l4), (5, .int l5), (6, .int l6), (7, .int l7), (8, .int l8), (9, .int 1), (10, .int (l10 + 1))] [] w Q))))))) : Go SR mX11_reach 121 [(0, .ref 0), (1, .int l1), (2, .int l2), (3, .int l3), (4, .int l4), (5, .int l5), (6, .int l6), (7, .int l7), (8, .int l8), (9, .int l9), (10, .int l10)] [] w Q := by
  refine g_iload (pc := 121) dX11_reach_121 10 rfl ?_
  refine g_iload_n (pc := 123) dX11_reach_123 rfl 3 rfl ?_
  refine g_icmp_ge (pc := 124) (tgt := 173) dX11_reach_124 (by decide) (fun q => ?_) (fun q => ?_)
  · have h := h.1 q
    refine g_iload (pc := 173) dX11_reach_173 9 rfl ?_
    refine g_if_ne (pc := 175) (tgt := 181) dX11_reach_175 (by decide) (fun q => ?_) (fun q => ?_)
    · have h := h.2 q
      refine g_aload_n (pc := 181) dX11_reach_181 rfl 0 rfl ?_
      refine g_getR (pc := 182) (a := 0) (b := 11) dX11_reach_182 rfl fX11_44 rfl (rm_34 hR) ?_
      refine g_iload_n (pc := 185) dX11_reach_185 rfl 3 rfl ?_
      refine g_aload_n (pc := 186) dX11_reach_186 rfl 0 rfl ?_
      refine g_getI (pc := 187) (a := 0) dX11_reach_187 rfl fX11_169 rfl ?_
      obtain ⟨hi1, h⟩ := h
      refine g_iast (pc := 190) (a := 11) (j := l3.toNatClampNeg) dX11_reach_190 rfl hi1 rfl ?_
      refine g_aload_n (pc := 191) dX11_reach_191 rfl 0 rfl ?_
      refine g_getR (pc := 192) (a := 0) (b := 12) dX11_reach_192 rfl fX11_47 rfl (rm_35 hR) ?_
      refine g_iload_n (pc := 195) dX11_reach_195 rfl 3 rfl ?_
      refine g_aload_n (pc := 196) dX11_reach_196 rfl 0 rfl ?_
      refine g_getI (pc := 197) (a := 0) dX11_reach_197 rfl fX11_172 rfl ?_
      obtain ⟨hi2, h⟩ := h
      refine g_iast (pc := 200) (a := 12) (j := l3.toNatClampNeg) dX11_reach_200 rfl hi2 rfl ?_
      refine g_iinc (pc := 201) (v := l3 + 1) (lv2 := [(0, .ref 0), (1, .int l1), (2, .int l2), (3, .int (l3 + 1)), (4, .int l4), (5, .int l5), (6, .int l6), (7, .int l7), (8, .int l8), (9, .int l9), (10, .int l10)]) dX11_reach_201 3 rfl (Nat.le_of_ble_eq_true rfl) rfl rfl ?_
      refine g_iinc (pc := 204) (v := l8 + 1) (lv2 := [(0, .ref 0), (1, .int l1), (2, .int l2), (3, .int (l3 + 1)), (4, .int l4), (5, .int l5), (6, .int l6), (7, .int l7), (8, .int (l8 + 1)), (9, .int l9), (10, .int l10)]) dX11_reach_204 8 rfl (Nat.le_of_ble_eq_true rfl) rfl rfl ?_
      refine g_goto (pc := 207) (tgt := 75) dX11_reach_207 (by decide) ?_
      refine g_sub (lv2 := [(0, .ref 0), (1, .int l1), (2, .int l2), (3, .int (l3 + 1)), (4, .int l4), (5, .int l5), (6, .int l6), (7, .int l7), (8, .int (l8 + 1))]) [0, 1, 2, 3, 4, 5, 6, 7, 8] rfl ?_
      exact h
    · have h := h.1 q
      refine g_goto (pc := 178) (tgt := 204) dX11_reach_178 (by decide) ?_
      refine g_iinc (pc := 204) (v := l8 + 1) (lv2 := [(0, .ref 0), (1, .int l1), (2, .int l2), (3, .int l3), (4, .int l4), (5, .int l5), (6, .int l6), (7, .int l7), (8, .int (l8 + 1)), (9, .int l9), (10, .int l10)]) dX11_reach_204 8 rfl (Nat.le_of_ble_eq_true rfl) rfl rfl ?_
      refine g_goto (pc := 207) (tgt := 75) dX11_reach_207 (by decide) ?_
      refine g_sub (lv2 := [(0, .ref 0), (1, .int l1), (2, .int l2), (3, .int l3), (4, .int l4), (5, .int l5), (6, .int l6), (7, .int l7), (8, .int (l8 + 1))]) [0, 1, 2, 3, 4, 5, 6, 7, 8] rfl ?_
      exact h
  · have h := h.2 q
    refine g_iload (pc := 127) dX11_reach_127 9 rfl ?_
    refine g_if_eq (pc := 129) (tgt := 173) dX11_reach_129 (by decide) (fun q => ?_) (fun q => ?_)
    · have h := h.1 q
      refine g_iload (pc := 173) dX11_reach_173 9 rfl ?_
      refine g_if_ne (pc := 175) (tgt := 181) dX11_reach_175 (by decide) (fun q => ?_) (fun q => ?_)
      · have h := h.2 q
        refine g_aload_n (pc := 181) dX11_reach_181 rfl 0 rfl ?_
        refine g_getR (pc := 182) (a := 0) (b := 11) dX11_reach_182 rfl fX11_44 rfl (rm_34 hR) ?_
        refine g_iload_n (pc := 185) dX11_reach_185 rfl 3 rfl ?_
        refine g_aload_n (pc := 186) dX11_reach_186 rfl 0 rfl ?_
        refine g_getI (pc := 187) (a := 0) dX11_reach_187 rfl fX11_169 rfl ?_
        obtain ⟨hi3, h⟩ := h
        refine g_iast (pc := 190) (a := 11) (j := l3.toNatClampNeg) dX11_reach_190 rfl hi3 rfl ?_
        refine g_aload_n (pc := 191) dX11_reach_191 rfl 0 rfl ?_
        refine g_getR (pc := 192) (a := 0) (b := 12) dX11_reach_192 rfl fX11_47 rfl (rm_35 hR) ?_
        refine g_iload_n (pc := 195) dX11_reach_195 rfl 3 rfl ?_
        refine g_aload_n (pc := 196) dX11_reach_196 rfl 0 rfl ?_
        refine g_getI (pc := 197) (a := 0) dX11_reach_197 rfl fX11_172 rfl ?_
        obtain ⟨hi4, h⟩ := h
        refine g_iast (pc := 200) (a := 12) (j := l3.toNatClampNeg) dX11_reach_200 rfl hi4 rfl ?_
        refine g_iinc (pc := 201) (v := l3 + 1) (lv2 := [(0, .ref 0), (1, .int l1), (2, .int l2), (3, .int (l3 + 1)), (4, .int l4), (5, .int l5), (6, .int l6), (7, .int l7), (8, .int l8), (9, .int l9), (10, .int l10)]) dX11_reach_201 3 rfl (Nat.le_of_ble_eq_true rfl) rfl rfl ?_
        refine g_iinc (pc := 204) (v := l8 + 1) (lv2 := [(0, .ref 0), (1, .int l1), (2, .int l2), (3, .int (l3 + 1)), (4, .int l4), (5, .int l5), (6, .int l6), (7, .int l7), (8, .int (l8 + 1)), (9, .int l9), (10, .int l10)]) dX11_reach_204 8 rfl (Nat.le_of_ble_eq_true rfl) rfl rfl ?_
        refine g_goto (pc := 207) (tgt := 75) dX11_reach_207 (by decide) ?_
        refine g_sub (lv2 := [(0, .ref 0), (1, .int l1), (2, .int l2), (3, .int (l3 + 1)), (4, .int l4), (5, .int l5), (6, .int l6), (7, .int l7), (8, .int (l8 + 1))]) [0, 1, 2, 3, 4, 5, 6, 7, 8] rfl ?_
        exact h
      · have h := h.1 q
        refine g_goto (pc := 178) (tgt := 204) dX11_reach_178 (by decide) ?_
        refine g_iinc (pc := 204) (v := l8 + 1) (lv2 := [(0, .ref 0), (1, .int l1), (2, .int l2), (3, .int l3), (4, .int l4), (5, .int l5), (6, .int l6), (7, .int l7), (8, .int (l8 + 1)), (9, .int l9), (10, .int l10)]) dX11_reach_204 8 rfl (Nat.le_of_ble_eq_true rfl) rfl rfl ?_
        refine g_goto (pc := 207) (tgt := 75) dX11_reach_207 (by decide) ?_
        refine g_sub (lv2 := [(0, .ref 0), (1, .int l1), (2, .int l2), (3, .int l3), (4, .int l4), (5, .int l5), (6, .int l6), (7, .int l7), (8, .int (l8 + 1))]) [0, 1, 2, 3, 4, 5, 6, 7, 8] rfl ?_
        exact h
    · have h := h.2 q
      refine g_aload_n (pc := 132) dX11_reach_132 rfl 0 rfl ?_
      refine g_getR (pc := 133) (a := 0) (b := 11) dX11_reach_133 rfl fX11_44 rfl (rm_34 hR) ?_
      refine g_iload (pc := 136) dX11_reach_136 10 rfl ?_
      obtain ⟨hi5, h⟩ := h
      refine g_iald (pc := 138) (a := 11) (j := l10.toNatClampNeg) dX11_reach_138 rfl hi5 rfl ?_
      refine g_aload_n (pc := 139) dX11_reach_139 rfl 0 rfl ?_
      refine g_getI (pc := 140) (a := 0) dX11_reach_140 rfl fX11_169 rfl ?_
      refine g_icmp_ne (pc := 143) (tgt := 160) dX11_reach_143 (by decide) (fun q => ?_) (fun q => ?_)
      · have h := h.2 q
        refine g_iconst (pc := 160) dX11_reach_160 c_1 ?_
        refine g_goto (pc := 161) (tgt := 165) dX11_reach_161 (by decide) ?_
        refine g_istore (pc := 165) (lv2 := [(0, .ref 0), (1, .int l1), (2, .int l2), (3, .int l3), (4, .int l4), (5, .int l5), (6, .int l6), (7, .int l7), (8, .int l8), (9, .int 1), (10, .int l10)]) dX11_reach_165 (Nat.le_of_ble_eq_true rfl) rfl ?_
        refine g_iinc (pc := 167) (v := l10 + 1) (lv2 := [(0, .ref 0), (1, .int l1), (2, .int l2), (3, .int l3), (4, .int l4), (5, .int l5), (6, .int l6), (7, .int l7), (8, .int l8), (9, .int 1), (10, .int (l10 + 1))]) dX11_reach_167 10 rfl (Nat.le_of_ble_eq_true rfl) rfl rfl ?_
        refine g_goto (pc := 170) (tgt := 121) dX11_reach_170 (by decide) ?_
        exact h
      · have h := h.1 q
        refine g_aload_n (pc := 146) dX11_reach_146 rfl 0 rfl ?_
        refine g_getR (pc := 147) (a := 0) (b := 12) dX11_reach_147 rfl fX11_47 rfl (rm_35 hR) ?_
        refine g_iload (pc := 150) dX11_reach_150 10 rfl ?_
        obtain ⟨hi6, h⟩ := h
        refine g_iald (pc := 152) (a := 12) (j := l10.toNatClampNeg) dX11_reach_152 rfl hi6 rfl ?_
        refine g_aload_n (pc := 153) dX11_reach_153 rfl 0 rfl ?_
        refine g_getI (pc := 154) (a := 0) dX11_reach_154 rfl fX11_172 rfl ?_
        have hJ : Go SR mX11_reach 165 [(0, .ref 0), (1, .int l1), (2, .int l2), (3, .int l3), (4, .int l4), (5, .int l5), (6, .int l6), (7, .int l7), (8, .int l8), (9, .int l9), (10, .int l10)] [.int (if (wi w 12 l10.toNatClampNeg) = (wi w 0 24) then 0 else 1 : Int32)] w Q := by
          refine g_istore (pc := 165) (lv2 := [(0, .ref 0), (1, .int l1), (2, .int l2), (3, .int l3), (4, .int l4), (5, .int l5), (6, .int l6), (7, .int l7), (8, .int l8), (9, .int (if (wi w 12 l10.toNatClampNeg) = (wi w 0 24) then 0 else 1 : Int32)), (10, .int l10)]) dX11_reach_165 (Nat.le_of_ble_eq_true rfl) rfl ?_
          refine g_iinc (pc := 167) (v := l10 + 1) (lv2 := [(0, .ref 0), (1, .int l1), (2, .int l2), (3, .int l3), (4, .int l4), (5, .int l5), (6, .int l6), (7, .int l7), (8, .int l8), (9, .int (if (wi w 12 l10.toNatClampNeg) = (wi w 0 24) then 0 else 1 : Int32)), (10, .int (l10 + 1))]) dX11_reach_167 10 rfl (Nat.le_of_ble_eq_true rfl) rfl rfl ?_
          refine g_goto (pc := 170) (tgt := 121) dX11_reach_170 (by decide) ?_
          exact h
        refine g_icmp_eq (pc := 157) (tgt := 164) dX11_reach_157 (by decide) (fun q157 => ?_) (fun q157 => ?_)
        · refine g_iconst (pc := 164) dX11_reach_164 c_0 ?_
          first | (exfalso; contradiction) | exact cast (by simp only [if_pos q157]) hJ
        · refine g_iconst (pc := 160) dX11_reach_160 c_1 ?_
          refine g_goto (pc := 161) (tgt := 165) dX11_reach_161 (by decide) ?_
          first | (exfalso; contradiction) | exact cast (by simp only [if_neg q157]) hJ
set_option maxHeartbeats 4000000 in
set_option maxRecDepth 100000 in
theorem TX11_apart (a1 : Int32) (a2 : Int32) (w : Wd) (hR : w.2.2 = RM) (Q : Option Value → Wd → Prop) (h : ClI SR mX11_isDance [.ref 0, .int a1] (wXX11_anew w) (fun x2 w1 => w1.2.2 = RM ∧ ((x2 = 0 → Q (some (.int (vXX11_no 1))) (wXX11_no 1 w1)) ∧ (¬ (x2 = 0) → ClI SR mX11_isDance [.ref 0, .int a2] w1 (fun x4 w3 => w3.2.2 = RM ∧ ((x4 = 0 → Q (some (.int (vXX11_no 1))) (wXX11_no 1 w3)) ∧ (¬ (x4 = 0) → vp_in a1 10 ∧ vp_in (5 + a2) 10 ∧ vp_in a2 10 ∧ vp_in (5 + a1) 10 ∧ Q (some (.int (vXX11_away (((wi w3 5 a1.toNatClampNeg) * (wi w3 5 ((5 + a2).toNatClampNeg))) - ((wi w3 5 a2.toNatClampNeg) * (wi w3 5 ((5 + a1).toNatClampNeg))))))) w3))))))) : Cl SR mX11_apart [.ref 0, .int a1, .int a2] w Q := by
  refine cl_of (by decide) (Nat.le_of_ble_eq_true rfl) ?_
  show Go SR mX11_apart 0 [(0, .ref 0), (1, .int a1), (2, .int a2)] [] w Q
  refine g_aload_n (pc := 0) dX11_apart_0 rfl 0 rfl ?_
  refine g_callV (pc := 1) (M' := mX11_anew) (n := 0) (a := 0) (as := []) (st := []) dX11_apart_1 rfl kX11_147 vX11_anew (Nat.le_of_ble_eq_true rfl) rfl qX11 rfl rfl (Nat.le_of_ble_eq_true rfl) ?_
  refine zX11_anew (w := w) (hR := hR) ?_
  show Go SR mX11_apart 4 [(0, .ref 0), (1, .int a1), (2, .int a2)] [] (wXX11_anew w) Q
  refine g_aload_n (pc := 4) dX11_apart_4 rfl 0 rfl ?_
  refine g_iload_n (pc := 5) dX11_apart_5 rfl 1 rfl ?_
  refine g_callV (pc := 6) (M' := mX11_isDance) (n := 1) (a := 0) (as := [.int a1]) (st := []) dX11_apart_6 rfl kX11_239 vX11_isDance (Nat.le_of_ble_eq_true rfl) rfl qX11 rfl rfl (Nat.le_of_ble_eq_true rfl) ?_
  refine cl_mono (fun r w1 hr => ?_) h
  obtain ⟨x2, rfl, hw1, h⟩ := hr
  show Go SR mX11_apart 9 [(0, .ref 0), (1, .int a1), (2, .int a2)] [.int x2] w1 Q
  refine g_if_eq (pc := 9) (tgt := 20) dX11_apart_9 (by decide) (fun q => ?_) (fun q => ?_)
  · have h := h.1 q
    refine g_aload_n (pc := 20) dX11_apart_20 rfl 0 rfl ?_
    refine g_iconst (pc := 21) dX11_apart_21 c_1 ?_
    refine g_callV (pc := 22) (M' := mX11_no) (n := 1) (a := 0) (as := [.int 1]) (st := []) dX11_apart_22 rfl kX11_150 vX11_no (Nat.le_of_ble_eq_true rfl) rfl qX11 rfl rfl (Nat.le_of_ble_eq_true rfl) ?_
    refine zX11_no (a1 := 1) (w := w1) (hR := hw1) ?_
    show Go SR mX11_apart 25 [(0, .ref 0), (1, .int a1), (2, .int a2)] [.int (vXX11_no 1)] (wXX11_no 1 w1) Q
    exact g_iret (pc := 25) dX11_apart_25 rfl h
  · have h := h.2 q
    refine g_aload_n (pc := 12) dX11_apart_12 rfl 0 rfl ?_
    refine g_iload_n (pc := 13) dX11_apart_13 rfl 2 rfl ?_
    refine g_callV (pc := 14) (M' := mX11_isDance) (n := 1) (a := 0) (as := [.int a2]) (st := []) dX11_apart_14 rfl kX11_239 vX11_isDance (Nat.le_of_ble_eq_true rfl) rfl qX11 rfl rfl (Nat.le_of_ble_eq_true rfl) ?_
    refine cl_mono (fun r w3 hr => ?_) h
    obtain ⟨x4, rfl, hw3, h⟩ := hr
    show Go SR mX11_apart 17 [(0, .ref 0), (1, .int a1), (2, .int a2)] [.int x4] w3 Q
    refine g_if_ne (pc := 17) (tgt := 26) dX11_apart_17 (by decide) (fun q => ?_) (fun q => ?_)
    · have h := h.2 q
      refine g_aload_n (pc := 26) dX11_apart_26 rfl 0 rfl ?_
      refine g_getR (pc := 27) (a := 0) (b := 5) dX11_apart_27 rfl fX11_26 rfl (rm_18 hw3) ?_
      refine g_iload_n (pc := 30) dX11_apart_30 rfl 1 rfl ?_
      obtain ⟨hi5, h⟩ := h
      refine g_iald (pc := 31) (a := 5) (j := a1.toNatClampNeg) dX11_apart_31 rfl hi5 rfl ?_
      refine g_aload_n (pc := 32) dX11_apart_32 rfl 0 rfl ?_
      refine g_getR (pc := 33) (a := 0) (b := 5) dX11_apart_33 rfl fX11_26 rfl (rm_18 hw3) ?_
      refine g_iconst (pc := 36) dX11_apart_36 c_5 ?_
      refine g_iload_n (pc := 37) dX11_apart_37 rfl 2 rfl ?_
      refine g_iadd (pc := 38) dX11_apart_38 ?_
      obtain ⟨hi6, h⟩ := h
      refine g_iald (pc := 39) (a := 5) (j := (5 + a2).toNatClampNeg) dX11_apart_39 rfl hi6 rfl ?_
      refine g_imul (pc := 40) dX11_apart_40 ?_
      refine g_aload_n (pc := 41) dX11_apart_41 rfl 0 rfl ?_
      refine g_getR (pc := 42) (a := 0) (b := 5) dX11_apart_42 rfl fX11_26 rfl (rm_18 hw3) ?_
      refine g_iload_n (pc := 45) dX11_apart_45 rfl 2 rfl ?_
      obtain ⟨hi7, h⟩ := h
      refine g_iald (pc := 46) (a := 5) (j := a2.toNatClampNeg) dX11_apart_46 rfl hi7 rfl ?_
      refine g_aload_n (pc := 47) dX11_apart_47 rfl 0 rfl ?_
      refine g_getR (pc := 48) (a := 0) (b := 5) dX11_apart_48 rfl fX11_26 rfl (rm_18 hw3) ?_
      refine g_iconst (pc := 51) dX11_apart_51 c_5 ?_
      refine g_iload_n (pc := 52) dX11_apart_52 rfl 1 rfl ?_
      refine g_iadd (pc := 53) dX11_apart_53 ?_
      obtain ⟨hi8, h⟩ := h
      refine g_iald (pc := 54) (a := 5) (j := (5 + a1).toNatClampNeg) dX11_apart_54 rfl hi8 rfl ?_
      refine g_imul (pc := 55) dX11_apart_55 ?_
      refine g_isub (pc := 56) dX11_apart_56 ?_
      refine g_callS (pc := 57) (M' := mX11_away) (n := 1) (as := [.int (((wi w3 5 a1.toNatClampNeg) * (wi w3 5 ((5 + a2).toNatClampNeg))) - ((wi w3 5 a2.toNatClampNeg) * (wi w3 5 ((5 + a1).toNatClampNeg))))]) (st := []) dX11_apart_57 rfl kX11_60 sX11_away (Nat.le_of_ble_eq_true rfl) rfl rfl (Nat.le_of_ble_eq_true rfl) ?_
      refine zX11_away (a1 := (((wi w3 5 a1.toNatClampNeg) * (wi w3 5 ((5 + a2).toNatClampNeg))) - ((wi w3 5 a2.toNatClampNeg) * (wi w3 5 ((5 + a1).toNatClampNeg))))) (w := w3) (hR := hw3) ?_
      show Go SR mX11_apart 60 [(0, .ref 0), (1, .int a1), (2, .int a2)] [.int (vXX11_away (((wi w3 5 a1.toNatClampNeg) * (wi w3 5 ((5 + a2).toNatClampNeg))) - ((wi w3 5 a2.toNatClampNeg) * (wi w3 5 ((5 + a1).toNatClampNeg)))))] w3 Q
      exact g_iret (pc := 60) dX11_apart_60 rfl h
    · have h := h.1 q
      refine g_aload_n (pc := 20) dX11_apart_20 rfl 0 rfl ?_
      refine g_iconst (pc := 21) dX11_apart_21 c_1 ?_
      refine g_callV (pc := 22) (M' := mX11_no) (n := 1) (a := 0) (as := [.int 1]) (st := []) dX11_apart_22 rfl kX11_150 vX11_no (Nat.le_of_ble_eq_true rfl) rfl qX11 rfl rfl (Nat.le_of_ble_eq_true rfl) ?_
      refine zX11_no (a1 := 1) (w := w3) (hR := hw3) ?_
      show Go SR mX11_apart 25 [(0, .ref 0), (1, .int a1), (2, .int a2)] [.int (vXX11_no 1)] (wXX11_no 1 w3) Q
      exact g_iret (pc := 25) dX11_apart_25 rfl h
set_option maxHeartbeats 4000000 in
set_option maxRecDepth 100000 in
theorem TX11_floorOf (a1 : Int64) (a2 : Int64) (w : Wd) (hR : w.2.2 = RM) (Q : Option Value → Wd → Prop) (h : ¬ a2 = 0 ∧ ¬ a2 = 0 ∧ Q (some (.int ((if 0 ≤ (lg_cmp (a1 % a2) 0) then a1 / a2 else (a1 / a2) - 1 : Int64).toInt32))) w) : Cl SR mX11_floorOf [.long a1, .long a2] w Q := by
  refine cl_of (by decide) (Nat.le_of_ble_eq_true rfl) ?_
  show Go SR mX11_floorOf 0 [(0, .long a1), (2, .long a2)] [] w Q
  refine g_lload_n (pc := 0) dX11_floorOf_0 rfl 0 rfl ?_
  refine g_lload_n (pc := 1) dX11_floorOf_1 rfl 1 rfl ?_
  obtain ⟨hz1, h⟩ := h
  refine g_ldiv (pc := 2) dX11_floorOf_2 hz1 ?_
  refine g_lstore (pc := 3) (lv2 := [(0, .long a1), (2, .long a2), (4, .long (a1 / a2))]) dX11_floorOf_3 (Nat.le_of_ble_eq_true rfl) rfl ?_
  refine g_lload_n (pc := 5) dX11_floorOf_5 rfl 0 rfl ?_
  refine g_lload_n (pc := 6) dX11_floorOf_6 rfl 1 rfl ?_
  obtain ⟨hz2, h⟩ := h
  refine g_lrem (pc := 7) dX11_floorOf_7 hz2 ?_
  refine g_lconst (pc := 8) (v := 0) dX11_floorOf_8 (by decide) ?_
  refine g_lcmp (pc := 9) dX11_floorOf_9 ?_
  have hJ : Go SR mX11_floorOf 22 [(0, .long a1), (2, .long a2), (4, .long (a1 / a2))] [.long (if 0 ≤ (lg_cmp (a1 % a2) 0) then a1 / a2 else (a1 / a2) - 1 : Int64)] w Q := by
    refine g_l2i (pc := 22) dX11_floorOf_22 ?_
    exact g_iret (pc := 23) dX11_floorOf_23 rfl h
  refine g_if_ge (pc := 10) (tgt := 20) dX11_floorOf_10 (by decide) (fun q10 => ?_) (fun q10 => ?_)
  · refine g_lload (pc := 20) dX11_floorOf_20 2 rfl ?_
    first | (exfalso; contradiction) | exact cast (by simp only [if_pos q10]) hJ
  · refine g_lload (pc := 13) dX11_floorOf_13 2 rfl ?_
    refine g_lconst (pc := 15) (v := 1) dX11_floorOf_15 (by decide) ?_
    refine g_lsub (pc := 16) dX11_floorOf_16 ?_
    refine g_goto (pc := 17) (tgt := 22) dX11_floorOf_17 (by decide) ?_
    first | (exfalso; contradiction) | exact cast (by simp only [if_neg q10]) hJ
set_option maxHeartbeats 4000000 in
set_option maxRecDepth 100000 in
theorem TX11_seekBetween (a1 : Int32) (a2 : Int32) (w : Wd) (hR : w.2.2 = RM) (Q : Option Value → Wd → Prop) (h : ClI SR mX11_isDance [.ref 0, .int a1] w (fun x2 w1 => w1.2.2 = RM ∧ ((x2 = 0 → Q (some (.int 1)) w1) ∧ (¬ (x2 = 0) → ClI SR mX11_isDance [.ref 0, .int a2] w1 (fun x4 w3 => w3.2.2 = RM ∧ ((x4 = 0 → Q (some (.int 1)) w3) ∧ (¬ (x4 = 0) → ((a1 = a2 → Q (some (.int 1)) w3) ∧ (¬ (a1 = a2) → vp_in (5 + a1) 10 ∧ (((wi w3 5 ((5 + a1).toNatClampNeg)) = 0 → Q (some (.int 5)) w3) ∧ (¬ ((wi w3 5 ((5 + a1).toNatClampNeg)) = 0) → vp_in (5 + a2) 10 ∧ (((wi w3 5 ((5 + a2).toNatClampNeg)) = 0 → Q (some (.int 5)) w3) ∧ (¬ ((wi w3 5 ((5 + a2).toNatClampNeg)) = 0) → vp_in a1 10 ∧ vp_in (5 + a2) 10 ∧ vp_in a2 10 ∧ vp_in (5 + a1) 10 ∧ (((lg_cmp ((((wi w3 5 a1.toNatClampNeg).toInt64) * ((wi w3 5 ((5 + a2).toNatClampNeg)).toInt64)) - (((wi w3 5 a2.toNatClampNeg).toInt64) * ((wi w3 5 ((5 + a1).toNatClampNeg)).toInt64))) 0) = 0 → Q (some (.int 5)) w3) ∧ (¬ ((lg_cmp ((((wi w3 5 a1.toNatClampNeg).toInt64) * ((wi w3 5 ((5 + a2).toNatClampNeg)).toInt64)) - (((wi w3 5 a2.toNatClampNeg).toInt64) * ((wi w3 5 ((5 + a1).toNatClampNeg)).toInt64))) 0) = 0) → Go SR mX11_seekBetween 120 [(0, .ref 0), (1, .int a1), (2, .int a2), (3, .long ((((wi w3 5 a1.toNatClampNeg).toInt64) * ((wi w3 5 ((5 + a2).toNatClampNeg)).toInt64)) - (((wi w3 5 a2.toNatClampNeg).toInt64) * ((wi w3 5 ((5 + a1).toNatClampNeg)).toInt64)))), (5, .int (if 0 ≤ (lg_cmp ((((wi w3 5 a1.toNatClampNeg).toInt64) * ((wi w3 5 ((5 + a2).toNatClampNeg)).toInt64)) - (((wi w3 5 a2.toNatClampNeg).toInt64) * ((wi w3 5 ((5 + a1).toNatClampNeg)).toInt64))) 0) then a2 else a1 : Int32)), (6, .int (if 0 ≤ (lg_cmp ((((wi w3 5 a1.toNatClampNeg).toInt64) * ((wi w3 5 ((5 + a2).toNatClampNeg)).toInt64)) - (((wi w3 5 a2.toNatClampNeg).toInt64) * ((wi w3 5 ((5 + a1).toNatClampNeg)).toInt64))) 0) then a1 else a2 : Int32)), (7, .int 1)] [] w3 Q))))))))))))))) : Cl SR mX11_seekBetween [.ref 0, .int a1, .int a2] w Q := by
  refine cl_of (by decide) (Nat.le_of_ble_eq_true rfl) ?_
  show Go SR mX11_seekBetween 0 [(0, .ref 0), (1, .int a1), (2, .int a2)] [] w Q
  refine g_aload_n (pc := 0) dX11_seekBetween_0 rfl 0 rfl ?_
  refine g_iload_n (pc := 1) dX11_seekBetween_1 rfl 1 rfl ?_
  refine g_callV (pc := 2) (M' := mX11_isDance) (n := 1) (a := 0) (as := [.int a1]) (st := []) dX11_seekBetween_2 rfl kX11_239 vX11_isDance (Nat.le_of_ble_eq_true rfl) rfl qX11 rfl rfl (Nat.le_of_ble_eq_true rfl) ?_
  refine cl_mono (fun r w1 hr => ?_) h
  obtain ⟨x2, rfl, hw1, h⟩ := hr
  show Go SR mX11_seekBetween 5 [(0, .ref 0), (1, .int a1), (2, .int a2)] [.int x2] w1 Q
  refine g_if_eq (pc := 5) (tgt := 21) dX11_seekBetween_5 (by decide) (fun q => ?_) (fun q => ?_)
  · have h := h.1 q
    refine g_iconst (pc := 21) dX11_seekBetween_21 c_1 ?_
    exact g_iret (pc := 22) dX11_seekBetween_22 rfl h
  · have h := h.2 q
    refine g_aload_n (pc := 8) dX11_seekBetween_8 rfl 0 rfl ?_
    refine g_iload_n (pc := 9) dX11_seekBetween_9 rfl 2 rfl ?_
    refine g_callV (pc := 10) (M' := mX11_isDance) (n := 1) (a := 0) (as := [.int a2]) (st := []) dX11_seekBetween_10 rfl kX11_239 vX11_isDance (Nat.le_of_ble_eq_true rfl) rfl qX11 rfl rfl (Nat.le_of_ble_eq_true rfl) ?_
    refine cl_mono (fun r w3 hr => ?_) h
    obtain ⟨x4, rfl, hw3, h⟩ := hr
    show Go SR mX11_seekBetween 13 [(0, .ref 0), (1, .int a1), (2, .int a2)] [.int x4] w3 Q
    refine g_if_eq (pc := 13) (tgt := 21) dX11_seekBetween_13 (by decide) (fun q => ?_) (fun q => ?_)
    · have h := h.1 q
      refine g_iconst (pc := 21) dX11_seekBetween_21 c_1 ?_
      exact g_iret (pc := 22) dX11_seekBetween_22 rfl h
    · have h := h.2 q
      refine g_iload_n (pc := 16) dX11_seekBetween_16 rfl 1 rfl ?_
      refine g_iload_n (pc := 17) dX11_seekBetween_17 rfl 2 rfl ?_
      refine g_icmp_ne (pc := 18) (tgt := 23) dX11_seekBetween_18 (by decide) (fun q => ?_) (fun q => ?_)
      · have h := h.2 q
        refine g_aload_n (pc := 23) dX11_seekBetween_23 rfl 0 rfl ?_
        refine g_getR (pc := 24) (a := 0) (b := 5) dX11_seekBetween_24 rfl fX11_26 rfl (rm_18 hw3) ?_
        refine g_iconst (pc := 27) dX11_seekBetween_27 c_5 ?_
        refine g_iload_n (pc := 28) dX11_seekBetween_28 rfl 1 rfl ?_
        refine g_iadd (pc := 29) dX11_seekBetween_29 ?_
        obtain ⟨hi5, h⟩ := h
        refine g_iald (pc := 30) (a := 5) (j := (5 + a1).toNatClampNeg) dX11_seekBetween_30 rfl hi5 rfl ?_
        refine g_if_eq (pc := 31) (tgt := 45) dX11_seekBetween_31 (by decide) (fun q => ?_) (fun q => ?_)
        · have h := h.1 q
          refine g_iconst (pc := 45) dX11_seekBetween_45 c_5 ?_
          exact g_iret (pc := 46) dX11_seekBetween_46 rfl h
        · have h := h.2 q
          refine g_aload_n (pc := 34) dX11_seekBetween_34 rfl 0 rfl ?_
          refine g_getR (pc := 35) (a := 0) (b := 5) dX11_seekBetween_35 rfl fX11_26 rfl (rm_18 hw3) ?_
          refine g_iconst (pc := 38) dX11_seekBetween_38 c_5 ?_
          refine g_iload_n (pc := 39) dX11_seekBetween_39 rfl 2 rfl ?_
          refine g_iadd (pc := 40) dX11_seekBetween_40 ?_
          obtain ⟨hi6, h⟩ := h
          refine g_iald (pc := 41) (a := 5) (j := (5 + a2).toNatClampNeg) dX11_seekBetween_41 rfl hi6 rfl ?_
          refine g_if_ne (pc := 42) (tgt := 47) dX11_seekBetween_42 (by decide) (fun q => ?_) (fun q => ?_)
          · have h := h.2 q
            refine g_aload_n (pc := 47) dX11_seekBetween_47 rfl 0 rfl ?_
            refine g_getR (pc := 48) (a := 0) (b := 5) dX11_seekBetween_48 rfl fX11_26 rfl (rm_18 hw3) ?_
            refine g_iload_n (pc := 51) dX11_seekBetween_51 rfl 1 rfl ?_
            obtain ⟨hi7, h⟩ := h
            refine g_iald (pc := 52) (a := 5) (j := a1.toNatClampNeg) dX11_seekBetween_52 rfl hi7 rfl ?_
            refine g_i2l (pc := 53) dX11_seekBetween_53 ?_
            refine g_aload_n (pc := 54) dX11_seekBetween_54 rfl 0 rfl ?_
            refine g_getR (pc := 55) (a := 0) (b := 5) dX11_seekBetween_55 rfl fX11_26 rfl (rm_18 hw3) ?_
            refine g_iconst (pc := 58) dX11_seekBetween_58 c_5 ?_
            refine g_iload_n (pc := 59) dX11_seekBetween_59 rfl 2 rfl ?_
            refine g_iadd (pc := 60) dX11_seekBetween_60 ?_
            obtain ⟨hi8, h⟩ := h
            refine g_iald (pc := 61) (a := 5) (j := (5 + a2).toNatClampNeg) dX11_seekBetween_61 rfl hi8 rfl ?_
            refine g_i2l (pc := 62) dX11_seekBetween_62 ?_
            refine g_lmul (pc := 63) dX11_seekBetween_63 ?_
            refine g_aload_n (pc := 64) dX11_seekBetween_64 rfl 0 rfl ?_
            refine g_getR (pc := 65) (a := 0) (b := 5) dX11_seekBetween_65 rfl fX11_26 rfl (rm_18 hw3) ?_
            refine g_iload_n (pc := 68) dX11_seekBetween_68 rfl 2 rfl ?_
            obtain ⟨hi9, h⟩ := h
            refine g_iald (pc := 69) (a := 5) (j := a2.toNatClampNeg) dX11_seekBetween_69 rfl hi9 rfl ?_
            refine g_i2l (pc := 70) dX11_seekBetween_70 ?_
            refine g_aload_n (pc := 71) dX11_seekBetween_71 rfl 0 rfl ?_
            refine g_getR (pc := 72) (a := 0) (b := 5) dX11_seekBetween_72 rfl fX11_26 rfl (rm_18 hw3) ?_
            refine g_iconst (pc := 75) dX11_seekBetween_75 c_5 ?_
            refine g_iload_n (pc := 76) dX11_seekBetween_76 rfl 1 rfl ?_
            refine g_iadd (pc := 77) dX11_seekBetween_77 ?_
            obtain ⟨hi10, h⟩ := h
            refine g_iald (pc := 78) (a := 5) (j := (5 + a1).toNatClampNeg) dX11_seekBetween_78 rfl hi10 rfl ?_
            refine g_i2l (pc := 79) dX11_seekBetween_79 ?_
            refine g_lmul (pc := 80) dX11_seekBetween_80 ?_
            refine g_lsub (pc := 81) dX11_seekBetween_81 ?_
            refine g_lstore_n (pc := 82) (lv2 := [(0, .ref 0), (1, .int a1), (2, .int a2), (3, .long ((((wi w3 5 a1.toNatClampNeg).toInt64) * ((wi w3 5 ((5 + a2).toNatClampNeg)).toInt64)) - (((wi w3 5 a2.toNatClampNeg).toInt64) * ((wi w3 5 ((5 + a1).toNatClampNeg)).toInt64))))]) dX11_seekBetween_82 rfl (Nat.le_of_ble_eq_true rfl) rfl ?_
            refine g_lload_n (pc := 83) dX11_seekBetween_83 rfl 3 rfl ?_
            refine g_lconst (pc := 84) (v := 0) dX11_seekBetween_84 (by decide) ?_
            refine g_lcmp (pc := 85) dX11_seekBetween_85 ?_
            refine g_if_ne (pc := 86) (tgt := 91) dX11_seekBetween_86 (by decide) (fun q => ?_) (fun q => ?_)
            · have h := h.2 q
              refine g_lload_n (pc := 91) dX11_seekBetween_91 rfl 3 rfl ?_
              refine g_lconst (pc := 92) (v := 0) dX11_seekBetween_92 (by decide) ?_
              refine g_lcmp (pc := 93) dX11_seekBetween_93 ?_
              have hJ : Go SR mX11_seekBetween 102 [(0, .ref 0), (1, .int a1), (2, .int a2), (3, .long ((((wi w3 5 a1.toNatClampNeg).toInt64) * ((wi w3 5 ((5 + a2).toNatClampNeg)).toInt64)) - (((wi w3 5 a2.toNatClampNeg).toInt64) * ((wi w3 5 ((5 + a1).toNatClampNeg)).toInt64))))] [.int (if 0 ≤ (lg_cmp ((((wi w3 5 a1.toNatClampNeg).toInt64) * ((wi w3 5 ((5 + a2).toNatClampNeg)).toInt64)) - (((wi w3 5 a2.toNatClampNeg).toInt64) * ((wi w3 5 ((5 + a1).toNatClampNeg)).toInt64))) 0) then a2 else a1 : Int32)] w3 Q := by
                refine g_istore (pc := 102) (lv2 := [(0, .ref 0), (1, .int a1), (2, .int a2), (3, .long ((((wi w3 5 a1.toNatClampNeg).toInt64) * ((wi w3 5 ((5 + a2).toNatClampNeg)).toInt64)) - (((wi w3 5 a2.toNatClampNeg).toInt64) * ((wi w3 5 ((5 + a1).toNatClampNeg)).toInt64)))), (5, .int (if 0 ≤ (lg_cmp ((((wi w3 5 a1.toNatClampNeg).toInt64) * ((wi w3 5 ((5 + a2).toNatClampNeg)).toInt64)) - (((wi w3 5 a2.toNatClampNeg).toInt64) * ((wi w3 5 ((5 + a1).toNatClampNeg)).toInt64))) 0) then a2 else a1 : Int32))]) dX11_seekBetween_102 (Nat.le_of_ble_eq_true rfl) rfl ?_
                refine g_lload_n (pc := 104) dX11_seekBetween_104 rfl 3 rfl ?_
                refine g_lconst (pc := 105) (v := 0) dX11_seekBetween_105 (by decide) ?_
                refine g_lcmp (pc := 106) dX11_seekBetween_106 ?_
                have hJ : Go SR mX11_seekBetween 115 [(0, .ref 0), (1, .int a1), (2, .int a2), (3, .long ((((wi w3 5 a1.toNatClampNeg).toInt64) * ((wi w3 5 ((5 + a2).toNatClampNeg)).toInt64)) - (((wi w3 5 a2.toNatClampNeg).toInt64) * ((wi w3 5 ((5 + a1).toNatClampNeg)).toInt64)))), (5, .int (if 0 ≤ (lg_cmp ((((wi w3 5 a1.toNatClampNeg).toInt64) * ((wi w3 5 ((5 + a2).toNatClampNeg)).toInt64)) - (((wi w3 5 a2.toNatClampNeg).toInt64) * ((wi w3 5 ((5 + a1).toNatClampNeg)).toInt64))) 0) then a2 else a1 : Int32))] [.int (if 0 ≤ (lg_cmp ((((wi w3 5 a1.toNatClampNeg).toInt64) * ((wi w3 5 ((5 + a2).toNatClampNeg)).toInt64)) - (((wi w3 5 a2.toNatClampNeg).toInt64) * ((wi w3 5 ((5 + a1).toNatClampNeg)).toInt64))) 0) then a1 else a2 : Int32)] w3 Q := by
                  refine g_istore (pc := 115) (lv2 := [(0, .ref 0), (1, .int a1), (2, .int a2), (3, .long ((((wi w3 5 a1.toNatClampNeg).toInt64) * ((wi w3 5 ((5 + a2).toNatClampNeg)).toInt64)) - (((wi w3 5 a2.toNatClampNeg).toInt64) * ((wi w3 5 ((5 + a1).toNatClampNeg)).toInt64)))), (5, .int (if 0 ≤ (lg_cmp ((((wi w3 5 a1.toNatClampNeg).toInt64) * ((wi w3 5 ((5 + a2).toNatClampNeg)).toInt64)) - (((wi w3 5 a2.toNatClampNeg).toInt64) * ((wi w3 5 ((5 + a1).toNatClampNeg)).toInt64))) 0) then a2 else a1 : Int32)), (6, .int (if 0 ≤ (lg_cmp ((((wi w3 5 a1.toNatClampNeg).toInt64) * ((wi w3 5 ((5 + a2).toNatClampNeg)).toInt64)) - (((wi w3 5 a2.toNatClampNeg).toInt64) * ((wi w3 5 ((5 + a1).toNatClampNeg)).toInt64))) 0) then a1 else a2 : Int32))]) dX11_seekBetween_115 (Nat.le_of_ble_eq_true rfl) rfl ?_
                  refine g_iconst (pc := 117) dX11_seekBetween_117 c_1 ?_
                  refine g_istore (pc := 118) (lv2 := [(0, .ref 0), (1, .int a1), (2, .int a2), (3, .long ((((wi w3 5 a1.toNatClampNeg).toInt64) * ((wi w3 5 ((5 + a2).toNatClampNeg)).toInt64)) - (((wi w3 5 a2.toNatClampNeg).toInt64) * ((wi w3 5 ((5 + a1).toNatClampNeg)).toInt64)))), (5, .int (if 0 ≤ (lg_cmp ((((wi w3 5 a1.toNatClampNeg).toInt64) * ((wi w3 5 ((5 + a2).toNatClampNeg)).toInt64)) - (((wi w3 5 a2.toNatClampNeg).toInt64) * ((wi w3 5 ((5 + a1).toNatClampNeg)).toInt64))) 0) then a2 else a1 : Int32)), (6, .int (if 0 ≤ (lg_cmp ((((wi w3 5 a1.toNatClampNeg).toInt64) * ((wi w3 5 ((5 + a2).toNatClampNeg)).toInt64)) - (((wi w3 5 a2.toNatClampNeg).toInt64) * ((wi w3 5 ((5 + a1).toNatClampNeg)).toInt64))) 0) then a1 else a2 : Int32)), (7, .int 1)]) dX11_seekBetween_118 (Nat.le_of_ble_eq_true rfl) rfl ?_
                  exact h
                refine g_if_ge (pc := 107) (tgt := 114) dX11_seekBetween_107 (by decide) (fun q107 => ?_) (fun q107 => ?_)
                · refine g_iload_n (pc := 114) dX11_seekBetween_114 rfl 1 rfl ?_
                  first | (exfalso; contradiction) | exact cast (by simp only [if_pos q107]) hJ
                · refine g_iload_n (pc := 110) dX11_seekBetween_110 rfl 2 rfl ?_
                  refine g_goto (pc := 111) (tgt := 115) dX11_seekBetween_111 (by decide) ?_
                  first | (exfalso; contradiction) | exact cast (by simp only [if_neg q107]) hJ
              refine g_if_ge (pc := 94) (tgt := 101) dX11_seekBetween_94 (by decide) (fun q94 => ?_) (fun q94 => ?_)
              · refine g_iload_n (pc := 101) dX11_seekBetween_101 rfl 2 rfl ?_
                first | (exfalso; contradiction) | exact cast (by simp only [if_pos q94]) hJ
              · refine g_iload_n (pc := 97) dX11_seekBetween_97 rfl 1 rfl ?_
                refine g_goto (pc := 98) (tgt := 102) dX11_seekBetween_98 (by decide) ?_
                first | (exfalso; contradiction) | exact cast (by simp only [if_neg q94]) hJ
            · have h := h.1 q
              refine g_iconst (pc := 89) dX11_seekBetween_89 c_5 ?_
              exact g_iret (pc := 90) dX11_seekBetween_90 rfl h
          · have h := h.1 q
            refine g_iconst (pc := 45) dX11_seekBetween_45 c_5 ?_
            exact g_iret (pc := 46) dX11_seekBetween_46 rfl h
      · have h := h.1 q
        refine g_iconst (pc := 21) dX11_seekBetween_21 c_1 ?_
        exact g_iret (pc := 22) dX11_seekBetween_22 rfl h
set_option maxHeartbeats 4000000 in
set_option maxRecDepth 100000 in
theorem BX11_seekBetween_120  (l1 : Int32) (l2 : Int32) (l3 : Int64) (l5 : Int32) (l6 : Int32) (l7 : Int32) (w : Wd) (hR : w.2.2 = RM) (Q : Option Value → Wd → Prop) (h : vp_in l5 10 ∧ vp_in (5 + l5) 10 ∧ ClI SR mX11_floorOf [.long (((wi w 5 l5.toNatClampNeg).toInt64) * l7.toInt64), .long ((wi w 5 ((5 + l5).toNatClampNeg)).toInt64)] w (fun x4 w3 => w3.2.2 = RM ∧ vp_in l6 10 ∧ vp_in (5 + l6) 10 ∧ ClI SR mX11_floorOf [.long ((-((wi w3 5 l6.toNatClampNeg).toInt64)) * l7.toInt64), .long ((wi w3 5 ((5 + l6).toNatClampNeg)).toInt64)] w3 (fun x8 w7 => w7.2.2 = RM ∧ ((((-x8) - 1) < (x4 + 1) → Go SR mX11_seekBetween 120 [(0, .ref 0), (1, .int l1), (2, .int l2), (3, .long l3), (5, .int l5), (6, .int l6), (7, .int (l7 + 1))] [] w7 Q) ∧ (¬ (((-x8) - 1) < (x4 + 1)) → Q (some (.int 0)) (si (si w7 0 36 (if (x4 + 1) ≤ 0 then (if 0 ≤ ((-x8) - 1) then 0 else (-x8) - 1 : Int32) else x4 + 1 : Int32)) 0 37 l7)))))) : Go SR mX11_seekBetween 120 [(0, .ref 0), (1, .int l1), (2, .int l2), (3, .long l3), (5, .int l5), (6, .int l6), (7, .int l7)] [] w Q := by
  refine g_aload_n (pc := 120) dX11_seekBetween_120 rfl 0 rfl ?_
  refine g_getR (pc := 121) (a := 0) (b := 5) dX11_seekBetween_121 rfl fX11_26 rfl (rm_18 hR) ?_
  refine g_iload (pc := 124) dX11_seekBetween_124 4 rfl ?_
  obtain ⟨hi1, h⟩ := h
  refine g_iald (pc := 126) (a := 5) (j := l5.toNatClampNeg) dX11_seekBetween_126 rfl hi1 rfl ?_
  refine g_i2l (pc := 127) dX11_seekBetween_127 ?_
  refine g_iload (pc := 128) dX11_seekBetween_128 6 rfl ?_
  refine g_i2l (pc := 130) dX11_seekBetween_130 ?_
  refine g_lmul (pc := 131) dX11_seekBetween_131 ?_
  refine g_aload_n (pc := 132) dX11_seekBetween_132 rfl 0 rfl ?_
  refine g_getR (pc := 133) (a := 0) (b := 5) dX11_seekBetween_133 rfl fX11_26 rfl (rm_18 hR) ?_
  refine g_iconst (pc := 136) dX11_seekBetween_136 c_5 ?_
  refine g_iload (pc := 137) dX11_seekBetween_137 4 rfl ?_
  refine g_iadd (pc := 139) dX11_seekBetween_139 ?_
  obtain ⟨hi2, h⟩ := h
  refine g_iald (pc := 140) (a := 5) (j := (5 + l5).toNatClampNeg) dX11_seekBetween_140 rfl hi2 rfl ?_
  refine g_i2l (pc := 141) dX11_seekBetween_141 ?_
  refine g_callS (pc := 142) (M' := mX11_floorOf) (n := 2) (as := [.long (((wi w 5 l5.toNatClampNeg).toInt64) * l7.toInt64), .long ((wi w 5 ((5 + l5).toNatClampNeg)).toInt64)]) (st := []) dX11_seekBetween_142 rfl kX11_308 sX11_floorOf (Nat.le_of_ble_eq_true rfl) rfl rfl (Nat.le_of_ble_eq_true rfl) ?_
  refine cl_mono (fun r w3 hr => ?_) h
  obtain ⟨x4, rfl, hw3, h⟩ := hr
  show Go SR mX11_seekBetween 145 [(0, .ref 0), (1, .int l1), (2, .int l2), (3, .long l3), (5, .int l5), (6, .int l6), (7, .int l7)] [.int x4] w3 Q
  refine g_iconst (pc := 145) dX11_seekBetween_145 c_1 ?_
  refine g_iadd (pc := 146) dX11_seekBetween_146 ?_
  refine g_istore (pc := 147) (lv2 := [(0, .ref 0), (1, .int l1), (2, .int l2), (3, .long l3), (5, .int l5), (6, .int l6), (7, .int l7), (8, .int (x4 + 1))]) dX11_seekBetween_147 (Nat.le_of_ble_eq_true rfl) rfl ?_
  refine g_aload_n (pc := 149) dX11_seekBetween_149 rfl 0 rfl ?_
  refine g_getR (pc := 150) (a := 0) (b := 5) dX11_seekBetween_150 rfl fX11_26 rfl (rm_18 hw3) ?_
  refine g_iload (pc := 153) dX11_seekBetween_153 5 rfl ?_
  obtain ⟨hi5, h⟩ := h
  refine g_iald (pc := 155) (a := 5) (j := l6.toNatClampNeg) dX11_seekBetween_155 rfl hi5 rfl ?_
  refine g_i2l (pc := 156) dX11_seekBetween_156 ?_
  refine g_lneg (pc := 157) dX11_seekBetween_157 ?_
  refine g_iload (pc := 158) dX11_seekBetween_158 6 rfl ?_
  refine g_i2l (pc := 160) dX11_seekBetween_160 ?_
  refine g_lmul (pc := 161) dX11_seekBetween_161 ?_
  refine g_aload_n (pc := 162) dX11_seekBetween_162 rfl 0 rfl ?_
  refine g_getR (pc := 163) (a := 0) (b := 5) dX11_seekBetween_163 rfl fX11_26 rfl (rm_18 hw3) ?_
  refine g_iconst (pc := 166) dX11_seekBetween_166 c_5 ?_
  refine g_iload (pc := 167) dX11_seekBetween_167 5 rfl ?_
  refine g_iadd (pc := 169) dX11_seekBetween_169 ?_
  obtain ⟨hi6, h⟩ := h
  refine g_iald (pc := 170) (a := 5) (j := (5 + l6).toNatClampNeg) dX11_seekBetween_170 rfl hi6 rfl ?_
  refine g_i2l (pc := 171) dX11_seekBetween_171 ?_
  refine g_callS (pc := 172) (M' := mX11_floorOf) (n := 2) (as := [.long ((-((wi w3 5 l6.toNatClampNeg).toInt64)) * l7.toInt64), .long ((wi w3 5 ((5 + l6).toNatClampNeg)).toInt64)]) (st := []) dX11_seekBetween_172 rfl kX11_308 sX11_floorOf (Nat.le_of_ble_eq_true rfl) rfl rfl (Nat.le_of_ble_eq_true rfl) ?_
  refine cl_mono (fun r w7 hr => ?_) h
  obtain ⟨x8, rfl, hw7, h⟩ := hr
  show Go SR mX11_seekBetween 175 [(0, .ref 0), (1, .int l1), (2, .int l2), (3, .long l3), (5, .int l5), (6, .int l6), (7, .int l7), (8, .int (x4 + 1))] [.int x8] w7 Q
  refine g_ineg (pc := 175) dX11_seekBetween_175 ?_
  refine g_iconst (pc := 176) dX11_seekBetween_176 c_1 ?_
  refine g_isub (pc := 177) dX11_seekBetween_177 ?_
  refine g_istore (pc := 178) (lv2 := [(0, .ref 0), (1, .int l1), (2, .int l2), (3, .long l3), (5, .int l5), (6, .int l6), (7, .int l7), (8, .int (x4 + 1)), (9, .int ((-x8) - 1))]) dX11_seekBetween_178 (Nat.le_of_ble_eq_true rfl) rfl ?_
  refine g_iload (pc := 180) dX11_seekBetween_180 7 rfl ?_
  refine g_iload (pc := 182) dX11_seekBetween_182 8 rfl ?_
  refine g_icmp_gt (pc := 184) (tgt := 220) dX11_seekBetween_184 (by decide) (fun q => ?_) (fun q => ?_)
  · have h := h.1 q
    refine g_iinc (pc := 220) (v := l7 + 1) (lv2 := [(0, .ref 0), (1, .int l1), (2, .int l2), (3, .long l3), (5, .int l5), (6, .int l6), (7, .int (l7 + 1)), (8, .int (x4 + 1)), (9, .int ((-x8) - 1))]) dX11_seekBetween_220 6 rfl (Nat.le_of_ble_eq_true rfl) rfl rfl ?_
    refine g_goto (pc := 223) (tgt := 120) dX11_seekBetween_223 (by decide) ?_
    refine g_sub (lv2 := [(0, .ref 0), (1, .int l1), (2, .int l2), (3, .long l3), (5, .int l5), (6, .int l6), (7, .int (l7 + 1))]) [0, 1, 2, 3, 4, 5, 6] rfl ?_
    exact h
  · have h := h.2 q
    refine g_aload_n (pc := 187) dX11_seekBetween_187 rfl 0 rfl ?_
    refine g_iload (pc := 188) dX11_seekBetween_188 7 rfl ?_
    have hJ : Go SR mX11_seekBetween 209 [(0, .ref 0), (1, .int l1), (2, .int l2), (3, .long l3), (5, .int l5), (6, .int l6), (7, .int l7), (8, .int (x4 + 1)), (9, .int ((-x8) - 1))] [.int (if (x4 + 1) ≤ 0 then (if 0 ≤ ((-x8) - 1) then 0 else (-x8) - 1 : Int32) else x4 + 1 : Int32), .ref 0] w7 Q := by
      refine g_putI (pc := 209) dX11_seekBetween_209 rfl fX11_312 pX11_36 rfl ?_
      refine g_aload_n (pc := 212) dX11_seekBetween_212 rfl 0 rfl ?_
      refine g_iload (pc := 213) dX11_seekBetween_213 6 rfl ?_
      refine g_putI (pc := 215) dX11_seekBetween_215 rfl fX11_315 pX11_37 rfl ?_
      refine g_iconst (pc := 218) dX11_seekBetween_218 c_0 ?_
      exact g_iret (pc := 219) dX11_seekBetween_219 rfl h
    refine g_if_le (pc := 190) (tgt := 198) dX11_seekBetween_190 (by decide) (fun q190 => ?_) (fun q190 => ?_)
    · refine g_iload (pc := 198) dX11_seekBetween_198 8 rfl ?_
      refine g_if_ge (pc := 200) (tgt := 208) dX11_seekBetween_200 (by decide) (fun q200 => ?_) (fun q200 => ?_)
      · refine g_iconst (pc := 208) dX11_seekBetween_208 c_0 ?_
        first | (exfalso; contradiction) | exact cast (by simp only [if_pos q190, if_pos q200]) hJ
      · refine g_iload (pc := 203) dX11_seekBetween_203 8 rfl ?_
        refine g_goto (pc := 205) (tgt := 209) dX11_seekBetween_205 (by decide) ?_
        first | (exfalso; contradiction) | exact cast (by simp only [if_pos q190, if_neg q200]) hJ
    · refine g_iload (pc := 193) dX11_seekBetween_193 7 rfl ?_
      refine g_goto (pc := 195) (tgt := 209) dX11_seekBetween_195 (by decide) ?_
      first | (exfalso; contradiction) | exact cast (by simp only [if_neg q190]) hJ
