set_option maxHeartbeats 4000000 in
set_option maxRecDepth 100000 in
theorem TX8_takeWhole  (w : Wd) (b : Bool) (hR : w.2.2 = RTab b) (Q : Option Value → Wd → Prop) (h : Go SC mX8_takeWhole 5 [(0, .ref 1)] [] (si w 1 7 0) Q) : Cl SC mX8_takeWhole [.ref 1] w Q := by
  refine cl_of (by decide) (Nat.le_of_ble_eq_true rfl) ?_
  show Go SC mX8_takeWhole 0 [(0, .ref 1)] [] w Q
  refine g_aload_n (pc := 0) dX8_takeWhole_0 rfl 0 rfl ?_
  refine g_iconst (pc := 1) dX8_takeWhole_1 c_0 ?_
  refine g_putI (pc := 2) dX8_takeWhole_2 rfl fX8_91 pX8_7 rfl ?_
  exact h
set_option maxHeartbeats 4000000 in
set_option maxRecDepth 100000 in
theorem BX8_takeWhole_5   (w : Wd) (b : Bool) (hR : w.2.2 = RTab b) (Q : Option Value → Wd → Prop) (h : (((wi w 1 2) ≤ (wi w 1 3) → Q none (si (si w 1 6 ((wi w 1 3) - (wi w 1 5))) 1 4 (if 3 < (wi (si w 1 6 ((wi w 1 3) - (wi w 1 5))) 1 6) then 4 else 2 : Int32))) ∧ (¬ ((wi w 1 2) ≤ (wi w 1 3)) → (((vXX8_isDigit (gf w 2 600 (wi w 1 3))) = 0 → Q none (si (si w 1 6 ((wi w 1 3) - (wi w 1 5))) 1 4 (if 3 < (wi (si w 1 6 ((wi w 1 3) - (wi w 1 5))) 1 6) then 4 else 2 : Int32))) ∧ (¬ ((vXX8_isDigit (gf w 2 600 (wi w 1 3))) = 0) → Go SC mX8_takeWhole 5 [(0, .ref 1)] [] (si (si w 1 7 ((((wi w 1 7) * 10) + (gf w 2 600 (wi w 1 3))) - 48)) 1 3 ((wi (si w 1 7 ((((wi w 1 7) * 10) + (gf w 2 600 (wi w 1 3))) - 48)) 1 3) + 1)) Q))))) : Go SC mX8_takeWhole 5 [(0, .ref 1)] [] w Q := by
  refine g_aload_n (pc := 5) dX8_takeWhole_5 rfl 0 rfl ?_
  refine g_getI (pc := 6) (a := 1) dX8_takeWhole_6 rfl fX8_26 rfl ?_
  refine g_aload_n (pc := 9) dX8_takeWhole_9 rfl 0 rfl ?_
  refine g_getI (pc := 10) (a := 1) dX8_takeWhole_10 rfl fX8_23 rfl ?_
  refine g_icmp_ge (pc := 13) (tgt := 72) dX8_takeWhole_13 (by decide) (fun q => ?_) (fun q => ?_)
  · have h := h.1 q
    refine g_aload_n (pc := 72) dX8_takeWhole_72 rfl 0 rfl ?_
    refine g_aload_n (pc := 73) dX8_takeWhole_73 rfl 0 rfl ?_
    refine g_getI (pc := 74) (a := 1) dX8_takeWhole_74 rfl fX8_26 rfl ?_
    refine g_aload_n (pc := 77) dX8_takeWhole_77 rfl 0 rfl ?_
    refine g_getI (pc := 78) (a := 1) dX8_takeWhole_78 rfl fX8_108 rfl ?_
    refine g_isub (pc := 81) dX8_takeWhole_81 ?_
    refine g_putI (pc := 82) dX8_takeWhole_82 rfl fX8_116 pX8_6 rfl ?_
    refine g_aload_n (pc := 85) dX8_takeWhole_85 rfl 0 rfl ?_
    refine g_aload_n (pc := 86) dX8_takeWhole_86 rfl 0 rfl ?_
    refine g_getI (pc := 87) (a := 1) dX8_takeWhole_87 rfl fX8_116 rfl ?_
    refine g_iconst (pc := 90) dX8_takeWhole_90 c_3 ?_
    have hJ : Go SC mX8_takeWhole 99 [(0, .ref 1)] [.int (if 3 < (wi (si w 1 6 ((wi w 1 3) - (wi w 1 5))) 1 6) then 4 else 2 : Int32), .ref 1] (si w 1 6 ((wi w 1 3) - (wi w 1 5))) Q := by
      refine g_putI (pc := 99) dX8_takeWhole_99 rfl fX8_52 pX8_4 rfl ?_
      exact g_vret (pc := 102) dX8_takeWhole_102 rfl h
    refine g_icmp_gt (pc := 91) (tgt := 98) dX8_takeWhole_91 (by decide) (fun q91 => ?_) (fun q91 => ?_)
    · refine g_iconst (pc := 98) dX8_takeWhole_98 c_4 ?_
      first | (exfalso; contradiction) | exact cast (by simp only [if_pos q91]) hJ
    · refine g_iconst (pc := 94) dX8_takeWhole_94 c_2 ?_
      refine g_goto (pc := 95) (tgt := 99) dX8_takeWhole_95 (by decide) ?_
      first | (exfalso; contradiction) | exact cast (by simp only [if_neg q91]) hJ
  · have h := h.2 q
    refine g_aload_n (pc := 16) dX8_takeWhole_16 rfl 0 rfl ?_
    refine g_getR (pc := 17) (a := 1) (b := 2) dX8_takeWhole_17 rfl fX8_11 rfl (rc_1_0 hR) ?_
    refine g_aload_n (pc := 20) dX8_takeWhole_20 rfl 0 rfl ?_
    refine g_getI (pc := 21) (a := 1) dX8_takeWhole_21 rfl fX8_26 rfl ?_
    refine g_callS (pc := 24) (M' := mX10_at) (n := 2) (as := [.ref 2, .int (wi w 1 3)]) (st := []) dX8_takeWhole_24 rfl kX8_127 sX10_at (Nat.le_of_ble_eq_true rfl) rfl rfl (Nat.le_of_ble_eq_true rfl) ?_
    refine h_at (a := 2) (n := 600) (i := wi w 1 3) (w := w) rfl (Nat.le_of_ble_eq_true rfl) ?_
    show Go SC mX8_takeWhole 27 [(0, .ref 1)] [.int (gf w 2 600 (wi w 1 3))] w Q
    refine g_callS (pc := 27) (M' := mX8_isDigit) (n := 1) (as := [.int (gf w 2 600 (wi w 1 3))]) (st := []) dX8_takeWhole_27 rfl kX8_196 sX8_isDigit (Nat.le_of_ble_eq_true rfl) rfl rfl (Nat.le_of_ble_eq_true rfl) ?_
    refine zX8_isDigit (a1 := (gf w 2 600 (wi w 1 3))) (w := w) (b := b) (hR := hR) ?_
    show Go SC mX8_takeWhole 30 [(0, .ref 1)] [.int (vXX8_isDigit (gf w 2 600 (wi w 1 3)))] w Q
    refine g_if_eq (pc := 30) (tgt := 72) dX8_takeWhole_30 (by decide) (fun q => ?_) (fun q => ?_)
    · have h := h.1 q
      refine g_aload_n (pc := 72) dX8_takeWhole_72 rfl 0 rfl ?_
      refine g_aload_n (pc := 73) dX8_takeWhole_73 rfl 0 rfl ?_
      refine g_getI (pc := 74) (a := 1) dX8_takeWhole_74 rfl fX8_26 rfl ?_
      refine g_aload_n (pc := 77) dX8_takeWhole_77 rfl 0 rfl ?_
      refine g_getI (pc := 78) (a := 1) dX8_takeWhole_78 rfl fX8_108 rfl ?_
      refine g_isub (pc := 81) dX8_takeWhole_81 ?_
      refine g_putI (pc := 82) dX8_takeWhole_82 rfl fX8_116 pX8_6 rfl ?_
      refine g_aload_n (pc := 85) dX8_takeWhole_85 rfl 0 rfl ?_
      refine g_aload_n (pc := 86) dX8_takeWhole_86 rfl 0 rfl ?_
      refine g_getI (pc := 87) (a := 1) dX8_takeWhole_87 rfl fX8_116 rfl ?_
      refine g_iconst (pc := 90) dX8_takeWhole_90 c_3 ?_
      have hJ : Go SC mX8_takeWhole 99 [(0, .ref 1)] [.int (if 3 < (wi (si w 1 6 ((wi w 1 3) - (wi w 1 5))) 1 6) then 4 else 2 : Int32), .ref 1] (si w 1 6 ((wi w 1 3) - (wi w 1 5))) Q := by
        refine g_putI (pc := 99) dX8_takeWhole_99 rfl fX8_52 pX8_4 rfl ?_
        exact g_vret (pc := 102) dX8_takeWhole_102 rfl h
      refine g_icmp_gt (pc := 91) (tgt := 98) dX8_takeWhole_91 (by decide) (fun q91 => ?_) (fun q91 => ?_)
      · refine g_iconst (pc := 98) dX8_takeWhole_98 c_4 ?_
        first | (exfalso; contradiction) | exact cast (by simp only [if_pos q91]) hJ
      · refine g_iconst (pc := 94) dX8_takeWhole_94 c_2 ?_
        refine g_goto (pc := 95) (tgt := 99) dX8_takeWhole_95 (by decide) ?_
        first | (exfalso; contradiction) | exact cast (by simp only [if_neg q91]) hJ
    · have h := h.2 q
      refine g_aload_n (pc := 33) dX8_takeWhole_33 rfl 0 rfl ?_
      refine g_aload_n (pc := 34) dX8_takeWhole_34 rfl 0 rfl ?_
      refine g_getI (pc := 35) (a := 1) dX8_takeWhole_35 rfl fX8_91 rfl ?_
      refine g_bipush (pc := 38) (v := 10) dX8_takeWhole_38 (by decide) ?_
      refine g_imul (pc := 40) dX8_takeWhole_40 ?_
      refine g_aload_n (pc := 41) dX8_takeWhole_41 rfl 0 rfl ?_
      refine g_getR (pc := 42) (a := 1) (b := 2) dX8_takeWhole_42 rfl fX8_11 rfl (rc_1_0 hR) ?_
      refine g_aload_n (pc := 45) dX8_takeWhole_45 rfl 0 rfl ?_
      refine g_getI (pc := 46) (a := 1) dX8_takeWhole_46 rfl fX8_26 rfl ?_
      refine g_callS (pc := 49) (M' := mX10_at) (n := 2) (as := [.ref 2, .int (wi w 1 3)]) (st := [.int ((wi w 1 7) * 10), .ref 1]) dX8_takeWhole_49 rfl kX8_127 sX10_at (Nat.le_of_ble_eq_true rfl) rfl rfl (Nat.le_of_ble_eq_true rfl) ?_
      refine h_at (a := 2) (n := 600) (i := wi w 1 3) (w := w) rfl (Nat.le_of_ble_eq_true rfl) ?_
      show Go SC mX8_takeWhole 52 [(0, .ref 1)] [.int (gf w 2 600 (wi w 1 3)), .int ((wi w 1 7) * 10), .ref 1] w Q
      refine g_iadd (pc := 52) dX8_takeWhole_52 ?_
      refine g_bipush (pc := 53) (v := 48) dX8_takeWhole_53 (by decide) ?_
      refine g_isub (pc := 55) dX8_takeWhole_55 ?_
      refine g_putI (pc := 56) dX8_takeWhole_56 rfl fX8_91 pX8_7 rfl ?_
      refine g_aload_n (pc := 59) dX8_takeWhole_59 rfl 0 rfl ?_
      refine g_dup (pc := 60) dX8_takeWhole_60 rfl ?_
      refine g_getI (pc := 61) (a := 1) dX8_takeWhole_61 rfl fX8_26 rfl ?_
      refine g_iconst (pc := 64) dX8_takeWhole_64 c_1 ?_
      refine g_iadd (pc := 65) dX8_takeWhole_65 ?_
      refine g_putI (pc := 66) dX8_takeWhole_66 rfl fX8_26 pX8_3 rfl ?_
      refine g_goto (pc := 69) (tgt := 5) dX8_takeWhole_69 (by decide) ?_
      exact h
set_option maxHeartbeats 4000000 in
set_option maxRecDepth 100000 in
theorem TX8_takeWord  (w : Wd) (b : Bool) (hR : w.2.2 = RTab b) (Q : Option Value → Wd → Prop) (h : Go SC mX8_takeWord 0 [(0, .ref 1)] [] w Q) : Cl SC mX8_takeWord [.ref 1] w Q := by
  refine cl_of (by decide) (Nat.le_of_ble_eq_true rfl) ?_
  show Go SC mX8_takeWord 0 [(0, .ref 1)] [] w Q
  exact h
set_option maxHeartbeats 4000000 in
set_option maxRecDepth 100000 in
theorem BX8_takeWord_0   (w : Wd) (b : Bool) (hR : w.2.2 = RTab b) (Q : Option Value → Wd → Prop) (h : (((wi w 1 2) ≤ (wi w 1 3) → Q none (si (si w 1 6 ((wi w 1 3) - (wi w 1 5))) 1 4 (if 12 < (wi (si w 1 6 ((wi w 1 3) - (wi w 1 5))) 1 6) then 4 else 1 : Int32))) ∧ (¬ ((wi w 1 2) ≤ (wi w 1 3)) → (((vXX8_isLetter (gf w 2 600 (wi w 1 3))) = 0 → Q none (si (si w 1 6 ((wi w 1 3) - (wi w 1 5))) 1 4 (if 12 < (wi (si w 1 6 ((wi w 1 3) - (wi w 1 5))) 1 6) then 4 else 1 : Int32))) ∧ (¬ ((vXX8_isLetter (gf w 2 600 (wi w 1 3))) = 0) → Go SC mX8_takeWord 0 [(0, .ref 1)] [] (si w 1 3 ((wi w 1 3) + 1)) Q))))) : Go SC mX8_takeWord 0 [(0, .ref 1)] [] w Q := by
  refine g_aload_n (pc := 0) dX8_takeWord_0 rfl 0 rfl ?_
  refine g_getI (pc := 1) (a := 1) dX8_takeWord_1 rfl fX8_26 rfl ?_
  refine g_aload_n (pc := 4) dX8_takeWord_4 rfl 0 rfl ?_
  refine g_getI (pc := 5) (a := 1) dX8_takeWord_5 rfl fX8_23 rfl ?_
  refine g_icmp_ge (pc := 8) (tgt := 41) dX8_takeWord_8 (by decide) (fun q => ?_) (fun q => ?_)
  · have h := h.1 q
    refine g_aload_n (pc := 41) dX8_takeWord_41 rfl 0 rfl ?_
    refine g_aload_n (pc := 42) dX8_takeWord_42 rfl 0 rfl ?_
    refine g_getI (pc := 43) (a := 1) dX8_takeWord_43 rfl fX8_26 rfl ?_
    refine g_aload_n (pc := 46) dX8_takeWord_46 rfl 0 rfl ?_
    refine g_getI (pc := 47) (a := 1) dX8_takeWord_47 rfl fX8_108 rfl ?_
    refine g_isub (pc := 50) dX8_takeWord_50 ?_
    refine g_putI (pc := 51) dX8_takeWord_51 rfl fX8_116 pX8_6 rfl ?_
    refine g_aload_n (pc := 54) dX8_takeWord_54 rfl 0 rfl ?_
    refine g_aload_n (pc := 55) dX8_takeWord_55 rfl 0 rfl ?_
    refine g_getI (pc := 56) (a := 1) dX8_takeWord_56 rfl fX8_116 rfl ?_
    refine g_bipush (pc := 59) (v := 12) dX8_takeWord_59 (by decide) ?_
    have hJ : Go SC mX8_takeWord 69 [(0, .ref 1)] [.int (if 12 < (wi (si w 1 6 ((wi w 1 3) - (wi w 1 5))) 1 6) then 4 else 1 : Int32), .ref 1] (si w 1 6 ((wi w 1 3) - (wi w 1 5))) Q := by
      refine g_putI (pc := 69) dX8_takeWord_69 rfl fX8_52 pX8_4 rfl ?_
      exact g_vret (pc := 72) dX8_takeWord_72 rfl h
    refine g_icmp_gt (pc := 61) (tgt := 68) dX8_takeWord_61 (by decide) (fun q61 => ?_) (fun q61 => ?_)
    · refine g_iconst (pc := 68) dX8_takeWord_68 c_4 ?_
      first | (exfalso; contradiction) | exact cast (by simp only [if_pos q61]) hJ
    · refine g_iconst (pc := 64) dX8_takeWord_64 c_1 ?_
      refine g_goto (pc := 65) (tgt := 69) dX8_takeWord_65 (by decide) ?_
      first | (exfalso; contradiction) | exact cast (by simp only [if_neg q61]) hJ
  · have h := h.2 q
    refine g_aload_n (pc := 11) dX8_takeWord_11 rfl 0 rfl ?_
    refine g_getR (pc := 12) (a := 1) (b := 2) dX8_takeWord_12 rfl fX8_11 rfl (rc_1_0 hR) ?_
    refine g_aload_n (pc := 15) dX8_takeWord_15 rfl 0 rfl ?_
    refine g_getI (pc := 16) (a := 1) dX8_takeWord_16 rfl fX8_26 rfl ?_
    refine g_callS (pc := 19) (M' := mX10_at) (n := 2) (as := [.ref 2, .int (wi w 1 3)]) (st := []) dX8_takeWord_19 rfl kX8_127 sX10_at (Nat.le_of_ble_eq_true rfl) rfl rfl (Nat.le_of_ble_eq_true rfl) ?_
    refine h_at (a := 2) (n := 600) (i := wi w 1 3) (w := w) rfl (Nat.le_of_ble_eq_true rfl) ?_
    show Go SC mX8_takeWord 22 [(0, .ref 1)] [.int (gf w 2 600 (wi w 1 3))] w Q
    refine g_callS (pc := 22) (M' := mX8_isLetter) (n := 1) (as := [.int (gf w 2 600 (wi w 1 3))]) (st := []) dX8_takeWord_22 rfl kX8_190 sX8_isLetter (Nat.le_of_ble_eq_true rfl) rfl rfl (Nat.le_of_ble_eq_true rfl) ?_
    refine zX8_isLetter (a1 := (gf w 2 600 (wi w 1 3))) (w := w) (b := b) (hR := hR) ?_
    show Go SC mX8_takeWord 25 [(0, .ref 1)] [.int (vXX8_isLetter (gf w 2 600 (wi w 1 3)))] w Q
    refine g_if_eq (pc := 25) (tgt := 41) dX8_takeWord_25 (by decide) (fun q => ?_) (fun q => ?_)
    · have h := h.1 q
      refine g_aload_n (pc := 41) dX8_takeWord_41 rfl 0 rfl ?_
      refine g_aload_n (pc := 42) dX8_takeWord_42 rfl 0 rfl ?_
      refine g_getI (pc := 43) (a := 1) dX8_takeWord_43 rfl fX8_26 rfl ?_
      refine g_aload_n (pc := 46) dX8_takeWord_46 rfl 0 rfl ?_
      refine g_getI (pc := 47) (a := 1) dX8_takeWord_47 rfl fX8_108 rfl ?_
      refine g_isub (pc := 50) dX8_takeWord_50 ?_
      refine g_putI (pc := 51) dX8_takeWord_51 rfl fX8_116 pX8_6 rfl ?_
      refine g_aload_n (pc := 54) dX8_takeWord_54 rfl 0 rfl ?_
      refine g_aload_n (pc := 55) dX8_takeWord_55 rfl 0 rfl ?_
      refine g_getI (pc := 56) (a := 1) dX8_takeWord_56 rfl fX8_116 rfl ?_
      refine g_bipush (pc := 59) (v := 12) dX8_takeWord_59 (by decide) ?_
      have hJ : Go SC mX8_takeWord 69 [(0, .ref 1)] [.int (if 12 < (wi (si w 1 6 ((wi w 1 3) - (wi w 1 5))) 1 6) then 4 else 1 : Int32), .ref 1] (si w 1 6 ((wi w 1 3) - (wi w 1 5))) Q := by
        refine g_putI (pc := 69) dX8_takeWord_69 rfl fX8_52 pX8_4 rfl ?_
        exact g_vret (pc := 72) dX8_takeWord_72 rfl h
      refine g_icmp_gt (pc := 61) (tgt := 68) dX8_takeWord_61 (by decide) (fun q61 => ?_) (fun q61 => ?_)
      · refine g_iconst (pc := 68) dX8_takeWord_68 c_4 ?_
        first | (exfalso; contradiction) | exact cast (by simp only [if_pos q61]) hJ
      · refine g_iconst (pc := 64) dX8_takeWord_64 c_1 ?_
        refine g_goto (pc := 65) (tgt := 69) dX8_takeWord_65 (by decide) ?_
        first | (exfalso; contradiction) | exact cast (by simp only [if_neg q61]) hJ
    · have h := h.2 q
      refine g_aload_n (pc := 28) dX8_takeWord_28 rfl 0 rfl ?_
      refine g_dup (pc := 29) dX8_takeWord_29 rfl ?_
      refine g_getI (pc := 30) (a := 1) dX8_takeWord_30 rfl fX8_26 rfl ?_
      refine g_iconst (pc := 33) dX8_takeWord_33 c_1 ?_
      refine g_iadd (pc := 34) dX8_takeWord_34 ?_
      refine g_putI (pc := 35) dX8_takeWord_35 rfl fX8_26 pX8_3 rfl ?_
      refine g_goto (pc := 38) (tgt := 0) dX8_takeWord_38 (by decide) ?_
      exact h
set_option maxHeartbeats 4000000 in
set_option maxRecDepth 100000 in
theorem TX8_step  (w : Wd) (b : Bool) (hR : w.2.2 = RTab b) (Q : Option Value → Wd → Prop) (h : Go SC mX8_step 0 [(0, .ref 1)] [] w Q) : Cl SC mX8_step [.ref 1] w Q := by
  refine cl_of (by decide) (Nat.le_of_ble_eq_true rfl) ?_
  show Go SC mX8_step 0 [(0, .ref 1)] [] w Q
  exact h
set_option maxHeartbeats 4000000 in
set_option maxRecDepth 100000 in
theorem BX8_step_0   (w : Wd) (b : Bool) (hR : w.2.2 = RTab b) (Q : Option Value → Wd → Prop) (h : (((wi w 1 2) ≤ (wi w 1 3) → (((wi (si (si w 1 5 (wi w 1 3)) 1 6 0) 1 3) < (wi (si (si w 1 5 (wi w 1 3)) 1 6 0) 1 2) → (((gf (si (si w 1 5 (wi w 1 3)) 1 6 0) 2 600 (wi (si (si w 1 5 (wi w 1 3)) 1 6 0) 1 3)) = 59 → Q none (si (si (si (si w 1 5 (wi w 1 3)) 1 6 0) 1 4 3) 1 3 ((wi (si (si (si w 1 5 (wi w 1 3)) 1 6 0) 1 4 3) 1 3) + 1))) ∧ (¬ ((gf (si (si w 1 5 (wi w 1 3)) 1 6 0) 2 600 (wi (si (si w 1 5 (wi w 1 3)) 1 6 0) 1 3)) = 59) → (((vXX8_isLetter (gf (si (si w 1 5 (wi w 1 3)) 1 6 0) 2 600 (wi (si (si w 1 5 (wi w 1 3)) 1 6 0) 1 3))) = 0 → (((vXX8_isDigit (gf (si (si w 1 5 (wi w 1 3)) 1 6 0) 2 600 (wi (si (si w 1 5 (wi w 1 3)) 1 6 0) 1 3))) = 0 → Q none (si (si (si w 1 5 (wi w 1 3)) 1 6 0) 1 4 4)) ∧ (¬ ((vXX8_isDigit (gf (si (si w 1 5 (wi w 1 3)) 1 6 0) 2 600 (wi (si (si w 1 5 (wi w 1 3)) 1 6 0) 1 3))) = 0) → ClV SC mX8_takeWhole [.ref 1] (si (si w 1 5 (wi w 1 3)) 1 6 0) (fun w1 => w1.2.2 = RTab b ∧ Q none w1)))) ∧ (¬ ((vXX8_isLetter (gf (si (si w 1 5 (wi w 1 3)) 1 6 0) 2 600 (wi (si (si w 1 5 (wi w 1 3)) 1 6 0) 1 3))) = 0) → ClV SC mX8_takeWord [.ref 1] (si (si w 1 5 (wi w 1 3)) 1 6 0) (fun w2 => w2.2.2 = RTab b ∧ Q none w2)))))) ∧ (¬ ((wi (si (si w 1 5 (wi w 1 3)) 1 6 0) 1 3) < (wi (si (si w 1 5 (wi w 1 3)) 1 6 0) 1 2)) → Q none (si (si (si w 1 5 (wi w 1 3)) 1 6 0) 1 4 0)))) ∧ (¬ ((wi w 1 2) ≤ (wi w 1 3)) → (((gf w 2 600 (wi w 1 3)) = 32 → Go SC mX8_step 0 [(0, .ref 1)] [] (si w 1 3 ((wi w 1 3) + 1)) Q) ∧ (¬ ((gf w 2 600 (wi w 1 3)) = 32) → (((wi (si (si w 1 5 (wi w 1 3)) 1 6 0) 1 3) < (wi (si (si w 1 5 (wi w 1 3)) 1 6 0) 1 2) → (((gf (si (si w 1 5 (wi w 1 3)) 1 6 0) 2 600 (wi (si (si w 1 5 (wi w 1 3)) 1 6 0) 1 3)) = 59 → Q none (si (si (si (si w 1 5 (wi w 1 3)) 1 6 0) 1 4 3) 1 3 ((wi (si (si (si w 1 5 (wi w 1 3)) 1 6 0) 1 4 3) 1 3) + 1))) ∧ (¬ ((gf (si (si w 1 5 (wi w 1 3)) 1 6 0) 2 600 (wi (si (si w 1 5 (wi w 1 3)) 1 6 0) 1 3)) = 59) → (((vXX8_isLetter (gf (si (si w 1 5 (wi w 1 3)) 1 6 0) 2 600 (wi (si (si w 1 5 (wi w 1 3)) 1 6 0) 1 3))) = 0 → (((vXX8_isDigit (gf (si (si w 1 5 (wi w 1 3)) 1 6 0) 2 600 (wi (si (si w 1 5 (wi w 1 3)) 1 6 0) 1 3))) = 0 → Q none (si (si (si w 1 5 (wi w 1 3)) 1 6 0) 1 4 4)) ∧ (¬ ((vXX8_isDigit (gf (si (si w 1 5 (wi w 1 3)) 1 6 0) 2 600 (wi (si (si w 1 5 (wi w 1 3)) 1 6 0) 1 3))) = 0) → ClV SC mX8_takeWhole [.ref 1] (si (si w 1 5 (wi w 1 3)) 1 6 0) (fun w3 => w3.2.2 = RTab b ∧ Q none w3)))) ∧ (¬ ((vXX8_isLetter (gf (si (si w 1 5 (wi w 1 3)) 1 6 0) 2 600 (wi (si (si w 1 5 (wi w 1 3)) 1 6 0) 1 3))) = 0) → ClV SC mX8_takeWord [.ref 1] (si (si w 1 5 (wi w 1 3)) 1 6 0) (fun w4 => w4.2.2 = RTab b ∧ Q none w4)))))) ∧ (¬ ((wi (si (si w 1 5 (wi w 1 3)) 1 6 0) 1 3) < (wi (si (si w 1 5 (wi w 1 3)) 1 6 0) 1 2)) → Q none (si (si (si w 1 5 (wi w 1 3)) 1 6 0) 1 4 0)))))))) : Go SC mX8_step 0 [(0, .ref 1)] [] w Q := by
  refine g_aload_n (pc := 0) dX8_step_0 rfl 0 rfl ?_
  refine g_getI (pc := 1) (a := 1) dX8_step_1 rfl fX8_26 rfl ?_
  refine g_aload_n (pc := 4) dX8_step_4 rfl 0 rfl ?_
  refine g_getI (pc := 5) (a := 1) dX8_step_5 rfl fX8_23 rfl ?_
  refine g_icmp_ge (pc := 8) (tgt := 40) dX8_step_8 (by decide) (fun q => ?_) (fun q => ?_)
  · have h := h.1 q
    refine g_aload_n (pc := 40) dX8_step_40 rfl 0 rfl ?_
    refine g_aload_n (pc := 41) dX8_step_41 rfl 0 rfl ?_
    refine g_getI (pc := 42) (a := 1) dX8_step_42 rfl fX8_26 rfl ?_
    refine g_putI (pc := 45) dX8_step_45 rfl fX8_108 pX8_5 rfl ?_
    refine g_aload_n (pc := 48) dX8_step_48 rfl 0 rfl ?_
    refine g_iconst (pc := 49) dX8_step_49 c_0 ?_
    refine g_putI (pc := 50) dX8_step_50 rfl fX8_116 pX8_6 rfl ?_
    refine g_aload_n (pc := 53) dX8_step_53 rfl 0 rfl ?_
    refine g_getI (pc := 54) (a := 1) dX8_step_54 rfl fX8_26 rfl ?_
    refine g_aload_n (pc := 57) dX8_step_57 rfl 0 rfl ?_
    refine g_getI (pc := 58) (a := 1) dX8_step_58 rfl fX8_23 rfl ?_
    refine g_icmp_lt (pc := 61) (tgt := 72) dX8_step_61 (by decide) (fun q => ?_) (fun q => ?_)
    · have h := h.1 q
      refine g_aload_n (pc := 72) dX8_step_72 rfl 0 rfl ?_
      refine g_getR (pc := 73) (a := 1) (b := 2) dX8_step_73 rfl fX8_11 rfl (rc_1_0 hR) ?_
      refine g_aload_n (pc := 76) dX8_step_76 rfl 0 rfl ?_
      refine g_getI (pc := 77) (a := 1) dX8_step_77 rfl fX8_26 rfl ?_
      refine g_callS (pc := 80) (M' := mX10_at) (n := 2) (as := [.ref 2, .int (wi (si (si w 1 5 (wi w 1 3)) 1 6 0) 1 3)]) (st := []) dX8_step_80 rfl kX8_127 sX10_at (Nat.le_of_ble_eq_true rfl) rfl rfl (Nat.le_of_ble_eq_true rfl) ?_
      refine h_at (a := 2) (n := 600) (i := wi (si (si w 1 5 (wi w 1 3)) 1 6 0) 1 3) (w := si (si w 1 5 (wi w 1 3)) 1 6 0) rfl (Nat.le_of_ble_eq_true rfl) ?_
      show Go SC mX8_step 83 [(0, .ref 1)] [.int (gf (si (si w 1 5 (wi w 1 3)) 1 6 0) 2 600 (wi (si (si w 1 5 (wi w 1 3)) 1 6 0) 1 3))] (si (si w 1 5 (wi w 1 3)) 1 6 0) Q
      refine g_bipush (pc := 83) (v := 59) dX8_step_83 (by decide) ?_
      refine g_icmp_ne (pc := 85) (tgt := 106) dX8_step_85 (by decide) (fun q => ?_) (fun q => ?_)
      · have h := h.2 q
        refine g_aload_n (pc := 106) dX8_step_106 rfl 0 rfl ?_
        refine g_getR (pc := 107) (a := 1) (b := 2) dX8_step_107 rfl fX8_11 rfl (rc_1_0 hR) ?_
        refine g_aload_n (pc := 110) dX8_step_110 rfl 0 rfl ?_
        refine g_getI (pc := 111) (a := 1) dX8_step_111 rfl fX8_26 rfl ?_
        refine g_callS (pc := 114) (M' := mX10_at) (n := 2) (as := [.ref 2, .int (wi (si (si w 1 5 (wi w 1 3)) 1 6 0) 1 3)]) (st := []) dX8_step_114 rfl kX8_127 sX10_at (Nat.le_of_ble_eq_true rfl) rfl rfl (Nat.le_of_ble_eq_true rfl) ?_
        refine h_at (a := 2) (n := 600) (i := wi (si (si w 1 5 (wi w 1 3)) 1 6 0) 1 3) (w := si (si w 1 5 (wi w 1 3)) 1 6 0) rfl (Nat.le_of_ble_eq_true rfl) ?_
        show Go SC mX8_step 117 [(0, .ref 1)] [.int (gf (si (si w 1 5 (wi w 1 3)) 1 6 0) 2 600 (wi (si (si w 1 5 (wi w 1 3)) 1 6 0) 1 3))] (si (si w 1 5 (wi w 1 3)) 1 6 0) Q
        refine g_callS (pc := 117) (M' := mX8_isLetter) (n := 1) (as := [.int (gf (si (si w 1 5 (wi w 1 3)) 1 6 0) 2 600 (wi (si (si w 1 5 (wi w 1 3)) 1 6 0) 1 3))]) (st := []) dX8_step_117 rfl kX8_190 sX8_isLetter (Nat.le_of_ble_eq_true rfl) rfl rfl (Nat.le_of_ble_eq_true rfl) ?_
        refine zX8_isLetter (a1 := (gf (si (si w 1 5 (wi w 1 3)) 1 6 0) 2 600 (wi (si (si w 1 5 (wi w 1 3)) 1 6 0) 1 3))) (w := si (si w 1 5 (wi w 1 3)) 1 6 0) (b := b) (hR := hR) ?_
        show Go SC mX8_step 120 [(0, .ref 1)] [.int (vXX8_isLetter (gf (si (si w 1 5 (wi w 1 3)) 1 6 0) 2 600 (wi (si (si w 1 5 (wi w 1 3)) 1 6 0) 1 3)))] (si (si w 1 5 (wi w 1 3)) 1 6 0) Q
        refine g_if_eq (pc := 120) (tgt := 130) dX8_step_120 (by decide) (fun q => ?_) (fun q => ?_)
        · have h := h.1 q
          refine g_aload_n (pc := 130) dX8_step_130 rfl 0 rfl ?_
          refine g_getR (pc := 131) (a := 1) (b := 2) dX8_step_131 rfl fX8_11 rfl (rc_1_0 hR) ?_
          refine g_aload_n (pc := 134) dX8_step_134 rfl 0 rfl ?_
          refine g_getI (pc := 135) (a := 1) dX8_step_135 rfl fX8_26 rfl ?_
          refine g_callS (pc := 138) (M' := mX10_at) (n := 2) (as := [.ref 2, .int (wi (si (si w 1 5 (wi w 1 3)) 1 6 0) 1 3)]) (st := []) dX8_step_138 rfl kX8_127 sX10_at (Nat.le_of_ble_eq_true rfl) rfl rfl (Nat.le_of_ble_eq_true rfl) ?_
          refine h_at (a := 2) (n := 600) (i := wi (si (si w 1 5 (wi w 1 3)) 1 6 0) 1 3) (w := si (si w 1 5 (wi w 1 3)) 1 6 0) rfl (Nat.le_of_ble_eq_true rfl) ?_
          show Go SC mX8_step 141 [(0, .ref 1)] [.int (gf (si (si w 1 5 (wi w 1 3)) 1 6 0) 2 600 (wi (si (si w 1 5 (wi w 1 3)) 1 6 0) 1 3))] (si (si w 1 5 (wi w 1 3)) 1 6 0) Q
          refine g_callS (pc := 141) (M' := mX8_isDigit) (n := 1) (as := [.int (gf (si (si w 1 5 (wi w 1 3)) 1 6 0) 2 600 (wi (si (si w 1 5 (wi w 1 3)) 1 6 0) 1 3))]) (st := []) dX8_step_141 rfl kX8_196 sX8_isDigit (Nat.le_of_ble_eq_true rfl) rfl rfl (Nat.le_of_ble_eq_true rfl) ?_
          refine zX8_isDigit (a1 := (gf (si (si w 1 5 (wi w 1 3)) 1 6 0) 2 600 (wi (si (si w 1 5 (wi w 1 3)) 1 6 0) 1 3))) (w := si (si w 1 5 (wi w 1 3)) 1 6 0) (b := b) (hR := hR) ?_
          show Go SC mX8_step 144 [(0, .ref 1)] [.int (vXX8_isDigit (gf (si (si w 1 5 (wi w 1 3)) 1 6 0) 2 600 (wi (si (si w 1 5 (wi w 1 3)) 1 6 0) 1 3)))] (si (si w 1 5 (wi w 1 3)) 1 6 0) Q
          refine g_if_eq (pc := 144) (tgt := 154) dX8_step_144 (by decide) (fun q => ?_) (fun q => ?_)
          · have h := h.1 q
            refine g_aload_n (pc := 154) dX8_step_154 rfl 0 rfl ?_
            refine g_iconst (pc := 155) dX8_step_155 c_4 ?_
            refine g_putI (pc := 156) dX8_step_156 rfl fX8_52 pX8_4 rfl ?_
            exact g_vret (pc := 159) dX8_step_159 rfl h
          · have h := h.2 q
            refine g_aload_n (pc := 147) dX8_step_147 rfl 0 rfl ?_
            refine g_callV (pc := 148) (M' := mX8_takeWhole) (n := 0) (a := 1) (as := []) (st := []) dX8_step_148 rfl kX8_199 vX8_takeWhole (Nat.le_of_ble_eq_true rfl) rfl qX8 rfl rfl (Nat.le_of_ble_eq_true rfl) ?_
            refine cl_mono (fun r w1 hr => ?_) h
            obtain ⟨rfl, hw1, h⟩ := hr
            show Go SC mX8_step 151 [(0, .ref 1)] [] w1 Q
            refine g_goto (pc := 151) (tgt := 159) dX8_step_151 (by decide) ?_
            exact g_vret (pc := 159) dX8_step_159 rfl h
        · have h := h.2 q
          refine g_aload_n (pc := 123) dX8_step_123 rfl 0 rfl ?_
          refine g_callV (pc := 124) (M' := mX8_takeWord) (n := 0) (a := 1) (as := []) (st := []) dX8_step_124 rfl kX8_193 vX8_takeWord (Nat.le_of_ble_eq_true rfl) rfl qX8 rfl rfl (Nat.le_of_ble_eq_true rfl) ?_
          refine cl_mono (fun r w2 hr => ?_) h
          obtain ⟨rfl, hw2, h⟩ := hr
          show Go SC mX8_step 127 [(0, .ref 1)] [] w2 Q
          refine g_goto (pc := 127) (tgt := 159) dX8_step_127 (by decide) ?_
          exact g_vret (pc := 159) dX8_step_159 rfl h
      · have h := h.1 q
        refine g_aload_n (pc := 88) dX8_step_88 rfl 0 rfl ?_
        refine g_iconst (pc := 89) dX8_step_89 c_3 ?_
        refine g_putI (pc := 90) dX8_step_90 rfl fX8_52 pX8_4 rfl ?_
        refine g_aload_n (pc := 93) dX8_step_93 rfl 0 rfl ?_
        refine g_dup (pc := 94) dX8_step_94 rfl ?_
        refine g_getI (pc := 95) (a := 1) dX8_step_95 rfl fX8_26 rfl ?_
        refine g_iconst (pc := 98) dX8_step_98 c_1 ?_
        refine g_iadd (pc := 99) dX8_step_99 ?_
        refine g_putI (pc := 100) dX8_step_100 rfl fX8_26 pX8_3 rfl ?_
        refine g_goto (pc := 103) (tgt := 159) dX8_step_103 (by decide) ?_
        exact g_vret (pc := 159) dX8_step_159 rfl h
    · have h := h.2 q
      refine g_aload_n (pc := 64) dX8_step_64 rfl 0 rfl ?_
      refine g_iconst (pc := 65) dX8_step_65 c_0 ?_
      refine g_putI (pc := 66) dX8_step_66 rfl fX8_52 pX8_4 rfl ?_
      refine g_goto (pc := 69) (tgt := 159) dX8_step_69 (by decide) ?_
      exact g_vret (pc := 159) dX8_step_159 rfl h
  · have h := h.2 q
    refine g_aload_n (pc := 11) dX8_step_11 rfl 0 rfl ?_
    refine g_getR (pc := 12) (a := 1) (b := 2) dX8_step_12 rfl fX8_11 rfl (rc_1_0 hR) ?_
    refine g_aload_n (pc := 15) dX8_step_15 rfl 0 rfl ?_
    refine g_getI (pc := 16) (a := 1) dX8_step_16 rfl fX8_26 rfl ?_
    refine g_callS (pc := 19) (M' := mX10_at) (n := 2) (as := [.ref 2, .int (wi w 1 3)]) (st := []) dX8_step_19 rfl kX8_127 sX10_at (Nat.le_of_ble_eq_true rfl) rfl rfl (Nat.le_of_ble_eq_true rfl) ?_
    refine h_at (a := 2) (n := 600) (i := wi w 1 3) (w := w) rfl (Nat.le_of_ble_eq_true rfl) ?_
    show Go SC mX8_step 22 [(0, .ref 1)] [.int (gf w 2 600 (wi w 1 3))] w Q
    refine g_bipush (pc := 22) (v := 32) dX8_step_22 (by decide) ?_
    refine g_icmp_ne (pc := 24) (tgt := 40) dX8_step_24 (by decide) (fun q => ?_) (fun q => ?_)
    · have h := h.2 q
      refine g_aload_n (pc := 40) dX8_step_40 rfl 0 rfl ?_
      refine g_aload_n (pc := 41) dX8_step_41 rfl 0 rfl ?_
      refine g_getI (pc := 42) (a := 1) dX8_step_42 rfl fX8_26 rfl ?_
      refine g_putI (pc := 45) dX8_step_45 rfl fX8_108 pX8_5 rfl ?_
      refine g_aload_n (pc := 48) dX8_step_48 rfl 0 rfl ?_
      refine g_iconst (pc := 49) dX8_step_49 c_0 ?_
      refine g_putI (pc := 50) dX8_step_50 rfl fX8_116 pX8_6 rfl ?_
      refine g_aload_n (pc := 53) dX8_step_53 rfl 0 rfl ?_
      refine g_getI (pc := 54) (a := 1) dX8_step_54 rfl fX8_26 rfl ?_
      refine g_aload_n (pc := 57) dX8_step_57 rfl 0 rfl ?_
      refine g_getI (pc := 58) (a := 1) dX8_step_58 rfl fX8_23 rfl ?_
      refine g_icmp_lt (pc := 61) (tgt := 72) dX8_step_61 (by decide) (fun q => ?_) (fun q => ?_)
      · have h := h.1 q
        refine g_aload_n (pc := 72) dX8_step_72 rfl 0 rfl ?_
        refine g_getR (pc := 73) (a := 1) (b := 2) dX8_step_73 rfl fX8_11 rfl (rc_1_0 hR) ?_
        refine g_aload_n (pc := 76) dX8_step_76 rfl 0 rfl ?_
        refine g_getI (pc := 77) (a := 1) dX8_step_77 rfl fX8_26 rfl ?_
        refine g_callS (pc := 80) (M' := mX10_at) (n := 2) (as := [.ref 2, .int (wi (si (si w 1 5 (wi w 1 3)) 1 6 0) 1 3)]) (st := []) dX8_step_80 rfl kX8_127 sX10_at (Nat.le_of_ble_eq_true rfl) rfl rfl (Nat.le_of_ble_eq_true rfl) ?_
        refine h_at (a := 2) (n := 600) (i := wi (si (si w 1 5 (wi w 1 3)) 1 6 0) 1 3) (w := si (si w 1 5 (wi w 1 3)) 1 6 0) rfl (Nat.le_of_ble_eq_true rfl) ?_
        show Go SC mX8_step 83 [(0, .ref 1)] [.int (gf (si (si w 1 5 (wi w 1 3)) 1 6 0) 2 600 (wi (si (si w 1 5 (wi w 1 3)) 1 6 0) 1 3))] (si (si w 1 5 (wi w 1 3)) 1 6 0) Q
        refine g_bipush (pc := 83) (v := 59) dX8_step_83 (by decide) ?_
        refine g_icmp_ne (pc := 85) (tgt := 106) dX8_step_85 (by decide) (fun q => ?_) (fun q => ?_)
        · have h := h.2 q
          refine g_aload_n (pc := 106) dX8_step_106 rfl 0 rfl ?_
          refine g_getR (pc := 107) (a := 1) (b := 2) dX8_step_107 rfl fX8_11 rfl (rc_1_0 hR) ?_
          refine g_aload_n (pc := 110) dX8_step_110 rfl 0 rfl ?_
          refine g_getI (pc := 111) (a := 1) dX8_step_111 rfl fX8_26 rfl ?_
          refine g_callS (pc := 114) (M' := mX10_at) (n := 2) (as := [.ref 2, .int (wi (si (si w 1 5 (wi w 1 3)) 1 6 0) 1 3)]) (st := []) dX8_step_114 rfl kX8_127 sX10_at (Nat.le_of_ble_eq_true rfl) rfl rfl (Nat.le_of_ble_eq_true rfl) ?_
          refine h_at (a := 2) (n := 600) (i := wi (si (si w 1 5 (wi w 1 3)) 1 6 0) 1 3) (w := si (si w 1 5 (wi w 1 3)) 1 6 0) rfl (Nat.le_of_ble_eq_true rfl) ?_
          show Go SC mX8_step 117 [(0, .ref 1)] [.int (gf (si (si w 1 5 (wi w 1 3)) 1 6 0) 2 600 (wi (si (si w 1 5 (wi w 1 3)) 1 6 0) 1 3))] (si (si w 1 5 (wi w 1 3)) 1 6 0) Q
          refine g_callS (pc := 117) (M' := mX8_isLetter) (n := 1) (as := [.int (gf (si (si w 1 5 (wi w 1 3)) 1 6 0) 2 600 (wi (si (si w 1 5 (wi w 1 3)) 1 6 0) 1 3))]) (st := []) dX8_step_117 rfl kX8_190 sX8_isLetter (Nat.le_of_ble_eq_true rfl) rfl rfl (Nat.le_of_ble_eq_true rfl) ?_
          refine zX8_isLetter (a1 := (gf (si (si w 1 5 (wi w 1 3)) 1 6 0) 2 600 (wi (si (si w 1 5 (wi w 1 3)) 1 6 0) 1 3))) (w := si (si w 1 5 (wi w 1 3)) 1 6 0) (b := b) (hR := hR) ?_
          show Go SC mX8_step 120 [(0, .ref 1)] [.int (vXX8_isLetter (gf (si (si w 1 5 (wi w 1 3)) 1 6 0) 2 600 (wi (si (si w 1 5 (wi w 1 3)) 1 6 0) 1 3)))] (si (si w 1 5 (wi w 1 3)) 1 6 0) Q
          refine g_if_eq (pc := 120) (tgt := 130) dX8_step_120 (by decide) (fun q => ?_) (fun q => ?_)
          · have h := h.1 q
            refine g_aload_n (pc := 130) dX8_step_130 rfl 0 rfl ?_
            refine g_getR (pc := 131) (a := 1) (b := 2) dX8_step_131 rfl fX8_11 rfl (rc_1_0 hR) ?_
            refine g_aload_n (pc := 134) dX8_step_134 rfl 0 rfl ?_
            refine g_getI (pc := 135) (a := 1) dX8_step_135 rfl fX8_26 rfl ?_
            refine g_callS (pc := 138) (M' := mX10_at) (n := 2) (as := [.ref 2, .int (wi (si (si w 1 5 (wi w 1 3)) 1 6 0) 1 3)]) (st := []) dX8_step_138 rfl kX8_127 sX10_at (Nat.le_of_ble_eq_true rfl) rfl rfl (Nat.le_of_ble_eq_true rfl) ?_
            refine h_at (a := 2) (n := 600) (i := wi (si (si w 1 5 (wi w 1 3)) 1 6 0) 1 3) (w := si (si w 1 5 (wi w 1 3)) 1 6 0) rfl (Nat.le_of_ble_eq_true rfl) ?_
            show Go SC mX8_step 141 [(0, .ref 1)] [.int (gf (si (si w 1 5 (wi w 1 3)) 1 6 0) 2 600 (wi (si (si w 1 5 (wi w 1 3)) 1 6 0) 1 3))] (si (si w 1 5 (wi w 1 3)) 1 6 0) Q
            refine g_callS (pc := 141) (M' := mX8_isDigit) (n := 1) (as := [.int (gf (si (si w 1 5 (wi w 1 3)) 1 6 0) 2 600 (wi (si (si w 1 5 (wi w 1 3)) 1 6 0) 1 3))]) (st := []) dX8_step_141 rfl kX8_196 sX8_isDigit (Nat.le_of_ble_eq_true rfl) rfl rfl (Nat.le_of_ble_eq_true rfl) ?_
            refine zX8_isDigit (a1 := (gf (si (si w 1 5 (wi w 1 3)) 1 6 0) 2 600 (wi (si (si w 1 5 (wi w 1 3)) 1 6 0) 1 3))) (w := si (si w 1 5 (wi w 1 3)) 1 6 0) (b := b) (hR := hR) ?_
            show Go SC mX8_step 144 [(0, .ref 1)] [.int (vXX8_isDigit (gf (si (si w 1 5 (wi w 1 3)) 1 6 0) 2 600 (wi (si (si w 1 5 (wi w 1 3)) 1 6 0) 1 3)))] (si (si w 1 5 (wi w 1 3)) 1 6 0) Q
            refine g_if_eq (pc := 144) (tgt := 154) dX8_step_144 (by decide) (fun q => ?_) (fun q => ?_)
            · have h := h.1 q
              refine g_aload_n (pc := 154) dX8_step_154 rfl 0 rfl ?_
              refine g_iconst (pc := 155) dX8_step_155 c_4 ?_
              refine g_putI (pc := 156) dX8_step_156 rfl fX8_52 pX8_4 rfl ?_
              exact g_vret (pc := 159) dX8_step_159 rfl h
            · have h := h.2 q
              refine g_aload_n (pc := 147) dX8_step_147 rfl 0 rfl ?_
              refine g_callV (pc := 148) (M' := mX8_takeWhole) (n := 0) (a := 1) (as := []) (st := []) dX8_step_148 rfl kX8_199 vX8_takeWhole (Nat.le_of_ble_eq_true rfl) rfl qX8 rfl rfl (Nat.le_of_ble_eq_true rfl) ?_
              refine cl_mono (fun r w3 hr => ?_) h
              obtain ⟨rfl, hw3, h⟩ := hr
              show Go SC mX8_step 151 [(0, .ref 1)] [] w3 Q
              refine g_goto (pc := 151) (tgt := 159) dX8_step_151 (by decide) ?_
              exact g_vret (pc := 159) dX8_step_159 rfl h
          · have h := h.2 q
            refine g_aload_n (pc := 123) dX8_step_123 rfl 0 rfl ?_
            refine g_callV (pc := 124) (M' := mX8_takeWord) (n := 0) (a := 1) (as := []) (st := []) dX8_step_124 rfl kX8_193 vX8_takeWord (Nat.le_of_ble_eq_true rfl) rfl qX8 rfl rfl (Nat.le_of_ble_eq_true rfl) ?_
            refine cl_mono (fun r w4 hr => ?_) h
            obtain ⟨rfl, hw4, h⟩ := hr
            show Go SC mX8_step 127 [(0, .ref 1)] [] w4 Q
            refine g_goto (pc := 127) (tgt := 159) dX8_step_127 (by decide) ?_
            exact g_vret (pc := 159) dX8_step_159 rfl h
        · have h := h.1 q
          refine g_aload_n (pc := 88) dX8_step_88 rfl 0 rfl ?_
          refine g_iconst (pc := 89) dX8_step_89 c_3 ?_
          refine g_putI (pc := 90) dX8_step_90 rfl fX8_52 pX8_4 rfl ?_
          refine g_aload_n (pc := 93) dX8_step_93 rfl 0 rfl ?_
          refine g_dup (pc := 94) dX8_step_94 rfl ?_
          refine g_getI (pc := 95) (a := 1) dX8_step_95 rfl fX8_26 rfl ?_
          refine g_iconst (pc := 98) dX8_step_98 c_1 ?_
          refine g_iadd (pc := 99) dX8_step_99 ?_
          refine g_putI (pc := 100) dX8_step_100 rfl fX8_26 pX8_3 rfl ?_
          refine g_goto (pc := 103) (tgt := 159) dX8_step_103 (by decide) ?_
          exact g_vret (pc := 159) dX8_step_159 rfl h
      · have h := h.2 q
        refine g_aload_n (pc := 64) dX8_step_64 rfl 0 rfl ?_
        refine g_iconst (pc := 65) dX8_step_65 c_0 ?_
        refine g_putI (pc := 66) dX8_step_66 rfl fX8_52 pX8_4 rfl ?_
        refine g_goto (pc := 69) (tgt := 159) dX8_step_69 (by decide) ?_
        exact g_vret (pc := 159) dX8_step_159 rfl h
    · have h := h.1 q
      refine g_aload_n (pc := 27) dX8_step_27 rfl 0 rfl ?_
      refine g_dup (pc := 28) dX8_step_28 rfl ?_
      refine g_getI (pc := 29) (a := 1) dX8_step_29 rfl fX8_26 rfl ?_
      refine g_iconst (pc := 32) dX8_step_32 c_1 ?_
      refine g_iadd (pc := 33) dX8_step_33 ?_
      refine g_putI (pc := 34) dX8_step_34 rfl fX8_26 pX8_3 rfl ?_
      refine g_goto (pc := 37) (tgt := 0) dX8_step_37 (by decide) ?_
      exact h
set_option maxHeartbeats 4000000 in
set_option maxRecDepth 100000 in
theorem TX8_isNameOf (ca1 : Bool) (ka1 : Nat) (hka1 : ka1 < 5) (w : Wd) (b : Bool) (hR : w.2.2 = RTab b) (Q : Option Value → Wd → Prop) (h : (((wi w (dA (hA ca1) ka1) 3) = (wi w 1 6) → Go SC mX8_isNameOf 15 [(0, .ref 1), (1, .ref (dA (hA ca1) ka1)), (2, .int 0)] [] w Q) ∧ (¬ ((wi w (dA (hA ca1) ka1) 3) = (wi w 1 6)) → Q (some (.int 0)) w))) : Cl SC mX8_isNameOf [.ref 1, .ref (dA (hA ca1) ka1)] w Q := by
  refine cl_of (by decide) (Nat.le_of_ble_eq_true rfl) ?_
  show Go SC mX8_isNameOf 0 [(0, .ref 1), (1, .ref (dA (hA ca1) ka1))] [] w Q
  refine g_aload_n (pc := 0) dX8_isNameOf_0 rfl 1 rfl ?_
  refine g_getI (pc := 1) (a := (dA (hA ca1) ka1)) dX8_isNameOf_1 rfl fX8_119 (sh_d ca1 hka1) ?_
  refine g_aload_n (pc := 4) dX8_isNameOf_4 rfl 0 rfl ?_
  refine g_getI (pc := 5) (a := 1) dX8_isNameOf_5 rfl fX8_116 rfl ?_
  refine g_icmp_eq (pc := 8) (tgt := 13) dX8_isNameOf_8 (by decide) (fun q => ?_) (fun q => ?_)
  · have h := h.1 q
    refine g_iconst (pc := 13) dX8_isNameOf_13 c_0 ?_
    refine g_istore_n (pc := 14) (lv2 := [(0, .ref 1), (1, .ref (dA (hA ca1) ka1)), (2, .int 0)]) dX8_isNameOf_14 rfl (Nat.le_of_ble_eq_true rfl) rfl ?_
    exact h
  · have h := h.2 q
    refine g_iconst (pc := 11) dX8_isNameOf_11 c_0 ?_
    exact g_bret (pc := 12) dX8_isNameOf_12 rfl (Or.inl rfl) h
set_option maxHeartbeats 4000000 in
set_option maxRecDepth 100000 in
theorem BX8_isNameOf_15 (ca1 : Bool) (ka1 : Nat) (hka1 : ka1 < 5) (l2 : Int32) (w : Wd) (b : Bool) (hR : w.2.2 = RTab b) (Q : Option Value → Wd → Prop) (h : (((wi w 1 6) ≤ l2 → Q (some (.int 1)) w) ∧ (¬ ((wi w 1 6) ≤ l2) → (((gf w 2 600 ((wi w (dA (hA ca1) ka1) 2) + l2)) = (gf w 2 600 ((wi w 1 5) + l2)) → Go SC mX8_isNameOf 15 [(0, .ref 1), (1, .ref (dA (hA ca1) ka1)), (2, .int (l2 + 1))] [] w Q) ∧ (¬ ((gf w 2 600 ((wi w (dA (hA ca1) ka1) 2) + l2)) = (gf w 2 600 ((wi w 1 5) + l2))) → Q (some (.int 0)) w))))) : Go SC mX8_isNameOf 15 [(0, .ref 1), (1, .ref (dA (hA ca1) ka1)), (2, .int l2)] [] w Q := by
  refine g_iload_n (pc := 15) dX8_isNameOf_15 rfl 2 rfl ?_
  refine g_aload_n (pc := 16) dX8_isNameOf_16 rfl 0 rfl ?_
  refine g_getI (pc := 17) (a := 1) dX8_isNameOf_17 rfl fX8_116 rfl ?_
  refine g_icmp_ge (pc := 20) (tgt := 60) dX8_isNameOf_20 (by decide) (fun q => ?_) (fun q => ?_)
  · have h := h.1 q
    refine g_iconst (pc := 60) dX8_isNameOf_60 c_1 ?_
    exact g_bret (pc := 61) dX8_isNameOf_61 rfl (Or.inr rfl) h
  · have h := h.2 q
    refine g_aload_n (pc := 23) dX8_isNameOf_23 rfl 0 rfl ?_
    refine g_getR (pc := 24) (a := 1) (b := 2) dX8_isNameOf_24 rfl fX8_11 rfl (rc_1_0 hR) ?_
    refine g_aload_n (pc := 27) dX8_isNameOf_27 rfl 1 rfl ?_
    refine g_getI (pc := 28) (a := (dA (hA ca1) ka1)) dX8_isNameOf_28 rfl fX8_111 (sh_d ca1 hka1) ?_
    refine g_iload_n (pc := 31) dX8_isNameOf_31 rfl 2 rfl ?_
    refine g_iadd (pc := 32) dX8_isNameOf_32 ?_
    refine g_callS (pc := 33) (M' := mX10_at) (n := 2) (as := [.ref 2, .int ((wi w (dA (hA ca1) ka1) 2) + l2)]) (st := []) dX8_isNameOf_33 rfl kX8_127 sX10_at (Nat.le_of_ble_eq_true rfl) rfl rfl (Nat.le_of_ble_eq_true rfl) ?_
    refine h_at (a := 2) (n := 600) (i := (wi w (dA (hA ca1) ka1) 2) + l2) (w := w) rfl (Nat.le_of_ble_eq_true rfl) ?_
    show Go SC mX8_isNameOf 36 [(0, .ref 1), (1, .ref (dA (hA ca1) ka1)), (2, .int l2)] [.int (gf w 2 600 ((wi w (dA (hA ca1) ka1) 2) + l2))] w Q
    refine g_aload_n (pc := 36) dX8_isNameOf_36 rfl 0 rfl ?_
    refine g_getR (pc := 37) (a := 1) (b := 2) dX8_isNameOf_37 rfl fX8_11 rfl (rc_1_0 hR) ?_
    refine g_aload_n (pc := 40) dX8_isNameOf_40 rfl 0 rfl ?_
    refine g_getI (pc := 41) (a := 1) dX8_isNameOf_41 rfl fX8_108 rfl ?_
    refine g_iload_n (pc := 44) dX8_isNameOf_44 rfl 2 rfl ?_
    refine g_iadd (pc := 45) dX8_isNameOf_45 ?_
    refine g_callS (pc := 46) (M' := mX10_at) (n := 2) (as := [.ref 2, .int ((wi w 1 5) + l2)]) (st := [.int (gf w 2 600 ((wi w (dA (hA ca1) ka1) 2) + l2))]) dX8_isNameOf_46 rfl kX8_127 sX10_at (Nat.le_of_ble_eq_true rfl) rfl rfl (Nat.le_of_ble_eq_true rfl) ?_
    refine h_at (a := 2) (n := 600) (i := (wi w 1 5) + l2) (w := w) rfl (Nat.le_of_ble_eq_true rfl) ?_
    show Go SC mX8_isNameOf 49 [(0, .ref 1), (1, .ref (dA (hA ca1) ka1)), (2, .int l2)] [.int (gf w 2 600 ((wi w 1 5) + l2)), .int (gf w 2 600 ((wi w (dA (hA ca1) ka1) 2) + l2))] w Q
    refine g_icmp_eq (pc := 49) (tgt := 54) dX8_isNameOf_49 (by decide) (fun q => ?_) (fun q => ?_)
    · have h := h.1 q
      refine g_iinc (pc := 54) (v := l2 + 1) (lv2 := [(0, .ref 1), (1, .ref (dA (hA ca1) ka1)), (2, .int (l2 + 1))]) dX8_isNameOf_54 2 rfl (Nat.le_of_ble_eq_true rfl) rfl rfl ?_
      refine g_goto (pc := 57) (tgt := 15) dX8_isNameOf_57 (by decide) ?_
      exact h
    · have h := h.2 q
      refine g_iconst (pc := 52) dX8_isNameOf_52 c_0 ?_
      exact g_bret (pc := 53) dX8_isNameOf_53 rfl (Or.inl rfl) h
set_option maxHeartbeats 4000000 in
set_option maxRecDepth 100000 in
theorem TX8_toldAt (ca1 : Bool) (w : Wd) (b : Bool) (hR : w.2.2 = RTab b) (Q : Option Value → Wd → Prop) (h : Go SC mX8_toldAt 2 [(0, .ref 1), (1, .ref (hA ca1)), (2, .int 0)] [] w Q) : Cl SC mX8_toldAt [.ref 1, .ref (hA ca1)] w Q := by
  refine cl_of (by decide) (Nat.le_of_ble_eq_true rfl) ?_
  show Go SC mX8_toldAt 0 [(0, .ref 1), (1, .ref (hA ca1))] [] w Q
  refine g_iconst (pc := 0) dX8_toldAt_0 c_0 ?_
  refine g_istore_n (pc := 1) (lv2 := [(0, .ref 1), (1, .ref (hA ca1)), (2, .int 0)]) dX8_toldAt_1 rfl (Nat.le_of_ble_eq_true rfl) rfl ?_
  exact h
set_option maxHeartbeats 4000000 in
set_option maxRecDepth 100000 in
theorem BX8_toldAt_2 (ca1 : Bool) (l2 : Int32) (w : Wd) (b : Bool) (hR : w.2.2 = RTab b) (Q : Option Value → Wd → Prop) (h : (((wi w (hA ca1) 2) ≤ l2 → Q (some (.int (-1))) w) ∧ (¬ ((wi w (hA ca1) 2) ≤ l2) → ((0 ≤ l2 ∧ l2 < wi w (hA ca1) 2 ∧ l2 < 5 → ClI SC mX8_isNameOf [.ref 1, .ref (dA (hA ca1) l2.toNatClampNeg)] w (fun x3 w2 => w2.2.2 = RTab b ∧ ((x3 = 0 → Go SC mX8_toldAt 2 [(0, .ref 1), (1, .ref (hA ca1)), (2, .int (l2 + 1))] [] w2 Q) ∧ (¬ (x3 = 0) → Q (some (.int l2)) w2)))) ∧ (¬ (0 ≤ l2 ∧ l2 < wi w (hA ca1) 2 ∧ l2 < 5) → Go SC mX8_toldAt 2 [(0, .ref 1), (1, .ref (hA ca1)), (2, .int (l2 + 1))] [] w Q))))) : Go SC mX8_toldAt 2 [(0, .ref 1), (1, .ref (hA ca1)), (2, .int l2)] [] w Q := by
  refine g_iload_n (pc := 2) dX8_toldAt_2 rfl 2 rfl ?_
  refine g_aload_n (pc := 3) dX8_toldAt_3 rfl 1 rfl ?_
  refine g_getI (pc := 4) (a := (hA ca1)) dX8_toldAt_4 rfl fX8_59 (sh_h ca1) ?_
  refine g_icmp_ge (pc := 7) (tgt := 36) dX8_toldAt_7 (by decide) (fun q => ?_) (fun q => ?_)
  · have h := h.1 q
    refine g_iconst (pc := 36) dX8_toldAt_36 cN_1 ?_
    exact g_iret (pc := 37) dX8_toldAt_37 rfl h
  · have h := h.2 q
    refine g_aload_n (pc := 10) dX8_toldAt_10 rfl 1 rfl ?_
    refine g_iload_n (pc := 11) dX8_toldAt_11 rfl 2 rfl ?_
    refine g_callV (pc := 12) (M' := mX2_danceAt) (n := 1) (a := (hA ca1)) (as := [.int l2]) (st := []) dX8_toldAt_12 rfl kX8_145 vX2_danceAt (Nat.le_of_ble_eq_true rfl) (sh_h ca1) qX2 rfl rfl (Nat.le_of_ble_eq_true rfl) ?_
    refine h_danceAt (c := ca1) (d := l2) (w := w) (hR := hR) (fun qd1 => ?_) (fun qd1 => ?_)
    · have h := h.1 qd1
      show Go SC mX8_toldAt 15 [(0, .ref 1), (1, .ref (hA ca1)), (2, .int l2)] [.ref (dA (hA ca1) l2.toNatClampNeg)] w Q
      refine g_astore_n (pc := 15) (lv2 := [(0, .ref 1), (1, .ref (hA ca1)), (2, .int l2), (3, .ref (dA (hA ca1) l2.toNatClampNeg))]) dX8_toldAt_15 rfl (Nat.le_of_ble_eq_true rfl) rfl ?_
      refine g_aload_n (pc := 16) dX8_toldAt_16 rfl 3 rfl ?_
      refine g_ifnullR (pc := 17) dX8_toldAt_17 ?_
      refine g_aload_n (pc := 20) dX8_toldAt_20 rfl 0 rfl ?_
      refine g_aload_n (pc := 21) dX8_toldAt_21 rfl 3 rfl ?_
      refine g_callV (pc := 22) (M' := mX8_isNameOf) (n := 1) (a := 1) (as := [.ref (dA (hA ca1) l2.toNatClampNeg)]) (st := []) dX8_toldAt_22 rfl kX8_171 vX8_isNameOf (Nat.le_of_ble_eq_true rfl) rfl qX8 rfl rfl (Nat.le_of_ble_eq_true rfl) ?_
      refine cl_mono (fun r w2 hr => ?_) h
      obtain ⟨x3, rfl, hw2, h⟩ := hr
      show Go SC mX8_toldAt 25 [(0, .ref 1), (1, .ref (hA ca1)), (2, .int l2), (3, .ref (dA (hA ca1) l2.toNatClampNeg))] [.int x3] w2 Q
      refine g_if_eq (pc := 25) (tgt := 30) dX8_toldAt_25 (by decide) (fun q => ?_) (fun q => ?_)
      · have h := h.1 q
        refine g_iinc (pc := 30) (v := l2 + 1) (lv2 := [(0, .ref 1), (1, .ref (hA ca1)), (2, .int (l2 + 1)), (3, .ref (dA (hA ca1) l2.toNatClampNeg))]) dX8_toldAt_30 2 rfl (Nat.le_of_ble_eq_true rfl) rfl rfl ?_
        refine g_goto (pc := 33) (tgt := 2) dX8_toldAt_33 (by decide) ?_
        refine g_sub (lv2 := [(0, .ref 1), (1, .ref (hA ca1)), (2, .int (l2 + 1))]) [0, 1, 2] rfl ?_
        exact h
      · have h := h.2 q
        refine g_iload_n (pc := 28) dX8_toldAt_28 rfl 2 rfl ?_
        exact g_iret (pc := 29) dX8_toldAt_29 rfl h
    · have h := h.2 qd1
      show Go SC mX8_toldAt 15 [(0, .ref 1), (1, .ref (hA ca1)), (2, .int l2)] [.null] w Q
      refine g_astore_nN (pc := 15) (lv2 := [(0, .ref 1), (1, .ref (hA ca1)), (2, .int l2), (3, .null)]) dX8_toldAt_15 rfl (Nat.le_of_ble_eq_true rfl) rfl ?_
      refine g_aload_nN (pc := 16) dX8_toldAt_16 rfl 3 rfl ?_
      refine g_ifnullN (pc := 17) (tgt := 30) dX8_toldAt_17 (by decide) ?_
      refine g_iinc (pc := 30) (v := l2 + 1) (lv2 := [(0, .ref 1), (1, .ref (hA ca1)), (2, .int (l2 + 1)), (3, .null)]) dX8_toldAt_30 2 rfl (Nat.le_of_ble_eq_true rfl) rfl rfl ?_
      refine g_goto (pc := 33) (tgt := 2) dX8_toldAt_33 (by decide) ?_
      refine g_sub (lv2 := [(0, .ref 1), (1, .ref (hA ca1)), (2, .int (l2 + 1))]) [0, 1, 2] rfl ?_
      exact h
set_option maxHeartbeats 4000000 in
set_option maxRecDepth 100000 in
theorem TX8_readDance (ca1 : Bool) (w : Wd) (b : Bool) (hR : w.2.2 = RTab b) (Q : Option Value → Wd → Prop) (h : (((wi w 1 8) = 0 → Q (some (.int (vXX8_fail 6))) (wXX8_fail 6 w)) ∧ (¬ ((wi w 1 8) = 0) → ((0 ≤ wi w (hA ca1) 2 ∧ wi w (hA ca1) 2 < 5 → ClV SC mX8_step [.ref 1] w (fun w2 => w2.2.2 = RTab b ∧ ClI SC mX8_isName [.ref 1] w2 (fun x4 w3 => w3.2.2 = RTab b ∧ ((x4 = 0 → Q (some (.int (vXX8_fail 1))) (wXX8_fail 1 w3)) ∧ (¬ (x4 = 0) → ClI SC mX8_toldAt [.ref 1, .ref (hA ca1)] w3 (fun x6 w5 => w5.2.2 = RTab b ∧ ((x6 = (-1) → ClV SC mX8_step [.ref 1] (si (si w5 (dA (hA ca1) (wi w (hA ca1) 2).toNatClampNeg) 2 (wi w5 1 5)) (dA (hA ca1) (wi w (hA ca1) 2).toNatClampNeg) 3 (wi (si w5 (dA (hA ca1) (wi w (hA ca1) 2).toNatClampNeg) 2 (wi w5 1 5)) 1 6)) (fun w7 => w7.2.2 = RTab b ∧ ClI SC mX8_readRow [.ref 1, .ref (dA (hA ca1) (wi w (hA ca1) 2).toNatClampNeg)] w7 (fun x9 w8 => w8.2.2 = RTab b ∧ ((x9 = 0 → Q (some (.int 0)) w8) ∧ (¬ (x9 = 0) → ClV SC mX8_step [.ref 1] (si w8 (hA ca1) 2 ((wi w8 (hA ca1) 2) + 1)) (fun w10 => w10.2.2 = RTab b ∧ Q (some (.int 1)) w10)))))) ∧ (¬ (x6 = (-1)) → Q (some (.int (vXX8_fail 3))) (wXX8_fail 3 w5))))))))) ∧ (¬ (0 ≤ wi w (hA ca1) 2 ∧ wi w (hA ca1) 2 < 5) → Q (some (.int (vXX8_fail 5))) (wXX8_fail 5 w)))))) : Cl SC mX8_readDance [.ref 1, .ref (hA ca1)] w Q := by
  refine cl_of (by decide) (Nat.le_of_ble_eq_true rfl) ?_
  show Go SC mX8_readDance 0 [(0, .ref 1), (1, .ref (hA ca1))] [] w Q
  refine g_aload_n (pc := 0) dX8_readDance_0 rfl 0 rfl ?_
  refine g_getZ (pc := 1) (a := 1) dX8_readDance_1 rfl fX8_29 rfl ?_
  refine g_if_ne (pc := 4) (tgt := 14) dX8_readDance_4 (by decide) (fun q => ?_) (fun q => ?_)
  · have h := h.2 q
    refine g_aload_n (pc := 14) dX8_readDance_14 rfl 1 rfl ?_
    refine g_callV (pc := 15) (M' := mX2_nextDance) (n := 0) (a := (hA ca1)) (as := []) (st := []) dX8_readDance_15 rfl kX8_96 vX2_nextDance (Nat.le_of_ble_eq_true rfl) (sh_h ca1) qX2 rfl rfl (Nat.le_of_ble_eq_true rfl) ?_
    refine h_nextDance (c := ca1) (w := w) (hR := hR) (fun qd1 => ?_) (fun qd1 => ?_)
    · have h := h.1 qd1
      show Go SC mX8_readDance 18 [(0, .ref 1), (1, .ref (hA ca1))] [.ref (dA (hA ca1) (wi w (hA ca1) 2).toNatClampNeg)] w Q
      refine g_astore_n (pc := 18) (lv2 := [(0, .ref 1), (1, .ref (hA ca1)), (2, .ref (dA (hA ca1) (wi w (hA ca1) 2).toNatClampNeg))]) dX8_readDance_18 rfl (Nat.le_of_ble_eq_true rfl) rfl ?_
      refine g_aload_n (pc := 19) dX8_readDance_19 rfl 2 rfl ?_
      refine g_ifnonnullR (pc := 20) (tgt := 29) dX8_readDance_20 (by decide) ?_
      refine g_aload_n (pc := 29) dX8_readDance_29 rfl 0 rfl ?_
      refine g_callV (pc := 30) (M' := mX8_step) (n := 0) (a := 1) (as := []) (st := []) dX8_readDance_30 rfl kX8_44 vX8_step (Nat.le_of_ble_eq_true rfl) rfl qX8 rfl rfl (Nat.le_of_ble_eq_true rfl) ?_
      refine cl_mono (fun r w2 hr => ?_) h
      obtain ⟨rfl, hw2, h⟩ := hr
      show Go SC mX8_readDance 33 [(0, .ref 1), (1, .ref (hA ca1)), (2, .ref (dA (hA ca1) (wi w (hA ca1) 2).toNatClampNeg))] [] w2 Q
      refine g_aload_n (pc := 33) dX8_readDance_33 rfl 0 rfl ?_
      refine g_callV (pc := 34) (M' := mX8_isName) (n := 0) (a := 1) (as := []) (st := []) dX8_readDance_34 rfl kX8_100 vX8_isName (Nat.le_of_ble_eq_true rfl) rfl qX8 rfl rfl (Nat.le_of_ble_eq_true rfl) ?_
      refine cl_mono (fun r w3 hr => ?_) h
      obtain ⟨x4, rfl, hw3, h⟩ := hr
      show Go SC mX8_readDance 37 [(0, .ref 1), (1, .ref (hA ca1)), (2, .ref (dA (hA ca1) (wi w (hA ca1) 2).toNatClampNeg))] [.int x4] w3 Q
      refine g_if_ne (pc := 37) (tgt := 46) dX8_readDance_37 (by decide) (fun q => ?_) (fun q => ?_)
      · have h := h.2 q
        refine g_aload_n (pc := 46) dX8_readDance_46 rfl 0 rfl ?_
        refine g_aload_n (pc := 47) dX8_readDance_47 rfl 1 rfl ?_
        refine g_callV (pc := 48) (M' := mX8_toldAt) (n := 1) (a := 1) (as := [.ref (hA ca1)]) (st := []) dX8_readDance_48 rfl kX8_104 vX8_toldAt (Nat.le_of_ble_eq_true rfl) rfl qX8 rfl rfl (Nat.le_of_ble_eq_true rfl) ?_
        refine cl_mono (fun r w5 hr => ?_) h
        obtain ⟨x6, rfl, hw5, h⟩ := hr
        show Go SC mX8_readDance 51 [(0, .ref 1), (1, .ref (hA ca1)), (2, .ref (dA (hA ca1) (wi w (hA ca1) 2).toNatClampNeg))] [.int x6] w5 Q
        refine g_iconst (pc := 51) dX8_readDance_51 cN_1 ?_
        refine g_icmp_eq (pc := 52) (tgt := 61) dX8_readDance_52 (by decide) (fun q => ?_) (fun q => ?_)
        · have h := h.1 q
          refine g_aload_n (pc := 61) dX8_readDance_61 rfl 2 rfl ?_
          refine g_aload_n (pc := 62) dX8_readDance_62 rfl 0 rfl ?_
          refine g_getI (pc := 63) (a := 1) dX8_readDance_63 rfl fX8_108 rfl ?_
          refine g_putI (pc := 66) dX8_readDance_66 rfl fX8_111 pX1_2 (sh_d ca1 (lt5 qd1.1 qd1.2)) ?_
          refine g_aload_n (pc := 69) dX8_readDance_69 rfl 2 rfl ?_
          refine g_aload_n (pc := 70) dX8_readDance_70 rfl 0 rfl ?_
          refine g_getI (pc := 71) (a := 1) dX8_readDance_71 rfl fX8_116 rfl ?_
          refine g_putI (pc := 74) dX8_readDance_74 rfl fX8_119 pX1_3 (sh_d ca1 (lt5 qd1.1 qd1.2)) ?_
          refine g_aload_n (pc := 77) dX8_readDance_77 rfl 0 rfl ?_
          refine g_callV (pc := 78) (M' := mX8_step) (n := 0) (a := 1) (as := []) (st := []) dX8_readDance_78 rfl kX8_44 vX8_step (Nat.le_of_ble_eq_true rfl) rfl qX8 rfl rfl (Nat.le_of_ble_eq_true rfl) ?_
          refine cl_mono (fun r w7 hr => ?_) h
          obtain ⟨rfl, hw7, h⟩ := hr
          show Go SC mX8_readDance 81 [(0, .ref 1), (1, .ref (hA ca1)), (2, .ref (dA (hA ca1) (wi w (hA ca1) 2).toNatClampNeg))] [] w7 Q
          refine g_aload_n (pc := 81) dX8_readDance_81 rfl 0 rfl ?_
          refine g_aload_n (pc := 82) dX8_readDance_82 rfl 2 rfl ?_
          refine g_callV (pc := 83) (M' := mX8_readRow) (n := 1) (a := 1) (as := [.ref (dA (hA ca1) (wi w (hA ca1) 2).toNatClampNeg)]) (st := []) dX8_readDance_83 rfl kX8_122 vX8_readRow (Nat.le_of_ble_eq_true rfl) rfl qX8 rfl rfl (Nat.le_of_ble_eq_true rfl) ?_
          refine cl_mono (fun r w8 hr => ?_) h
          obtain ⟨x9, rfl, hw8, h⟩ := hr
          show Go SC mX8_readDance 86 [(0, .ref 1), (1, .ref (hA ca1)), (2, .ref (dA (hA ca1) (wi w (hA ca1) 2).toNatClampNeg))] [.int x9] w8 Q
          refine g_if_ne (pc := 86) (tgt := 91) dX8_readDance_86 (by decide) (fun q => ?_) (fun q => ?_)
          · have h := h.2 q
            refine g_aload_n (pc := 91) dX8_readDance_91 rfl 1 rfl ?_
            refine g_dup (pc := 92) dX8_readDance_92 rfl ?_
            refine g_getI (pc := 93) (a := (hA ca1)) dX8_readDance_93 rfl fX8_59 (sh_h ca1) ?_
            refine g_iconst (pc := 96) dX8_readDance_96 c_1 ?_
            refine g_iadd (pc := 97) dX8_readDance_97 ?_
            refine g_putI (pc := 98) dX8_readDance_98 rfl fX8_59 pX2_2 (sh_h ca1) ?_
            refine g_aload_n (pc := 101) dX8_readDance_101 rfl 0 rfl ?_
            refine g_callV (pc := 102) (M' := mX8_step) (n := 0) (a := 1) (as := []) (st := []) dX8_readDance_102 rfl kX8_44 vX8_step (Nat.le_of_ble_eq_true rfl) rfl qX8 rfl rfl (Nat.le_of_ble_eq_true rfl) ?_
            refine cl_mono (fun r w10 hr => ?_) h
            obtain ⟨rfl, hw10, h⟩ := hr
            show Go SC mX8_readDance 105 [(0, .ref 1), (1, .ref (hA ca1)), (2, .ref (dA (hA ca1) (wi w (hA ca1) 2).toNatClampNeg))] [] w10 Q
            refine g_iconst (pc := 105) dX8_readDance_105 c_1 ?_
            exact g_bret (pc := 106) dX8_readDance_106 rfl (Or.inr rfl) h
          · have h := h.1 q
            refine g_iconst (pc := 89) dX8_readDance_89 c_0 ?_
            exact g_bret (pc := 90) dX8_readDance_90 rfl (Or.inl rfl) h
        · have h := h.2 q
          refine g_aload_n (pc := 55) dX8_readDance_55 rfl 0 rfl ?_
          refine g_iconst (pc := 56) dX8_readDance_56 c_3 ?_
          refine g_callV (pc := 57) (M' := mX8_fail) (n := 1) (a := 1) (as := [.int 3]) (st := []) dX8_readDance_57 rfl kX8_55 vX8_fail (Nat.le_of_ble_eq_true rfl) rfl qX8 rfl rfl (Nat.le_of_ble_eq_true rfl) ?_
          refine zX8_fail (a1 := 3) (w := w5) (b := b) (hR := hw5) ?_
          show Go SC mX8_readDance 60 [(0, .ref 1), (1, .ref (hA ca1)), (2, .ref (dA (hA ca1) (wi w (hA ca1) 2).toNatClampNeg))] [.int (vXX8_fail 3)] (wXX8_fail 3 w5) Q
          exact g_bret (pc := 60) dX8_readDance_60 rfl (zzX8_fail 3) h
      · have h := h.1 q
        refine g_aload_n (pc := 40) dX8_readDance_40 rfl 0 rfl ?_
        refine g_iconst (pc := 41) dX8_readDance_41 c_1 ?_
        refine g_callV (pc := 42) (M' := mX8_fail) (n := 1) (a := 1) (as := [.int 1]) (st := []) dX8_readDance_42 rfl kX8_55 vX8_fail (Nat.le_of_ble_eq_true rfl) rfl qX8 rfl rfl (Nat.le_of_ble_eq_true rfl) ?_
        refine zX8_fail (a1 := 1) (w := w3) (b := b) (hR := hw3) ?_
        show Go SC mX8_readDance 45 [(0, .ref 1), (1, .ref (hA ca1)), (2, .ref (dA (hA ca1) (wi w (hA ca1) 2).toNatClampNeg))] [.int (vXX8_fail 1)] (wXX8_fail 1 w3) Q
        exact g_bret (pc := 45) dX8_readDance_45 rfl (zzX8_fail 1) h
    · have h := h.2 qd1
      show Go SC mX8_readDance 18 [(0, .ref 1), (1, .ref (hA ca1))] [.null] w Q
      refine g_astore_nN (pc := 18) (lv2 := [(0, .ref 1), (1, .ref (hA ca1)), (2, .null)]) dX8_readDance_18 rfl (Nat.le_of_ble_eq_true rfl) rfl ?_
      refine g_aload_nN (pc := 19) dX8_readDance_19 rfl 2 rfl ?_
      refine g_ifnonnullN (pc := 20) dX8_readDance_20 ?_
      refine g_aload_n (pc := 23) dX8_readDance_23 rfl 0 rfl ?_
      refine g_iconst (pc := 24) dX8_readDance_24 c_5 ?_
      refine g_callV (pc := 25) (M' := mX8_fail) (n := 1) (a := 1) (as := [.int 5]) (st := []) dX8_readDance_25 rfl kX8_55 vX8_fail (Nat.le_of_ble_eq_true rfl) rfl qX8 rfl rfl (Nat.le_of_ble_eq_true rfl) ?_
      refine zX8_fail (a1 := 5) (w := w) (b := b) (hR := hR) ?_
      show Go SC mX8_readDance 28 [(0, .ref 1), (1, .ref (hA ca1)), (2, .null)] [.int (vXX8_fail 5)] (wXX8_fail 5 w) Q
      exact g_bret (pc := 28) dX8_readDance_28 rfl (zzX8_fail 5) h
  · have h := h.1 q
    refine g_aload_n (pc := 7) dX8_readDance_7 rfl 0 rfl ?_
    refine g_bipush (pc := 8) (v := 6) dX8_readDance_8 (by decide) ?_
    refine g_callV (pc := 10) (M' := mX8_fail) (n := 1) (a := 1) (as := [.int 6]) (st := []) dX8_readDance_10 rfl kX8_55 vX8_fail (Nat.le_of_ble_eq_true rfl) rfl qX8 rfl rfl (Nat.le_of_ble_eq_true rfl) ?_
    refine zX8_fail (a1 := 6) (w := w) (b := b) (hR := hR) ?_
    show Go SC mX8_readDance 13 [(0, .ref 1), (1, .ref (hA ca1))] [.int (vXX8_fail 6)] (wXX8_fail 6 w) Q
    exact g_bret (pc := 13) dX8_readDance_13 rfl (zzX8_fail 6) h
set_option maxHeartbeats 4000000 in
set_option maxRecDepth 100000 in
theorem TX8_cornerHere  (w : Wd) (b : Bool) (hR : w.2.2 = RTab b) (Q : Option Value → Wd → Prop) (h : ClI SC mX8_isWord [.ref 1, .ref 1005] w (fun x2 w1 => w1.2.2 = RTab b ∧ ((x2 = 0 → ClI SC mX8_isWord [.ref 1, .ref 1006] w1 (fun x4 w3 => w3.2.2 = RTab b ∧ ((x4 = 0 → ClI SC mX8_isWord [.ref 1, .ref 1007] w3 (fun x6 w5 => w5.2.2 = RTab b ∧ ((x6 = 0 → ClI SC mX8_isWord [.ref 1, .ref 1008] w5 (fun x8 w7 => w7.2.2 = RTab b ∧ Q (some (.int (if x8 = 0 then (-1) else 3 : Int32))) w7)) ∧ (¬ (x6 = 0) → Q (some (.int 2)) w5)))) ∧ (¬ (x4 = 0) → Q (some (.int 1)) w3)))) ∧ (¬ (x2 = 0) → Q (some (.int 0)) w1)))) : Cl SC mX8_cornerHere [.ref 1] w Q := by
  refine cl_of (by decide) (Nat.le_of_ble_eq_true rfl) ?_
  show Go SC mX8_cornerHere 0 [(0, .ref 1)] [] w Q
  refine g_aload_n (pc := 0) dX8_cornerHere_0 rfl 0 rfl ?_
  refine g_ldcS (pc := 1) (i := 5) (tx := "nw") dX8_cornerHere_1 rfl (by decide) ?_
  refine g_callV (pc := 3) (M' := mX8_isWord) (n := 1) (a := 1) (as := [.ref 1005]) (st := []) dX8_cornerHere_3 rfl kX8_64 vX8_isWord (Nat.le_of_ble_eq_true rfl) rfl qX8 rfl rfl (Nat.le_of_ble_eq_true rfl) ?_
  refine cl_mono (fun r w1 hr => ?_) h
  obtain ⟨x2, rfl, hw1, h⟩ := hr
  show Go SC mX8_cornerHere 6 [(0, .ref 1)] [.int x2] w1 Q
  refine g_if_eq (pc := 6) (tgt := 11) dX8_cornerHere_6 (by decide) (fun q => ?_) (fun q => ?_)
  · have h := h.1 q
    refine g_aload_n (pc := 11) dX8_cornerHere_11 rfl 0 rfl ?_
    refine g_ldcS (pc := 12) (i := 6) (tx := "ne") dX8_cornerHere_12 rfl (by decide) ?_
    refine g_callV (pc := 14) (M' := mX8_isWord) (n := 1) (a := 1) (as := [.ref 1006]) (st := []) dX8_cornerHere_14 rfl kX8_64 vX8_isWord (Nat.le_of_ble_eq_true rfl) rfl qX8 rfl rfl (Nat.le_of_ble_eq_true rfl) ?_
    refine cl_mono (fun r w3 hr => ?_) h
    obtain ⟨x4, rfl, hw3, h⟩ := hr
    show Go SC mX8_cornerHere 17 [(0, .ref 1)] [.int x4] w3 Q
    refine g_if_eq (pc := 17) (tgt := 22) dX8_cornerHere_17 (by decide) (fun q => ?_) (fun q => ?_)
    · have h := h.1 q
      refine g_aload_n (pc := 22) dX8_cornerHere_22 rfl 0 rfl ?_
      refine g_ldcS (pc := 23) (i := 7) (tx := "sw") dX8_cornerHere_23 rfl (by decide) ?_
      refine g_callV (pc := 25) (M' := mX8_isWord) (n := 1) (a := 1) (as := [.ref 1007]) (st := []) dX8_cornerHere_25 rfl kX8_64 vX8_isWord (Nat.le_of_ble_eq_true rfl) rfl qX8 rfl rfl (Nat.le_of_ble_eq_true rfl) ?_
      refine cl_mono (fun r w5 hr => ?_) h
      obtain ⟨x6, rfl, hw5, h⟩ := hr
      show Go SC mX8_cornerHere 28 [(0, .ref 1)] [.int x6] w5 Q
      refine g_if_eq (pc := 28) (tgt := 33) dX8_cornerHere_28 (by decide) (fun q => ?_) (fun q => ?_)
      · have h := h.1 q
        refine g_aload_n (pc := 33) dX8_cornerHere_33 rfl 0 rfl ?_
        refine g_ldcS (pc := 34) (i := 8) (tx := "se") dX8_cornerHere_34 rfl (by decide) ?_
        refine g_callV (pc := 36) (M' := mX8_isWord) (n := 1) (a := 1) (as := [.ref 1008]) (st := []) dX8_cornerHere_36 rfl kX8_64 vX8_isWord (Nat.le_of_ble_eq_true rfl) rfl qX8 rfl rfl (Nat.le_of_ble_eq_true rfl) ?_
        refine cl_mono (fun r w7 hr => ?_) h
        obtain ⟨x8, rfl, hw7, h⟩ := hr
        show Go SC mX8_cornerHere 39 [(0, .ref 1)] [.int x8] w7 Q
        have hJ : Go SC mX8_cornerHere 47 [(0, .ref 1)] [.int (if x8 = 0 then (-1) else 3 : Int32)] w7 Q := by
          exact g_iret (pc := 47) dX8_cornerHere_47 rfl h
        refine g_if_eq (pc := 39) (tgt := 46) dX8_cornerHere_39 (by decide) (fun q39 => ?_) (fun q39 => ?_)
        · refine g_iconst (pc := 46) dX8_cornerHere_46 cN_1 ?_
          first | (exfalso; contradiction) | exact cast (by simp only [if_pos q39]) hJ
        · refine g_iconst (pc := 42) dX8_cornerHere_42 c_3 ?_
          refine g_goto (pc := 43) (tgt := 47) dX8_cornerHere_43 (by decide) ?_
          first | (exfalso; contradiction) | exact cast (by simp only [if_neg q39]) hJ
      · have h := h.2 q
        refine g_iconst (pc := 31) dX8_cornerHere_31 c_2 ?_
        exact g_iret (pc := 32) dX8_cornerHere_32 rfl h
    · have h := h.2 q
      refine g_iconst (pc := 20) dX8_cornerHere_20 c_1 ?_
      exact g_iret (pc := 21) dX8_cornerHere_21 rfl h
  · have h := h.2 q
    refine g_iconst (pc := 9) dX8_cornerHere_9 c_0 ?_
    exact g_iret (pc := 10) dX8_cornerHere_10 rfl h
set_option maxHeartbeats 4000000 in
set_option maxRecDepth 100000 in
theorem TX8_readDanceTold (ca1 : Bool) (w : Wd) (b : Bool) (hR : w.2.2 = RTab b) (Q : Option Value → Wd → Prop) (h : ClV SC mX8_step [.ref 1] w (fun w1 => w1.2.2 = RTab b ∧ ClI SC mX8_isName [.ref 1] w1 (fun x3 w2 => w2.2.2 = RTab b ∧ ((x3 = 0 → Q (some (.int (-1))) (wXX8_fail 1 w2)) ∧ (¬ (x3 = 0) → ClI SC mX8_toldAt [.ref 1, .ref (hA ca1)] w2 (fun x5 w4 => w4.2.2 = RTab b ∧ ((x5 = (-1) → Q (some (.int (-1))) (wXX8_fail 2 w4)) ∧ (¬ (x5 = (-1)) → ClV SC mX8_step [.ref 1] w4 (fun w6 => w6.2.2 = RTab b ∧ Q (some (.int x5)) w6))))))))) : Cl SC mX8_readDanceTold [.ref 1, .ref (hA ca1)] w Q := by
  refine cl_of (by decide) (Nat.le_of_ble_eq_true rfl) ?_
  show Go SC mX8_readDanceTold 0 [(0, .ref 1), (1, .ref (hA ca1))] [] w Q
  refine g_aload_n (pc := 0) dX8_readDanceTold_0 rfl 0 rfl ?_
  refine g_callV (pc := 1) (M' := mX8_step) (n := 0) (a := 1) (as := []) (st := []) dX8_readDanceTold_1 rfl kX8_44 vX8_step (Nat.le_of_ble_eq_true rfl) rfl qX8 rfl rfl (Nat.le_of_ble_eq_true rfl) ?_
  refine cl_mono (fun r w1 hr => ?_) h
  obtain ⟨rfl, hw1, h⟩ := hr
  show Go SC mX8_readDanceTold 4 [(0, .ref 1), (1, .ref (hA ca1))] [] w1 Q
  refine g_aload_n (pc := 4) dX8_readDanceTold_4 rfl 0 rfl ?_
  refine g_callV (pc := 5) (M' := mX8_isName) (n := 0) (a := 1) (as := []) (st := []) dX8_readDanceTold_5 rfl kX8_100 vX8_isName (Nat.le_of_ble_eq_true rfl) rfl qX8 rfl rfl (Nat.le_of_ble_eq_true rfl) ?_
  refine cl_mono (fun r w2 hr => ?_) h
  obtain ⟨x3, rfl, hw2, h⟩ := hr
  show Go SC mX8_readDanceTold 8 [(0, .ref 1), (1, .ref (hA ca1))] [.int x3] w2 Q
  refine g_if_ne (pc := 8) (tgt := 19) dX8_readDanceTold_8 (by decide) (fun q => ?_) (fun q => ?_)
  · have h := h.2 q
    refine g_aload_n (pc := 19) dX8_readDanceTold_19 rfl 0 rfl ?_
    refine g_aload_n (pc := 20) dX8_readDanceTold_20 rfl 1 rfl ?_
    refine g_callV (pc := 21) (M' := mX8_toldAt) (n := 1) (a := 1) (as := [.ref (hA ca1)]) (st := []) dX8_readDanceTold_21 rfl kX8_104 vX8_toldAt (Nat.le_of_ble_eq_true rfl) rfl qX8 rfl rfl (Nat.le_of_ble_eq_true rfl) ?_
    refine cl_mono (fun r w4 hr => ?_) h
    obtain ⟨x5, rfl, hw4, h⟩ := hr
    show Go SC mX8_readDanceTold 24 [(0, .ref 1), (1, .ref (hA ca1))] [.int x5] w4 Q
    refine g_istore_n (pc := 24) (lv2 := [(0, .ref 1), (1, .ref (hA ca1)), (2, .int x5)]) dX8_readDanceTold_24 rfl (Nat.le_of_ble_eq_true rfl) rfl ?_
    refine g_iload_n (pc := 25) dX8_readDanceTold_25 rfl 2 rfl ?_
    refine g_iconst (pc := 26) dX8_readDanceTold_26 cN_1 ?_
    refine g_icmp_ne (pc := 27) (tgt := 38) dX8_readDanceTold_27 (by decide) (fun q => ?_) (fun q => ?_)
    · have h := h.2 q
      refine g_aload_n (pc := 38) dX8_readDanceTold_38 rfl 0 rfl ?_
      refine g_callV (pc := 39) (M' := mX8_step) (n := 0) (a := 1) (as := []) (st := []) dX8_readDanceTold_39 rfl kX8_44 vX8_step (Nat.le_of_ble_eq_true rfl) rfl qX8 rfl rfl (Nat.le_of_ble_eq_true rfl) ?_
      refine cl_mono (fun r w6 hr => ?_) h
      obtain ⟨rfl, hw6, h⟩ := hr
      show Go SC mX8_readDanceTold 42 [(0, .ref 1), (1, .ref (hA ca1)), (2, .int x5)] [] w6 Q
      refine g_iload_n (pc := 42) dX8_readDanceTold_42 rfl 2 rfl ?_
      exact g_iret (pc := 43) dX8_readDanceTold_43 rfl h
    · have h := h.1 q
      refine g_aload_n (pc := 30) dX8_readDanceTold_30 rfl 0 rfl ?_
      refine g_iconst (pc := 31) dX8_readDanceTold_31 c_2 ?_
      refine g_callV (pc := 32) (M' := mX8_fail) (n := 1) (a := 1) (as := [.int 2]) (st := []) dX8_readDanceTold_32 rfl kX8_55 vX8_fail (Nat.le_of_ble_eq_true rfl) rfl qX8 rfl rfl (Nat.le_of_ble_eq_true rfl) ?_
      refine zX8_fail (a1 := 2) (w := w4) (b := b) (hR := hw4) ?_
      show Go SC mX8_readDanceTold 35 [(0, .ref 1), (1, .ref (hA ca1)), (2, .int x5)] [.int (vXX8_fail 2)] (wXX8_fail 2 w4) Q
      refine g_pop (pc := 35) dX8_readDanceTold_35 rfl ?_
      refine g_iconst (pc := 36) dX8_readDanceTold_36 cN_1 ?_
      exact g_iret (pc := 37) dX8_readDanceTold_37 rfl h
  · have h := h.1 q
    refine g_aload_n (pc := 11) dX8_readDanceTold_11 rfl 0 rfl ?_
    refine g_iconst (pc := 12) dX8_readDanceTold_12 c_1 ?_
    refine g_callV (pc := 13) (M' := mX8_fail) (n := 1) (a := 1) (as := [.int 1]) (st := []) dX8_readDanceTold_13 rfl kX8_55 vX8_fail (Nat.le_of_ble_eq_true rfl) rfl qX8 rfl rfl (Nat.le_of_ble_eq_true rfl) ?_
    refine zX8_fail (a1 := 1) (w := w2) (b := b) (hR := hw2) ?_
    show Go SC mX8_readDanceTold 16 [(0, .ref 1), (1, .ref (hA ca1))] [.int (vXX8_fail 1)] (wXX8_fail 1 w2) Q
    refine g_pop (pc := 16) dX8_readDanceTold_16 rfl ?_
    refine g_iconst (pc := 17) dX8_readDanceTold_17 cN_1 ?_
    exact g_iret (pc := 18) dX8_readDanceTold_18 rfl h
set_option maxHeartbeats 4000000 in
set_option maxRecDepth 100000 in
theorem TX8_readSeen (ca1 : Bool) (w : Wd) (b : Bool) (hR : w.2.2 = RTab b) (Q : Option Value → Wd → Prop) (h : (((wi w 1 8) = 0 → Q (some (.int (vXX8_fail 6))) (wXX8_fail 6 w)) ∧ (¬ ((wi w 1 8) = 0) → (((wi w (hA ca1) 10) < 6 → ClI SC mX8_readDanceTold [.ref 1, .ref (hA ca1)] w (fun x2 w1 => w1.2.2 = RTab b ∧ ((0 ≤ x2 ∧ x2 < wi w1 (hA ca1) 2 ∧ x2 < 5 → (((vXX8_isWhole (wi w1 (dA (hA ca1) x2.toNatClampNeg) 1) w1) = 0 → Q (some (.int 0)) (wXX8_isWhole (wi w1 (dA (hA ca1) x2.toNatClampNeg) 1) w1)) ∧ (¬ ((vXX8_isWhole (wi w1 (dA (hA ca1) x2.toNatClampNeg) 1) w1) = 0) → ClI SC mX2_isSeen [.ref (hA ca1), .int x2, .int (wi (wXX8_isWhole (wi w1 (dA (hA ca1) x2.toNatClampNeg) 1) w1) 1 7)] (wXX8_isWhole (wi w1 (dA (hA ca1) x2.toNatClampNeg) 1) w1) (fun x5 w4 => w4.2.2 = RTab b ∧ ((x5 = 0 → ClV SC mX8_step [.ref 1] w4 (fun w6 => w6.2.2 = RTab b ∧ ClI SC mX8_cornerHere [.ref 1] w6 (fun x8 w7 => w7.2.2 = RTab b ∧ ((x8 = (-1) → Q (some (.int (vXX8_fail 1))) (wXX8_fail 1 w7)) ∧ (¬ (x8 = (-1)) → ClV SC mX8_step [.ref 1] w7 (fun w9 => w9.2.2 = RTab b ∧ ClI SC mX8_cornerHere [.ref 1] w9 (fun x11 w10 => w10.2.2 = RTab b ∧ ((x11 = (-1) → Q (some (.int (vXX8_fail 1))) (wXX8_fail 1 w10)) ∧ (¬ (x11 = (-1)) → ((x11 = x8 → Q (some (.int (vXX8_fail 3))) (wXX8_fail 3 w10)) ∧ (¬ (x11 = x8) → ClV SC mX8_step [.ref 1] (wXX2_addSeen ca1 x2 (wi (wXX8_isWhole (wi w1 (dA (hA ca1) x2.toNatClampNeg) 1) w1) 1 7) x8 x11 w10) (fun w12 => w12.2.2 = RTab b ∧ Q (some (.int 1)) w12)))))))))))) ∧ (¬ (x5 = 0) → Q (some (.int (vXX8_fail 3))) (wXX8_fail 3 w4))))))) ∧ (¬ (0 ≤ x2 ∧ x2 < wi w1 (hA ca1) 2 ∧ x2 < 5) → Q (some (.int 0)) w1)))) ∧ (¬ ((wi w (hA ca1) 10) < 6) → Q (some (.int (vXX8_fail 5))) (wXX8_fail 5 w)))))) : Cl SC mX8_readSeen [.ref 1, .ref (hA ca1)] w Q := by
  refine cl_of (by decide) (Nat.le_of_ble_eq_true rfl) ?_
  show Go SC mX8_readSeen 0 [(0, .ref 1), (1, .ref (hA ca1))] [] w Q
  refine g_aload_n (pc := 0) dX8_readSeen_0 rfl 0 rfl ?_
  refine g_getZ (pc := 1) (a := 1) dX8_readSeen_1 rfl fX8_29 rfl ?_
  refine g_if_ne (pc := 4) (tgt := 14) dX8_readSeen_4 (by decide) (fun q => ?_) (fun q => ?_)
  · have h := h.2 q
    refine g_aload_n (pc := 14) dX8_readSeen_14 rfl 1 rfl ?_
    refine g_getI (pc := 15) (a := (hA ca1)) dX8_readSeen_15 rfl fX8_157 (sh_h ca1) ?_
    refine g_bipush (pc := 18) (v := 6) dX8_readSeen_18 (by decide) ?_
    refine g_icmp_lt (pc := 20) (tgt := 29) dX8_readSeen_20 (by decide) (fun q => ?_) (fun q => ?_)
    · have h := h.1 q
      refine g_aload_n (pc := 29) dX8_readSeen_29 rfl 0 rfl ?_
      refine g_aload_n (pc := 30) dX8_readSeen_30 rfl 1 rfl ?_
      refine g_callV (pc := 31) (M' := mX8_readDanceTold) (n := 1) (a := 1) (as := [.ref (hA ca1)]) (st := []) dX8_readSeen_31 rfl kX8_142 vX8_readDanceTold (Nat.le_of_ble_eq_true rfl) rfl qX8 rfl rfl (Nat.le_of_ble_eq_true rfl) ?_
      refine cl_mono (fun r w1 hr => ?_) h
      obtain ⟨x2, rfl, hw1, h⟩ := hr
      show Go SC mX8_readSeen 34 [(0, .ref 1), (1, .ref (hA ca1))] [.int x2] w1 Q
      refine g_istore_n (pc := 34) (lv2 := [(0, .ref 1), (1, .ref (hA ca1)), (2, .int x2)]) dX8_readSeen_34 rfl (Nat.le_of_ble_eq_true rfl) rfl ?_
      refine g_aload_n (pc := 35) dX8_readSeen_35 rfl 1 rfl ?_
      refine g_iload_n (pc := 36) dX8_readSeen_36 rfl 2 rfl ?_
      refine g_callV (pc := 37) (M' := mX2_danceAt) (n := 1) (a := (hA ca1)) (as := [.int x2]) (st := []) dX8_readSeen_37 rfl kX8_145 vX2_danceAt (Nat.le_of_ble_eq_true rfl) (sh_h ca1) qX2 rfl rfl (Nat.le_of_ble_eq_true rfl) ?_
      refine h_danceAt (c := ca1) (d := x2) (w := w1) (hR := hw1) (fun qd3 => ?_) (fun qd3 => ?_)
      · have h := h.1 qd3
        show Go SC mX8_readSeen 40 [(0, .ref 1), (1, .ref (hA ca1)), (2, .int x2)] [.ref (dA (hA ca1) x2.toNatClampNeg)] w1 Q
        refine g_astore_n (pc := 40) (lv2 := [(0, .ref 1), (1, .ref (hA ca1)), (2, .int x2), (3, .ref (dA (hA ca1) x2.toNatClampNeg))]) dX8_readSeen_40 rfl (Nat.le_of_ble_eq_true rfl) rfl ?_
        refine g_aload_n (pc := 41) dX8_readSeen_41 rfl 3 rfl ?_
        refine g_ifnullR (pc := 42) dX8_readSeen_42 ?_
        refine g_aload_n (pc := 45) dX8_readSeen_45 rfl 0 rfl ?_
        refine g_aload_n (pc := 46) dX8_readSeen_46 rfl 3 rfl ?_
        refine g_getI (pc := 47) (a := (dA (hA ca1) x2.toNatClampNeg)) dX8_readSeen_47 rfl fX8_126 (sh_d ca1 (lt5 qd3.1 qd3.2.2)) ?_
        refine g_callV (pc := 50) (M' := mX8_isWhole) (n := 1) (a := 1) (as := [.int (wi w1 (dA (hA ca1) x2.toNatClampNeg) 1)]) (st := []) dX8_readSeen_50 rfl kX8_88 vX8_isWhole (Nat.le_of_ble_eq_true rfl) rfl qX8 rfl rfl (Nat.le_of_ble_eq_true rfl) ?_
        refine zX8_isWhole (a1 := (wi w1 (dA (hA ca1) x2.toNatClampNeg) 1)) (w := w1) (b := b) (hR := hw1) ?_
        show Go SC mX8_readSeen 53 [(0, .ref 1), (1, .ref (hA ca1)), (2, .int x2), (3, .ref (dA (hA ca1) x2.toNatClampNeg))] [.int (vXX8_isWhole (wi w1 (dA (hA ca1) x2.toNatClampNeg) 1) w1)] (wXX8_isWhole (wi w1 (dA (hA ca1) x2.toNatClampNeg) 1) w1) Q
        refine g_if_ne (pc := 53) (tgt := 58) dX8_readSeen_53 (by decide) (fun q => ?_) (fun q => ?_)
        · have h := h.2 q
          refine g_aload_n (pc := 58) dX8_readSeen_58 rfl 0 rfl ?_
          refine g_getI (pc := 59) (a := 1) dX8_readSeen_59 rfl fX8_91 rfl ?_
          refine g_istore (pc := 62) (lv2 := [(0, .ref 1), (1, .ref (hA ca1)), (2, .int x2), (3, .ref (dA (hA ca1) x2.toNatClampNeg)), (4, .int (wi (wXX8_isWhole (wi w1 (dA (hA ca1) x2.toNatClampNeg) 1) w1) 1 7))]) dX8_readSeen_62 (Nat.le_of_ble_eq_true rfl) rfl ?_
          refine g_aload_n (pc := 64) dX8_readSeen_64 rfl 1 rfl ?_
          refine g_iload_n (pc := 65) dX8_readSeen_65 rfl 2 rfl ?_
          refine g_iload (pc := 66) dX8_readSeen_66 4 rfl ?_
          refine g_callV (pc := 68) (M' := mX2_isSeen) (n := 2) (a := (hA ca1)) (as := [.int x2, .int (wi (wXX8_isWhole (wi w1 (dA (hA ca1) x2.toNatClampNeg) 1) w1) 1 7)]) (st := []) dX8_readSeen_68 rfl kX8_160 vX2_isSeen (Nat.le_of_ble_eq_true rfl) (sh_h ca1) qX2 rfl rfl (Nat.le_of_ble_eq_true rfl) ?_
          refine cl_mono (fun r w4 hr => ?_) h
          obtain ⟨x5, rfl, hw4, h⟩ := hr
          show Go SC mX8_readSeen 71 [(0, .ref 1), (1, .ref (hA ca1)), (2, .int x2), (3, .ref (dA (hA ca1) x2.toNatClampNeg)), (4, .int (wi (wXX8_isWhole (wi w1 (dA (hA ca1) x2.toNatClampNeg) 1) w1) 1 7))] [.int x5] w4 Q
          refine g_if_eq (pc := 71) (tgt := 80) dX8_readSeen_71 (by decide) (fun q => ?_) (fun q => ?_)
          · have h := h.1 q
            refine g_aload_n (pc := 80) dX8_readSeen_80 rfl 0 rfl ?_
            refine g_callV (pc := 81) (M' := mX8_step) (n := 0) (a := 1) (as := []) (st := []) dX8_readSeen_81 rfl kX8_44 vX8_step (Nat.le_of_ble_eq_true rfl) rfl qX8 rfl rfl (Nat.le_of_ble_eq_true rfl) ?_
            refine cl_mono (fun r w6 hr => ?_) h
            obtain ⟨rfl, hw6, h⟩ := hr
            show Go SC mX8_readSeen 84 [(0, .ref 1), (1, .ref (hA ca1)), (2, .int x2), (3, .ref (dA (hA ca1) x2.toNatClampNeg)), (4, .int (wi (wXX8_isWhole (wi w1 (dA (hA ca1) x2.toNatClampNeg) 1) w1) 1 7))] [] w6 Q
            refine g_aload_n (pc := 84) dX8_readSeen_84 rfl 0 rfl ?_
            refine g_callV (pc := 85) (M' := mX8_cornerHere) (n := 0) (a := 1) (as := []) (st := []) dX8_readSeen_85 rfl kX8_163 vX8_cornerHere (Nat.le_of_ble_eq_true rfl) rfl qX8 rfl rfl (Nat.le_of_ble_eq_true rfl) ?_
            refine cl_mono (fun r w7 hr => ?_) h
            obtain ⟨x8, rfl, hw7, h⟩ := hr
            show Go SC mX8_readSeen 88 [(0, .ref 1), (1, .ref (hA ca1)), (2, .int x2), (3, .ref (dA (hA ca1) x2.toNatClampNeg)), (4, .int (wi (wXX8_isWhole (wi w1 (dA (hA ca1) x2.toNatClampNeg) 1) w1) 1 7))] [.int x8] w7 Q
            refine g_istore (pc := 88) (lv2 := [(0, .ref 1), (1, .ref (hA ca1)), (2, .int x2), (3, .ref (dA (hA ca1) x2.toNatClampNeg)), (4, .int (wi (wXX8_isWhole (wi w1 (dA (hA ca1) x2.toNatClampNeg) 1) w1) 1 7)), (5, .int x8)]) dX8_readSeen_88 (Nat.le_of_ble_eq_true rfl) rfl ?_
            refine g_iload (pc := 90) dX8_readSeen_90 5 rfl ?_
            refine g_iconst (pc := 92) dX8_readSeen_92 cN_1 ?_
            refine g_icmp_ne (pc := 93) (tgt := 102) dX8_readSeen_93 (by decide) (fun q => ?_) (fun q => ?_)
            · have h := h.2 q
              refine g_aload_n (pc := 102) dX8_readSeen_102 rfl 0 rfl ?_
              refine g_callV (pc := 103) (M' := mX8_step) (n := 0) (a := 1) (as := []) (st := []) dX8_readSeen_103 rfl kX8_44 vX8_step (Nat.le_of_ble_eq_true rfl) rfl qX8 rfl rfl (Nat.le_of_ble_eq_true rfl) ?_
              refine cl_mono (fun r w9 hr => ?_) h
              obtain ⟨rfl, hw9, h⟩ := hr
              show Go SC mX8_readSeen 106 [(0, .ref 1), (1, .ref (hA ca1)), (2, .int x2), (3, .ref (dA (hA ca1) x2.toNatClampNeg)), (4, .int (wi (wXX8_isWhole (wi w1 (dA (hA ca1) x2.toNatClampNeg) 1) w1) 1 7)), (5, .int x8)] [] w9 Q
              refine g_aload_n (pc := 106) dX8_readSeen_106 rfl 0 rfl ?_
              refine g_callV (pc := 107) (M' := mX8_cornerHere) (n := 0) (a := 1) (as := []) (st := []) dX8_readSeen_107 rfl kX8_163 vX8_cornerHere (Nat.le_of_ble_eq_true rfl) rfl qX8 rfl rfl (Nat.le_of_ble_eq_true rfl) ?_
              refine cl_mono (fun r w10 hr => ?_) h
              obtain ⟨x11, rfl, hw10, h⟩ := hr
              show Go SC mX8_readSeen 110 [(0, .ref 1), (1, .ref (hA ca1)), (2, .int x2), (3, .ref (dA (hA ca1) x2.toNatClampNeg)), (4, .int (wi (wXX8_isWhole (wi w1 (dA (hA ca1) x2.toNatClampNeg) 1) w1) 1 7)), (5, .int x8)] [.int x11] w10 Q
              refine g_istore (pc := 110) (lv2 := [(0, .ref 1), (1, .ref (hA ca1)), (2, .int x2), (3, .ref (dA (hA ca1) x2.toNatClampNeg)), (4, .int (wi (wXX8_isWhole (wi w1 (dA (hA ca1) x2.toNatClampNeg) 1) w1) 1 7)), (5, .int x8), (6, .int x11)]) dX8_readSeen_110 (Nat.le_of_ble_eq_true rfl) rfl ?_
              refine g_iload (pc := 112) dX8_readSeen_112 6 rfl ?_
              refine g_iconst (pc := 114) dX8_readSeen_114 cN_1 ?_
              refine g_icmp_ne (pc := 115) (tgt := 124) dX8_readSeen_115 (by decide) (fun q => ?_) (fun q => ?_)
              · have h := h.2 q
                refine g_iload (pc := 124) dX8_readSeen_124 6 rfl ?_
                refine g_iload (pc := 126) dX8_readSeen_126 5 rfl ?_
                refine g_icmp_ne (pc := 128) (tgt := 137) dX8_readSeen_128 (by decide) (fun q => ?_) (fun q => ?_)
                · have h := h.2 q
                  refine g_aload_n (pc := 137) dX8_readSeen_137 rfl 1 rfl ?_
                  refine g_iload_n (pc := 138) dX8_readSeen_138 rfl 2 rfl ?_
                  refine g_iload (pc := 139) dX8_readSeen_139 4 rfl ?_
                  refine g_iload (pc := 141) dX8_readSeen_141 5 rfl ?_
                  refine g_iload (pc := 143) dX8_readSeen_143 6 rfl ?_
                  refine g_callV (pc := 145) (M' := mX2_addSeen) (n := 4) (a := (hA ca1)) (as := [.int x2, .int (wi (wXX8_isWhole (wi w1 (dA (hA ca1) x2.toNatClampNeg) 1) w1) 1 7), .int x8, .int x11]) (st := []) dX8_readSeen_145 rfl kX8_167 vX2_addSeen (Nat.le_of_ble_eq_true rfl) (sh_h ca1) qX2 rfl rfl (Nat.le_of_ble_eq_true rfl) ?_
                  refine zX2_addSeen (c := ca1) (a1 := x2) (a2 := (wi (wXX8_isWhole (wi w1 (dA (hA ca1) x2.toNatClampNeg) 1) w1) 1 7)) (a3 := x8) (a4 := x11) (w := w10) (b := b) (hR := hw10) ?_
                  show Go SC mX8_readSeen 148 [(0, .ref 1), (1, .ref (hA ca1)), (2, .int x2), (3, .ref (dA (hA ca1) x2.toNatClampNeg)), (4, .int (wi (wXX8_isWhole (wi w1 (dA (hA ca1) x2.toNatClampNeg) 1) w1) 1 7)), (5, .int x8), (6, .int x11)] [] (wXX2_addSeen ca1 x2 (wi (wXX8_isWhole (wi w1 (dA (hA ca1) x2.toNatClampNeg) 1) w1) 1 7) x8 x11 w10) Q
                  refine g_aload_n (pc := 148) dX8_readSeen_148 rfl 0 rfl ?_
                  refine g_callV (pc := 149) (M' := mX8_step) (n := 0) (a := 1) (as := []) (st := []) dX8_readSeen_149 rfl kX8_44 vX8_step (Nat.le_of_ble_eq_true rfl) rfl qX8 rfl rfl (Nat.le_of_ble_eq_true rfl) ?_
                  refine cl_mono (fun r w12 hr => ?_) h
                  obtain ⟨rfl, hw12, h⟩ := hr
                  show Go SC mX8_readSeen 152 [(0, .ref 1), (1, .ref (hA ca1)), (2, .int x2), (3, .ref (dA (hA ca1) x2.toNatClampNeg)), (4, .int (wi (wXX8_isWhole (wi w1 (dA (hA ca1) x2.toNatClampNeg) 1) w1) 1 7)), (5, .int x8), (6, .int x11)] [] w12 Q
                  refine g_iconst (pc := 152) dX8_readSeen_152 c_1 ?_
                  exact g_bret (pc := 153) dX8_readSeen_153 rfl (Or.inr rfl) h
                · have h := h.1 q
                  refine g_aload_n (pc := 131) dX8_readSeen_131 rfl 0 rfl ?_
                  refine g_iconst (pc := 132) dX8_readSeen_132 c_3 ?_
                  refine g_callV (pc := 133) (M' := mX8_fail) (n := 1) (a := 1) (as := [.int 3]) (st := []) dX8_readSeen_133 rfl kX8_55 vX8_fail (Nat.le_of_ble_eq_true rfl) rfl qX8 rfl rfl (Nat.le_of_ble_eq_true rfl) ?_
                  refine zX8_fail (a1 := 3) (w := w10) (b := b) (hR := hw10) ?_
                  show Go SC mX8_readSeen 136 [(0, .ref 1), (1, .ref (hA ca1)), (2, .int x2), (3, .ref (dA (hA ca1) x2.toNatClampNeg)), (4, .int (wi (wXX8_isWhole (wi w1 (dA (hA ca1) x2.toNatClampNeg) 1) w1) 1 7)), (5, .int x8), (6, .int x11)] [.int (vXX8_fail 3)] (wXX8_fail 3 w10) Q
                  exact g_bret (pc := 136) dX8_readSeen_136 rfl (zzX8_fail 3) h
              · have h := h.1 q
                refine g_aload_n (pc := 118) dX8_readSeen_118 rfl 0 rfl ?_
                refine g_iconst (pc := 119) dX8_readSeen_119 c_1 ?_
                refine g_callV (pc := 120) (M' := mX8_fail) (n := 1) (a := 1) (as := [.int 1]) (st := []) dX8_readSeen_120 rfl kX8_55 vX8_fail (Nat.le_of_ble_eq_true rfl) rfl qX8 rfl rfl (Nat.le_of_ble_eq_true rfl) ?_
                refine zX8_fail (a1 := 1) (w := w10) (b := b) (hR := hw10) ?_
                show Go SC mX8_readSeen 123 [(0, .ref 1), (1, .ref (hA ca1)), (2, .int x2), (3, .ref (dA (hA ca1) x2.toNatClampNeg)), (4, .int (wi (wXX8_isWhole (wi w1 (dA (hA ca1) x2.toNatClampNeg) 1) w1) 1 7)), (5, .int x8), (6, .int x11)] [.int (vXX8_fail 1)] (wXX8_fail 1 w10) Q
                exact g_bret (pc := 123) dX8_readSeen_123 rfl (zzX8_fail 1) h
            · have h := h.1 q
              refine g_aload_n (pc := 96) dX8_readSeen_96 rfl 0 rfl ?_
              refine g_iconst (pc := 97) dX8_readSeen_97 c_1 ?_
              refine g_callV (pc := 98) (M' := mX8_fail) (n := 1) (a := 1) (as := [.int 1]) (st := []) dX8_readSeen_98 rfl kX8_55 vX8_fail (Nat.le_of_ble_eq_true rfl) rfl qX8 rfl rfl (Nat.le_of_ble_eq_true rfl) ?_
              refine zX8_fail (a1 := 1) (w := w7) (b := b) (hR := hw7) ?_
              show Go SC mX8_readSeen 101 [(0, .ref 1), (1, .ref (hA ca1)), (2, .int x2), (3, .ref (dA (hA ca1) x2.toNatClampNeg)), (4, .int (wi (wXX8_isWhole (wi w1 (dA (hA ca1) x2.toNatClampNeg) 1) w1) 1 7)), (5, .int x8)] [.int (vXX8_fail 1)] (wXX8_fail 1 w7) Q
              exact g_bret (pc := 101) dX8_readSeen_101 rfl (zzX8_fail 1) h
          · have h := h.2 q
            refine g_aload_n (pc := 74) dX8_readSeen_74 rfl 0 rfl ?_
            refine g_iconst (pc := 75) dX8_readSeen_75 c_3 ?_
            refine g_callV (pc := 76) (M' := mX8_fail) (n := 1) (a := 1) (as := [.int 3]) (st := []) dX8_readSeen_76 rfl kX8_55 vX8_fail (Nat.le_of_ble_eq_true rfl) rfl qX8 rfl rfl (Nat.le_of_ble_eq_true rfl) ?_
            refine zX8_fail (a1 := 3) (w := w4) (b := b) (hR := hw4) ?_
            show Go SC mX8_readSeen 79 [(0, .ref 1), (1, .ref (hA ca1)), (2, .int x2), (3, .ref (dA (hA ca1) x2.toNatClampNeg)), (4, .int (wi (wXX8_isWhole (wi w1 (dA (hA ca1) x2.toNatClampNeg) 1) w1) 1 7))] [.int (vXX8_fail 3)] (wXX8_fail 3 w4) Q
            exact g_bret (pc := 79) dX8_readSeen_79 rfl (zzX8_fail 3) h
        · have h := h.1 q
          refine g_iconst (pc := 56) dX8_readSeen_56 c_0 ?_
          exact g_bret (pc := 57) dX8_readSeen_57 rfl (Or.inl rfl) h
      · have h := h.2 qd3
        show Go SC mX8_readSeen 40 [(0, .ref 1), (1, .ref (hA ca1)), (2, .int x2)] [.null] w1 Q
        refine g_astore_nN (pc := 40) (lv2 := [(0, .ref 1), (1, .ref (hA ca1)), (2, .int x2), (3, .null)]) dX8_readSeen_40 rfl (Nat.le_of_ble_eq_true rfl) rfl ?_
        refine g_aload_nN (pc := 41) dX8_readSeen_41 rfl 3 rfl ?_
        refine g_ifnullN (pc := 42) (tgt := 56) dX8_readSeen_42 (by decide) ?_
        refine g_iconst (pc := 56) dX8_readSeen_56 c_0 ?_
        exact g_bret (pc := 57) dX8_readSeen_57 rfl (Or.inl rfl) h
    · have h := h.2 q
      refine g_aload_n (pc := 23) dX8_readSeen_23 rfl 0 rfl ?_
      refine g_iconst (pc := 24) dX8_readSeen_24 c_5 ?_
      refine g_callV (pc := 25) (M' := mX8_fail) (n := 1) (a := 1) (as := [.int 5]) (st := []) dX8_readSeen_25 rfl kX8_55 vX8_fail (Nat.le_of_ble_eq_true rfl) rfl qX8 rfl rfl (Nat.le_of_ble_eq_true rfl) ?_
      refine zX8_fail (a1 := 5) (w := w) (b := b) (hR := hR) ?_
      show Go SC mX8_readSeen 28 [(0, .ref 1), (1, .ref (hA ca1))] [.int (vXX8_fail 5)] (wXX8_fail 5 w) Q
      exact g_bret (pc := 28) dX8_readSeen_28 rfl (zzX8_fail 5) h
  · have h := h.1 q
    refine g_aload_n (pc := 7) dX8_readSeen_7 rfl 0 rfl ?_
    refine g_bipush (pc := 8) (v := 6) dX8_readSeen_8 (by decide) ?_
    refine g_callV (pc := 10) (M' := mX8_fail) (n := 1) (a := 1) (as := [.int 6]) (st := []) dX8_readSeen_10 rfl kX8_55 vX8_fail (Nat.le_of_ble_eq_true rfl) rfl qX8 rfl rfl (Nat.le_of_ble_eq_true rfl) ?_
    refine zX8_fail (a1 := 6) (w := w) (b := b) (hR := hR) ?_
    show Go SC mX8_readSeen 13 [(0, .ref 1), (1, .ref (hA ca1))] [.int (vXX8_fail 6)] (wXX8_fail 6 w) Q
    exact g_bret (pc := 13) dX8_readSeen_13 rfl (zzX8_fail 6) h
set_option maxHeartbeats 4000000 in
set_option maxRecDepth 100000 in
theorem TX8_readSlips (ca1 : Bool) (w : Wd) (b : Bool) (hR : w.2.2 = RTab b) (Q : Option Value → Wd → Prop) (h : (((wi w 1 8) = 0 → ClV SC mX8_step [.ref 1] (si w 1 8 1) (fun w1 => w1.2.2 = RTab b ∧ ClI SC mX8_isWord [.ref 1, .ref 1004] w1 (fun x3 w2 => w2.2.2 = RTab b ∧ ((x3 = 0 → Q (some (.int (vXX8_fail 1))) (wXX8_fail 1 w2)) ∧ (¬ (x3 = 0) → ClV SC mX8_step [.ref 1] w2 (fun w4 => w4.2.2 = RTab b ∧ (((vXX8_isWhole 100 w4) = 0 → Q (some (.int 0)) (wXX8_isWhole 100 w4)) ∧ (¬ ((vXX8_isWhole 100 w4) = 0) → ClV SC mX8_step [.ref 1] (si (wXX8_isWhole 100 w4) (hA ca1) 0 (wi (wXX8_isWhole 100 w4) 1 7)) (fun w5 => w5.2.2 = RTab b ∧ Q (some (.int 1)) w5))))))))) ∧ (¬ ((wi w 1 8) = 0) → Q (some (.int (vXX8_fail 3))) (wXX8_fail 3 w)))) : Cl SC mX8_readSlips [.ref 1, .ref (hA ca1)] w Q := by
  refine cl_of (by decide) (Nat.le_of_ble_eq_true rfl) ?_
  show Go SC mX8_readSlips 0 [(0, .ref 1), (1, .ref (hA ca1))] [] w Q
  refine g_aload_n (pc := 0) dX8_readSlips_0 rfl 0 rfl ?_
  refine g_getZ (pc := 1) (a := 1) dX8_readSlips_1 rfl fX8_29 rfl ?_
  refine g_if_eq (pc := 4) (tgt := 13) dX8_readSlips_4 (by decide) (fun q => ?_) (fun q => ?_)
  · have h := h.1 q
    refine g_aload_n (pc := 13) dX8_readSlips_13 rfl 0 rfl ?_
    refine g_iconst (pc := 14) dX8_readSlips_14 c_1 ?_
    refine g_putZ (pc := 15) dX8_readSlips_15 rfl fX8_29 pX8_8 rfl (Or.inr rfl) ?_
    refine g_aload_n (pc := 18) dX8_readSlips_18 rfl 0 rfl ?_
    refine g_callV (pc := 19) (M' := mX8_step) (n := 0) (a := 1) (as := []) (st := []) dX8_readSlips_19 rfl kX8_44 vX8_step (Nat.le_of_ble_eq_true rfl) rfl qX8 rfl rfl (Nat.le_of_ble_eq_true rfl) ?_
    refine cl_mono (fun r w1 hr => ?_) h
    obtain ⟨rfl, hw1, h⟩ := hr
    show Go SC mX8_readSlips 22 [(0, .ref 1), (1, .ref (hA ca1))] [] w1 Q
    refine g_aload_n (pc := 22) dX8_readSlips_22 rfl 0 rfl ?_
    refine g_ldcS (pc := 23) (i := 4) (tx := "slips") dX8_readSlips_23 rfl (by decide) ?_
    refine g_callV (pc := 25) (M' := mX8_isWord) (n := 1) (a := 1) (as := [.ref 1004]) (st := []) dX8_readSlips_25 rfl kX8_64 vX8_isWord (Nat.le_of_ble_eq_true rfl) rfl qX8 rfl rfl (Nat.le_of_ble_eq_true rfl) ?_
    refine cl_mono (fun r w2 hr => ?_) h
    obtain ⟨x3, rfl, hw2, h⟩ := hr
    show Go SC mX8_readSlips 28 [(0, .ref 1), (1, .ref (hA ca1))] [.int x3] w2 Q
    refine g_if_ne (pc := 28) (tgt := 37) dX8_readSlips_28 (by decide) (fun q => ?_) (fun q => ?_)
    · have h := h.2 q
      refine g_aload_n (pc := 37) dX8_readSlips_37 rfl 0 rfl ?_
      refine g_callV (pc := 38) (M' := mX8_step) (n := 0) (a := 1) (as := []) (st := []) dX8_readSlips_38 rfl kX8_44 vX8_step (Nat.le_of_ble_eq_true rfl) rfl qX8 rfl rfl (Nat.le_of_ble_eq_true rfl) ?_
      refine cl_mono (fun r w4 hr => ?_) h
      obtain ⟨rfl, hw4, h⟩ := hr
      show Go SC mX8_readSlips 41 [(0, .ref 1), (1, .ref (hA ca1))] [] w4 Q
      refine g_aload_n (pc := 41) dX8_readSlips_41 rfl 0 rfl ?_
      refine g_bipush (pc := 42) (v := 100) dX8_readSlips_42 (by decide) ?_
      refine g_callV (pc := 44) (M' := mX8_isWhole) (n := 1) (a := 1) (as := [.int 100]) (st := []) dX8_readSlips_44 rfl kX8_88 vX8_isWhole (Nat.le_of_ble_eq_true rfl) rfl qX8 rfl rfl (Nat.le_of_ble_eq_true rfl) ?_
      refine zX8_isWhole (a1 := 100) (w := w4) (b := b) (hR := hw4) ?_
      show Go SC mX8_readSlips 47 [(0, .ref 1), (1, .ref (hA ca1))] [.int (vXX8_isWhole 100 w4)] (wXX8_isWhole 100 w4) Q
      refine g_if_ne (pc := 47) (tgt := 52) dX8_readSlips_47 (by decide) (fun q => ?_) (fun q => ?_)
      · have h := h.2 q
        refine g_aload_n (pc := 52) dX8_readSlips_52 rfl 1 rfl ?_
        refine g_aload_n (pc := 53) dX8_readSlips_53 rfl 0 rfl ?_
        refine g_getI (pc := 54) (a := 1) dX8_readSlips_54 rfl fX8_91 rfl ?_
        refine g_putI (pc := 57) dX8_readSlips_57 rfl fX8_94 pX2_0 (sh_h ca1) ?_
        refine g_aload_n (pc := 60) dX8_readSlips_60 rfl 0 rfl ?_
        refine g_callV (pc := 61) (M' := mX8_step) (n := 0) (a := 1) (as := []) (st := []) dX8_readSlips_61 rfl kX8_44 vX8_step (Nat.le_of_ble_eq_true rfl) rfl qX8 rfl rfl (Nat.le_of_ble_eq_true rfl) ?_
        refine cl_mono (fun r w5 hr => ?_) h
        obtain ⟨rfl, hw5, h⟩ := hr
        show Go SC mX8_readSlips 64 [(0, .ref 1), (1, .ref (hA ca1))] [] w5 Q
        refine g_iconst (pc := 64) dX8_readSlips_64 c_1 ?_
        exact g_bret (pc := 65) dX8_readSlips_65 rfl (Or.inr rfl) h
      · have h := h.1 q
        refine g_iconst (pc := 50) dX8_readSlips_50 c_0 ?_
        exact g_bret (pc := 51) dX8_readSlips_51 rfl (Or.inl rfl) h
    · have h := h.1 q
      refine g_aload_n (pc := 31) dX8_readSlips_31 rfl 0 rfl ?_
      refine g_iconst (pc := 32) dX8_readSlips_32 c_1 ?_
      refine g_callV (pc := 33) (M' := mX8_fail) (n := 1) (a := 1) (as := [.int 1]) (st := []) dX8_readSlips_33 rfl kX8_55 vX8_fail (Nat.le_of_ble_eq_true rfl) rfl qX8 rfl rfl (Nat.le_of_ble_eq_true rfl) ?_
      refine zX8_fail (a1 := 1) (w := w2) (b := b) (hR := hw2) ?_
      show Go SC mX8_readSlips 36 [(0, .ref 1), (1, .ref (hA ca1))] [.int (vXX8_fail 1)] (wXX8_fail 1 w2) Q
      exact g_bret (pc := 36) dX8_readSlips_36 rfl (zzX8_fail 1) h
  · have h := h.2 q
    refine g_aload_n (pc := 7) dX8_readSlips_7 rfl 0 rfl ?_
    refine g_iconst (pc := 8) dX8_readSlips_8 c_3 ?_
    refine g_callV (pc := 9) (M' := mX8_fail) (n := 1) (a := 1) (as := [.int 3]) (st := []) dX8_readSlips_9 rfl kX8_55 vX8_fail (Nat.le_of_ble_eq_true rfl) rfl qX8 rfl rfl (Nat.le_of_ble_eq_true rfl) ?_
    refine zX8_fail (a1 := 3) (w := w) (b := b) (hR := hR) ?_
    show Go SC mX8_readSlips 12 [(0, .ref 1), (1, .ref (hA ca1))] [.int (vXX8_fail 3)] (wXX8_fail 3 w) Q
    exact g_bret (pc := 12) dX8_readSlips_12 rfl (zzX8_fail 3) h
set_option maxHeartbeats 4000000 in
set_option maxRecDepth 100000 in
theorem TX8_readUnsure (ca1 : Bool) (w : Wd) (b : Bool) (hR : w.2.2 = RTab b) (Q : Option Value → Wd → Prop) (h : (((wi w 1 8) = 0 → Q (some (.int (vXX8_fail 6))) (wXX8_fail 6 w)) ∧ (¬ ((wi w 1 8) = 0) → (((wi w (hA ca1) 5) < 4 → ClI SC mX8_readDanceTold [.ref 1, .ref (hA ca1)] w (fun x2 w1 => w1.2.2 = RTab b ∧ ((0 ≤ x2 ∧ x2 < wi w1 (hA ca1) 2 ∧ x2 < 5 → (((vXX8_isWhole ((wi w1 (dA (hA ca1) x2.toNatClampNeg) 1) - 1) w1) = 0 → Q (some (.int 0)) (wXX8_isWhole ((wi w1 (dA (hA ca1) x2.toNatClampNeg) 1) - 1) w1)) ∧ (¬ ((vXX8_isWhole ((wi w1 (dA (hA ca1) x2.toNatClampNeg) 1) - 1) w1) = 0) → ClI SC mX2_isUnsure [.ref (hA ca1), .int x2, .int (wi (wXX8_isWhole ((wi w1 (dA (hA ca1) x2.toNatClampNeg) 1) - 1) w1) 1 7)] (wXX8_isWhole ((wi w1 (dA (hA ca1) x2.toNatClampNeg) 1) - 1) w1) (fun x5 w4 => w4.2.2 = RTab b ∧ ((x5 = 0 → ClV SC mX8_step [.ref 1] (wXX2_addUnsure ca1 x2 (wi w4 1 7) w4) (fun w6 => w6.2.2 = RTab b ∧ Q (some (.int 1)) w6)) ∧ (¬ (x5 = 0) → Q (some (.int (vXX8_fail 3))) (wXX8_fail 3 w4))))))) ∧ (¬ (0 ≤ x2 ∧ x2 < wi w1 (hA ca1) 2 ∧ x2 < 5) → Q (some (.int 0)) w1)))) ∧ (¬ ((wi w (hA ca1) 5) < 4) → Q (some (.int (vXX8_fail 5))) (wXX8_fail 5 w)))))) : Cl SC mX8_readUnsure [.ref 1, .ref (hA ca1)] w Q := by
  refine cl_of (by decide) (Nat.le_of_ble_eq_true rfl) ?_
  show Go SC mX8_readUnsure 0 [(0, .ref 1), (1, .ref (hA ca1))] [] w Q
  refine g_aload_n (pc := 0) dX8_readUnsure_0 rfl 0 rfl ?_
  refine g_getZ (pc := 1) (a := 1) dX8_readUnsure_1 rfl fX8_29 rfl ?_
  refine g_if_ne (pc := 4) (tgt := 14) dX8_readUnsure_4 (by decide) (fun q => ?_) (fun q => ?_)
  · have h := h.2 q
    refine g_aload_n (pc := 14) dX8_readUnsure_14 rfl 1 rfl ?_
    refine g_getI (pc := 15) (a := (hA ca1)) dX8_readUnsure_15 rfl fX8_139 (sh_h ca1) ?_
    refine g_iconst (pc := 18) dX8_readUnsure_18 c_4 ?_
    refine g_icmp_lt (pc := 19) (tgt := 28) dX8_readUnsure_19 (by decide) (fun q => ?_) (fun q => ?_)
    · have h := h.1 q
      refine g_aload_n (pc := 28) dX8_readUnsure_28 rfl 0 rfl ?_
      refine g_aload_n (pc := 29) dX8_readUnsure_29 rfl 1 rfl ?_
      refine g_callV (pc := 30) (M' := mX8_readDanceTold) (n := 1) (a := 1) (as := [.ref (hA ca1)]) (st := []) dX8_readUnsure_30 rfl kX8_142 vX8_readDanceTold (Nat.le_of_ble_eq_true rfl) rfl qX8 rfl rfl (Nat.le_of_ble_eq_true rfl) ?_
      refine cl_mono (fun r w1 hr => ?_) h
      obtain ⟨x2, rfl, hw1, h⟩ := hr
      show Go SC mX8_readUnsure 33 [(0, .ref 1), (1, .ref (hA ca1))] [.int x2] w1 Q
      refine g_istore_n (pc := 33) (lv2 := [(0, .ref 1), (1, .ref (hA ca1)), (2, .int x2)]) dX8_readUnsure_33 rfl (Nat.le_of_ble_eq_true rfl) rfl ?_
      refine g_aload_n (pc := 34) dX8_readUnsure_34 rfl 1 rfl ?_
      refine g_iload_n (pc := 35) dX8_readUnsure_35 rfl 2 rfl ?_
      refine g_callV (pc := 36) (M' := mX2_danceAt) (n := 1) (a := (hA ca1)) (as := [.int x2]) (st := []) dX8_readUnsure_36 rfl kX8_145 vX2_danceAt (Nat.le_of_ble_eq_true rfl) (sh_h ca1) qX2 rfl rfl (Nat.le_of_ble_eq_true rfl) ?_
      refine h_danceAt (c := ca1) (d := x2) (w := w1) (hR := hw1) (fun qd3 => ?_) (fun qd3 => ?_)
      · have h := h.1 qd3
        show Go SC mX8_readUnsure 39 [(0, .ref 1), (1, .ref (hA ca1)), (2, .int x2)] [.ref (dA (hA ca1) x2.toNatClampNeg)] w1 Q
        refine g_astore_n (pc := 39) (lv2 := [(0, .ref 1), (1, .ref (hA ca1)), (2, .int x2), (3, .ref (dA (hA ca1) x2.toNatClampNeg))]) dX8_readUnsure_39 rfl (Nat.le_of_ble_eq_true rfl) rfl ?_
        refine g_aload_n (pc := 40) dX8_readUnsure_40 rfl 3 rfl ?_
        refine g_ifnullR (pc := 41) dX8_readUnsure_41 ?_
        refine g_aload_n (pc := 44) dX8_readUnsure_44 rfl 0 rfl ?_
        refine g_aload_n (pc := 45) dX8_readUnsure_45 rfl 3 rfl ?_
        refine g_getI (pc := 46) (a := (dA (hA ca1) x2.toNatClampNeg)) dX8_readUnsure_46 rfl fX8_126 (sh_d ca1 (lt5 qd3.1 qd3.2.2)) ?_
        refine g_iconst (pc := 49) dX8_readUnsure_49 c_1 ?_
        refine g_isub (pc := 50) dX8_readUnsure_50 ?_
        refine g_callV (pc := 51) (M' := mX8_isWhole) (n := 1) (a := 1) (as := [.int ((wi w1 (dA (hA ca1) x2.toNatClampNeg) 1) - 1)]) (st := []) dX8_readUnsure_51 rfl kX8_88 vX8_isWhole (Nat.le_of_ble_eq_true rfl) rfl qX8 rfl rfl (Nat.le_of_ble_eq_true rfl) ?_
        refine zX8_isWhole (a1 := ((wi w1 (dA (hA ca1) x2.toNatClampNeg) 1) - 1)) (w := w1) (b := b) (hR := hw1) ?_
        show Go SC mX8_readUnsure 54 [(0, .ref 1), (1, .ref (hA ca1)), (2, .int x2), (3, .ref (dA (hA ca1) x2.toNatClampNeg))] [.int (vXX8_isWhole ((wi w1 (dA (hA ca1) x2.toNatClampNeg) 1) - 1) w1)] (wXX8_isWhole ((wi w1 (dA (hA ca1) x2.toNatClampNeg) 1) - 1) w1) Q
        refine g_if_ne (pc := 54) (tgt := 59) dX8_readUnsure_54 (by decide) (fun q => ?_) (fun q => ?_)
        · have h := h.2 q
          refine g_aload_n (pc := 59) dX8_readUnsure_59 rfl 1 rfl ?_
          refine g_iload_n (pc := 60) dX8_readUnsure_60 rfl 2 rfl ?_
          refine g_aload_n (pc := 61) dX8_readUnsure_61 rfl 0 rfl ?_
          refine g_getI (pc := 62) (a := 1) dX8_readUnsure_62 rfl fX8_91 rfl ?_
          refine g_callV (pc := 65) (M' := mX2_isUnsure) (n := 2) (a := (hA ca1)) (as := [.int x2, .int (wi (wXX8_isWhole ((wi w1 (dA (hA ca1) x2.toNatClampNeg) 1) - 1) w1) 1 7)]) (st := []) dX8_readUnsure_65 rfl kX8_149 vX2_isUnsure (Nat.le_of_ble_eq_true rfl) (sh_h ca1) qX2 rfl rfl (Nat.le_of_ble_eq_true rfl) ?_
          refine cl_mono (fun r w4 hr => ?_) h
          obtain ⟨x5, rfl, hw4, h⟩ := hr
          show Go SC mX8_readUnsure 68 [(0, .ref 1), (1, .ref (hA ca1)), (2, .int x2), (3, .ref (dA (hA ca1) x2.toNatClampNeg))] [.int x5] w4 Q
          refine g_if_eq (pc := 68) (tgt := 77) dX8_readUnsure_68 (by decide) (fun q => ?_) (fun q => ?_)
          · have h := h.1 q
            refine g_aload_n (pc := 77) dX8_readUnsure_77 rfl 1 rfl ?_
            refine g_iload_n (pc := 78) dX8_readUnsure_78 rfl 2 rfl ?_
            refine g_aload_n (pc := 79) dX8_readUnsure_79 rfl 0 rfl ?_
            refine g_getI (pc := 80) (a := 1) dX8_readUnsure_80 rfl fX8_91 rfl ?_
            refine g_callV (pc := 83) (M' := mX2_addUnsure) (n := 2) (a := (hA ca1)) (as := [.int x2, .int (wi w4 1 7)]) (st := []) dX8_readUnsure_83 rfl kX8_153 vX2_addUnsure (Nat.le_of_ble_eq_true rfl) (sh_h ca1) qX2 rfl rfl (Nat.le_of_ble_eq_true rfl) ?_
            refine zX2_addUnsure (c := ca1) (a1 := x2) (a2 := (wi w4 1 7)) (w := w4) (b := b) (hR := hw4) ?_
            show Go SC mX8_readUnsure 86 [(0, .ref 1), (1, .ref (hA ca1)), (2, .int x2), (3, .ref (dA (hA ca1) x2.toNatClampNeg))] [] (wXX2_addUnsure ca1 x2 (wi w4 1 7) w4) Q
            refine g_aload_n (pc := 86) dX8_readUnsure_86 rfl 0 rfl ?_
            refine g_callV (pc := 87) (M' := mX8_step) (n := 0) (a := 1) (as := []) (st := []) dX8_readUnsure_87 rfl kX8_44 vX8_step (Nat.le_of_ble_eq_true rfl) rfl qX8 rfl rfl (Nat.le_of_ble_eq_true rfl) ?_
            refine cl_mono (fun r w6 hr => ?_) h
            obtain ⟨rfl, hw6, h⟩ := hr
            show Go SC mX8_readUnsure 90 [(0, .ref 1), (1, .ref (hA ca1)), (2, .int x2), (3, .ref (dA (hA ca1) x2.toNatClampNeg))] [] w6 Q
            refine g_iconst (pc := 90) dX8_readUnsure_90 c_1 ?_
            exact g_bret (pc := 91) dX8_readUnsure_91 rfl (Or.inr rfl) h
          · have h := h.2 q
            refine g_aload_n (pc := 71) dX8_readUnsure_71 rfl 0 rfl ?_
            refine g_iconst (pc := 72) dX8_readUnsure_72 c_3 ?_
            refine g_callV (pc := 73) (M' := mX8_fail) (n := 1) (a := 1) (as := [.int 3]) (st := []) dX8_readUnsure_73 rfl kX8_55 vX8_fail (Nat.le_of_ble_eq_true rfl) rfl qX8 rfl rfl (Nat.le_of_ble_eq_true rfl) ?_
            refine zX8_fail (a1 := 3) (w := w4) (b := b) (hR := hw4) ?_
            show Go SC mX8_readUnsure 76 [(0, .ref 1), (1, .ref (hA ca1)), (2, .int x2), (3, .ref (dA (hA ca1) x2.toNatClampNeg))] [.int (vXX8_fail 3)] (wXX8_fail 3 w4) Q
            exact g_bret (pc := 76) dX8_readUnsure_76 rfl (zzX8_fail 3) h
        · have h := h.1 q
          refine g_iconst (pc := 57) dX8_readUnsure_57 c_0 ?_
          exact g_bret (pc := 58) dX8_readUnsure_58 rfl (Or.inl rfl) h
      · have h := h.2 qd3
        show Go SC mX8_readUnsure 39 [(0, .ref 1), (1, .ref (hA ca1)), (2, .int x2)] [.null] w1 Q
        refine g_astore_nN (pc := 39) (lv2 := [(0, .ref 1), (1, .ref (hA ca1)), (2, .int x2), (3, .null)]) dX8_readUnsure_39 rfl (Nat.le_of_ble_eq_true rfl) rfl ?_
        refine g_aload_nN (pc := 40) dX8_readUnsure_40 rfl 3 rfl ?_
        refine g_ifnullN (pc := 41) (tgt := 57) dX8_readUnsure_41 (by decide) ?_
        refine g_iconst (pc := 57) dX8_readUnsure_57 c_0 ?_
        exact g_bret (pc := 58) dX8_readUnsure_58 rfl (Or.inl rfl) h
    · have h := h.2 q
      refine g_aload_n (pc := 22) dX8_readUnsure_22 rfl 0 rfl ?_
      refine g_iconst (pc := 23) dX8_readUnsure_23 c_5 ?_
      refine g_callV (pc := 24) (M' := mX8_fail) (n := 1) (a := 1) (as := [.int 5]) (st := []) dX8_readUnsure_24 rfl kX8_55 vX8_fail (Nat.le_of_ble_eq_true rfl) rfl qX8 rfl rfl (Nat.le_of_ble_eq_true rfl) ?_
      refine zX8_fail (a1 := 5) (w := w) (b := b) (hR := hR) ?_
      show Go SC mX8_readUnsure 27 [(0, .ref 1), (1, .ref (hA ca1))] [.int (vXX8_fail 5)] (wXX8_fail 5 w) Q
      exact g_bret (pc := 27) dX8_readUnsure_27 rfl (zzX8_fail 5) h
  · have h := h.1 q
    refine g_aload_n (pc := 7) dX8_readUnsure_7 rfl 0 rfl ?_
    refine g_bipush (pc := 8) (v := 6) dX8_readUnsure_8 (by decide) ?_
    refine g_callV (pc := 10) (M' := mX8_fail) (n := 1) (a := 1) (as := [.int 6]) (st := []) dX8_readUnsure_10 rfl kX8_55 vX8_fail (Nat.le_of_ble_eq_true rfl) rfl qX8 rfl rfl (Nat.le_of_ble_eq_true rfl) ?_
    refine zX8_fail (a1 := 6) (w := w) (b := b) (hR := hR) ?_
    show Go SC mX8_readUnsure 13 [(0, .ref 1), (1, .ref (hA ca1))] [.int (vXX8_fail 6)] (wXX8_fail 6 w) Q
    exact g_bret (pc := 13) dX8_readUnsure_13 rfl (zzX8_fail 6) h
set_option maxHeartbeats 4000000 in
set_option maxRecDepth 100000 in
theorem TX8_readLine (ca1 : Bool) (w : Wd) (b : Bool) (hR : w.2.2 = RTab b) (Q : Option Value → Wd → Prop) (h : ClI SC mX8_isWord [.ref 1, .ref 1000] w (fun x2 w1 => w1.2.2 = RTab b ∧ ((x2 = 0 → ClI SC mX8_isWord [.ref 1, .ref 1001] w1 (fun x4 w3 => w3.2.2 = RTab b ∧ ((x4 = 0 → ClI SC mX8_isWord [.ref 1, .ref 1002] w3 (fun x6 w5 => w5.2.2 = RTab b ∧ ((x6 = 0 → ClI SC mX8_isWord [.ref 1, .ref 1003] w5 (fun x8 w7 => w7.2.2 = RTab b ∧ ((x8 = 0 → Q (some (.int (vXX8_fail 1))) (wXX8_fail 1 w7)) ∧ (¬ (x8 = 0) → ClI SC mX8_readSeen [.ref 1, .ref (hA ca1)] w7 (fun x10 w9 => w9.2.2 = RTab b ∧ (x10 = 0 ∨ x10 = 1) ∧ Q (some (.int x10)) w9))))) ∧ (¬ (x6 = 0) → ClI SC mX8_readUnsure [.ref 1, .ref (hA ca1)] w5 (fun x12 w11 => w11.2.2 = RTab b ∧ (x12 = 0 ∨ x12 = 1) ∧ Q (some (.int x12)) w11))))) ∧ (¬ (x4 = 0) → ClI SC mX8_readDance [.ref 1, .ref (hA ca1)] w3 (fun x14 w13 => w13.2.2 = RTab b ∧ (x14 = 0 ∨ x14 = 1) ∧ Q (some (.int x14)) w13))))) ∧ (¬ (x2 = 0) → ClI SC mX8_readSlips [.ref 1, .ref (hA ca1)] w1 (fun x16 w15 => w15.2.2 = RTab b ∧ (x16 = 0 ∨ x16 = 1) ∧ Q (some (.int x16)) w15))))) : Cl SC mX8_readLine [.ref 1, .ref (hA ca1)] w Q := by
  refine cl_of (by decide) (Nat.le_of_ble_eq_true rfl) ?_
  show Go SC mX8_readLine 0 [(0, .ref 1), (1, .ref (hA ca1))] [] w Q
  refine g_aload_n (pc := 0) dX8_readLine_0 rfl 0 rfl ?_
  refine g_ldcS (pc := 1) (i := 0) (tx := "hall") dX8_readLine_1 rfl (by decide) ?_
  refine g_callV (pc := 3) (M' := mX8_isWord) (n := 1) (a := 1) (as := [.ref 1000]) (st := []) dX8_readLine_3 rfl kX8_64 vX8_isWord (Nat.le_of_ble_eq_true rfl) rfl qX8 rfl rfl (Nat.le_of_ble_eq_true rfl) ?_
  refine cl_mono (fun r w1 hr => ?_) h
  obtain ⟨x2, rfl, hw1, h⟩ := hr
  show Go SC mX8_readLine 6 [(0, .ref 1), (1, .ref (hA ca1))] [.int x2] w1 Q
  refine g_if_eq (pc := 6) (tgt := 15) dX8_readLine_6 (by decide) (fun q => ?_) (fun q => ?_)
  · have h := h.1 q
    refine g_aload_n (pc := 15) dX8_readLine_15 rfl 0 rfl ?_
    refine g_ldcS (pc := 16) (i := 1) (tx := "dance") dX8_readLine_16 rfl (by decide) ?_
    refine g_callV (pc := 18) (M' := mX8_isWord) (n := 1) (a := 1) (as := [.ref 1001]) (st := []) dX8_readLine_18 rfl kX8_64 vX8_isWord (Nat.le_of_ble_eq_true rfl) rfl qX8 rfl rfl (Nat.le_of_ble_eq_true rfl) ?_
    refine cl_mono (fun r w3 hr => ?_) h
    obtain ⟨x4, rfl, hw3, h⟩ := hr
    show Go SC mX8_readLine 21 [(0, .ref 1), (1, .ref (hA ca1))] [.int x4] w3 Q
    refine g_if_eq (pc := 21) (tgt := 30) dX8_readLine_21 (by decide) (fun q => ?_) (fun q => ?_)
    · have h := h.1 q
      refine g_aload_n (pc := 30) dX8_readLine_30 rfl 0 rfl ?_
      refine g_ldcS (pc := 31) (i := 2) (tx := "unsure") dX8_readLine_31 rfl (by decide) ?_
      refine g_callV (pc := 33) (M' := mX8_isWord) (n := 1) (a := 1) (as := [.ref 1002]) (st := []) dX8_readLine_33 rfl kX8_64 vX8_isWord (Nat.le_of_ble_eq_true rfl) rfl qX8 rfl rfl (Nat.le_of_ble_eq_true rfl) ?_
      refine cl_mono (fun r w5 hr => ?_) h
      obtain ⟨x6, rfl, hw5, h⟩ := hr
      show Go SC mX8_readLine 36 [(0, .ref 1), (1, .ref (hA ca1))] [.int x6] w5 Q
      refine g_if_eq (pc := 36) (tgt := 45) dX8_readLine_36 (by decide) (fun q => ?_) (fun q => ?_)
      · have h := h.1 q
        refine g_aload_n (pc := 45) dX8_readLine_45 rfl 0 rfl ?_
        refine g_ldcS (pc := 46) (i := 3) (tx := "seen") dX8_readLine_46 rfl (by decide) ?_
        refine g_callV (pc := 48) (M' := mX8_isWord) (n := 1) (a := 1) (as := [.ref 1003]) (st := []) dX8_readLine_48 rfl kX8_64 vX8_isWord (Nat.le_of_ble_eq_true rfl) rfl qX8 rfl rfl (Nat.le_of_ble_eq_true rfl) ?_
        refine cl_mono (fun r w7 hr => ?_) h
        obtain ⟨x8, rfl, hw7, h⟩ := hr
        show Go SC mX8_readLine 51 [(0, .ref 1), (1, .ref (hA ca1))] [.int x8] w7 Q
        refine g_if_eq (pc := 51) (tgt := 60) dX8_readLine_51 (by decide) (fun q => ?_) (fun q => ?_)
        · have h := h.1 q
          refine g_aload_n (pc := 60) dX8_readLine_60 rfl 0 rfl ?_
          refine g_iconst (pc := 61) dX8_readLine_61 c_1 ?_
          refine g_callV (pc := 62) (M' := mX8_fail) (n := 1) (a := 1) (as := [.int 1]) (st := []) dX8_readLine_62 rfl kX8_55 vX8_fail (Nat.le_of_ble_eq_true rfl) rfl qX8 rfl rfl (Nat.le_of_ble_eq_true rfl) ?_
          refine zX8_fail (a1 := 1) (w := w7) (b := b) (hR := hw7) ?_
          show Go SC mX8_readLine 65 [(0, .ref 1), (1, .ref (hA ca1))] [.int (vXX8_fail 1)] (wXX8_fail 1 w7) Q
          exact g_bret (pc := 65) dX8_readLine_65 rfl (zzX8_fail 1) h
        · have h := h.2 q
          refine g_aload_n (pc := 54) dX8_readLine_54 rfl 0 rfl ?_
          refine g_aload_n (pc := 55) dX8_readLine_55 rfl 1 rfl ?_
          refine g_callV (pc := 56) (M' := mX8_readSeen) (n := 1) (a := 1) (as := [.ref (hA ca1)]) (st := []) dX8_readLine_56 rfl kX8_83 vX8_readSeen (Nat.le_of_ble_eq_true rfl) rfl qX8 rfl rfl (Nat.le_of_ble_eq_true rfl) ?_
          refine cl_mono (fun r w9 hr => ?_) h
          obtain ⟨x10, rfl, hw9, h⟩ := hr
          show Go SC mX8_readLine 59 [(0, .ref 1), (1, .ref (hA ca1))] [.int x10] w9 Q
          exact g_bret (pc := 59) dX8_readLine_59 rfl h.1 h.2
      · have h := h.2 q
        refine g_aload_n (pc := 39) dX8_readLine_39 rfl 0 rfl ?_
        refine g_aload_n (pc := 40) dX8_readLine_40 rfl 1 rfl ?_
        refine g_callV (pc := 41) (M' := mX8_readUnsure) (n := 1) (a := 1) (as := [.ref (hA ca1)]) (st := []) dX8_readLine_41 rfl kX8_78 vX8_readUnsure (Nat.le_of_ble_eq_true rfl) rfl qX8 rfl rfl (Nat.le_of_ble_eq_true rfl) ?_
        refine cl_mono (fun r w11 hr => ?_) h
        obtain ⟨x12, rfl, hw11, h⟩ := hr
        show Go SC mX8_readLine 44 [(0, .ref 1), (1, .ref (hA ca1))] [.int x12] w11 Q
        exact g_bret (pc := 44) dX8_readLine_44 rfl h.1 h.2
    · have h := h.2 q
      refine g_aload_n (pc := 24) dX8_readLine_24 rfl 0 rfl ?_
      refine g_aload_n (pc := 25) dX8_readLine_25 rfl 1 rfl ?_
      refine g_callV (pc := 26) (M' := mX8_readDance) (n := 1) (a := 1) (as := [.ref (hA ca1)]) (st := []) dX8_readLine_26 rfl kX8_73 vX8_readDance (Nat.le_of_ble_eq_true rfl) rfl qX8 rfl rfl (Nat.le_of_ble_eq_true rfl) ?_
      refine cl_mono (fun r w13 hr => ?_) h
      obtain ⟨x14, rfl, hw13, h⟩ := hr
      show Go SC mX8_readLine 29 [(0, .ref 1), (1, .ref (hA ca1))] [.int x14] w13 Q
      exact g_bret (pc := 29) dX8_readLine_29 rfl h.1 h.2
  · have h := h.2 q
    refine g_aload_n (pc := 9) dX8_readLine_9 rfl 0 rfl ?_
    refine g_aload_n (pc := 10) dX8_readLine_10 rfl 1 rfl ?_
    refine g_callV (pc := 11) (M' := mX8_readSlips) (n := 1) (a := 1) (as := [.ref (hA ca1)]) (st := []) dX8_readLine_11 rfl kX8_68 vX8_readSlips (Nat.le_of_ble_eq_true rfl) rfl qX8 rfl rfl (Nat.le_of_ble_eq_true rfl) ?_
    refine cl_mono (fun r w15 hr => ?_) h
    obtain ⟨x16, rfl, hw15, h⟩ := hr
    show Go SC mX8_readLine 14 [(0, .ref 1), (1, .ref (hA ca1))] [.int x16] w15 Q
    exact g_bret (pc := 14) dX8_readLine_14 rfl h.1 h.2
set_option maxHeartbeats 4000000 in
set_option maxRecDepth 100000 in
theorem TX8_read (ca1 : Bool) (a2 : Int32) (w : Wd) (b : Bool) (hR : w.2.2 = RTab b) (Q : Option Value → Wd → Prop) (h : ClV SC mX8_step [.ref 1] (wXX2_clear ca1 (si (si (si (si (si (si w 1 1 0) 1 2 a2) 1 3 0) 1 8 0) 1 9 0) 1 10 (-1))) (fun w1 => w1.2.2 = RTab b ∧ ClI SC mX8_readLine [.ref 1, .ref (hA ca1)] w1 (fun x3 w2 => w2.2.2 = RTab b ∧ Go SC mX8_read 47 [(0, .ref 1), (1, .ref (hA ca1)), (2, .int a2), (3, .int x3), (4, .int 0)] [] w2 Q))) : Cl SC mX8_read [.ref 1, .ref (hA ca1), .int a2] w Q := by
  refine cl_of (by decide) (Nat.le_of_ble_eq_true rfl) ?_
  show Go SC mX8_read 0 [(0, .ref 1), (1, .ref (hA ca1)), (2, .int a2)] [] w Q
  refine g_aload_n (pc := 0) dX8_read_0 rfl 0 rfl ?_
  refine g_iconst (pc := 1) dX8_read_1 c_0 ?_
  refine g_putI (pc := 2) dX8_read_2 rfl fX8_15 pX8_1 rfl ?_
  refine g_aload_n (pc := 5) dX8_read_5 rfl 0 rfl ?_
  refine g_iload_n (pc := 6) dX8_read_6 rfl 2 rfl ?_
  refine g_putI (pc := 7) dX8_read_7 rfl fX8_23 pX8_2 rfl ?_
  refine g_aload_n (pc := 10) dX8_read_10 rfl 0 rfl ?_
  refine g_iconst (pc := 11) dX8_read_11 c_0 ?_
  refine g_putI (pc := 12) dX8_read_12 rfl fX8_26 pX8_3 rfl ?_
  refine g_aload_n (pc := 15) dX8_read_15 rfl 0 rfl ?_
  refine g_iconst (pc := 16) dX8_read_16 c_0 ?_
  refine g_putZ (pc := 17) dX8_read_17 rfl fX8_29 pX8_8 rfl (Or.inl rfl) ?_
  refine g_aload_n (pc := 20) dX8_read_20 rfl 0 rfl ?_
  refine g_iconst (pc := 21) dX8_read_21 c_0 ?_
  refine g_putI (pc := 22) dX8_read_22 rfl fX8_33 pX8_9 rfl ?_
  refine g_aload_n (pc := 25) dX8_read_25 rfl 0 rfl ?_
  refine g_iconst (pc := 26) dX8_read_26 cN_1 ?_
  refine g_putI (pc := 27) dX8_read_27 rfl fX8_36 pX8_10 rfl ?_
  refine g_aload_n (pc := 30) dX8_read_30 rfl 1 rfl ?_
  refine g_callV (pc := 31) (M' := mX2_clear) (n := 0) (a := (hA ca1)) (as := []) (st := []) dX8_read_31 rfl kX8_39 vX2_clear (Nat.le_of_ble_eq_true rfl) (sh_h ca1) qX2 rfl rfl (Nat.le_of_ble_eq_true rfl) ?_
  refine zX2_clear (c := ca1) (w := si (si (si (si (si (si w 1 1 0) 1 2 a2) 1 3 0) 1 8 0) 1 9 0) 1 10 (-1)) (b := b) (hR := hR) ?_
  show Go SC mX8_read 34 [(0, .ref 1), (1, .ref (hA ca1)), (2, .int a2)] [] (wXX2_clear ca1 (si (si (si (si (si (si w 1 1 0) 1 2 a2) 1 3 0) 1 8 0) 1 9 0) 1 10 (-1))) Q
  refine g_aload_n (pc := 34) dX8_read_34 rfl 0 rfl ?_
  refine g_callV (pc := 35) (M' := mX8_step) (n := 0) (a := 1) (as := []) (st := []) dX8_read_35 rfl kX8_44 vX8_step (Nat.le_of_ble_eq_true rfl) rfl qX8 rfl rfl (Nat.le_of_ble_eq_true rfl) ?_
  refine cl_mono (fun r w1 hr => ?_) h
  obtain ⟨rfl, hw1, h⟩ := hr
  show Go SC mX8_read 38 [(0, .ref 1), (1, .ref (hA ca1)), (2, .int a2)] [] w1 Q
  refine g_aload_n (pc := 38) dX8_read_38 rfl 0 rfl ?_
  refine g_aload_n (pc := 39) dX8_read_39 rfl 1 rfl ?_
  refine g_callV (pc := 40) (M' := mX8_readLine) (n := 1) (a := 1) (as := [.ref (hA ca1)]) (st := []) dX8_read_40 rfl kX8_47 vX8_readLine (Nat.le_of_ble_eq_true rfl) rfl qX8 rfl rfl (Nat.le_of_ble_eq_true rfl) ?_
  refine cl_mono (fun r w2 hr => ?_) h
  obtain ⟨x3, rfl, hw2, h⟩ := hr
  show Go SC mX8_read 43 [(0, .ref 1), (1, .ref (hA ca1)), (2, .int a2)] [.int x3] w2 Q
  refine g_istore_n (pc := 43) (lv2 := [(0, .ref 1), (1, .ref (hA ca1)), (2, .int a2), (3, .int x3)]) dX8_read_43 rfl (Nat.le_of_ble_eq_true rfl) rfl ?_
  refine g_iconst (pc := 44) dX8_read_44 c_0 ?_
  refine g_istore (pc := 45) (lv2 := [(0, .ref 1), (1, .ref (hA ca1)), (2, .int a2), (3, .int x3), (4, .int 0)]) dX8_read_45 (Nat.le_of_ble_eq_true rfl) rfl ?_
  exact h
set_option maxHeartbeats 4000000 in
set_option maxRecDepth 100000 in
theorem BX8_read_47 (ca1 : Bool) (l2 : Int32) (l3 : Int32) (l4 : Int32) (w : Wd) (b : Bool) (hR : w.2.2 = RTab b) (Q : Option Value → Wd → Prop) (h : ((1000000 ≤ l4 → ((l3 = 0 → Q (some (.int 0)) w) ∧ (¬ (l3 = 0) → (((wi w 1 4) = 0 → ((0 < (wi w (hA ca1) 2) → Q (some (.int 1)) w) ∧ (¬ (0 < (wi w (hA ca1) 2)) → Q (some (.int (if (vXX8_fail 6) = 0 then 0 else 1 : Int32))) (wXX8_fail 6 w)))) ∧ (¬ ((wi w 1 4) = 0) → Q (some (.int (vXX8_fail 1))) (wXX8_fail 1 w)))))) ∧ (¬ (1000000 ≤ l4) → ((l3 = 0 → ((l3 = 0 → Q (some (.int 0)) w) ∧ (¬ (l3 = 0) → (((wi w 1 4) = 0 → ((0 < (wi w (hA ca1) 2) → Q (some (.int 1)) w) ∧ (¬ (0 < (wi w (hA ca1) 2)) → Q (some (.int (if (vXX8_fail 6) = 0 then 0 else 1 : Int32))) (wXX8_fail 6 w)))) ∧ (¬ ((wi w 1 4) = 0) → Q (some (.int (vXX8_fail 1))) (wXX8_fail 1 w)))))) ∧ (¬ (l3 = 0) → (((wi w 1 4) = 3 → ClV SC mX8_step [.ref 1] w (fun w1 => w1.2.2 = RTab b ∧ ClI SC mX8_readLine [.ref 1, .ref (hA ca1)] w1 (fun x3 w2 => w2.2.2 = RTab b ∧ Go SC mX8_read 47 [(0, .ref 1), (1, .ref (hA ca1)), (2, .int l2), (3, .int x3), (4, .int (l4 + 1))] [] w2 Q))) ∧ (¬ ((wi w 1 4) = 3) → ((l3 = 0 → Q (some (.int 0)) w) ∧ (¬ (l3 = 0) → (((wi w 1 4) = 0 → ((0 < (wi w (hA ca1) 2) → Q (some (.int 1)) w) ∧ (¬ (0 < (wi w (hA ca1) 2)) → Q (some (.int (if (vXX8_fail 6) = 0 then 0 else 1 : Int32))) (wXX8_fail 6 w)))) ∧ (¬ ((wi w 1 4) = 0) → Q (some (.int (vXX8_fail 1))) (wXX8_fail 1 w)))))))))))) : Go SC mX8_read 47 [(0, .ref 1), (1, .ref (hA ca1)), (2, .int l2), (3, .int l3), (4, .int l4)] [] w Q := by
  refine g_iload (pc := 47) dX8_read_47 4 rfl ?_
  refine g_ldc (pc := 49) dX8_read_49 rfl nX8_51 ?_
  refine g_icmp_ge (pc := 51) (tgt := 82) dX8_read_51 (by decide) (fun q => ?_) (fun q => ?_)
  · have h := h.1 q
    refine g_iload_n (pc := 82) dX8_read_82 rfl 3 rfl ?_
    refine g_if_ne (pc := 83) (tgt := 88) dX8_read_83 (by decide) (fun q => ?_) (fun q => ?_)
    · have h := h.2 q
      refine g_aload_n (pc := 88) dX8_read_88 rfl 0 rfl ?_
      refine g_getI (pc := 89) (a := 1) dX8_read_89 rfl fX8_52 rfl ?_
      refine g_if_eq (pc := 92) (tgt := 101) dX8_read_92 (by decide) (fun q => ?_) (fun q => ?_)
      · have h := h.1 q
        refine g_aload_n (pc := 101) dX8_read_101 rfl 1 rfl ?_
        refine g_getI (pc := 102) (a := (hA ca1)) dX8_read_102 rfl fX8_59 (sh_h ca1) ?_
        refine g_if_gt (pc := 105) (tgt := 117) dX8_read_105 (by decide) (fun q => ?_) (fun q => ?_)
        · have h := h.1 q
          refine g_iconst (pc := 117) dX8_read_117 c_1 ?_
          refine g_goto (pc := 118) (tgt := 122) dX8_read_118 (by decide) ?_
          exact g_bret (pc := 122) dX8_read_122 rfl (Or.inr rfl) h
        · have h := h.2 q
          refine g_aload_n (pc := 108) dX8_read_108 rfl 0 rfl ?_
          refine g_bipush (pc := 109) (v := 6) dX8_read_109 (by decide) ?_
          refine g_callV (pc := 111) (M' := mX8_fail) (n := 1) (a := 1) (as := [.int 6]) (st := []) dX8_read_111 rfl kX8_55 vX8_fail (Nat.le_of_ble_eq_true rfl) rfl qX8 rfl rfl (Nat.le_of_ble_eq_true rfl) ?_
          refine zX8_fail (a1 := 6) (w := w) (b := b) (hR := hR) ?_
          show Go SC mX8_read 114 [(0, .ref 1), (1, .ref (hA ca1)), (2, .int l2), (3, .int l3), (4, .int l4)] [.int (vXX8_fail 6)] (wXX8_fail 6 w) Q
          have hJ : Go SC mX8_read 122 [(0, .ref 1), (1, .ref (hA ca1)), (2, .int l2), (3, .int l3), (4, .int l4)] [.int (if (vXX8_fail 6) = 0 then 0 else 1 : Int32)] (wXX8_fail 6 w) Q := by
            exact g_bret (pc := 122) dX8_read_122 rfl (z_ite (Or.inl rfl) (Or.inr rfl)) h
          refine g_if_eq (pc := 114) (tgt := 121) dX8_read_114 (by decide) (fun q114 => ?_) (fun q114 => ?_)
          · refine g_iconst (pc := 121) dX8_read_121 c_0 ?_
            first | (exfalso; contradiction) | exact cast (by simp only [if_pos q114]) hJ
          · refine g_iconst (pc := 117) dX8_read_117 c_1 ?_
            refine g_goto (pc := 118) (tgt := 122) dX8_read_118 (by decide) ?_
            first | (exfalso; contradiction) | exact cast (by simp only [if_neg q114]) hJ
      · have h := h.2 q
        refine g_aload_n (pc := 95) dX8_read_95 rfl 0 rfl ?_
        refine g_iconst (pc := 96) dX8_read_96 c_1 ?_
        refine g_callV (pc := 97) (M' := mX8_fail) (n := 1) (a := 1) (as := [.int 1]) (st := []) dX8_read_97 rfl kX8_55 vX8_fail (Nat.le_of_ble_eq_true rfl) rfl qX8 rfl rfl (Nat.le_of_ble_eq_true rfl) ?_
        refine zX8_fail (a1 := 1) (w := w) (b := b) (hR := hR) ?_
        show Go SC mX8_read 100 [(0, .ref 1), (1, .ref (hA ca1)), (2, .int l2), (3, .int l3), (4, .int l4)] [.int (vXX8_fail 1)] (wXX8_fail 1 w) Q
        exact g_bret (pc := 100) dX8_read_100 rfl (zzX8_fail 1) h
    · have h := h.1 q
      refine g_iconst (pc := 86) dX8_read_86 c_0 ?_
      exact g_bret (pc := 87) dX8_read_87 rfl (Or.inl rfl) h
  · have h := h.2 q
    refine g_iload_n (pc := 54) dX8_read_54 rfl 3 rfl ?_
    refine g_if_eq (pc := 55) (tgt := 82) dX8_read_55 (by decide) (fun q => ?_) (fun q => ?_)
    · have h := h.1 q
      refine g_iload_n (pc := 82) dX8_read_82 rfl 3 rfl ?_
      refine g_if_ne (pc := 83) (tgt := 88) dX8_read_83 (by decide) (fun q => ?_) (fun q => ?_)
      · have h := h.2 q
        refine g_aload_n (pc := 88) dX8_read_88 rfl 0 rfl ?_
        refine g_getI (pc := 89) (a := 1) dX8_read_89 rfl fX8_52 rfl ?_
        refine g_if_eq (pc := 92) (tgt := 101) dX8_read_92 (by decide) (fun q => ?_) (fun q => ?_)
        · have h := h.1 q
          refine g_aload_n (pc := 101) dX8_read_101 rfl 1 rfl ?_
          refine g_getI (pc := 102) (a := (hA ca1)) dX8_read_102 rfl fX8_59 (sh_h ca1) ?_
          refine g_if_gt (pc := 105) (tgt := 117) dX8_read_105 (by decide) (fun q => ?_) (fun q => ?_)
          · have h := h.1 q
            refine g_iconst (pc := 117) dX8_read_117 c_1 ?_
            refine g_goto (pc := 118) (tgt := 122) dX8_read_118 (by decide) ?_
            exact g_bret (pc := 122) dX8_read_122 rfl (Or.inr rfl) h
          · have h := h.2 q
            refine g_aload_n (pc := 108) dX8_read_108 rfl 0 rfl ?_
            refine g_bipush (pc := 109) (v := 6) dX8_read_109 (by decide) ?_
            refine g_callV (pc := 111) (M' := mX8_fail) (n := 1) (a := 1) (as := [.int 6]) (st := []) dX8_read_111 rfl kX8_55 vX8_fail (Nat.le_of_ble_eq_true rfl) rfl qX8 rfl rfl (Nat.le_of_ble_eq_true rfl) ?_
            refine zX8_fail (a1 := 6) (w := w) (b := b) (hR := hR) ?_
            show Go SC mX8_read 114 [(0, .ref 1), (1, .ref (hA ca1)), (2, .int l2), (3, .int l3), (4, .int l4)] [.int (vXX8_fail 6)] (wXX8_fail 6 w) Q
            have hJ : Go SC mX8_read 122 [(0, .ref 1), (1, .ref (hA ca1)), (2, .int l2), (3, .int l3), (4, .int l4)] [.int (if (vXX8_fail 6) = 0 then 0 else 1 : Int32)] (wXX8_fail 6 w) Q := by
              exact g_bret (pc := 122) dX8_read_122 rfl (z_ite (Or.inl rfl) (Or.inr rfl)) h
            refine g_if_eq (pc := 114) (tgt := 121) dX8_read_114 (by decide) (fun q114 => ?_) (fun q114 => ?_)
            · refine g_iconst (pc := 121) dX8_read_121 c_0 ?_
              first | (exfalso; contradiction) | exact cast (by simp only [if_pos q114]) hJ
            · refine g_iconst (pc := 117) dX8_read_117 c_1 ?_
              refine g_goto (pc := 118) (tgt := 122) dX8_read_118 (by decide) ?_
              first | (exfalso; contradiction) | exact cast (by simp only [if_neg q114]) hJ
        · have h := h.2 q
          refine g_aload_n (pc := 95) dX8_read_95 rfl 0 rfl ?_
          refine g_iconst (pc := 96) dX8_read_96 c_1 ?_
          refine g_callV (pc := 97) (M' := mX8_fail) (n := 1) (a := 1) (as := [.int 1]) (st := []) dX8_read_97 rfl kX8_55 vX8_fail (Nat.le_of_ble_eq_true rfl) rfl qX8 rfl rfl (Nat.le_of_ble_eq_true rfl) ?_
          refine zX8_fail (a1 := 1) (w := w) (b := b) (hR := hR) ?_
          show Go SC mX8_read 100 [(0, .ref 1), (1, .ref (hA ca1)), (2, .int l2), (3, .int l3), (4, .int l4)] [.int (vXX8_fail 1)] (wXX8_fail 1 w) Q
          exact g_bret (pc := 100) dX8_read_100 rfl (zzX8_fail 1) h
      · have h := h.1 q
        refine g_iconst (pc := 86) dX8_read_86 c_0 ?_
        exact g_bret (pc := 87) dX8_read_87 rfl (Or.inl rfl) h
    · have h := h.2 q
      refine g_aload_n (pc := 58) dX8_read_58 rfl 0 rfl ?_
      refine g_getI (pc := 59) (a := 1) dX8_read_59 rfl fX8_52 rfl ?_
      refine g_iconst (pc := 62) dX8_read_62 c_3 ?_
      refine g_icmp_ne (pc := 63) (tgt := 82) dX8_read_63 (by decide) (fun q => ?_) (fun q => ?_)
      · have h := h.2 q
        refine g_iload_n (pc := 82) dX8_read_82 rfl 3 rfl ?_
        refine g_if_ne (pc := 83) (tgt := 88) dX8_read_83 (by decide) (fun q => ?_) (fun q => ?_)
        · have h := h.2 q
          refine g_aload_n (pc := 88) dX8_read_88 rfl 0 rfl ?_
          refine g_getI (pc := 89) (a := 1) dX8_read_89 rfl fX8_52 rfl ?_
          refine g_if_eq (pc := 92) (tgt := 101) dX8_read_92 (by decide) (fun q => ?_) (fun q => ?_)
          · have h := h.1 q
            refine g_aload_n (pc := 101) dX8_read_101 rfl 1 rfl ?_
            refine g_getI (pc := 102) (a := (hA ca1)) dX8_read_102 rfl fX8_59 (sh_h ca1) ?_
            refine g_if_gt (pc := 105) (tgt := 117) dX8_read_105 (by decide) (fun q => ?_) (fun q => ?_)
            · have h := h.1 q
              refine g_iconst (pc := 117) dX8_read_117 c_1 ?_
              refine g_goto (pc := 118) (tgt := 122) dX8_read_118 (by decide) ?_
              exact g_bret (pc := 122) dX8_read_122 rfl (Or.inr rfl) h
            · have h := h.2 q
              refine g_aload_n (pc := 108) dX8_read_108 rfl 0 rfl ?_
              refine g_bipush (pc := 109) (v := 6) dX8_read_109 (by decide) ?_
              refine g_callV (pc := 111) (M' := mX8_fail) (n := 1) (a := 1) (as := [.int 6]) (st := []) dX8_read_111 rfl kX8_55 vX8_fail (Nat.le_of_ble_eq_true rfl) rfl qX8 rfl rfl (Nat.le_of_ble_eq_true rfl) ?_
              refine zX8_fail (a1 := 6) (w := w) (b := b) (hR := hR) ?_
              show Go SC mX8_read 114 [(0, .ref 1), (1, .ref (hA ca1)), (2, .int l2), (3, .int l3), (4, .int l4)] [.int (vXX8_fail 6)] (wXX8_fail 6 w) Q
              have hJ : Go SC mX8_read 122 [(0, .ref 1), (1, .ref (hA ca1)), (2, .int l2), (3, .int l3), (4, .int l4)] [.int (if (vXX8_fail 6) = 0 then 0 else 1 : Int32)] (wXX8_fail 6 w) Q := by
                exact g_bret (pc := 122) dX8_read_122 rfl (z_ite (Or.inl rfl) (Or.inr rfl)) h
              refine g_if_eq (pc := 114) (tgt := 121) dX8_read_114 (by decide) (fun q114 => ?_) (fun q114 => ?_)
              · refine g_iconst (pc := 121) dX8_read_121 c_0 ?_
                first | (exfalso; contradiction) | exact cast (by simp only [if_pos q114]) hJ
              · refine g_iconst (pc := 117) dX8_read_117 c_1 ?_
                refine g_goto (pc := 118) (tgt := 122) dX8_read_118 (by decide) ?_
                first | (exfalso; contradiction) | exact cast (by simp only [if_neg q114]) hJ
          · have h := h.2 q
            refine g_aload_n (pc := 95) dX8_read_95 rfl 0 rfl ?_
            refine g_iconst (pc := 96) dX8_read_96 c_1 ?_
            refine g_callV (pc := 97) (M' := mX8_fail) (n := 1) (a := 1) (as := [.int 1]) (st := []) dX8_read_97 rfl kX8_55 vX8_fail (Nat.le_of_ble_eq_true rfl) rfl qX8 rfl rfl (Nat.le_of_ble_eq_true rfl) ?_
            refine zX8_fail (a1 := 1) (w := w) (b := b) (hR := hR) ?_
            show Go SC mX8_read 100 [(0, .ref 1), (1, .ref (hA ca1)), (2, .int l2), (3, .int l3), (4, .int l4)] [.int (vXX8_fail 1)] (wXX8_fail 1 w) Q
            exact g_bret (pc := 100) dX8_read_100 rfl (zzX8_fail 1) h
        · have h := h.1 q
          refine g_iconst (pc := 86) dX8_read_86 c_0 ?_
          exact g_bret (pc := 87) dX8_read_87 rfl (Or.inl rfl) h
      · have h := h.1 q
        refine g_aload_n (pc := 66) dX8_read_66 rfl 0 rfl ?_
        refine g_callV (pc := 67) (M' := mX8_step) (n := 0) (a := 1) (as := []) (st := []) dX8_read_67 rfl kX8_44 vX8_step (Nat.le_of_ble_eq_true rfl) rfl qX8 rfl rfl (Nat.le_of_ble_eq_true rfl) ?_
        refine cl_mono (fun r w1 hr => ?_) h
        obtain ⟨rfl, hw1, h⟩ := hr
        show Go SC mX8_read 70 [(0, .ref 1), (1, .ref (hA ca1)), (2, .int l2), (3, .int l3), (4, .int l4)] [] w1 Q
        refine g_aload_n (pc := 70) dX8_read_70 rfl 0 rfl ?_
        refine g_aload_n (pc := 71) dX8_read_71 rfl 1 rfl ?_
        refine g_callV (pc := 72) (M' := mX8_readLine) (n := 1) (a := 1) (as := [.ref (hA ca1)]) (st := []) dX8_read_72 rfl kX8_47 vX8_readLine (Nat.le_of_ble_eq_true rfl) rfl qX8 rfl rfl (Nat.le_of_ble_eq_true rfl) ?_
        refine cl_mono (fun r w2 hr => ?_) h
        obtain ⟨x3, rfl, hw2, h⟩ := hr
        show Go SC mX8_read 75 [(0, .ref 1), (1, .ref (hA ca1)), (2, .int l2), (3, .int l3), (4, .int l4)] [.int x3] w2 Q
        refine g_istore_n (pc := 75) (lv2 := [(0, .ref 1), (1, .ref (hA ca1)), (2, .int l2), (3, .int x3), (4, .int l4)]) dX8_read_75 rfl (Nat.le_of_ble_eq_true rfl) rfl ?_
        refine g_iinc (pc := 76) (v := l4 + 1) (lv2 := [(0, .ref 1), (1, .ref (hA ca1)), (2, .int l2), (3, .int x3), (4, .int (l4 + 1))]) dX8_read_76 4 rfl (Nat.le_of_ble_eq_true rfl) rfl rfl ?_
        refine g_goto (pc := 79) (tgt := 47) dX8_read_79 (by decide) ?_
        exact h
set_option maxHeartbeats 4000000 in
set_option maxRecDepth 100000 in
theorem TX9_firstRow (n : Nat) (a1 : Int32) (a2 : Int32) (a3 : Int32) (a4 : Int32) (a5 : Int32) (a6 : Int32) (w : Wd) (b : Bool) (hR : w.2.2 = RTab b) (Q : Option Value → Wd → Prop) (h : ((a3 ≤ 0 → Q (some (.int (if a1 = a4 then (if a2 = a5 then a6 else (-2) : Int32) else (-2) : Int32))) w) ∧ (¬ (a3 ≤ 0) → ((a3 ≤ 7 → Go SC (mX9_firstRow (n + 1)) 32 [(0, .int a1), (1, .int a2), (2, .int a3), (3, .int a4), (4, .int a5), (5, .int a6), (6, .int 0)] [] w Q) ∧ (¬ (a3 ≤ 7) → Q (some (.int (if a1 = a4 then (if a2 = a5 then a6 else (-2) : Int32) else (-2) : Int32))) w))))) : Cl SC (mX9_firstRow (n + 1)) [.int a1, .int a2, .int a3, .int a4, .int a5, .int a6] w Q := by
  refine cl_of (by show plainName RX9 = true; decide) (Nat.le_of_ble_eq_true rfl) ?_
  show Go SC (mX9_firstRow (n + 1)) 0 [(0, .int a1), (1, .int a2), (2, .int a3), (3, .int a4), (4, .int a5), (5, .int a6)] [] w Q
  refine g_iload_n (pc := 0) dX9_firstRow_0 rfl 2 rfl ?_
  refine g_if_le (pc := 1) (tgt := 10) dX9_firstRow_1 (by decide) (fun q => ?_) (fun q => ?_)
  · have h := h.1 q
    refine g_iload_n (pc := 10) dX9_firstRow_10 rfl 0 rfl ?_
    refine g_iload_n (pc := 11) dX9_firstRow_11 rfl 3 rfl ?_
    have hJ : Go SC (mX9_firstRow (n + 1)) 28 [(0, .int a1), (1, .int a2), (2, .int a3), (3, .int a4), (4, .int a5), (5, .int a6)] [.int (if a1 = a4 then (if a2 = a5 then a6 else (-2) : Int32) else (-2) : Int32)] w Q := by
      exact g_iret (pc := 28) dX9_firstRow_28 rfl h
    refine g_icmp_ne (pc := 12) (tgt := 26) dX9_firstRow_12 (by decide) (fun q12 => ?_) (fun q12 => ?_)
    · refine g_bipush (pc := 26) (v := (-2)) dX9_firstRow_26 (by decide) ?_
      first | (exfalso; contradiction) | exact cast (by simp only [if_neg q12]) hJ
    · refine g_iload_n (pc := 15) dX9_firstRow_15 rfl 1 rfl ?_
      refine g_iload (pc := 16) dX9_firstRow_16 4 rfl ?_
      refine g_icmp_ne (pc := 18) (tgt := 26) dX9_firstRow_18 (by decide) (fun q18 => ?_) (fun q18 => ?_)
      · refine g_bipush (pc := 26) (v := (-2)) dX9_firstRow_26 (by decide) ?_
        first | (exfalso; contradiction) | exact cast (by simp only [if_pos q12, if_neg q18]) hJ
      · refine g_iload (pc := 21) dX9_firstRow_21 5 rfl ?_
        refine g_goto (pc := 23) (tgt := 28) dX9_firstRow_23 (by decide) ?_
        first | (exfalso; contradiction) | exact cast (by simp only [if_pos q12, if_pos q18]) hJ
  · have h := h.2 q
    refine g_iload_n (pc := 4) dX9_firstRow_4 rfl 2 rfl ?_
    refine g_bipush (pc := 5) (v := 7) dX9_firstRow_5 (by decide) ?_
    refine g_icmp_le (pc := 7) (tgt := 29) dX9_firstRow_7 (by decide) (fun q => ?_) (fun q => ?_)
    · have h := h.1 q
      refine g_iconst (pc := 29) dX9_firstRow_29 c_0 ?_
      refine g_istore (pc := 30) (lv2 := [(0, .int a1), (1, .int a2), (2, .int a3), (3, .int a4), (4, .int a5), (5, .int a6), (6, .int 0)]) dX9_firstRow_30 (Nat.le_of_ble_eq_true rfl) rfl ?_
      exact h
    · have h := h.2 q
      refine g_iload_n (pc := 10) dX9_firstRow_10 rfl 0 rfl ?_
      refine g_iload_n (pc := 11) dX9_firstRow_11 rfl 3 rfl ?_
      have hJ : Go SC (mX9_firstRow (n + 1)) 28 [(0, .int a1), (1, .int a2), (2, .int a3), (3, .int a4), (4, .int a5), (5, .int a6)] [.int (if a1 = a4 then (if a2 = a5 then a6 else (-2) : Int32) else (-2) : Int32)] w Q := by
        exact g_iret (pc := 28) dX9_firstRow_28 rfl h
      refine g_icmp_ne (pc := 12) (tgt := 26) dX9_firstRow_12 (by decide) (fun q12 => ?_) (fun q12 => ?_)
      · refine g_bipush (pc := 26) (v := (-2)) dX9_firstRow_26 (by decide) ?_
        first | (exfalso; contradiction) | exact cast (by simp only [if_neg q12]) hJ
      · refine g_iload_n (pc := 15) dX9_firstRow_15 rfl 1 rfl ?_
        refine g_iload (pc := 16) dX9_firstRow_16 4 rfl ?_
        refine g_icmp_ne (pc := 18) (tgt := 26) dX9_firstRow_18 (by decide) (fun q18 => ?_) (fun q18 => ?_)
        · refine g_bipush (pc := 26) (v := (-2)) dX9_firstRow_26 (by decide) ?_
          first | (exfalso; contradiction) | exact cast (by simp only [if_pos q12, if_neg q18]) hJ
        · refine g_iload (pc := 21) dX9_firstRow_21 5 rfl ?_
          refine g_goto (pc := 23) (tgt := 28) dX9_firstRow_23 (by decide) ?_
          first | (exfalso; contradiction) | exact cast (by simp only [if_pos q12, if_pos q18]) hJ
set_option maxHeartbeats 4000000 in
set_option maxRecDepth 100000 in
theorem BX9_firstRow_32 (n : Nat)  (l0 : Int32) (l1 : Int32) (l2 : Int32) (l3 : Int32) (l4 : Int32) (l5 : Int32) (l6 : Int32) (w : Wd) (b : Bool) (hR : w.2.2 = RTab b) (Q : Option Value → Wd → Prop) (h : ((2 < l6 → Q (some (.int (-2))) w) ∧ (¬ (2 < l6) → (((vXX7_isTooGreat (vXX7_overBy l6 l0 l1) (vXX7_underBy l6 l0 l1)) = 0 → ClI SC (mX9_firstRow n) [.int (vXX7_overBy l6 l0 l1), .int (vXX7_underBy l6 l0 l1), .int (l2 - 1), .int l3, .int l4, .int (((l5 * 10) + l6) + 1)] w (fun x2 w1 => w1.2.2 = RTab b ∧ ((x2 = (-2) → Go SC (mX9_firstRow (n + 1)) 32 [(0, .int l0), (1, .int l1), (2, .int l2), (3, .int l3), (4, .int l4), (5, .int l5), (6, .int (l6 + 1))] [] w1 Q) ∧ (¬ (x2 = (-2)) → Q (some (.int x2)) w1)))) ∧ (¬ ((vXX7_isTooGreat (vXX7_overBy l6 l0 l1) (vXX7_underBy l6 l0 l1)) = 0) → Go SC (mX9_firstRow (n + 1)) 32 [(0, .int l0), (1, .int l1), (2, .int l2), (3, .int l3), (4, .int l4), (5, .int l5), (6, .int (l6 + 1))] [] w Q))))) : Go SC (mX9_firstRow (n + 1)) 32 [(0, .int l0), (1, .int l1), (2, .int l2), (3, .int l3), (4, .int l4), (5, .int l5), (6, .int l6)] [] w Q := by
  refine g_iload (pc := 32) dX9_firstRow_32 6 rfl ?_
  refine g_iconst (pc := 34) dX9_firstRow_34 c_2 ?_
  refine g_icmp_gt (pc := 35) (tgt := 110) dX9_firstRow_35 (by decide) (fun q => ?_) (fun q => ?_)
  · have h := h.1 q
    refine g_bipush (pc := 110) (v := (-2)) dX9_firstRow_110 (by decide) ?_
    exact g_iret (pc := 112) dX9_firstRow_112 rfl h
  · have h := h.2 q
    refine g_iload (pc := 38) dX9_firstRow_38 6 rfl ?_
    refine g_iload_n (pc := 40) dX9_firstRow_40 rfl 0 rfl ?_
    refine g_iload_n (pc := 41) dX9_firstRow_41 rfl 1 rfl ?_
    refine g_callS (pc := 42) (M' := mX7_overBy) (n := 3) (as := [.int l6, .int l0, .int l1]) (st := []) dX9_firstRow_42 rfl kX9_31 sX7_overBy (by show 1 + 1 ≤ 5 + 1 * (n + 1); omega) rfl rfl (Nat.le_of_ble_eq_true rfl) ?_
    refine zX7_overBy (a1 := l6) (a2 := l0) (a3 := l1) (w := w) (b := b) (hR := hR) ?_
    show Go SC (mX9_firstRow (n + 1)) 45 [(0, .int l0), (1, .int l1), (2, .int l2), (3, .int l3), (4, .int l4), (5, .int l5), (6, .int l6)] [.int (vXX7_overBy l6 l0 l1)] w Q
    refine g_istore (pc := 45) (lv2 := [(0, .int l0), (1, .int l1), (2, .int l2), (3, .int l3), (4, .int l4), (5, .int l5), (6, .int l6), (7, .int (vXX7_overBy l6 l0 l1))]) dX9_firstRow_45 (Nat.le_of_ble_eq_true rfl) rfl ?_
    refine g_iload (pc := 47) dX9_firstRow_47 6 rfl ?_
    refine g_iload_n (pc := 49) dX9_firstRow_49 rfl 0 rfl ?_
    refine g_iload_n (pc := 50) dX9_firstRow_50 rfl 1 rfl ?_
    refine g_callS (pc := 51) (M' := mX7_underBy) (n := 3) (as := [.int l6, .int l0, .int l1]) (st := []) dX9_firstRow_51 rfl kX9_35 sX7_underBy (by show 2 + 1 ≤ 5 + 1 * (n + 1); omega) rfl rfl (Nat.le_of_ble_eq_true rfl) ?_
    refine zX7_underBy (a1 := l6) (a2 := l0) (a3 := l1) (w := w) (b := b) (hR := hR) ?_
    show Go SC (mX9_firstRow (n + 1)) 54 [(0, .int l0), (1, .int l1), (2, .int l2), (3, .int l3), (4, .int l4), (5, .int l5), (6, .int l6), (7, .int (vXX7_overBy l6 l0 l1))] [.int (vXX7_underBy l6 l0 l1)] w Q
    refine g_istore (pc := 54) (lv2 := [(0, .int l0), (1, .int l1), (2, .int l2), (3, .int l3), (4, .int l4), (5, .int l5), (6, .int l6), (7, .int (vXX7_overBy l6 l0 l1)), (8, .int (vXX7_underBy l6 l0 l1))]) dX9_firstRow_54 (Nat.le_of_ble_eq_true rfl) rfl ?_
    refine g_iload (pc := 56) dX9_firstRow_56 7 rfl ?_
    refine g_iload (pc := 58) dX9_firstRow_58 8 rfl ?_
    refine g_callS (pc := 60) (M' := mX7_isTooGreat) (n := 2) (as := [.int (vXX7_overBy l6 l0 l1), .int (vXX7_underBy l6 l0 l1)]) (st := []) dX9_firstRow_60 rfl kX9_38 sX7_isTooGreat (by show 1 + 1 ≤ 5 + 1 * (n + 1); omega) rfl rfl (Nat.le_of_ble_eq_true rfl) ?_
    refine zX7_isTooGreat (a1 := (vXX7_overBy l6 l0 l1)) (a2 := (vXX7_underBy l6 l0 l1)) (w := w) (b := b) (hR := hR) ?_
    show Go SC (mX9_firstRow (n + 1)) 63 [(0, .int l0), (1, .int l1), (2, .int l2), (3, .int l3), (4, .int l4), (5, .int l5), (6, .int l6), (7, .int (vXX7_overBy l6 l0 l1)), (8, .int (vXX7_underBy l6 l0 l1))] [.int (vXX7_isTooGreat (vXX7_overBy l6 l0 l1) (vXX7_underBy l6 l0 l1))] w Q
    refine g_if_eq (pc := 63) (tgt := 69) dX9_firstRow_63 (by decide) (fun q => ?_) (fun q => ?_)
    · have h := h.1 q
      refine g_iload (pc := 69) dX9_firstRow_69 7 rfl ?_
      refine g_iload (pc := 71) dX9_firstRow_71 8 rfl ?_
      refine g_iload_n (pc := 73) dX9_firstRow_73 rfl 2 rfl ?_
      refine g_iconst (pc := 74) dX9_firstRow_74 c_1 ?_
      refine g_isub (pc := 75) dX9_firstRow_75 ?_
      refine g_iload_n (pc := 76) dX9_firstRow_76 rfl 3 rfl ?_
      refine g_iload (pc := 77) dX9_firstRow_77 4 rfl ?_
      refine g_iload (pc := 79) dX9_firstRow_79 5 rfl ?_
      refine g_bipush (pc := 81) (v := 10) dX9_firstRow_81 (by decide) ?_
      refine g_imul (pc := 83) dX9_firstRow_83 ?_
      refine g_iload (pc := 84) dX9_firstRow_84 6 rfl ?_
      refine g_iadd (pc := 86) dX9_firstRow_86 ?_
      refine g_iconst (pc := 87) dX9_firstRow_87 c_1 ?_
      refine g_iadd (pc := 88) dX9_firstRow_88 ?_
      refine g_callS (pc := 89) (M' := (mX9_firstRow n)) (n := 6) (as := [.int (vXX7_overBy l6 l0 l1), .int (vXX7_underBy l6 l0 l1), .int (l2 - 1), .int l3, .int l4, .int (((l5 * 10) + l6) + 1)]) (st := []) dX9_firstRow_89 rfl kX9_27 sX9_firstRow (by show 5 + 1 * n + 1 ≤ 5 + 1 * (n + 1); omega) rfl rfl (Nat.le_of_ble_eq_true rfl) ?_
      refine cl_mono (fun r w1 hr => ?_) h
      obtain ⟨x2, rfl, hw1, h⟩ := hr
      show Go SC (mX9_firstRow (n + 1)) 92 [(0, .int l0), (1, .int l1), (2, .int l2), (3, .int l3), (4, .int l4), (5, .int l5), (6, .int l6), (7, .int (vXX7_overBy l6 l0 l1)), (8, .int (vXX7_underBy l6 l0 l1))] [.int x2] w1 Q
      refine g_istore (pc := 92) (lv2 := [(0, .int l0), (1, .int l1), (2, .int l2), (3, .int l3), (4, .int l4), (5, .int l5), (6, .int l6), (7, .int (vXX7_overBy l6 l0 l1)), (8, .int (vXX7_underBy l6 l0 l1)), (9, .int x2)]) dX9_firstRow_92 (Nat.le_of_ble_eq_true rfl) rfl ?_
      refine g_iload (pc := 94) dX9_firstRow_94 9 rfl ?_
      refine g_bipush (pc := 96) (v := (-2)) dX9_firstRow_96 (by decide) ?_
      refine g_icmp_eq (pc := 98) (tgt := 104) dX9_firstRow_98 (by decide) (fun q => ?_) (fun q => ?_)
      · have h := h.1 q
        refine g_iinc (pc := 104) (v := l6 + 1) (lv2 := [(0, .int l0), (1, .int l1), (2, .int l2), (3, .int l3), (4, .int l4), (5, .int l5), (6, .int (l6 + 1)), (7, .int (vXX7_overBy l6 l0 l1)), (8, .int (vXX7_underBy l6 l0 l1)), (9, .int x2)]) dX9_firstRow_104 6 rfl (Nat.le_of_ble_eq_true rfl) rfl rfl ?_
        refine g_goto (pc := 107) (tgt := 32) dX9_firstRow_107 (by decide) ?_
        refine g_sub (lv2 := [(0, .int l0), (1, .int l1), (2, .int l2), (3, .int l3), (4, .int l4), (5, .int l5), (6, .int (l6 + 1))]) [0, 1, 2, 3, 4, 5, 6] rfl ?_
        exact h
      · have h := h.2 q
        refine g_iload (pc := 101) dX9_firstRow_101 9 rfl ?_
        exact g_iret (pc := 103) dX9_firstRow_103 rfl h
    · have h := h.2 q
      refine g_goto (pc := 66) (tgt := 104) dX9_firstRow_66 (by decide) ?_
      refine g_iinc (pc := 104) (v := l6 + 1) (lv2 := [(0, .int l0), (1, .int l1), (2, .int l2), (3, .int l3), (4, .int l4), (5, .int l5), (6, .int (l6 + 1)), (7, .int (vXX7_overBy l6 l0 l1)), (8, .int (vXX7_underBy l6 l0 l1))]) dX9_firstRow_104 6 rfl (Nat.le_of_ble_eq_true rfl) rfl rfl ?_
      refine g_goto (pc := 107) (tgt := 32) dX9_firstRow_107 (by decide) ?_
      refine g_sub (lv2 := [(0, .int l0), (1, .int l1), (2, .int l2), (3, .int l3), (4, .int l4), (5, .int l5), (6, .int (l6 + 1))]) [0, 1, 2, 3, 4, 5, 6] rfl ?_
      exact h
set_option maxHeartbeats 4000000 in
set_option maxRecDepth 100000 in
theorem TX9_fewest (a1 : Nat) (ha1 : SC[a1]? = some (.inl 6)) (a2 : Int32) (a3 : Int32) (w : Wd) (b : Bool) (hR : w.2.2 = RTab b) (Q : Option Value → Wd → Prop) (h : Go SC mX9_fewest 2 [(0, .ref a1), (1, .int a2), (2, .int a3), (3, .int 0)] [] w Q) : Cl SC mX9_fewest [.ref a1, .int a2, .int a3] w Q := by
  refine cl_of (by decide) (Nat.le_of_ble_eq_true rfl) ?_
  show Go SC mX9_fewest 0 [(0, .ref a1), (1, .int a2), (2, .int a3)] [] w Q
  refine g_iconst (pc := 0) dX9_fewest_0 c_0 ?_
  refine g_istore_n (pc := 1) (lv2 := [(0, .ref a1), (1, .int a2), (2, .int a3), (3, .int 0)]) dX9_fewest_1 rfl (Nat.le_of_ble_eq_true rfl) rfl ?_
  exact h
set_option maxHeartbeats 4000000 in
set_option maxRecDepth 100000 in
theorem BX9_fewest_2 (a1 : Nat) (ha1 : SC[a1]? = some (.inl 6)) (l1 : Int32) (l2 : Int32) (l3 : Int32) (w : Wd) (b : Bool) (hR : w.2.2 = RTab b) (Q : Option Value → Wd → Prop) (h : ((7 < l3 → Q (some (.int (-2))) w) ∧ (¬ (7 < l3) → ClI SC (mX9_firstRow 8) [.int (wi w a1 0), .int (wi w a1 1), .int l3, .int l1, .int l2, .int 0] w (fun x2 w1 => w1.2.2 = RTab b ∧ ((x2 = (-2) → Go SC mX9_fewest 2 [(0, .ref a1), (1, .int l1), (2, .int l2), (3, .int (l3 + 1))] [] w1 Q) ∧ (¬ (x2 = (-2)) → Q (some (.int x2)) w1)))))) : Go SC mX9_fewest 2 [(0, .ref a1), (1, .int l1), (2, .int l2), (3, .int l3)] [] w Q := by
  refine g_iload_n (pc := 2) dX9_fewest_2 rfl 3 rfl ?_
  refine g_bipush (pc := 3) (v := 7) dX9_fewest_3 (by decide) ?_
  refine g_icmp_gt (pc := 5) (tgt := 41) dX9_fewest_5 (by decide) (fun q => ?_) (fun q => ?_)
  · have h := h.1 q
    refine g_bipush (pc := 41) (v := (-2)) dX9_fewest_41 (by decide) ?_
    exact g_iret (pc := 43) dX9_fewest_43 rfl h
  · have h := h.2 q
    refine g_aload_n (pc := 8) dX9_fewest_8 rfl 0 rfl ?_
    refine g_getI (pc := 9) (a := a1) dX9_fewest_9 rfl fX9_18 ha1 ?_
    refine g_aload_n (pc := 12) dX9_fewest_12 rfl 0 rfl ?_
    refine g_getI (pc := 13) (a := a1) dX9_fewest_13 rfl fX9_24 ha1 ?_
    refine g_iload_n (pc := 16) dX9_fewest_16 rfl 3 rfl ?_
    refine g_iload_n (pc := 17) dX9_fewest_17 rfl 1 rfl ?_
    refine g_iload_n (pc := 18) dX9_fewest_18 rfl 2 rfl ?_
    refine g_iconst (pc := 19) dX9_fewest_19 c_0 ?_
    refine g_callS (pc := 20) (M' := (mX9_firstRow 8)) (n := 6) (as := [.int (wi w a1 0), .int (wi w a1 1), .int l3, .int l1, .int l2, .int 0]) (st := []) dX9_fewest_20 rfl kX9_27 sX9_firstRow (Nat.le_of_ble_eq_true rfl) rfl rfl (Nat.le_of_ble_eq_true rfl) ?_
    refine cl_mono (fun r w1 hr => ?_) h
    obtain ⟨x2, rfl, hw1, h⟩ := hr
    show Go SC mX9_fewest 23 [(0, .ref a1), (1, .int l1), (2, .int l2), (3, .int l3)] [.int x2] w1 Q
    refine g_istore (pc := 23) (lv2 := [(0, .ref a1), (1, .int l1), (2, .int l2), (3, .int l3), (4, .int x2)]) dX9_fewest_23 (Nat.le_of_ble_eq_true rfl) rfl ?_
    refine g_iload (pc := 25) dX9_fewest_25 4 rfl ?_
    refine g_bipush (pc := 27) (v := (-2)) dX9_fewest_27 (by decide) ?_
    refine g_icmp_eq (pc := 29) (tgt := 35) dX9_fewest_29 (by decide) (fun q => ?_) (fun q => ?_)
    · have h := h.1 q
      refine g_iinc (pc := 35) (v := l3 + 1) (lv2 := [(0, .ref a1), (1, .int l1), (2, .int l2), (3, .int (l3 + 1)), (4, .int x2)]) dX9_fewest_35 3 rfl (Nat.le_of_ble_eq_true rfl) rfl rfl ?_
      refine g_goto (pc := 38) (tgt := 2) dX9_fewest_38 (by decide) ?_
      refine g_sub (lv2 := [(0, .ref a1), (1, .int l1), (2, .int l2), (3, .int (l3 + 1))]) [0, 1, 2, 3] rfl ?_
      exact h
    · have h := h.2 q
      refine g_iload (pc := 32) dX9_fewest_32 4 rfl ?_
      exact g_iret (pc := 34) dX9_fewest_34 rfl h
set_option maxHeartbeats 4000000 in
set_option maxRecDepth 100000 in
theorem TX9_addReached (a1 : Int32) (a2 : Int32) (w : Wd) (b : Bool) (hR : w.2.2 = RTab b) (Q : Option Value → Wd → Prop) (h : Go SC mX9_addReached 2 [(0, .ref 58), (1, .int a1), (2, .int a2), (3, .int 0)] [] w Q) : Cl SC mX9_addReached [.ref 58, .int a1, .int a2] w Q := by
  refine cl_of (by decide) (Nat.le_of_ble_eq_true rfl) ?_
  show Go SC mX9_addReached 0 [(0, .ref 58), (1, .int a1), (2, .int a2)] [] w Q
  refine g_iconst (pc := 0) dX9_addReached_0 c_0 ?_
  refine g_istore_n (pc := 1) (lv2 := [(0, .ref 58), (1, .int a1), (2, .int a2), (3, .int 0)]) dX9_addReached_1 rfl (Nat.le_of_ble_eq_true rfl) rfl ?_
  exact h
set_option maxHeartbeats 4000000 in
set_option maxRecDepth 100000 in
theorem BX9_addReached_2  (l1 : Int32) (l2 : Int32) (l3 : Int32) (w : Wd) (b : Bool) (hR : w.2.2 = RTab b) (Q : Option Value → Wd → Prop) (h : (((wi w 58 2) ≤ l3 → ((128 ≤ (wi w 58 2) → Q none w) ∧ (¬ (128 ≤ (wi w 58 2)) → Q none (si (pf (pf w 59 128 (wi w 58 2) l1) 60 128 (wi (pf w 59 128 (wi w 58 2) l1) 58 2) l2) 58 2 ((wi (pf (pf w 59 128 (wi w 58 2) l1) 60 128 (wi (pf w 59 128 (wi w 58 2) l1) 58 2) l2) 58 2) + 1))))) ∧ (¬ ((wi w 58 2) ≤ l3) → (((gf w 59 128 l3) = l1 → (((gf w 60 128 l3) = l2 → Q none w) ∧ (¬ ((gf w 60 128 l3) = l2) → Go SC mX9_addReached 2 [(0, .ref 58), (1, .int l1), (2, .int l2), (3, .int (l3 + 1))] [] w Q))) ∧ (¬ ((gf w 59 128 l3) = l1) → Go SC mX9_addReached 2 [(0, .ref 58), (1, .int l1), (2, .int l2), (3, .int (l3 + 1))] [] w Q))))) : Go SC mX9_addReached 2 [(0, .ref 58), (1, .int l1), (2, .int l2), (3, .int l3)] [] w Q := by
  refine g_iload_n (pc := 2) dX9_addReached_2 rfl 3 rfl ?_
  refine g_aload_n (pc := 3) dX9_addReached_3 rfl 0 rfl ?_
  refine g_getI (pc := 4) (a := 58) dX9_addReached_4 rfl fX9_42 rfl ?_
  refine g_icmp_ge (pc := 7) (tgt := 41) dX9_addReached_7 (by decide) (fun q => ?_) (fun q => ?_)
  · have h := h.1 q
    refine g_aload_n (pc := 41) dX9_addReached_41 rfl 0 rfl ?_
    refine g_getI (pc := 42) (a := 58) dX9_addReached_42 rfl fX9_42 rfl ?_
    refine g_sipush (pc := 45) (v := 128) dX9_addReached_45 (by decide) ?_
    refine g_icmp_ge (pc := 48) (tgt := 85) dX9_addReached_48 (by decide) (fun q => ?_) (fun q => ?_)
    · have h := h.1 q
      exact g_vret (pc := 85) dX9_addReached_85 rfl h
    · have h := h.2 q
      refine g_aload_n (pc := 51) dX9_addReached_51 rfl 0 rfl ?_
      refine g_getR (pc := 52) (a := 58) (b := 59) dX9_addReached_52 rfl fX9_11 rfl (rc_58_0 hR) ?_
      refine g_aload_n (pc := 55) dX9_addReached_55 rfl 0 rfl ?_
      refine g_getI (pc := 56) (a := 58) dX9_addReached_56 rfl fX9_42 rfl ?_
      refine g_iload_n (pc := 59) dX9_addReached_59 rfl 1 rfl ?_
      refine g_callS (pc := 60) (M' := mX10_putAt) (n := 3) (as := [.ref 59, .int (wi w 58 2), .int l1]) (st := []) dX9_addReached_60 rfl kX9_56 sX10_putAt (Nat.le_of_ble_eq_true rfl) rfl rfl (Nat.le_of_ble_eq_true rfl) ?_
      refine h_putAt (a := 59) (n := 128) (i := wi w 58 2) (v := l1) (w := w) rfl (Nat.le_of_ble_eq_true rfl) ?_
      show Go SC mX9_addReached 63 [(0, .ref 58), (1, .int l1), (2, .int l2), (3, .int l3)] [] (pf w 59 128 (wi w 58 2) l1) Q
      refine g_aload_n (pc := 63) dX9_addReached_63 rfl 0 rfl ?_
      refine g_getR (pc := 64) (a := 58) (b := 60) dX9_addReached_64 rfl fX9_15 rfl (rc_58_1 ((pf_R _ _ _ _ _).trans hR)) ?_
      refine g_aload_n (pc := 67) dX9_addReached_67 rfl 0 rfl ?_
      refine g_getI (pc := 68) (a := 58) dX9_addReached_68 rfl fX9_42 rfl ?_
      refine g_iload_n (pc := 71) dX9_addReached_71 rfl 2 rfl ?_
      refine g_callS (pc := 72) (M' := mX10_putAt) (n := 3) (as := [.ref 60, .int (wi (pf w 59 128 (wi w 58 2) l1) 58 2), .int l2]) (st := []) dX9_addReached_72 rfl kX9_56 sX10_putAt (Nat.le_of_ble_eq_true rfl) rfl rfl (Nat.le_of_ble_eq_true rfl) ?_
      refine h_putAt (a := 60) (n := 128) (i := wi (pf w 59 128 (wi w 58 2) l1) 58 2) (v := l2) (w := pf w 59 128 (wi w 58 2) l1) rfl (Nat.le_of_ble_eq_true rfl) ?_
      show Go SC mX9_addReached 75 [(0, .ref 58), (1, .int l1), (2, .int l2), (3, .int l3)] [] (pf (pf w 59 128 (wi w 58 2) l1) 60 128 (wi (pf w 59 128 (wi w 58 2) l1) 58 2) l2) Q
      refine g_aload_n (pc := 75) dX9_addReached_75 rfl 0 rfl ?_
      refine g_dup (pc := 76) dX9_addReached_76 rfl ?_
      refine g_getI (pc := 77) (a := 58) dX9_addReached_77 rfl fX9_42 rfl ?_
      refine g_iconst (pc := 80) dX9_addReached_80 c_1 ?_
      refine g_iadd (pc := 81) dX9_addReached_81 ?_
      refine g_putI (pc := 82) dX9_addReached_82 rfl fX9_42 pX9_2 rfl ?_
      exact g_vret (pc := 85) dX9_addReached_85 rfl h
  · have h := h.2 q
    refine g_aload_n (pc := 10) dX9_addReached_10 rfl 0 rfl ?_
    refine g_getR (pc := 11) (a := 58) (b := 59) dX9_addReached_11 rfl fX9_11 rfl (rc_58_0 hR) ?_
    refine g_iload_n (pc := 14) dX9_addReached_14 rfl 3 rfl ?_
    refine g_callS (pc := 15) (M' := mX10_at) (n := 2) (as := [.ref 59, .int l3]) (st := []) dX9_addReached_15 rfl kX9_49 sX10_at (Nat.le_of_ble_eq_true rfl) rfl rfl (Nat.le_of_ble_eq_true rfl) ?_
    refine h_at (a := 59) (n := 128) (i := l3) (w := w) rfl (Nat.le_of_ble_eq_true rfl) ?_
    show Go SC mX9_addReached 18 [(0, .ref 58), (1, .int l1), (2, .int l2), (3, .int l3)] [.int (gf w 59 128 l3)] w Q
    refine g_iload_n (pc := 18) dX9_addReached_18 rfl 1 rfl ?_
    refine g_icmp_ne (pc := 19) (tgt := 35) dX9_addReached_19 (by decide) (fun q => ?_) (fun q => ?_)
    · have h := h.2 q
      refine g_iinc (pc := 35) (v := l3 + 1) (lv2 := [(0, .ref 58), (1, .int l1), (2, .int l2), (3, .int (l3 + 1))]) dX9_addReached_35 3 rfl (Nat.le_of_ble_eq_true rfl) rfl rfl ?_
      refine g_goto (pc := 38) (tgt := 2) dX9_addReached_38 (by decide) ?_
      exact h
    · have h := h.1 q
      refine g_aload_n (pc := 22) dX9_addReached_22 rfl 0 rfl ?_
      refine g_getR (pc := 23) (a := 58) (b := 60) dX9_addReached_23 rfl fX9_15 rfl (rc_58_1 hR) ?_
      refine g_iload_n (pc := 26) dX9_addReached_26 rfl 3 rfl ?_
      refine g_callS (pc := 27) (M' := mX10_at) (n := 2) (as := [.ref 60, .int l3]) (st := []) dX9_addReached_27 rfl kX9_49 sX10_at (Nat.le_of_ble_eq_true rfl) rfl rfl (Nat.le_of_ble_eq_true rfl) ?_
      refine h_at (a := 60) (n := 128) (i := l3) (w := w) rfl (Nat.le_of_ble_eq_true rfl) ?_
      show Go SC mX9_addReached 30 [(0, .ref 58), (1, .int l1), (2, .int l2), (3, .int l3)] [.int (gf w 60 128 l3)] w Q
      refine g_iload_n (pc := 30) dX9_addReached_30 rfl 2 rfl ?_
      refine g_icmp_ne (pc := 31) (tgt := 35) dX9_addReached_31 (by decide) (fun q => ?_) (fun q => ?_)
      · have h := h.2 q
        refine g_iinc (pc := 35) (v := l3 + 1) (lv2 := [(0, .ref 58), (1, .int l1), (2, .int l2), (3, .int (l3 + 1))]) dX9_addReached_35 3 rfl (Nat.le_of_ble_eq_true rfl) rfl rfl ?_
        refine g_goto (pc := 38) (tgt := 2) dX9_addReached_38 (by decide) ?_
        exact h
      · have h := h.1 q
        exact g_vret (pc := 34) dX9_addReached_34 rfl h
set_option maxHeartbeats 4000000 in
set_option maxRecDepth 100000 in
theorem TX9_addNeighbours (a1 : Int32) (a2 : Int32) (w : Wd) (b : Bool) (hR : w.2.2 = RTab b) (Q : Option Value → Wd → Prop) (h : Go SC mX9_addNeighbours 2 [(0, .ref 58), (1, .int a1), (2, .int a2), (3, .int 0)] [] w Q) : Cl SC mX9_addNeighbours [.ref 58, .int a1, .int a2] w Q := by
  refine cl_of (by decide) (Nat.le_of_ble_eq_true rfl) ?_
  show Go SC mX9_addNeighbours 0 [(0, .ref 58), (1, .int a1), (2, .int a2)] [] w Q
  refine g_iconst (pc := 0) dX9_addNeighbours_0 c_0 ?_
  refine g_istore_n (pc := 1) (lv2 := [(0, .ref 58), (1, .int a1), (2, .int a2), (3, .int 0)]) dX9_addNeighbours_1 rfl (Nat.le_of_ble_eq_true rfl) rfl ?_
  exact h
set_option maxHeartbeats 4000000 in
set_option maxRecDepth 100000 in
theorem BX9_addNeighbours_2  (l1 : Int32) (l2 : Int32) (l3 : Int32) (w : Wd) (b : Bool) (hR : w.2.2 = RTab b) (Q : Option Value → Wd → Prop) (h : ((2 < l3 → Q none w) ∧ (¬ (2 < l3) → ClV SC mX9_addReached [.ref 58, .int (vXX7_overBy l3 l1 l2), .int (vXX7_underBy l3 l1 l2)] w (fun w1 => w1.2.2 = RTab b ∧ Go SC mX9_addNeighbours 2 [(0, .ref 58), (1, .int l1), (2, .int l2), (3, .int (l3 + 1))] [] w1 Q)))) : Go SC mX9_addNeighbours 2 [(0, .ref 58), (1, .int l1), (2, .int l2), (3, .int l3)] [] w Q := by
  refine g_iload_n (pc := 2) dX9_addNeighbours_2 rfl 3 rfl ?_
  refine g_iconst (pc := 3) dX9_addNeighbours_3 c_2 ?_
  refine g_icmp_gt (pc := 4) (tgt := 29) dX9_addNeighbours_4 (by decide) (fun q => ?_) (fun q => ?_)
  · have h := h.1 q
    exact g_vret (pc := 29) dX9_addNeighbours_29 rfl h
  · have h := h.2 q
    refine g_aload_n (pc := 7) dX9_addNeighbours_7 rfl 0 rfl ?_
    refine g_iload_n (pc := 8) dX9_addNeighbours_8 rfl 3 rfl ?_
    refine g_iload_n (pc := 9) dX9_addNeighbours_9 rfl 1 rfl ?_
    refine g_iload_n (pc := 10) dX9_addNeighbours_10 rfl 2 rfl ?_
    refine g_callS (pc := 11) (M' := mX7_overBy) (n := 3) (as := [.int l3, .int l1, .int l2]) (st := [.ref 58]) dX9_addNeighbours_11 rfl kX9_31 sX7_overBy (Nat.le_of_ble_eq_true rfl) rfl rfl (Nat.le_of_ble_eq_true rfl) ?_
    refine zX7_overBy (a1 := l3) (a2 := l1) (a3 := l2) (w := w) (b := b) (hR := hR) ?_
    show Go SC mX9_addNeighbours 14 [(0, .ref 58), (1, .int l1), (2, .int l2), (3, .int l3)] [.int (vXX7_overBy l3 l1 l2), .ref 58] w Q
    refine g_iload_n (pc := 14) dX9_addNeighbours_14 rfl 3 rfl ?_
    refine g_iload_n (pc := 15) dX9_addNeighbours_15 rfl 1 rfl ?_
    refine g_iload_n (pc := 16) dX9_addNeighbours_16 rfl 2 rfl ?_
    refine g_callS (pc := 17) (M' := mX7_underBy) (n := 3) (as := [.int l3, .int l1, .int l2]) (st := [.int (vXX7_overBy l3 l1 l2), .ref 58]) dX9_addNeighbours_17 rfl kX9_35 sX7_underBy (Nat.le_of_ble_eq_true rfl) rfl rfl (Nat.le_of_ble_eq_true rfl) ?_
    refine zX7_underBy (a1 := l3) (a2 := l1) (a3 := l2) (w := w) (b := b) (hR := hR) ?_
    show Go SC mX9_addNeighbours 20 [(0, .ref 58), (1, .int l1), (2, .int l2), (3, .int l3)] [.int (vXX7_underBy l3 l1 l2), .int (vXX7_overBy l3 l1 l2), .ref 58] w Q
    refine g_callV (pc := 20) (M' := mX9_addReached) (n := 2) (a := 58) (as := [.int (vXX7_overBy l3 l1 l2), .int (vXX7_underBy l3 l1 l2)]) (st := []) dX9_addNeighbours_20 rfl kX9_45 vX9_addReached (Nat.le_of_ble_eq_true rfl) rfl qX9 rfl rfl (Nat.le_of_ble_eq_true rfl) ?_
    refine cl_mono (fun r w1 hr => ?_) h
    obtain ⟨rfl, hw1, h⟩ := hr
    show Go SC mX9_addNeighbours 23 [(0, .ref 58), (1, .int l1), (2, .int l2), (3, .int l3)] [] w1 Q
    refine g_iinc (pc := 23) (v := l3 + 1) (lv2 := [(0, .ref 58), (1, .int l1), (2, .int l2), (3, .int (l3 + 1))]) dX9_addNeighbours_23 3 rfl (Nat.le_of_ble_eq_true rfl) rfl rfl ?_
    refine g_goto (pc := 26) (tgt := 2) dX9_addNeighbours_26 (by decide) ?_
    exact h
set_option maxHeartbeats 4000000 in
set_option maxRecDepth 100000 in
theorem TX9_spread (a1 : Int32) (w : Wd) (b : Bool) (hR : w.2.2 = RTab b) (Q : Option Value → Wd → Prop) (h : ClV SC mX9_addReached [.ref 58, .int 0, .int 1] (si w 58 2 0) (fun w1 => w1.2.2 = RTab b ∧ Go SC mX9_spread 15 [(0, .ref 58), (1, .int a1), (2, .int 0), (3, .int 0)] [] w1 Q)) : Cl SC mX9_spread [.ref 58, .int a1] w Q := by
  refine cl_of (by decide) (Nat.le_of_ble_eq_true rfl) ?_
  show Go SC mX9_spread 0 [(0, .ref 58), (1, .int a1)] [] w Q
  refine g_aload_n (pc := 0) dX9_spread_0 rfl 0 rfl ?_
  refine g_iconst (pc := 1) dX9_spread_1 c_0 ?_
  refine g_putI (pc := 2) dX9_spread_2 rfl fX9_42 pX9_2 rfl ?_
  refine g_aload_n (pc := 5) dX9_spread_5 rfl 0 rfl ?_
  refine g_iconst (pc := 6) dX9_spread_6 c_0 ?_
  refine g_iconst (pc := 7) dX9_spread_7 c_1 ?_
  refine g_callV (pc := 8) (M' := mX9_addReached) (n := 2) (a := 58) (as := [.int 0, .int 1]) (st := []) dX9_spread_8 rfl kX9_45 vX9_addReached (Nat.le_of_ble_eq_true rfl) rfl qX9 rfl rfl (Nat.le_of_ble_eq_true rfl) ?_
  refine cl_mono (fun r w1 hr => ?_) h
  obtain ⟨rfl, hw1, h⟩ := hr
  show Go SC mX9_spread 11 [(0, .ref 58), (1, .int a1)] [] w1 Q
  refine g_iconst (pc := 11) dX9_spread_11 c_0 ?_
  refine g_istore_n (pc := 12) (lv2 := [(0, .ref 58), (1, .int a1), (2, .int 0)]) dX9_spread_12 rfl (Nat.le_of_ble_eq_true rfl) rfl ?_
  refine g_iconst (pc := 13) dX9_spread_13 c_0 ?_
  refine g_istore_n (pc := 14) (lv2 := [(0, .ref 58), (1, .int a1), (2, .int 0), (3, .int 0)]) dX9_spread_14 rfl (Nat.le_of_ble_eq_true rfl) rfl ?_
  exact h
set_option maxHeartbeats 4000000 in
set_option maxRecDepth 100000 in
theorem BX9_spread_15  (l1 : Int32) (l2 : Int32) (l3 : Int32) (w : Wd) (b : Bool) (hR : w.2.2 = RTab b) (Q : Option Value → Wd → Prop) (h : ((l1 ≤ l3 → Q (some (.int (wi w 58 2))) w) ∧ (¬ (l1 ≤ l3) → Go SC mX9_spread 29 [(0, .ref 58), (1, .int l1), (2, .int l2), (3, .int l3), (4, .int (wi w 58 2)), (5, .int l2)] [] w Q))) : Go SC mX9_spread 15 [(0, .ref 58), (1, .int l1), (2, .int l2), (3, .int l3)] [] w Q := by
  refine g_iload_n (pc := 15) dX9_spread_15 rfl 3 rfl ?_
  refine g_iload_n (pc := 16) dX9_spread_16 rfl 1 rfl ?_
  refine g_icmp_ge (pc := 17) (tgt := 73) dX9_spread_17 (by decide) (fun q => ?_) (fun q => ?_)
  · have h := h.1 q
    refine g_aload_n (pc := 73) dX9_spread_73 rfl 0 rfl ?_
    refine g_getI (pc := 74) (a := 58) dX9_spread_74 rfl fX9_42 rfl ?_
    exact g_iret (pc := 77) dX9_spread_77 rfl h
  · have h := h.2 q
    refine g_aload_n (pc := 20) dX9_spread_20 rfl 0 rfl ?_
    refine g_getI (pc := 21) (a := 58) dX9_spread_21 rfl fX9_42 rfl ?_
    refine g_istore (pc := 24) (lv2 := [(0, .ref 58), (1, .int l1), (2, .int l2), (3, .int l3), (4, .int (wi w 58 2))]) dX9_spread_24 (Nat.le_of_ble_eq_true rfl) rfl ?_
    refine g_iload_n (pc := 26) dX9_spread_26 rfl 2 rfl ?_
    refine g_istore (pc := 27) (lv2 := [(0, .ref 58), (1, .int l1), (2, .int l2), (3, .int l3), (4, .int (wi w 58 2)), (5, .int l2)]) dX9_spread_27 (Nat.le_of_ble_eq_true rfl) rfl ?_
    exact h
set_option maxHeartbeats 4000000 in
set_option maxRecDepth 100000 in
theorem BX9_spread_29  (l1 : Int32) (l2 : Int32) (l3 : Int32) (l4 : Int32) (l5 : Int32) (w : Wd) (b : Bool) (hR : w.2.2 = RTab b) (Q : Option Value → Wd → Prop) (h : ((l4 ≤ l5 → Go SC mX9_spread 15 [(0, .ref 58), (1, .int l1), (2, .int l4), (3, .int (l3 + 1))] [] w Q) ∧ (¬ (l4 ≤ l5) → ClV SC mX9_addNeighbours [.ref 58, .int (gf w 59 128 l5), .int (gf w 60 128 l5)] w (fun w1 => w1.2.2 = RTab b ∧ Go SC mX9_spread 29 [(0, .ref 58), (1, .int l1), (2, .int l2), (3, .int l3), (4, .int l4), (5, .int (l5 + 1))] [] w1 Q)))) : Go SC mX9_spread 29 [(0, .ref 58), (1, .int l1), (2, .int l2), (3, .int l3), (4, .int l4), (5, .int l5)] [] w Q := by
  refine g_iload (pc := 29) dX9_spread_29 5 rfl ?_
  refine g_iload (pc := 31) dX9_spread_31 4 rfl ?_
  refine g_icmp_ge (pc := 33) (tgt := 64) dX9_spread_33 (by decide) (fun q => ?_) (fun q => ?_)
  · have h := h.1 q
    refine g_iload (pc := 64) dX9_spread_64 4 rfl ?_
    refine g_istore_n (pc := 66) (lv2 := [(0, .ref 58), (1, .int l1), (2, .int l4), (3, .int l3), (4, .int l4), (5, .int l5)]) dX9_spread_66 rfl (Nat.le_of_ble_eq_true rfl) rfl ?_
    refine g_iinc (pc := 67) (v := l3 + 1) (lv2 := [(0, .ref 58), (1, .int l1), (2, .int l4), (3, .int (l3 + 1)), (4, .int l4), (5, .int l5)]) dX9_spread_67 3 rfl (Nat.le_of_ble_eq_true rfl) rfl rfl ?_
    refine g_goto (pc := 70) (tgt := 15) dX9_spread_70 (by decide) ?_
    refine g_sub (lv2 := [(0, .ref 58), (1, .int l1), (2, .int l4), (3, .int (l3 + 1))]) [0, 1, 2, 3] rfl ?_
    exact h
  · have h := h.2 q
    refine g_aload_n (pc := 36) dX9_spread_36 rfl 0 rfl ?_
    refine g_aload_n (pc := 37) dX9_spread_37 rfl 0 rfl ?_
    refine g_getR (pc := 38) (a := 58) (b := 59) dX9_spread_38 rfl fX9_11 rfl (rc_58_0 hR) ?_
    refine g_iload (pc := 41) dX9_spread_41 5 rfl ?_
    refine g_callS (pc := 43) (M' := mX10_at) (n := 2) (as := [.ref 59, .int l5]) (st := [.ref 58]) dX9_spread_43 rfl kX9_49 sX10_at (Nat.le_of_ble_eq_true rfl) rfl rfl (Nat.le_of_ble_eq_true rfl) ?_
    refine h_at (a := 59) (n := 128) (i := l5) (w := w) rfl (Nat.le_of_ble_eq_true rfl) ?_
    show Go SC mX9_spread 46 [(0, .ref 58), (1, .int l1), (2, .int l2), (3, .int l3), (4, .int l4), (5, .int l5)] [.int (gf w 59 128 l5), .ref 58] w Q
    refine g_aload_n (pc := 46) dX9_spread_46 rfl 0 rfl ?_
    refine g_getR (pc := 47) (a := 58) (b := 60) dX9_spread_47 rfl fX9_15 rfl (rc_58_1 hR) ?_
    refine g_iload (pc := 50) dX9_spread_50 5 rfl ?_
    refine g_callS (pc := 52) (M' := mX10_at) (n := 2) (as := [.ref 60, .int l5]) (st := [.int (gf w 59 128 l5), .ref 58]) dX9_spread_52 rfl kX9_49 sX10_at (Nat.le_of_ble_eq_true rfl) rfl rfl (Nat.le_of_ble_eq_true rfl) ?_
    refine h_at (a := 60) (n := 128) (i := l5) (w := w) rfl (Nat.le_of_ble_eq_true rfl) ?_
    show Go SC mX9_spread 55 [(0, .ref 58), (1, .int l1), (2, .int l2), (3, .int l3), (4, .int l4), (5, .int l5)] [.int (gf w 60 128 l5), .int (gf w 59 128 l5), .ref 58] w Q
    refine g_callV (pc := 55) (M' := mX9_addNeighbours) (n := 2) (a := 58) (as := [.int (gf w 59 128 l5), .int (gf w 60 128 l5)]) (st := []) dX9_spread_55 rfl kX9_53 vX9_addNeighbours (Nat.le_of_ble_eq_true rfl) rfl qX9 rfl rfl (Nat.le_of_ble_eq_true rfl) ?_
    refine cl_mono (fun r w1 hr => ?_) h
    obtain ⟨rfl, hw1, h⟩ := hr
    show Go SC mX9_spread 58 [(0, .ref 58), (1, .int l1), (2, .int l2), (3, .int l3), (4, .int l4), (5, .int l5)] [] w1 Q
    refine g_iinc (pc := 58) (v := l5 + 1) (lv2 := [(0, .ref 58), (1, .int l1), (2, .int l2), (3, .int l3), (4, .int l4), (5, .int (l5 + 1))]) dX9_spread_58 5 rfl (Nat.le_of_ble_eq_true rfl) rfl rfl ?_
    refine g_goto (pc := 61) (tgt := 29) dX9_spread_61 (by decide) ?_
    exact h
set_option maxHeartbeats 4000000 in
set_option maxRecDepth 100000 in
theorem TX9_bestBy (n : Nat) (a1 : Int32) (a2 : Int32) (a3 : Int32) (a4 : Int32) (w : Wd) (b : Bool) (hR : w.2.2 = RTab b) (Q : Option Value → Wd → Prop) (h : (((vXX7_isTooGreat (vXX7_overBy a1 a2 a3) (vXX7_underBy a1 a2 a3)) = 0 → (((vXX7_overBy a1 a2 a3) = 0 → Q (some (.int 1)) w) ∧ (¬ ((vXX7_overBy a1 a2 a3) = 0) → ClI SC (mX9_bestFor n) [.int (vXX7_overBy a1 a2 a3), .int (vXX7_underBy a1 a2 a3), .int (a4 - 1)] w (fun x2 w1 => w1.2.2 = RTab b ∧ Q (some (.int (-x2))) w1)))) ∧ (¬ ((vXX7_isTooGreat (vXX7_overBy a1 a2 a3) (vXX7_underBy a1 a2 a3)) = 0) → Q (some (.int (-2))) w))) : Cl SC (mX9_bestBy (n + 1)) [.int a1, .int a2, .int a3, .int a4] w Q := by
  refine cl_of (by show plainName RX9 = true; decide) (Nat.le_of_ble_eq_true rfl) ?_
  show Go SC (mX9_bestBy (n + 1)) 0 [(0, .int a1), (1, .int a2), (2, .int a3), (3, .int a4)] [] w Q
  refine g_iload_n (pc := 0) dX9_bestBy_0 rfl 0 rfl ?_
  refine g_iload_n (pc := 1) dX9_bestBy_1 rfl 1 rfl ?_
  refine g_iload_n (pc := 2) dX9_bestBy_2 rfl 2 rfl ?_
  refine g_callS (pc := 3) (M' := mX7_overBy) (n := 3) (as := [.int a1, .int a2, .int a3]) (st := []) dX9_bestBy_3 rfl kX9_31 sX7_overBy (by show 1 + 1 ≤ 5 + 2 * (n + 1); omega) rfl rfl (Nat.le_of_ble_eq_true rfl) ?_
  refine zX7_overBy (a1 := a1) (a2 := a2) (a3 := a3) (w := w) (b := b) (hR := hR) ?_
  show Go SC (mX9_bestBy (n + 1)) 6 [(0, .int a1), (1, .int a2), (2, .int a3), (3, .int a4)] [.int (vXX7_overBy a1 a2 a3)] w Q
  refine g_istore (pc := 6) (lv2 := [(0, .int a1), (1, .int a2), (2, .int a3), (3, .int a4), (4, .int (vXX7_overBy a1 a2 a3))]) dX9_bestBy_6 (Nat.le_of_ble_eq_true rfl) rfl ?_
  refine g_iload_n (pc := 8) dX9_bestBy_8 rfl 0 rfl ?_
  refine g_iload_n (pc := 9) dX9_bestBy_9 rfl 1 rfl ?_
  refine g_iload_n (pc := 10) dX9_bestBy_10 rfl 2 rfl ?_
  refine g_callS (pc := 11) (M' := mX7_underBy) (n := 3) (as := [.int a1, .int a2, .int a3]) (st := []) dX9_bestBy_11 rfl kX9_35 sX7_underBy (by show 2 + 1 ≤ 5 + 2 * (n + 1); omega) rfl rfl (Nat.le_of_ble_eq_true rfl) ?_
  refine zX7_underBy (a1 := a1) (a2 := a2) (a3 := a3) (w := w) (b := b) (hR := hR) ?_
  show Go SC (mX9_bestBy (n + 1)) 14 [(0, .int a1), (1, .int a2), (2, .int a3), (3, .int a4), (4, .int (vXX7_overBy a1 a2 a3))] [.int (vXX7_underBy a1 a2 a3)] w Q
  refine g_istore (pc := 14) (lv2 := [(0, .int a1), (1, .int a2), (2, .int a3), (3, .int a4), (4, .int (vXX7_overBy a1 a2 a3)), (5, .int (vXX7_underBy a1 a2 a3))]) dX9_bestBy_14 (Nat.le_of_ble_eq_true rfl) rfl ?_
  refine g_iload (pc := 16) dX9_bestBy_16 4 rfl ?_
  refine g_iload (pc := 18) dX9_bestBy_18 5 rfl ?_
  refine g_callS (pc := 20) (M' := mX7_isTooGreat) (n := 2) (as := [.int (vXX7_overBy a1 a2 a3), .int (vXX7_underBy a1 a2 a3)]) (st := []) dX9_bestBy_20 rfl kX9_38 sX7_isTooGreat (by show 1 + 1 ≤ 5 + 2 * (n + 1); omega) rfl rfl (Nat.le_of_ble_eq_true rfl) ?_
  refine zX7_isTooGreat (a1 := (vXX7_overBy a1 a2 a3)) (a2 := (vXX7_underBy a1 a2 a3)) (w := w) (b := b) (hR := hR) ?_
  show Go SC (mX9_bestBy (n + 1)) 23 [(0, .int a1), (1, .int a2), (2, .int a3), (3, .int a4), (4, .int (vXX7_overBy a1 a2 a3)), (5, .int (vXX7_underBy a1 a2 a3))] [.int (vXX7_isTooGreat (vXX7_overBy a1 a2 a3) (vXX7_underBy a1 a2 a3))] w Q
  refine g_if_eq (pc := 23) (tgt := 29) dX9_bestBy_23 (by decide) (fun q => ?_) (fun q => ?_)
  · have h := h.1 q
    refine g_iload (pc := 29) dX9_bestBy_29 4 rfl ?_
    refine g_if_ne (pc := 31) (tgt := 38) dX9_bestBy_31 (by decide) (fun q => ?_) (fun q => ?_)
    · have h := h.2 q
      refine g_iload (pc := 38) dX9_bestBy_38 4 rfl ?_
      refine g_iload (pc := 40) dX9_bestBy_40 5 rfl ?_
      refine g_iload_n (pc := 42) dX9_bestBy_42 rfl 3 rfl ?_
      refine g_iconst (pc := 43) dX9_bestBy_43 c_1 ?_
      refine g_isub (pc := 44) dX9_bestBy_44 ?_
      refine g_callS (pc := 45) (M' := (mX9_bestFor n)) (n := 3) (as := [.int (vXX7_overBy a1 a2 a3), .int (vXX7_underBy a1 a2 a3), .int (a4 - 1)]) (st := []) dX9_bestBy_45 rfl kX9_70 sX9_bestFor (by show 6 + 2 * n + 1 ≤ 5 + 2 * (n + 1); omega) rfl rfl (Nat.le_of_ble_eq_true rfl) ?_
      refine cl_mono (fun r w1 hr => ?_) h
      obtain ⟨x2, rfl, hw1, h⟩ := hr
      show Go SC (mX9_bestBy (n + 1)) 48 [(0, .int a1), (1, .int a2), (2, .int a3), (3, .int a4), (4, .int (vXX7_overBy a1 a2 a3)), (5, .int (vXX7_underBy a1 a2 a3))] [.int x2] w1 Q
      refine g_ineg (pc := 48) dX9_bestBy_48 ?_
      exact g_iret (pc := 49) dX9_bestBy_49 rfl h
    · have h := h.1 q
      refine g_iconst (pc := 34) dX9_bestBy_34 c_1 ?_
      refine g_goto (pc := 35) (tgt := 49) dX9_bestBy_35 (by decide) ?_
      exact g_iret (pc := 49) dX9_bestBy_49 rfl h
  · have h := h.2 q
    refine g_bipush (pc := 26) (v := (-2)) dX9_bestBy_26 (by decide) ?_
    exact g_iret (pc := 28) dX9_bestBy_28 rfl h
set_option maxHeartbeats 4000000 in
set_option maxRecDepth 100000 in
theorem TX9_bestFor (n : Nat) (a1 : Int32) (a2 : Int32) (a3 : Int32) (w : Wd) (b : Bool) (hR : w.2.2 = RTab b) (Q : Option Value → Wd → Prop) (h : ((a3 ≤ 0 → Q (some (.int 0)) w) ∧ (¬ (a3 ≤ 0) → ((a3 ≤ 8 → Go SC (mX9_bestFor n) 18 [(0, .int a1), (1, .int a2), (2, .int a3), (3, .int (-2)), (4, .int 0)] [] w Q) ∧ (¬ (a3 ≤ 8) → Q (some (.int 0)) w))))) : Cl SC (mX9_bestFor n) [.int a1, .int a2, .int a3] w Q := by
  refine cl_of (by show plainName RX9 = true; decide) (Nat.le_of_ble_eq_true rfl) ?_
  show Go SC (mX9_bestFor n) 0 [(0, .int a1), (1, .int a2), (2, .int a3)] [] w Q
  refine g_iload_n (pc := 0) dX9_bestFor_0 rfl 2 rfl ?_
  refine g_if_le (pc := 1) (tgt := 10) dX9_bestFor_1 (by decide) (fun q => ?_) (fun q => ?_)
  · have h := h.1 q
    refine g_iconst (pc := 10) dX9_bestFor_10 c_0 ?_
    exact g_iret (pc := 11) dX9_bestFor_11 rfl h
  · have h := h.2 q
    refine g_iload_n (pc := 4) dX9_bestFor_4 rfl 2 rfl ?_
    refine g_bipush (pc := 5) (v := 8) dX9_bestFor_5 (by decide) ?_
    refine g_icmp_le (pc := 7) (tgt := 12) dX9_bestFor_7 (by decide) (fun q => ?_) (fun q => ?_)
    · have h := h.1 q
      refine g_bipush (pc := 12) (v := (-2)) dX9_bestFor_12 (by decide) ?_
      refine g_istore_n (pc := 14) (lv2 := [(0, .int a1), (1, .int a2), (2, .int a3), (3, .int (-2))]) dX9_bestFor_14 rfl (Nat.le_of_ble_eq_true rfl) rfl ?_
      refine g_iconst (pc := 15) dX9_bestFor_15 c_0 ?_
      refine g_istore (pc := 16) (lv2 := [(0, .int a1), (1, .int a2), (2, .int a3), (3, .int (-2)), (4, .int 0)]) dX9_bestFor_16 (Nat.le_of_ble_eq_true rfl) rfl ?_
      exact h
    · have h := h.2 q
      refine g_iconst (pc := 10) dX9_bestFor_10 c_0 ?_
      exact g_iret (pc := 11) dX9_bestFor_11 rfl h
set_option maxHeartbeats 4000000 in
set_option maxRecDepth 100000 in
theorem BX9_bestFor_18 (n : Nat)  (l0 : Int32) (l1 : Int32) (l2 : Int32) (l3 : Int32) (l4 : Int32) (w : Wd) (b : Bool) (hR : w.2.2 = RTab b) (Q : Option Value → Wd → Prop) (h : ((2 < l4 → Q (some (.int l3)) w) ∧ (¬ (2 < l4) → ((1 ≤ l3 → Q (some (.int l3)) w) ∧ (¬ (1 ≤ l3) → ClI SC (mX9_bestBy n) [.int l4, .int l0, .int l1, .int l2] w (fun x2 w1 => w1.2.2 = RTab b ∧ Go SC (mX9_bestFor n) 18 [(0, .int l0), (1, .int l1), (2, .int l2), (3, .int (vXJ9_max_7cf53 l3 x2)), (4, .int (l4 + 1))] [] w1 Q)))))) : Go SC (mX9_bestFor n) 18 [(0, .int l0), (1, .int l1), (2, .int l2), (3, .int l3), (4, .int l4)] [] w Q := by
  refine g_iload (pc := 18) dX9_bestFor_18 4 rfl ?_
  refine g_iconst (pc := 20) dX9_bestFor_20 c_2 ?_
  refine g_icmp_gt (pc := 21) (tgt := 48) dX9_bestFor_21 (by decide) (fun q => ?_) (fun q => ?_)
  · have h := h.1 q
    refine g_iload_n (pc := 48) dX9_bestFor_48 rfl 3 rfl ?_
    exact g_iret (pc := 49) dX9_bestFor_49 rfl h
  · have h := h.2 q
    refine g_iload_n (pc := 24) dX9_bestFor_24 rfl 3 rfl ?_
    refine g_iconst (pc := 25) dX9_bestFor_25 c_1 ?_
    refine g_icmp_ge (pc := 26) (tgt := 48) dX9_bestFor_26 (by decide) (fun q => ?_) (fun q => ?_)
    · have h := h.1 q
      refine g_iload_n (pc := 48) dX9_bestFor_48 rfl 3 rfl ?_
      exact g_iret (pc := 49) dX9_bestFor_49 rfl h
    · have h := h.2 q
      refine g_iload_n (pc := 29) dX9_bestFor_29 rfl 3 rfl ?_
      refine g_iload (pc := 30) dX9_bestFor_30 4 rfl ?_
      refine g_iload_n (pc := 32) dX9_bestFor_32 rfl 0 rfl ?_
      refine g_iload_n (pc := 33) dX9_bestFor_33 rfl 1 rfl ?_
      refine g_iload_n (pc := 34) dX9_bestFor_34 rfl 2 rfl ?_
      refine g_callS (pc := 35) (M' := (mX9_bestBy n)) (n := 4) (as := [.int l4, .int l0, .int l1, .int l2]) (st := [.int l3]) dX9_bestFor_35 rfl kX9_60 sX9_bestBy (by show 5 + 2 * n + 1 ≤ 6 + 2 * n; omega) rfl rfl (Nat.le_of_ble_eq_true rfl) ?_
      refine cl_mono (fun r w1 hr => ?_) h
      obtain ⟨x2, rfl, hw1, h⟩ := hr
      show Go SC (mX9_bestFor n) 38 [(0, .int l0), (1, .int l1), (2, .int l2), (3, .int l3), (4, .int l4)] [.int x2, .int l3] w1 Q
      refine g_callS (pc := 38) (M' := mJ9_max_7cf53) (n := 2) (as := [.int l3, .int x2]) (st := []) dX9_bestFor_38 rfl kX9_64 sJ9_max_7cf53 (by show 1 + 1 ≤ 6 + 2 * n; omega) rfl rfl (Nat.le_of_ble_eq_true rfl) ?_
      refine zJ9_max_7cf53 (a1 := l3) (a2 := x2) (w := w1) (b := b) (hR := hw1) ?_
      show Go SC (mX9_bestFor n) 41 [(0, .int l0), (1, .int l1), (2, .int l2), (3, .int l3), (4, .int l4)] [.int (vXJ9_max_7cf53 l3 x2)] w1 Q
      refine g_istore_n (pc := 41) (lv2 := [(0, .int l0), (1, .int l1), (2, .int l2), (3, .int (vXJ9_max_7cf53 l3 x2)), (4, .int l4)]) dX9_bestFor_41 rfl (Nat.le_of_ble_eq_true rfl) rfl ?_
      refine g_iinc (pc := 42) (v := l4 + 1) (lv2 := [(0, .int l0), (1, .int l1), (2, .int l2), (3, .int (vXJ9_max_7cf53 l3 x2)), (4, .int (l4 + 1))]) dX9_bestFor_42 4 rfl (Nat.le_of_ble_eq_true rfl) rfl rfl ?_
      refine g_goto (pc := 45) (tgt := 18) dX9_bestFor_45 (by decide) ?_
      exact h
set_option maxHeartbeats 4000000 in
set_option maxRecDepth 100000 in
theorem TX10_feed (a1 : Int32) (a2 : Int32) (a3 : Int32) (a4 : Int32) (a5 : Int32) (w : Wd) (b : Bool) (hR : w.2.2 = RTab b) (Q : Option Value → Wd → Prop) (h : (((vXX8_hasRoom w) = 0 → Q (some (.int (-1))) w) ∧ (¬ ((vXX8_hasRoom w) = 0) → ClV SC mX8_take [.ref 1, .int a1] w (fun w1 => w1.2.2 = RTab b ∧ ClV SC mX8_take [.ref 1, .int a2] w1 (fun w2 => w2.2.2 = RTab b ∧ ClV SC mX8_take [.ref 1, .int a3] w2 (fun w3 => w3.2.2 = RTab b ∧ ClV SC mX8_take [.ref 1, .int a4] w3 (fun w4 => w4.2.2 = RTab b ∧ ClV SC mX8_take [.ref 1, .int a5] w4 (fun w5 => w5.2.2 = RTab b ∧ Q (some (.int (wi w5 1 1))) w5)))))))) : Cl SC mX10_feed [.ref 0, .int a1, .int a2, .int a3, .int a4, .int a5] w Q := by
  refine cl_of (by decide) (Nat.le_of_ble_eq_true rfl) ?_
  show Go SC mX10_feed 0 [(0, .ref 0), (1, .int a1), (2, .int a2), (3, .int a3), (4, .int a4), (5, .int a5)] [] w Q
  refine g_aload_n (pc := 0) dX10_feed_0 rfl 0 rfl ?_
  refine g_getR (pc := 1) (a := 0) (b := 1) dX10_feed_1 rfl fX10_10 rfl (rc_0_0 hR) ?_
  refine g_callV (pc := 4) (M' := mX8_hasRoom) (n := 0) (a := 1) (as := []) (st := []) dX10_feed_4 rfl kX10_71 vX8_hasRoom (Nat.le_of_ble_eq_true rfl) rfl qX8 rfl rfl (Nat.le_of_ble_eq_true rfl) ?_
  refine zX8_hasRoom (w := w) (b := b) (hR := hR) ?_
  show Go SC mX10_feed 7 [(0, .ref 0), (1, .int a1), (2, .int a2), (3, .int a3), (4, .int a4), (5, .int a5)] [.int (vXX8_hasRoom w)] w Q
  refine g_if_ne (pc := 7) (tgt := 12) dX10_feed_7 (by decide) (fun q => ?_) (fun q => ?_)
  · have h := h.2 q
    refine g_aload_n (pc := 12) dX10_feed_12 rfl 0 rfl ?_
    refine g_getR (pc := 13) (a := 0) (b := 1) dX10_feed_13 rfl fX10_10 rfl (rc_0_0 hR) ?_
    refine g_iload_n (pc := 16) dX10_feed_16 rfl 1 rfl ?_
    refine g_callV (pc := 17) (M' := mX8_take) (n := 1) (a := 1) (as := [.int a1]) (st := []) dX10_feed_17 rfl kX10_75 vX8_take (Nat.le_of_ble_eq_true rfl) rfl qX8 rfl rfl (Nat.le_of_ble_eq_true rfl) ?_
    refine cl_mono (fun r w1 hr => ?_) h
    obtain ⟨rfl, hw1, h⟩ := hr
    show Go SC mX10_feed 20 [(0, .ref 0), (1, .int a1), (2, .int a2), (3, .int a3), (4, .int a4), (5, .int a5)] [] w1 Q
    refine g_aload_n (pc := 20) dX10_feed_20 rfl 0 rfl ?_
    refine g_getR (pc := 21) (a := 0) (b := 1) dX10_feed_21 rfl fX10_10 rfl (rc_0_0 hw1) ?_
    refine g_iload_n (pc := 24) dX10_feed_24 rfl 2 rfl ?_
    refine g_callV (pc := 25) (M' := mX8_take) (n := 1) (a := 1) (as := [.int a2]) (st := []) dX10_feed_25 rfl kX10_75 vX8_take (Nat.le_of_ble_eq_true rfl) rfl qX8 rfl rfl (Nat.le_of_ble_eq_true rfl) ?_
    refine cl_mono (fun r w2 hr => ?_) h
    obtain ⟨rfl, hw2, h⟩ := hr
    show Go SC mX10_feed 28 [(0, .ref 0), (1, .int a1), (2, .int a2), (3, .int a3), (4, .int a4), (5, .int a5)] [] w2 Q
    refine g_aload_n (pc := 28) dX10_feed_28 rfl 0 rfl ?_
    refine g_getR (pc := 29) (a := 0) (b := 1) dX10_feed_29 rfl fX10_10 rfl (rc_0_0 hw2) ?_
    refine g_iload_n (pc := 32) dX10_feed_32 rfl 3 rfl ?_
    refine g_callV (pc := 33) (M' := mX8_take) (n := 1) (a := 1) (as := [.int a3]) (st := []) dX10_feed_33 rfl kX10_75 vX8_take (Nat.le_of_ble_eq_true rfl) rfl qX8 rfl rfl (Nat.le_of_ble_eq_true rfl) ?_
    refine cl_mono (fun r w3 hr => ?_) h
    obtain ⟨rfl, hw3, h⟩ := hr
    show Go SC mX10_feed 36 [(0, .ref 0), (1, .int a1), (2, .int a2), (3, .int a3), (4, .int a4), (5, .int a5)] [] w3 Q
    refine g_aload_n (pc := 36) dX10_feed_36 rfl 0 rfl ?_
    refine g_getR (pc := 37) (a := 0) (b := 1) dX10_feed_37 rfl fX10_10 rfl (rc_0_0 hw3) ?_
    refine g_iload (pc := 40) dX10_feed_40 4 rfl ?_
    refine g_callV (pc := 42) (M' := mX8_take) (n := 1) (a := 1) (as := [.int a4]) (st := []) dX10_feed_42 rfl kX10_75 vX8_take (Nat.le_of_ble_eq_true rfl) rfl qX8 rfl rfl (Nat.le_of_ble_eq_true rfl) ?_
    refine cl_mono (fun r w4 hr => ?_) h
    obtain ⟨rfl, hw4, h⟩ := hr
    show Go SC mX10_feed 45 [(0, .ref 0), (1, .int a1), (2, .int a2), (3, .int a3), (4, .int a4), (5, .int a5)] [] w4 Q
    refine g_aload_n (pc := 45) dX10_feed_45 rfl 0 rfl ?_
    refine g_getR (pc := 46) (a := 0) (b := 1) dX10_feed_46 rfl fX10_10 rfl (rc_0_0 hw4) ?_
    refine g_iload (pc := 49) dX10_feed_49 5 rfl ?_
    refine g_callV (pc := 51) (M' := mX8_take) (n := 1) (a := 1) (as := [.int a5]) (st := []) dX10_feed_51 rfl kX10_75 vX8_take (Nat.le_of_ble_eq_true rfl) rfl qX8 rfl rfl (Nat.le_of_ble_eq_true rfl) ?_
    refine cl_mono (fun r w5 hr => ?_) h
    obtain ⟨rfl, hw5, h⟩ := hr
    show Go SC mX10_feed 54 [(0, .ref 0), (1, .int a1), (2, .int a2), (3, .int a3), (4, .int a4), (5, .int a5)] [] w5 Q
    refine g_aload_n (pc := 54) dX10_feed_54 rfl 0 rfl ?_
    refine g_getR (pc := 55) (a := 0) (b := 1) dX10_feed_55 rfl fX10_10 rfl (rc_0_0 hw5) ?_
    refine g_getI (pc := 58) (a := 1) dX10_feed_58 rfl fX10_79 rfl ?_
    exact g_iret (pc := 61) dX10_feed_61 rfl h
  · have h := h.1 q
    refine g_iconst (pc := 10) dX10_feed_10 cN_1 ?_
    exact g_iret (pc := 11) dX10_feed_11 rfl h
set_option maxHeartbeats 4000000 in
set_option maxRecDepth 100000 in
theorem TX10_hall (a1 : Int32) (w : Wd) (b : Bool) (hR : w.2.2 = RTab b) (Q : Option Value → Wd → Prop) (h : ((a1 < 0 → Q (some (.int (vXX10_refuse 2 (-1)))) (wXX10_refuse 2 (-1) w)) ∧ (¬ (a1 < 0) → ((a1 ≤ (wi w 1 1) → ClI SC mX8_read [.ref 1, .ref (hA (!b)), .int a1] w (fun x2 w1 => w1.2.2 = RTab b ∧ ((x2 = 0 → Q (some (.int (vXX10_refuse 4 (-1)))) (wXX10_refuse 4 (-1) w1)) ∧ (¬ (x2 = 0) → (sr (sr w1 0 1 (some (hA (!b)))) 0 2 (some (hA b))).2.2 = RTab (!b) ∧ ClV SC mX2_begin [.ref (hA (!b))] (sr (sr w1 0 1 (some (hA (!b)))) 0 2 (some (hA b))) (fun w4 => w4.2.2 = RTab (!b) ∧ Q (some (.int (vXX10_accept (wi (wXX4_forgetAll w4) (hA (!b)) 2)))) (wXX10_accept (wi (wXX4_forgetAll w4) (hA (!b)) 2) (wXX4_forgetAll w4))))))) ∧ (¬ (a1 ≤ (wi w 1 1)) → Q (some (.int (vXX10_refuse 2 (-1)))) (wXX10_refuse 2 (-1) w)))))) : Cl SC mX10_hall [.ref 0, .int a1] w Q := by
  refine cl_of (by decide) (Nat.le_of_ble_eq_true rfl) ?_
  show Go SC mX10_hall 0 [(0, .ref 0), (1, .int a1)] [] w Q
  refine g_iload_n (pc := 0) dX10_hall_0 rfl 1 rfl ?_
  refine g_if_lt (pc := 1) (tgt := 15) dX10_hall_1 (by decide) (fun q => ?_) (fun q => ?_)
  · have h := h.1 q
    refine g_aload_n (pc := 15) dX10_hall_15 rfl 0 rfl ?_
    refine g_iconst (pc := 16) dX10_hall_16 c_2 ?_
    refine g_iconst (pc := 17) dX10_hall_17 cN_1 ?_
    refine g_callV (pc := 18) (M' := mX10_refuse) (n := 2) (a := 0) (as := [.int 2, .int (-1)]) (st := []) dX10_hall_18 rfl kX10_83 vX10_refuse (Nat.le_of_ble_eq_true rfl) rfl qX10 rfl rfl (Nat.le_of_ble_eq_true rfl) ?_
    refine zX10_refuse (a1 := 2) (a2 := (-1)) (w := w) (b := b) (hR := hR) ?_
    show Go SC mX10_hall 21 [(0, .ref 0), (1, .int a1)] [.int (vXX10_refuse 2 (-1))] (wXX10_refuse 2 (-1) w) Q
    exact g_iret (pc := 21) dX10_hall_21 rfl h
  · have h := h.2 q
    refine g_iload_n (pc := 4) dX10_hall_4 rfl 1 rfl ?_
    refine g_aload_n (pc := 5) dX10_hall_5 rfl 0 rfl ?_
    refine g_getR (pc := 6) (a := 0) (b := 1) dX10_hall_6 rfl fX10_10 rfl (rc_0_0 hR) ?_
    refine g_getI (pc := 9) (a := 1) dX10_hall_9 rfl fX10_79 rfl ?_
    refine g_icmp_le (pc := 12) (tgt := 22) dX10_hall_12 (by decide) (fun q => ?_) (fun q => ?_)
    · have h := h.1 q
      refine g_aload_n (pc := 22) dX10_hall_22 rfl 0 rfl ?_
      refine g_getR (pc := 23) (a := 0) (b := 1) dX10_hall_23 rfl fX10_10 rfl (rc_0_0 hR) ?_
      refine g_aload_n (pc := 26) dX10_hall_26 rfl 0 rfl ?_
      refine g_getR (pc := 27) (a := 0) (b := (hA (!b))) dX10_hall_27 rfl fX10_23 rfl (rc_0_2 hR) ?_
      refine g_iload_n (pc := 30) dX10_hall_30 rfl 1 rfl ?_
      refine g_callV (pc := 31) (M' := mX8_read) (n := 2) (a := 1) (as := [.ref (hA (!b)), .int a1]) (st := []) dX10_hall_31 rfl kX10_87 vX8_read (Nat.le_of_ble_eq_true rfl) rfl qX8 rfl rfl (Nat.le_of_ble_eq_true rfl) ?_
      refine cl_mono (fun r w1 hr => ?_) h
      obtain ⟨x2, rfl, hw1, h⟩ := hr
      show Go SC mX10_hall 34 [(0, .ref 0), (1, .int a1)] [.int x2] w1 Q
      refine g_if_ne (pc := 34) (tgt := 44) dX10_hall_34 (by decide) (fun q => ?_) (fun q => ?_)
      · have h := h.2 q
        refine g_aload_n (pc := 44) dX10_hall_44 rfl 0 rfl ?_
        refine g_getR (pc := 45) (a := 0) (b := (hA b)) dX10_hall_45 rfl fX10_19 rfl (rc_0_1 hw1) ?_
        refine g_astore_n (pc := 48) (lv2 := [(0, .ref 0), (1, .int a1), (2, .ref (hA b))]) dX10_hall_48 rfl (Nat.le_of_ble_eq_true rfl) rfl ?_
        refine g_aload_n (pc := 49) dX10_hall_49 rfl 0 rfl ?_
        refine g_aload_n (pc := 50) dX10_hall_50 rfl 0 rfl ?_
        refine g_getR (pc := 51) (a := 0) (b := (hA (!b))) dX10_hall_51 rfl fX10_23 rfl (rc_0_2 hw1) ?_
        refine g_putR (pc := 54) dX10_hall_54 rfl fX10_19 pX10_1 rfl ?_
        refine g_aload_n (pc := 57) dX10_hall_57 rfl 0 rfl ?_
        refine g_aload_n (pc := 58) dX10_hall_58 rfl 2 rfl ?_
        refine g_putR (pc := 59) dX10_hall_59 rfl fX10_23 pX10_2 rfl ?_
        refine g_aload_n (pc := 62) dX10_hall_62 rfl 0 rfl ?_
        obtain ⟨hR3, h⟩ := h
        refine g_getR (pc := 63) (a := 0) (b := (hA (!b))) dX10_hall_63 rfl fX10_19 rfl (rc_0_1 hR3) ?_
        refine g_callV (pc := 66) (M' := mX2_begin) (n := 0) (a := (hA (!b))) (as := []) (st := []) dX10_hall_66 rfl kX10_91 vX2_begin (Nat.le_of_ble_eq_true rfl) (sh_h (!b)) qX2 rfl rfl (Nat.le_of_ble_eq_true rfl) ?_
        refine cl_mono (fun r w4 hr => ?_) h
        obtain ⟨rfl, hw4, h⟩ := hr
        show Go SC mX10_hall 69 [(0, .ref 0), (1, .int a1), (2, .ref (hA b))] [] w4 Q
        refine g_aload_n (pc := 69) dX10_hall_69 rfl 0 rfl ?_
        refine g_getR (pc := 70) (a := 0) (b := 49) dX10_hall_70 rfl fX10_29 rfl (rc_0_3 hw4) ?_
        refine g_callV (pc := 73) (M' := mX4_forgetAll) (n := 0) (a := 49) (as := []) (st := []) dX10_hall_73 rfl kX10_94 vX4_forgetAll (Nat.le_of_ble_eq_true rfl) rfl qX4 rfl rfl (Nat.le_of_ble_eq_true rfl) ?_
        refine zX4_forgetAll (w := w4) (b := (!b)) (hR := hw4) ?_
        show Go SC mX10_hall 76 [(0, .ref 0), (1, .int a1), (2, .ref (hA b))] [] (wXX4_forgetAll w4) Q
        refine g_aload_n (pc := 76) dX10_hall_76 rfl 0 rfl ?_
        refine g_aload_n (pc := 77) dX10_hall_77 rfl 0 rfl ?_
        refine g_getR (pc := 78) (a := 0) (b := (hA (!b))) dX10_hall_78 rfl fX10_19 rfl (rc_0_1 hw4) ?_
        refine g_getI (pc := 81) (a := (hA (!b))) dX10_hall_81 rfl fX10_97 (sh_h (!b)) ?_
        refine g_callV (pc := 84) (M' := mX10_accept) (n := 1) (a := 0) (as := [.int (wi (wXX4_forgetAll w4) (hA (!b)) 2)]) (st := []) dX10_hall_84 rfl kX10_100 vX10_accept (Nat.le_of_ble_eq_true rfl) rfl qX10 rfl rfl (Nat.le_of_ble_eq_true rfl) ?_
        refine zX10_accept (a1 := (wi (wXX4_forgetAll w4) (hA (!b)) 2)) (w := wXX4_forgetAll w4) (b := (!b)) (hR := hw4) ?_
        show Go SC mX10_hall 87 [(0, .ref 0), (1, .int a1), (2, .ref (hA b))] [.int (vXX10_accept (wi (wXX4_forgetAll w4) (hA (!b)) 2))] (wXX10_accept (wi (wXX4_forgetAll w4) (hA (!b)) 2) (wXX4_forgetAll w4)) Q
        exact g_iret (pc := 87) dX10_hall_87 rfl h
      · have h := h.1 q
        refine g_aload_n (pc := 37) dX10_hall_37 rfl 0 rfl ?_
        refine g_iconst (pc := 38) dX10_hall_38 c_4 ?_
        refine g_iconst (pc := 39) dX10_hall_39 cN_1 ?_
        refine g_callV (pc := 40) (M' := mX10_refuse) (n := 2) (a := 0) (as := [.int 4, .int (-1)]) (st := []) dX10_hall_40 rfl kX10_83 vX10_refuse (Nat.le_of_ble_eq_true rfl) rfl qX10 rfl rfl (Nat.le_of_ble_eq_true rfl) ?_
        refine zX10_refuse (a1 := 4) (a2 := (-1)) (w := w1) (b := b) (hR := hw1) ?_
        show Go SC mX10_hall 43 [(0, .ref 0), (1, .int a1)] [.int (vXX10_refuse 4 (-1))] (wXX10_refuse 4 (-1) w1) Q
        exact g_iret (pc := 43) dX10_hall_43 rfl h
    · have h := h.2 q
      refine g_aload_n (pc := 15) dX10_hall_15 rfl 0 rfl ?_
      refine g_iconst (pc := 16) dX10_hall_16 c_2 ?_
      refine g_iconst (pc := 17) dX10_hall_17 cN_1 ?_
      refine g_callV (pc := 18) (M' := mX10_refuse) (n := 2) (a := 0) (as := [.int 2, .int (-1)]) (st := []) dX10_hall_18 rfl kX10_83 vX10_refuse (Nat.le_of_ble_eq_true rfl) rfl qX10 rfl rfl (Nat.le_of_ble_eq_true rfl) ?_
      refine zX10_refuse (a1 := 2) (a2 := (-1)) (w := w) (b := b) (hR := hR) ?_
      show Go SC mX10_hall 21 [(0, .ref 0), (1, .int a1)] [.int (vXX10_refuse 2 (-1))] (wXX10_refuse 2 (-1) w) Q
      exact g_iret (pc := 21) dX10_hall_21 rfl h
set_option maxHeartbeats 4000000 in
set_option maxRecDepth 100000 in
theorem TX10_upper (a1 : Int32) (w : Wd) (b : Bool) (hR : w.2.2 = RTab b) (Q : Option Value → Wd → Prop) (h : ((0 ≤ a1 ∧ a1 < wi w (hA b) 2 ∧ a1 < 5 → Q (some (.int (vXX10_accept (wi w (dA (hA b) a1.toNatClampNeg + 2) 0)))) (wXX10_accept (wi w (dA (hA b) a1.toNatClampNeg + 2) 0) w)) ∧ (¬ (0 ≤ a1 ∧ a1 < wi w (hA b) 2 ∧ a1 < 5) → Q (some (.int (vXX10_refuse 1 (-100000)))) (wXX10_refuse 1 (-100000) w)))) : Cl SC mX10_upper [.ref 0, .int a1] w Q := by
  refine cl_of (by decide) (Nat.le_of_ble_eq_true rfl) ?_
  show Go SC mX10_upper 0 [(0, .ref 0), (1, .int a1)] [] w Q
  refine g_aload_n (pc := 0) dX10_upper_0 rfl 0 rfl ?_
  refine g_getR (pc := 1) (a := 0) (b := (hA b)) dX10_upper_1 rfl fX10_19 rfl (rc_0_1 hR) ?_
  refine g_iload_n (pc := 4) dX10_upper_4 rfl 1 rfl ?_
  refine g_callV (pc := 5) (M' := mX2_danceAt) (n := 1) (a := (hA b)) (as := [.int a1]) (st := []) dX10_upper_5 rfl kX10_113 vX2_danceAt (Nat.le_of_ble_eq_true rfl) (sh_h b) qX2 rfl rfl (Nat.le_of_ble_eq_true rfl) ?_
  refine h_danceAt (c := b) (d := a1) (w := w) (hR := hR) (fun qd1 => ?_) (fun qd1 => ?_)
  · have h := h.1 qd1
    show Go SC mX10_upper 8 [(0, .ref 0), (1, .int a1)] [.ref (dA (hA b) a1.toNatClampNeg)] w Q
    refine g_astore_n (pc := 8) (lv2 := [(0, .ref 0), (1, .int a1), (2, .ref (dA (hA b) a1.toNatClampNeg))]) dX10_upper_8 rfl (Nat.le_of_ble_eq_true rfl) rfl ?_
    refine g_aload_n (pc := 9) dX10_upper_9 rfl 2 rfl ?_
    refine g_ifnonnullR (pc := 10) (tgt := 21) dX10_upper_10 (by decide) ?_
    refine g_aload_n (pc := 21) dX10_upper_21 rfl 0 rfl ?_
    refine g_aload_n (pc := 22) dX10_upper_22 rfl 2 rfl ?_
    refine g_getR (pc := 23) (a := (dA (hA b) a1.toNatClampNeg)) (b := (dA (hA b) a1.toNatClampNeg + 2)) dX10_upper_23 rfl fX10_118 (sh_d b (lt5 qd1.1 qd1.2.2)) (rd_4 hR b (lt5 qd1.1 qd1.2.2)) ?_
    refine g_getI (pc := 26) (a := (dA (hA b) a1.toNatClampNeg + 2)) dX10_upper_26 rfl fX10_123 (sh_dn b (lt5 qd1.1 qd1.2.2)) ?_
    refine g_callV (pc := 29) (M' := mX10_accept) (n := 1) (a := 0) (as := [.int (wi w (dA (hA b) a1.toNatClampNeg + 2) 0)]) (st := []) dX10_upper_29 rfl kX10_100 vX10_accept (Nat.le_of_ble_eq_true rfl) rfl qX10 rfl rfl (Nat.le_of_ble_eq_true rfl) ?_
    refine zX10_accept (a1 := (wi w (dA (hA b) a1.toNatClampNeg + 2) 0)) (w := w) (b := b) (hR := hR) ?_
    show Go SC mX10_upper 32 [(0, .ref 0), (1, .int a1), (2, .ref (dA (hA b) a1.toNatClampNeg))] [.int (vXX10_accept (wi w (dA (hA b) a1.toNatClampNeg + 2) 0))] (wXX10_accept (wi w (dA (hA b) a1.toNatClampNeg + 2) 0) w) Q
    exact g_iret (pc := 32) dX10_upper_32 rfl h
  · have h := h.2 qd1
    show Go SC mX10_upper 8 [(0, .ref 0), (1, .int a1)] [.null] w Q
    refine g_astore_nN (pc := 8) (lv2 := [(0, .ref 0), (1, .int a1), (2, .null)]) dX10_upper_8 rfl (Nat.le_of_ble_eq_true rfl) rfl ?_
    refine g_aload_nN (pc := 9) dX10_upper_9 rfl 2 rfl ?_
    refine g_ifnonnullN (pc := 10) dX10_upper_10 ?_
    refine g_aload_n (pc := 13) dX10_upper_13 rfl 0 rfl ?_
    refine g_iconst (pc := 14) dX10_upper_14 c_1 ?_
    refine g_ldc (pc := 15) dX10_upper_15 rfl nX10_117 ?_
    refine g_callV (pc := 17) (M' := mX10_refuse) (n := 2) (a := 0) (as := [.int 1, .int (-100000)]) (st := []) dX10_upper_17 rfl kX10_83 vX10_refuse (Nat.le_of_ble_eq_true rfl) rfl qX10 rfl rfl (Nat.le_of_ble_eq_true rfl) ?_
    refine zX10_refuse (a1 := 1) (a2 := (-100000)) (w := w) (b := b) (hR := hR) ?_
    show Go SC mX10_upper 20 [(0, .ref 0), (1, .int a1), (2, .null)] [.int (vXX10_refuse 1 (-100000))] (wXX10_refuse 1 (-100000) w) Q
    exact g_iret (pc := 20) dX10_upper_20 rfl h
set_option maxHeartbeats 4000000 in
set_option maxRecDepth 100000 in
theorem TX10_lower (a1 : Int32) (w : Wd) (b : Bool) (hR : w.2.2 = RTab b) (Q : Option Value → Wd → Prop) (h : ((0 ≤ a1 ∧ a1 < wi w (hA b) 2 ∧ a1 < 5 → Q (some (.int (vXX10_accept (wi w (dA (hA b) a1.toNatClampNeg + 2) 1)))) (wXX10_accept (wi w (dA (hA b) a1.toNatClampNeg + 2) 1) w)) ∧ (¬ (0 ≤ a1 ∧ a1 < wi w (hA b) 2 ∧ a1 < 5) → Q (some (.int (vXX10_refuse 1 (-1)))) (wXX10_refuse 1 (-1) w)))) : Cl SC mX10_lower [.ref 0, .int a1] w Q := by
  refine cl_of (by decide) (Nat.le_of_ble_eq_true rfl) ?_
  show Go SC mX10_lower 0 [(0, .ref 0), (1, .int a1)] [] w Q
  refine g_aload_n (pc := 0) dX10_lower_0 rfl 0 rfl ?_
  refine g_getR (pc := 1) (a := 0) (b := (hA b)) dX10_lower_1 rfl fX10_19 rfl (rc_0_1 hR) ?_
  refine g_iload_n (pc := 4) dX10_lower_4 rfl 1 rfl ?_
  refine g_callV (pc := 5) (M' := mX2_danceAt) (n := 1) (a := (hA b)) (as := [.int a1]) (st := []) dX10_lower_5 rfl kX10_113 vX2_danceAt (Nat.le_of_ble_eq_true rfl) (sh_h b) qX2 rfl rfl (Nat.le_of_ble_eq_true rfl) ?_
  refine h_danceAt (c := b) (d := a1) (w := w) (hR := hR) (fun qd1 => ?_) (fun qd1 => ?_)
  · have h := h.1 qd1
    show Go SC mX10_lower 8 [(0, .ref 0), (1, .int a1)] [.ref (dA (hA b) a1.toNatClampNeg)] w Q
    refine g_astore_n (pc := 8) (lv2 := [(0, .ref 0), (1, .int a1), (2, .ref (dA (hA b) a1.toNatClampNeg))]) dX10_lower_8 rfl (Nat.le_of_ble_eq_true rfl) rfl ?_
    refine g_aload_n (pc := 9) dX10_lower_9 rfl 2 rfl ?_
    refine g_ifnonnullR (pc := 10) (tgt := 20) dX10_lower_10 (by decide) ?_
    refine g_aload_n (pc := 20) dX10_lower_20 rfl 0 rfl ?_
    refine g_aload_n (pc := 21) dX10_lower_21 rfl 2 rfl ?_
    refine g_getR (pc := 22) (a := (dA (hA b) a1.toNatClampNeg)) (b := (dA (hA b) a1.toNatClampNeg + 2)) dX10_lower_22 rfl fX10_118 (sh_d b (lt5 qd1.1 qd1.2.2)) (rd_4 hR b (lt5 qd1.1 qd1.2.2)) ?_
    refine g_getI (pc := 25) (a := (dA (hA b) a1.toNatClampNeg + 2)) dX10_lower_25 rfl fX10_126 (sh_dn b (lt5 qd1.1 qd1.2.2)) ?_
    refine g_callV (pc := 28) (M' := mX10_accept) (n := 1) (a := 0) (as := [.int (wi w (dA (hA b) a1.toNatClampNeg + 2) 1)]) (st := []) dX10_lower_28 rfl kX10_100 vX10_accept (Nat.le_of_ble_eq_true rfl) rfl qX10 rfl rfl (Nat.le_of_ble_eq_true rfl) ?_
    refine zX10_accept (a1 := (wi w (dA (hA b) a1.toNatClampNeg + 2) 1)) (w := w) (b := b) (hR := hR) ?_
    show Go SC mX10_lower 31 [(0, .ref 0), (1, .int a1), (2, .ref (dA (hA b) a1.toNatClampNeg))] [.int (vXX10_accept (wi w (dA (hA b) a1.toNatClampNeg + 2) 1))] (wXX10_accept (wi w (dA (hA b) a1.toNatClampNeg + 2) 1) w) Q
    exact g_iret (pc := 31) dX10_lower_31 rfl h
  · have h := h.2 qd1
    show Go SC mX10_lower 8 [(0, .ref 0), (1, .int a1)] [.null] w Q
    refine g_astore_nN (pc := 8) (lv2 := [(0, .ref 0), (1, .int a1), (2, .null)]) dX10_lower_8 rfl (Nat.le_of_ble_eq_true rfl) rfl ?_
    refine g_aload_nN (pc := 9) dX10_lower_9 rfl 2 rfl ?_
    refine g_ifnonnullN (pc := 10) dX10_lower_10 ?_
    refine g_aload_n (pc := 13) dX10_lower_13 rfl 0 rfl ?_
    refine g_iconst (pc := 14) dX10_lower_14 c_1 ?_
    refine g_iconst (pc := 15) dX10_lower_15 cN_1 ?_
    refine g_callV (pc := 16) (M' := mX10_refuse) (n := 2) (a := 0) (as := [.int 1, .int (-1)]) (st := []) dX10_lower_16 rfl kX10_83 vX10_refuse (Nat.le_of_ble_eq_true rfl) rfl qX10 rfl rfl (Nat.le_of_ble_eq_true rfl) ?_
    refine zX10_refuse (a1 := 1) (a2 := (-1)) (w := w) (b := b) (hR := hR) ?_
    show Go SC mX10_lower 19 [(0, .ref 0), (1, .int a1), (2, .null)] [.int (vXX10_refuse 1 (-1))] (wXX10_refuse 1 (-1) w) Q
    exact g_iret (pc := 19) dX10_lower_19 rfl h
set_option maxHeartbeats 4000000 in
set_option maxRecDepth 100000 in
theorem TX10_end (a1 : Int32) (a2 : Int32) (w : Wd) (b : Bool) (hR : w.2.2 = RTab b) (Q : Option Value → Wd → Prop) (h : ((0 ≤ a1 ∧ a1 < wi w (hA b) 2 ∧ a1 < 5 → (((vXX10_isCorner a2) = 0 → Q (some (.int (vXX10_refuse 1 (-1)))) (wXX10_refuse 1 (-1) w)) ∧ (¬ ((vXX10_isCorner a2) = 0) → Q (some (.int (vXX10_accept (vXX7_goalOf (dA (hA b) a1.toNatClampNeg + 2) a2 w)))) (wXX10_accept (vXX7_goalOf (dA (hA b) a1.toNatClampNeg + 2) a2 w) w)))) ∧ (¬ (0 ≤ a1 ∧ a1 < wi w (hA b) 2 ∧ a1 < 5) → Q (some (.int (vXX10_refuse 1 (-1)))) (wXX10_refuse 1 (-1) w)))) : Cl SC mX10_end [.ref 0, .int a1, .int a2] w Q := by
  refine cl_of (by decide) (Nat.le_of_ble_eq_true rfl) ?_
  show Go SC mX10_end 0 [(0, .ref 0), (1, .int a1), (2, .int a2)] [] w Q
  refine g_aload_n (pc := 0) dX10_end_0 rfl 0 rfl ?_
  refine g_getR (pc := 1) (a := 0) (b := (hA b)) dX10_end_1 rfl fX10_19 rfl (rc_0_1 hR) ?_
  refine g_iload_n (pc := 4) dX10_end_4 rfl 1 rfl ?_
  refine g_callV (pc := 5) (M' := mX2_danceAt) (n := 1) (a := (hA b)) (as := [.int a1]) (st := []) dX10_end_5 rfl kX10_113 vX2_danceAt (Nat.le_of_ble_eq_true rfl) (sh_h b) qX2 rfl rfl (Nat.le_of_ble_eq_true rfl) ?_
  refine h_danceAt (c := b) (d := a1) (w := w) (hR := hR) (fun qd1 => ?_) (fun qd1 => ?_)
  · have h := h.1 qd1
    show Go SC mX10_end 8 [(0, .ref 0), (1, .int a1), (2, .int a2)] [.ref (dA (hA b) a1.toNatClampNeg)] w Q
    refine g_astore_n (pc := 8) (lv2 := [(0, .ref 0), (1, .int a1), (2, .int a2), (3, .ref (dA (hA b) a1.toNatClampNeg))]) dX10_end_8 rfl (Nat.le_of_ble_eq_true rfl) rfl ?_
    refine g_aload_n (pc := 9) dX10_end_9 rfl 3 rfl ?_
    refine g_ifnullR (pc := 10) dX10_end_10 ?_
    refine g_iload_n (pc := 13) dX10_end_13 rfl 2 rfl ?_
    refine g_callS (pc := 14) (M' := mX10_isCorner) (n := 1) (as := [.int a2]) (st := []) dX10_end_14 rfl kX10_129 sX10_isCorner (Nat.le_of_ble_eq_true rfl) rfl rfl (Nat.le_of_ble_eq_true rfl) ?_
    refine zX10_isCorner (a1 := a2) (w := w) (b := b) (hR := hR) ?_
    show Go SC mX10_end 17 [(0, .ref 0), (1, .int a1), (2, .int a2), (3, .ref (dA (hA b) a1.toNatClampNeg))] [.int (vXX10_isCorner a2)] w Q
    refine g_if_ne (pc := 17) (tgt := 27) dX10_end_17 (by decide) (fun q => ?_) (fun q => ?_)
    · have h := h.2 q
      refine g_aload_n (pc := 27) dX10_end_27 rfl 0 rfl ?_
      refine g_aload_n (pc := 28) dX10_end_28 rfl 3 rfl ?_
      refine g_getR (pc := 29) (a := (dA (hA b) a1.toNatClampNeg)) (b := (dA (hA b) a1.toNatClampNeg + 2)) dX10_end_29 rfl fX10_118 (sh_d b (lt5 qd1.1 qd1.2.2)) (rd_4 hR b (lt5 qd1.1 qd1.2.2)) ?_
      refine g_iload_n (pc := 32) dX10_end_32 rfl 2 rfl ?_
      refine g_callV (pc := 33) (M' := mX7_goalOf) (n := 1) (a := (dA (hA b) a1.toNatClampNeg + 2)) (as := [.int a2]) (st := [.ref 0]) dX10_end_33 rfl kX10_133 vX7_goalOf (Nat.le_of_ble_eq_true rfl) (sh_dn b (lt5 qd1.1 qd1.2.2)) qX7 rfl rfl (Nat.le_of_ble_eq_true rfl) ?_
      refine zX7_goalOf (t := (dA (hA b) a1.toNatClampNeg + 2)) (a1 := a2) (w := w) (b := b) (hR := hR) (ht := (sh_dn b (lt5 qd1.1 qd1.2.2))) ?_
      show Go SC mX10_end 36 [(0, .ref 0), (1, .int a1), (2, .int a2), (3, .ref (dA (hA b) a1.toNatClampNeg))] [.int (vXX7_goalOf (dA (hA b) a1.toNatClampNeg + 2) a2 w), .ref 0] w Q
      refine g_callV (pc := 36) (M' := mX10_accept) (n := 1) (a := 0) (as := [.int (vXX7_goalOf (dA (hA b) a1.toNatClampNeg + 2) a2 w)]) (st := []) dX10_end_36 rfl kX10_100 vX10_accept (Nat.le_of_ble_eq_true rfl) rfl qX10 rfl rfl (Nat.le_of_ble_eq_true rfl) ?_
      refine zX10_accept (a1 := (vXX7_goalOf (dA (hA b) a1.toNatClampNeg + 2) a2 w)) (w := w) (b := b) (hR := hR) ?_
      show Go SC mX10_end 39 [(0, .ref 0), (1, .int a1), (2, .int a2), (3, .ref (dA (hA b) a1.toNatClampNeg))] [.int (vXX10_accept (vXX7_goalOf (dA (hA b) a1.toNatClampNeg + 2) a2 w))] (wXX10_accept (vXX7_goalOf (dA (hA b) a1.toNatClampNeg + 2) a2 w) w) Q
      exact g_iret (pc := 39) dX10_end_39 rfl h
    · have h := h.1 q
      refine g_aload_n (pc := 20) dX10_end_20 rfl 0 rfl ?_
      refine g_iconst (pc := 21) dX10_end_21 c_1 ?_
      refine g_iconst (pc := 22) dX10_end_22 cN_1 ?_
      refine g_callV (pc := 23) (M' := mX10_refuse) (n := 2) (a := 0) (as := [.int 1, .int (-1)]) (st := []) dX10_end_23 rfl kX10_83 vX10_refuse (Nat.le_of_ble_eq_true rfl) rfl qX10 rfl rfl (Nat.le_of_ble_eq_true rfl) ?_
      refine zX10_refuse (a1 := 1) (a2 := (-1)) (w := w) (b := b) (hR := hR) ?_
      show Go SC mX10_end 26 [(0, .ref 0), (1, .int a1), (2, .int a2), (3, .ref (dA (hA b) a1.toNatClampNeg))] [.int (vXX10_refuse 1 (-1))] (wXX10_refuse 1 (-1) w) Q
      exact g_iret (pc := 26) dX10_end_26 rfl h
  · have h := h.2 qd1
    show Go SC mX10_end 8 [(0, .ref 0), (1, .int a1), (2, .int a2)] [.null] w Q
    refine g_astore_nN (pc := 8) (lv2 := [(0, .ref 0), (1, .int a1), (2, .int a2), (3, .null)]) dX10_end_8 rfl (Nat.le_of_ble_eq_true rfl) rfl ?_
    refine g_aload_nN (pc := 9) dX10_end_9 rfl 3 rfl ?_
    refine g_ifnullN (pc := 10) (tgt := 20) dX10_end_10 (by decide) ?_
    refine g_aload_n (pc := 20) dX10_end_20 rfl 0 rfl ?_
    refine g_iconst (pc := 21) dX10_end_21 c_1 ?_
    refine g_iconst (pc := 22) dX10_end_22 cN_1 ?_
    refine g_callV (pc := 23) (M' := mX10_refuse) (n := 2) (a := 0) (as := [.int 1, .int (-1)]) (st := []) dX10_end_23 rfl kX10_83 vX10_refuse (Nat.le_of_ble_eq_true rfl) rfl qX10 rfl rfl (Nat.le_of_ble_eq_true rfl) ?_
    refine zX10_refuse (a1 := 1) (a2 := (-1)) (w := w) (b := b) (hR := hR) ?_
    show Go SC mX10_end 26 [(0, .ref 0), (1, .int a1), (2, .int a2), (3, .null)] [.int (vXX10_refuse 1 (-1))] (wXX10_refuse 1 (-1) w) Q
    exact g_iret (pc := 26) dX10_end_26 rfl h
set_option maxHeartbeats 4000000 in
set_option maxRecDepth 100000 in
theorem TX10_parts (a1 : Int32) (w : Wd) (b : Bool) (hR : w.2.2 = RTab b) (Q : Option Value → Wd → Prop) (h : ((0 ≤ a1 ∧ a1 < wi w (hA b) 2 ∧ a1 < 5 → ClI SC mX7_wholeParts [.ref (dA (hA b) a1.toNatClampNeg + 2)] w (fun x3 w2 => w2.2.2 = RTab b ∧ Q (some (.int (vXX10_accept x3))) (wXX10_accept x3 w2))) ∧ (¬ (0 ≤ a1 ∧ a1 < wi w (hA b) 2 ∧ a1 < 5) → Q (some (.int (vXX10_refuse 1 (-1)))) (wXX10_refuse 1 (-1) w)))) : Cl SC mX10_parts [.ref 0, .int a1] w Q := by
  refine cl_of (by decide) (Nat.le_of_ble_eq_true rfl) ?_
  show Go SC mX10_parts 0 [(0, .ref 0), (1, .int a1)] [] w Q
  refine g_aload_n (pc := 0) dX10_parts_0 rfl 0 rfl ?_
  refine g_getR (pc := 1) (a := 0) (b := (hA b)) dX10_parts_1 rfl fX10_19 rfl (rc_0_1 hR) ?_
  refine g_iload_n (pc := 4) dX10_parts_4 rfl 1 rfl ?_
  refine g_callV (pc := 5) (M' := mX2_danceAt) (n := 1) (a := (hA b)) (as := [.int a1]) (st := []) dX10_parts_5 rfl kX10_113 vX2_danceAt (Nat.le_of_ble_eq_true rfl) (sh_h b) qX2 rfl rfl (Nat.le_of_ble_eq_true rfl) ?_
  refine h_danceAt (c := b) (d := a1) (w := w) (hR := hR) (fun qd1 => ?_) (fun qd1 => ?_)
  · have h := h.1 qd1
    show Go SC mX10_parts 8 [(0, .ref 0), (1, .int a1)] [.ref (dA (hA b) a1.toNatClampNeg)] w Q
    refine g_astore_n (pc := 8) (lv2 := [(0, .ref 0), (1, .int a1), (2, .ref (dA (hA b) a1.toNatClampNeg))]) dX10_parts_8 rfl (Nat.le_of_ble_eq_true rfl) rfl ?_
    refine g_aload_n (pc := 9) dX10_parts_9 rfl 2 rfl ?_
    refine g_ifnonnullR (pc := 10) (tgt := 20) dX10_parts_10 (by decide) ?_
    refine g_aload_n (pc := 20) dX10_parts_20 rfl 0 rfl ?_
    refine g_aload_n (pc := 21) dX10_parts_21 rfl 2 rfl ?_
    refine g_getR (pc := 22) (a := (dA (hA b) a1.toNatClampNeg)) (b := (dA (hA b) a1.toNatClampNeg + 2)) dX10_parts_22 rfl fX10_118 (sh_d b (lt5 qd1.1 qd1.2.2)) (rd_4 hR b (lt5 qd1.1 qd1.2.2)) ?_
    refine g_callV (pc := 25) (M' := mX7_wholeParts) (n := 0) (a := (dA (hA b) a1.toNatClampNeg + 2)) (as := []) (st := [.ref 0]) dX10_parts_25 rfl kX10_136 vX7_wholeParts (Nat.le_of_ble_eq_true rfl) (sh_dn b (lt5 qd1.1 qd1.2.2)) qX7 rfl rfl (Nat.le_of_ble_eq_true rfl) ?_
    refine cl_mono (fun r w2 hr => ?_) h
    obtain ⟨x3, rfl, hw2, h⟩ := hr
    show Go SC mX10_parts 28 [(0, .ref 0), (1, .int a1), (2, .ref (dA (hA b) a1.toNatClampNeg))] [.int x3, .ref 0] w2 Q
    refine g_callV (pc := 28) (M' := mX10_accept) (n := 1) (a := 0) (as := [.int x3]) (st := []) dX10_parts_28 rfl kX10_100 vX10_accept (Nat.le_of_ble_eq_true rfl) rfl qX10 rfl rfl (Nat.le_of_ble_eq_true rfl) ?_
    refine zX10_accept (a1 := x3) (w := w2) (b := b) (hR := hw2) ?_
    show Go SC mX10_parts 31 [(0, .ref 0), (1, .int a1), (2, .ref (dA (hA b) a1.toNatClampNeg))] [.int (vXX10_accept x3)] (wXX10_accept x3 w2) Q
    exact g_iret (pc := 31) dX10_parts_31 rfl h
  · have h := h.2 qd1
    show Go SC mX10_parts 8 [(0, .ref 0), (1, .int a1)] [.null] w Q
    refine g_astore_nN (pc := 8) (lv2 := [(0, .ref 0), (1, .int a1), (2, .null)]) dX10_parts_8 rfl (Nat.le_of_ble_eq_true rfl) rfl ?_
    refine g_aload_nN (pc := 9) dX10_parts_9 rfl 2 rfl ?_
    refine g_ifnonnullN (pc := 10) dX10_parts_10 ?_
    refine g_aload_n (pc := 13) dX10_parts_13 rfl 0 rfl ?_
    refine g_iconst (pc := 14) dX10_parts_14 c_1 ?_
    refine g_iconst (pc := 15) dX10_parts_15 cN_1 ?_
    refine g_callV (pc := 16) (M' := mX10_refuse) (n := 2) (a := 0) (as := [.int 1, .int (-1)]) (st := []) dX10_parts_16 rfl kX10_83 vX10_refuse (Nat.le_of_ble_eq_true rfl) rfl qX10 rfl rfl (Nat.le_of_ble_eq_true rfl) ?_
    refine zX10_refuse (a1 := 1) (a2 := (-1)) (w := w) (b := b) (hR := hR) ?_
    show Go SC mX10_parts 19 [(0, .ref 0), (1, .int a1), (2, .null)] [.int (vXX10_refuse 1 (-1))] (wXX10_refuse 1 (-1) w) Q
    exact g_iret (pc := 19) dX10_parts_19 rfl h
set_option maxHeartbeats 4000000 in
set_option maxRecDepth 100000 in
theorem TX10_part (a1 : Int32) (a2 : Int32) (w : Wd) (b : Bool) (hR : w.2.2 = RTab b) (Q : Option Value → Wd → Prop) (h : ((0 ≤ a1 ∧ a1 < wi w (hA b) 2 ∧ a1 < 5 → ((a2 < 0 → Q (some (.int (vXX10_refuse 1 (-1)))) (wXX10_refuse 1 (-1) w)) ∧ (¬ (a2 < 0) → ClI SC mX7_wholeParts [.ref (dA (hA b) a1.toNatClampNeg + 2)] w (fun x3 w2 => w2.2.2 = RTab b ∧ ((a2 < x3 → ClI SC mX7_wholePart [.ref (dA (hA b) a1.toNatClampNeg + 2), .int a2] w2 (fun x5 w4 => w4.2.2 = RTab b ∧ Q (some (.int (vXX10_accept x5))) (wXX10_accept x5 w4))) ∧ (¬ (a2 < x3) → Q (some (.int (vXX10_refuse 1 (-1)))) (wXX10_refuse 1 (-1) w2))))))) ∧ (¬ (0 ≤ a1 ∧ a1 < wi w (hA b) 2 ∧ a1 < 5) → Q (some (.int (vXX10_refuse 1 (-1)))) (wXX10_refuse 1 (-1) w)))) : Cl SC mX10_part [.ref 0, .int a1, .int a2] w Q := by
  refine cl_of (by decide) (Nat.le_of_ble_eq_true rfl) ?_
  show Go SC mX10_part 0 [(0, .ref 0), (1, .int a1), (2, .int a2)] [] w Q
  refine g_aload_n (pc := 0) dX10_part_0 rfl 0 rfl ?_
  refine g_getR (pc := 1) (a := 0) (b := (hA b)) dX10_part_1 rfl fX10_19 rfl (rc_0_1 hR) ?_
  refine g_iload_n (pc := 4) dX10_part_4 rfl 1 rfl ?_
  refine g_callV (pc := 5) (M' := mX2_danceAt) (n := 1) (a := (hA b)) (as := [.int a1]) (st := []) dX10_part_5 rfl kX10_113 vX2_danceAt (Nat.le_of_ble_eq_true rfl) (sh_h b) qX2 rfl rfl (Nat.le_of_ble_eq_true rfl) ?_
  refine h_danceAt (c := b) (d := a1) (w := w) (hR := hR) (fun qd1 => ?_) (fun qd1 => ?_)
  · have h := h.1 qd1
    show Go SC mX10_part 8 [(0, .ref 0), (1, .int a1), (2, .int a2)] [.ref (dA (hA b) a1.toNatClampNeg)] w Q
    refine g_astore_n (pc := 8) (lv2 := [(0, .ref 0), (1, .int a1), (2, .int a2), (3, .ref (dA (hA b) a1.toNatClampNeg))]) dX10_part_8 rfl (Nat.le_of_ble_eq_true rfl) rfl ?_
    refine g_aload_n (pc := 9) dX10_part_9 rfl 3 rfl ?_
    refine g_ifnullR (pc := 10) dX10_part_10 ?_
    refine g_iload_n (pc := 13) dX10_part_13 rfl 2 rfl ?_
    refine g_if_lt (pc := 14) (tgt := 28) dX10_part_14 (by decide) (fun q => ?_) (fun q => ?_)
    · have h := h.1 q
      refine g_aload_n (pc := 28) dX10_part_28 rfl 0 rfl ?_
      refine g_iconst (pc := 29) dX10_part_29 c_1 ?_
      refine g_iconst (pc := 30) dX10_part_30 cN_1 ?_
      refine g_callV (pc := 31) (M' := mX10_refuse) (n := 2) (a := 0) (as := [.int 1, .int (-1)]) (st := []) dX10_part_31 rfl kX10_83 vX10_refuse (Nat.le_of_ble_eq_true rfl) rfl qX10 rfl rfl (Nat.le_of_ble_eq_true rfl) ?_
      refine zX10_refuse (a1 := 1) (a2 := (-1)) (w := w) (b := b) (hR := hR) ?_
      show Go SC mX10_part 34 [(0, .ref 0), (1, .int a1), (2, .int a2), (3, .ref (dA (hA b) a1.toNatClampNeg))] [.int (vXX10_refuse 1 (-1))] (wXX10_refuse 1 (-1) w) Q
      exact g_iret (pc := 34) dX10_part_34 rfl h
    · have h := h.2 q
      refine g_iload_n (pc := 17) dX10_part_17 rfl 2 rfl ?_
      refine g_aload_n (pc := 18) dX10_part_18 rfl 3 rfl ?_
      refine g_getR (pc := 19) (a := (dA (hA b) a1.toNatClampNeg)) (b := (dA (hA b) a1.toNatClampNeg + 2)) dX10_part_19 rfl fX10_118 (sh_d b (lt5 qd1.1 qd1.2.2)) (rd_4 hR b (lt5 qd1.1 qd1.2.2)) ?_
      refine g_callV (pc := 22) (M' := mX7_wholeParts) (n := 0) (a := (dA (hA b) a1.toNatClampNeg + 2)) (as := []) (st := [.int a2]) dX10_part_22 rfl kX10_136 vX7_wholeParts (Nat.le_of_ble_eq_true rfl) (sh_dn b (lt5 qd1.1 qd1.2.2)) qX7 rfl rfl (Nat.le_of_ble_eq_true rfl) ?_
      refine cl_mono (fun r w2 hr => ?_) h
      obtain ⟨x3, rfl, hw2, h⟩ := hr
      show Go SC mX10_part 25 [(0, .ref 0), (1, .int a1), (2, .int a2), (3, .ref (dA (hA b) a1.toNatClampNeg))] [.int x3, .int a2] w2 Q
      refine g_icmp_lt (pc := 25) (tgt := 35) dX10_part_25 (by decide) (fun q => ?_) (fun q => ?_)
      · have h := h.1 q
        refine g_aload_n (pc := 35) dX10_part_35 rfl 0 rfl ?_
        refine g_aload_n (pc := 36) dX10_part_36 rfl 3 rfl ?_
        refine g_getR (pc := 37) (a := (dA (hA b) a1.toNatClampNeg)) (b := (dA (hA b) a1.toNatClampNeg + 2)) dX10_part_37 rfl fX10_118 (sh_d b (lt5 qd1.1 qd1.2.2)) (rd_4 hw2 b (lt5 qd1.1 qd1.2.2)) ?_
        refine g_iload_n (pc := 40) dX10_part_40 rfl 2 rfl ?_
        refine g_callV (pc := 41) (M' := mX7_wholePart) (n := 1) (a := (dA (hA b) a1.toNatClampNeg + 2)) (as := [.int a2]) (st := [.ref 0]) dX10_part_41 rfl kX10_140 vX7_wholePart (Nat.le_of_ble_eq_true rfl) (sh_dn b (lt5 qd1.1 qd1.2.2)) qX7 rfl rfl (Nat.le_of_ble_eq_true rfl) ?_
        refine cl_mono (fun r w4 hr => ?_) h
        obtain ⟨x5, rfl, hw4, h⟩ := hr
        show Go SC mX10_part 44 [(0, .ref 0), (1, .int a1), (2, .int a2), (3, .ref (dA (hA b) a1.toNatClampNeg))] [.int x5, .ref 0] w4 Q
        refine g_callV (pc := 44) (M' := mX10_accept) (n := 1) (a := 0) (as := [.int x5]) (st := []) dX10_part_44 rfl kX10_100 vX10_accept (Nat.le_of_ble_eq_true rfl) rfl qX10 rfl rfl (Nat.le_of_ble_eq_true rfl) ?_
        refine zX10_accept (a1 := x5) (w := w4) (b := b) (hR := hw4) ?_
        show Go SC mX10_part 47 [(0, .ref 0), (1, .int a1), (2, .int a2), (3, .ref (dA (hA b) a1.toNatClampNeg))] [.int (vXX10_accept x5)] (wXX10_accept x5 w4) Q
        exact g_iret (pc := 47) dX10_part_47 rfl h
      · have h := h.2 q
        refine g_aload_n (pc := 28) dX10_part_28 rfl 0 rfl ?_
        refine g_iconst (pc := 29) dX10_part_29 c_1 ?_
        refine g_iconst (pc := 30) dX10_part_30 cN_1 ?_
        refine g_callV (pc := 31) (M' := mX10_refuse) (n := 2) (a := 0) (as := [.int 1, .int (-1)]) (st := []) dX10_part_31 rfl kX10_83 vX10_refuse (Nat.le_of_ble_eq_true rfl) rfl qX10 rfl rfl (Nat.le_of_ble_eq_true rfl) ?_
        refine zX10_refuse (a1 := 1) (a2 := (-1)) (w := w2) (b := b) (hR := hw2) ?_
        show Go SC mX10_part 34 [(0, .ref 0), (1, .int a1), (2, .int a2), (3, .ref (dA (hA b) a1.toNatClampNeg))] [.int (vXX10_refuse 1 (-1))] (wXX10_refuse 1 (-1) w2) Q
        exact g_iret (pc := 34) dX10_part_34 rfl h
  · have h := h.2 qd1
    show Go SC mX10_part 8 [(0, .ref 0), (1, .int a1), (2, .int a2)] [.null] w Q
    refine g_astore_nN (pc := 8) (lv2 := [(0, .ref 0), (1, .int a1), (2, .int a2), (3, .null)]) dX10_part_8 rfl (Nat.le_of_ble_eq_true rfl) rfl ?_
    refine g_aload_nN (pc := 9) dX10_part_9 rfl 3 rfl ?_
    refine g_ifnullN (pc := 10) (tgt := 28) dX10_part_10 (by decide) ?_
    refine g_aload_n (pc := 28) dX10_part_28 rfl 0 rfl ?_
    refine g_iconst (pc := 29) dX10_part_29 c_1 ?_
    refine g_iconst (pc := 30) dX10_part_30 cN_1 ?_
    refine g_callV (pc := 31) (M' := mX10_refuse) (n := 2) (a := 0) (as := [.int 1, .int (-1)]) (st := []) dX10_part_31 rfl kX10_83 vX10_refuse (Nat.le_of_ble_eq_true rfl) rfl qX10 rfl rfl (Nat.le_of_ble_eq_true rfl) ?_
    refine zX10_refuse (a1 := 1) (a2 := (-1)) (w := w) (b := b) (hR := hR) ?_
    show Go SC mX10_part 34 [(0, .ref 0), (1, .int a1), (2, .int a2), (3, .null)] [.int (vXX10_refuse 1 (-1))] (wXX10_refuse 1 (-1) w) Q
    exact g_iret (pc := 34) dX10_part_34 rfl h
set_option maxHeartbeats 4000000 in
set_option maxRecDepth 100000 in
theorem TX10_crossings (a1 : Int32) (w : Wd) (b : Bool) (hR : w.2.2 = RTab b) (Q : Option Value → Wd → Prop) (h : ((0 ≤ a1 ∧ a1 < wi w (hA b) 2 ∧ a1 < 5 → ClI SC mX7_crossed [.ref (dA (hA b) a1.toNatClampNeg + 2)] w (fun x3 w2 => w2.2.2 = RTab b ∧ Q (some (.int (vXX10_accept x3))) (wXX10_accept x3 w2))) ∧ (¬ (0 ≤ a1 ∧ a1 < wi w (hA b) 2 ∧ a1 < 5) → Q (some (.int (vXX10_refuse 1 (-1)))) (wXX10_refuse 1 (-1) w)))) : Cl SC mX10_crossings [.ref 0, .int a1] w Q := by
  refine cl_of (by decide) (Nat.le_of_ble_eq_true rfl) ?_
  show Go SC mX10_crossings 0 [(0, .ref 0), (1, .int a1)] [] w Q
  refine g_aload_n (pc := 0) dX10_crossings_0 rfl 0 rfl ?_
  refine g_getR (pc := 1) (a := 0) (b := (hA b)) dX10_crossings_1 rfl fX10_19 rfl (rc_0_1 hR) ?_
  refine g_iload_n (pc := 4) dX10_crossings_4 rfl 1 rfl ?_
  refine g_callV (pc := 5) (M' := mX2_danceAt) (n := 1) (a := (hA b)) (as := [.int a1]) (st := []) dX10_crossings_5 rfl kX10_113 vX2_danceAt (Nat.le_of_ble_eq_true rfl) (sh_h b) qX2 rfl rfl (Nat.le_of_ble_eq_true rfl) ?_
  refine h_danceAt (c := b) (d := a1) (w := w) (hR := hR) (fun qd1 => ?_) (fun qd1 => ?_)
  · have h := h.1 qd1
    show Go SC mX10_crossings 8 [(0, .ref 0), (1, .int a1)] [.ref (dA (hA b) a1.toNatClampNeg)] w Q
    refine g_astore_n (pc := 8) (lv2 := [(0, .ref 0), (1, .int a1), (2, .ref (dA (hA b) a1.toNatClampNeg))]) dX10_crossings_8 rfl (Nat.le_of_ble_eq_true rfl) rfl ?_
    refine g_aload_n (pc := 9) dX10_crossings_9 rfl 2 rfl ?_
    refine g_ifnonnullR (pc := 10) (tgt := 20) dX10_crossings_10 (by decide) ?_
    refine g_aload_n (pc := 20) dX10_crossings_20 rfl 0 rfl ?_
    refine g_aload_n (pc := 21) dX10_crossings_21 rfl 2 rfl ?_
    refine g_getR (pc := 22) (a := (dA (hA b) a1.toNatClampNeg)) (b := (dA (hA b) a1.toNatClampNeg + 2)) dX10_crossings_22 rfl fX10_118 (sh_d b (lt5 qd1.1 qd1.2.2)) (rd_4 hR b (lt5 qd1.1 qd1.2.2)) ?_
    refine g_callV (pc := 25) (M' := mX7_crossed) (n := 0) (a := (dA (hA b) a1.toNatClampNeg + 2)) (as := []) (st := [.ref 0]) dX10_crossings_25 rfl kX10_143 vX7_crossed (Nat.le_of_ble_eq_true rfl) (sh_dn b (lt5 qd1.1 qd1.2.2)) qX7 rfl rfl (Nat.le_of_ble_eq_true rfl) ?_
    refine cl_mono (fun r w2 hr => ?_) h
    obtain ⟨x3, rfl, hw2, h⟩ := hr
    show Go SC mX10_crossings 28 [(0, .ref 0), (1, .int a1), (2, .ref (dA (hA b) a1.toNatClampNeg))] [.int x3, .ref 0] w2 Q
    refine g_callV (pc := 28) (M' := mX10_accept) (n := 1) (a := 0) (as := [.int x3]) (st := []) dX10_crossings_28 rfl kX10_100 vX10_accept (Nat.le_of_ble_eq_true rfl) rfl qX10 rfl rfl (Nat.le_of_ble_eq_true rfl) ?_
    refine zX10_accept (a1 := x3) (w := w2) (b := b) (hR := hw2) ?_
    show Go SC mX10_crossings 31 [(0, .ref 0), (1, .int a1), (2, .ref (dA (hA b) a1.toNatClampNeg))] [.int (vXX10_accept x3)] (wXX10_accept x3 w2) Q
    exact g_iret (pc := 31) dX10_crossings_31 rfl h
  · have h := h.2 qd1
    show Go SC mX10_crossings 8 [(0, .ref 0), (1, .int a1)] [.null] w Q
    refine g_astore_nN (pc := 8) (lv2 := [(0, .ref 0), (1, .int a1), (2, .null)]) dX10_crossings_8 rfl (Nat.le_of_ble_eq_true rfl) rfl ?_
    refine g_aload_nN (pc := 9) dX10_crossings_9 rfl 2 rfl ?_
    refine g_ifnonnullN (pc := 10) dX10_crossings_10 ?_
    refine g_aload_n (pc := 13) dX10_crossings_13 rfl 0 rfl ?_
    refine g_iconst (pc := 14) dX10_crossings_14 c_1 ?_
    refine g_iconst (pc := 15) dX10_crossings_15 cN_1 ?_
    refine g_callV (pc := 16) (M' := mX10_refuse) (n := 2) (a := 0) (as := [.int 1, .int (-1)]) (st := []) dX10_crossings_16 rfl kX10_83 vX10_refuse (Nat.le_of_ble_eq_true rfl) rfl qX10 rfl rfl (Nat.le_of_ble_eq_true rfl) ?_
    refine zX10_refuse (a1 := 1) (a2 := (-1)) (w := w) (b := b) (hR := hR) ?_
    show Go SC mX10_crossings 19 [(0, .ref 0), (1, .int a1), (2, .null)] [.int (vXX10_refuse 1 (-1))] (wXX10_refuse 1 (-1) w) Q
    exact g_iret (pc := 19) dX10_crossings_19 rfl h
