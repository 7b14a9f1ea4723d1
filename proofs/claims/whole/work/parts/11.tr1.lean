set_option maxHeartbeats 4000000 in
set_option maxRecDepth 100000 in
theorem TX11_copy (a1 na1 : Nat) (ha1 : SR[a1]? = some (.inr (0, na1))) (a2 : Int32) (a3 na3 : Nat) (ha3 : SR[a3]? = some (.inr (0, na3))) (a4 : Int32) (a5 : Int32) (w : Wd) (hR : w.2.2 = RM) (Q : Option Value → Wd → Prop) (h : Go SR mX11_copy 3 [(0, .ref a1), (1, .int a2), (2, .ref a3), (3, .int a4), (4, .int a5), (5, .int 0)] [] w Q) : Cl SR mX11_copy [.ref a1, .int a2, .ref a3, .int a4, .int a5] w Q := by
  refine cl_of (by decide) (Nat.le_of_ble_eq_true rfl) ?_
  show Go SR mX11_copy 0 [(0, .ref a1), (1, .int a2), (2, .ref a3), (3, .int a4), (4, .int a5)] [] w Q
  refine g_iconst (pc := 0) dX11_copy_0 c_0 ?_
  refine g_istore (pc := 1) (lv2 := [(0, .ref a1), (1, .int a2), (2, .ref a3), (3, .int a4), (4, .int a5), (5, .int 0)]) dX11_copy_1 (Nat.le_of_ble_eq_true rfl) rfl ?_
  exact h
set_option maxHeartbeats 4000000 in
set_option maxRecDepth 100000 in
theorem BX11_copy_3 (a1 na1 : Nat) (ha1 : SR[a1]? = some (.inr (0, na1))) (a3 na3 : Nat) (ha3 : SR[a3]? = some (.inr (0, na3))) (l1 : Int32) (l3 : Int32) (l4 : Int32) (l5 : Int32) (w : Wd) (hR : w.2.2 = RM) (Q : Option Value → Wd → Prop) (h : ((l4 ≤ l5 → Q none w) ∧ (¬ (l4 ≤ l5) → vp_in (l1 + l5) na1 ∧ vp_in (l3 + l5) na3 ∧ Go SR mX11_copy 3 [(0, .ref a1), (1, .int l1), (2, .ref a3), (3, .int l3), (4, .int l4), (5, .int (l5 + 1))] [] (si w a3 ((l3 + l5).toNatClampNeg) (wi w a1 ((l1 + l5).toNatClampNeg))) Q))) : Go SR mX11_copy 3 [(0, .ref a1), (1, .int l1), (2, .ref a3), (3, .int l3), (4, .int l4), (5, .int l5)] [] w Q := by
  refine g_iload (pc := 3) dX11_copy_3 5 rfl ?_
  refine g_iload (pc := 5) dX11_copy_5 4 rfl ?_
  refine g_icmp_ge (pc := 7) (tgt := 28) dX11_copy_7 (by decide) (fun q => ?_) (fun q => ?_)
  · have h := h.1 q
    exact g_vret (pc := 28) dX11_copy_28 rfl h
  · have h := h.2 q
    refine g_aload_n (pc := 10) dX11_copy_10 rfl 2 rfl ?_
    refine g_iload_n (pc := 11) dX11_copy_11 rfl 3 rfl ?_
    refine g_iload (pc := 12) dX11_copy_12 5 rfl ?_
    refine g_iadd (pc := 14) dX11_copy_14 ?_
    refine g_aload_n (pc := 15) dX11_copy_15 rfl 0 rfl ?_
    refine g_iload_n (pc := 16) dX11_copy_16 rfl 1 rfl ?_
    refine g_iload (pc := 17) dX11_copy_17 5 rfl ?_
    refine g_iadd (pc := 19) dX11_copy_19 ?_
    obtain ⟨hi1, h⟩ := h
    refine g_iald (pc := 20) (a := a1) (j := (l1 + l5).toNatClampNeg) dX11_copy_20 ha1 hi1 rfl ?_
    obtain ⟨hi2, h⟩ := h
    refine g_iast (pc := 21) (a := a3) (j := (l3 + l5).toNatClampNeg) dX11_copy_21 ha3 hi2 rfl ?_
    refine g_iinc (pc := 22) (v := l5 + 1) (lv2 := [(0, .ref a1), (1, .int l1), (2, .ref a3), (3, .int l3), (4, .int l4), (5, .int (l5 + 1))]) dX11_copy_22 5 rfl (Nat.le_of_ble_eq_true rfl) rfl rfl ?_
    refine g_goto (pc := 25) (tgt := 3) dX11_copy_25 (by decide) ?_
    exact h
set_option maxHeartbeats 4000000 in
set_option maxRecDepth 100000 in
theorem TX11_common (a1 : Int32) (a2 : Int32) (w : Wd) (hR : w.2.2 = RM) (Q : Option Value → Wd → Prop) (h : Go SR mX11_common 10 [(0, .int a1), (1, .int a2), (2, .int (vXX11_away a1)), (3, .int (vXX11_away a2))] [] w Q) : Cl SR mX11_common [.int a1, .int a2] w Q := by
  refine cl_of (by decide) (Nat.le_of_ble_eq_true rfl) ?_
  show Go SR mX11_common 0 [(0, .int a1), (1, .int a2)] [] w Q
  refine g_iload_n (pc := 0) dX11_common_0 rfl 0 rfl ?_
  refine g_callS (pc := 1) (M' := mX11_away) (n := 1) (as := [.int a1]) (st := []) dX11_common_1 rfl kX11_60 sX11_away (Nat.le_of_ble_eq_true rfl) rfl rfl (Nat.le_of_ble_eq_true rfl) ?_
  refine zX11_away (a1 := a1) (w := w) (hR := hR) ?_
  show Go SR mX11_common 4 [(0, .int a1), (1, .int a2)] [.int (vXX11_away a1)] w Q
  refine g_istore_n (pc := 4) (lv2 := [(0, .int a1), (1, .int a2), (2, .int (vXX11_away a1))]) dX11_common_4 rfl (Nat.le_of_ble_eq_true rfl) rfl ?_
  refine g_iload_n (pc := 5) dX11_common_5 rfl 1 rfl ?_
  refine g_callS (pc := 6) (M' := mX11_away) (n := 1) (as := [.int a2]) (st := []) dX11_common_6 rfl kX11_60 sX11_away (Nat.le_of_ble_eq_true rfl) rfl rfl (Nat.le_of_ble_eq_true rfl) ?_
  refine zX11_away (a1 := a2) (w := w) (hR := hR) ?_
  show Go SR mX11_common 9 [(0, .int a1), (1, .int a2), (2, .int (vXX11_away a1))] [.int (vXX11_away a2)] w Q
  refine g_istore_n (pc := 9) (lv2 := [(0, .int a1), (1, .int a2), (2, .int (vXX11_away a1)), (3, .int (vXX11_away a2))]) dX11_common_9 rfl (Nat.le_of_ble_eq_true rfl) rfl ?_
  exact h
set_option maxHeartbeats 4000000 in
set_option maxRecDepth 100000 in
theorem BX11_common_10  (l0 : Int32) (l1 : Int32) (l2 : Int32) (l3 : Int32) (w : Wd) (hR : w.2.2 = RM) (Q : Option Value → Wd → Prop) (h : ((l3 = 0 → Q (some (.int l2)) w) ∧ (¬ (l3 = 0) → ¬ l3 = 0 ∧ Go SR mX11_common 10 [(0, .int l0), (1, .int l1), (2, .int l3), (3, .int (l2 % l3))] [] w Q))) : Go SR mX11_common 10 [(0, .int l0), (1, .int l1), (2, .int l2), (3, .int l3)] [] w Q := by
  refine g_iload_n (pc := 10) dX11_common_10 rfl 3 rfl ?_
  refine g_if_eq (pc := 11) (tgt := 27) dX11_common_11 (by decide) (fun q => ?_) (fun q => ?_)
  · have h := h.1 q
    refine g_iload_n (pc := 27) dX11_common_27 rfl 2 rfl ?_
    exact g_iret (pc := 28) dX11_common_28 rfl h
  · have h := h.2 q
    refine g_iload_n (pc := 14) dX11_common_14 rfl 2 rfl ?_
    refine g_iload_n (pc := 15) dX11_common_15 rfl 3 rfl ?_
    obtain ⟨hz1, h⟩ := h
    refine g_irem (pc := 16) dX11_common_16 hz1 ?_
    refine g_istore (pc := 17) (lv2 := [(0, .int l0), (1, .int l1), (2, .int l2), (3, .int l3), (4, .int (l2 % l3))]) dX11_common_17 (Nat.le_of_ble_eq_true rfl) rfl ?_
    refine g_iload_n (pc := 19) dX11_common_19 rfl 3 rfl ?_
    refine g_istore_n (pc := 20) (lv2 := [(0, .int l0), (1, .int l1), (2, .int l3), (3, .int l3), (4, .int (l2 % l3))]) dX11_common_20 rfl (Nat.le_of_ble_eq_true rfl) rfl ?_
    refine g_iload (pc := 21) dX11_common_21 4 rfl ?_
    refine g_istore_n (pc := 23) (lv2 := [(0, .int l0), (1, .int l1), (2, .int l3), (3, .int (l2 % l3)), (4, .int (l2 % l3))]) dX11_common_23 rfl (Nat.le_of_ble_eq_true rfl) rfl ?_
    refine g_goto (pc := 24) (tgt := 10) dX11_common_24 (by decide) ?_
    refine g_sub (lv2 := [(0, .int l0), (1, .int l1), (2, .int l3), (3, .int (l2 % l3))]) [0, 1, 2, 3] rfl ?_
    exact h
set_option maxHeartbeats 4000000 in
set_option maxRecDepth 100000 in
theorem TX11_lowest (a1 : Int64) (a2 : Int64) (a3 : Int32) (w : Wd) (hR : w.2.2 = RM) (Q : Option Value → Wd → Prop) (h : Go SR mX11_lowest 6 [(0, .long a1), (2, .long a2), (4, .int a3), (5, .long a2), (7, .long a1)] [] w Q) : Cl SR mX11_lowest [.long a1, .long a2, .int a3] w Q := by
  refine cl_of (by decide) (Nat.le_of_ble_eq_true rfl) ?_
  show Go SR mX11_lowest 0 [(0, .long a1), (2, .long a2), (4, .int a3)] [] w Q
  refine g_lload_n (pc := 0) dX11_lowest_0 rfl 1 rfl ?_
  refine g_lstore (pc := 1) (lv2 := [(0, .long a1), (2, .long a2), (4, .int a3), (5, .long a2)]) dX11_lowest_1 (Nat.le_of_ble_eq_true rfl) rfl ?_
  refine g_lload_n (pc := 3) dX11_lowest_3 rfl 0 rfl ?_
  refine g_lstore (pc := 4) (lv2 := [(0, .long a1), (2, .long a2), (4, .int a3), (5, .long a2), (7, .long a1)]) dX11_lowest_4 (Nat.le_of_ble_eq_true rfl) rfl ?_
  exact h
set_option maxHeartbeats 4000000 in
set_option maxRecDepth 100000 in
theorem BX11_lowest_6  (l0 : Int64) (l2 : Int64) (l4 : Int32) (l5 : Int64) (l7 : Int64) (w : Wd) (hR : w.2.2 = RM) (Q : Option Value → Wd → Prop) (h : (((lg_cmp l7 0) = 0 → ¬ l5 = 0 ∧ Q (some (.long ((if l4 = 0 then l0 else l2 : Int64) / l5))) w) ∧ (¬ ((lg_cmp l7 0) = 0) → ¬ l7 = 0 ∧ Go SR mX11_lowest 6 [(0, .long l0), (2, .long l2), (4, .int l4), (5, .long l7), (7, .long (l5 % l7))] [] w Q))) : Go SR mX11_lowest 6 [(0, .long l0), (2, .long l2), (4, .int l4), (5, .long l5), (7, .long l7)] [] w Q := by
  refine g_lload (pc := 6) dX11_lowest_6 4 rfl ?_
  refine g_lconst (pc := 8) (v := 0) dX11_lowest_8 (by decide) ?_
  refine g_lcmp (pc := 9) dX11_lowest_9 ?_
  refine g_if_eq (pc := 10) (tgt := 31) dX11_lowest_10 (by decide) (fun q => ?_) (fun q => ?_)
  · have h := h.1 q
    refine g_iload (pc := 31) dX11_lowest_31 2 rfl ?_
    have hJ : Go SR mX11_lowest 41 [(0, .long l0), (2, .long l2), (4, .int l4), (5, .long l5), (7, .long l7)] [.long (if l4 = 0 then l0 else l2 : Int64)] w Q := by
      refine g_lload (pc := 41) dX11_lowest_41 3 rfl ?_
      obtain ⟨hz1, h⟩ := h
      refine g_ldiv (pc := 43) dX11_lowest_43 hz1 ?_
      exact g_lret (pc := 44) dX11_lowest_44 rfl h
    refine g_if_eq (pc := 33) (tgt := 40) dX11_lowest_33 (by decide) (fun q33 => ?_) (fun q33 => ?_)
    · refine g_lload_n (pc := 40) dX11_lowest_40 rfl 0 rfl ?_
      first | (exfalso; contradiction) | exact cast (by simp only [if_pos q33]) hJ
    · refine g_lload_n (pc := 36) dX11_lowest_36 rfl 1 rfl ?_
      refine g_goto (pc := 37) (tgt := 41) dX11_lowest_37 (by decide) ?_
      first | (exfalso; contradiction) | exact cast (by simp only [if_neg q33]) hJ
  · have h := h.2 q
    refine g_lload (pc := 13) dX11_lowest_13 3 rfl ?_
    refine g_lload (pc := 15) dX11_lowest_15 4 rfl ?_
    obtain ⟨hz2, h⟩ := h
    refine g_lrem (pc := 17) dX11_lowest_17 hz2 ?_
    refine g_lstore (pc := 18) (lv2 := [(0, .long l0), (2, .long l2), (4, .int l4), (5, .long l5), (7, .long l7), (9, .long (l5 % l7))]) dX11_lowest_18 (Nat.le_of_ble_eq_true rfl) rfl ?_
    refine g_lload (pc := 20) dX11_lowest_20 4 rfl ?_
    refine g_lstore (pc := 22) (lv2 := [(0, .long l0), (2, .long l2), (4, .int l4), (5, .long l7), (7, .long l7), (9, .long (l5 % l7))]) dX11_lowest_22 (Nat.le_of_ble_eq_true rfl) rfl ?_
    refine g_lload (pc := 24) dX11_lowest_24 5 rfl ?_
    refine g_lstore (pc := 26) (lv2 := [(0, .long l0), (2, .long l2), (4, .int l4), (5, .long l7), (7, .long (l5 % l7)), (9, .long (l5 % l7))]) dX11_lowest_26 (Nat.le_of_ble_eq_true rfl) rfl ?_
    refine g_goto (pc := 28) (tgt := 6) dX11_lowest_28 (by decide) ?_
    refine g_sub (lv2 := [(0, .long l0), (2, .long l2), (4, .int l4), (5, .long l7), (7, .long (l5 % l7))]) [0, 1, 2, 3, 4] rfl ?_
    exact h
set_option maxHeartbeats 4000000 in
set_option maxRecDepth 100000 in
theorem TX11_feed (a1 : Int32) (a2 : Int32) (a3 : Int32) (a4 : Int32) (a5 : Int32) (w : Wd) (hR : w.2.2 = RM) (Q : Option Value → Wd → Prop) (h : ((((wi (si w 0 0 0) 0 2) + 20) ≤ 600 → Go SR mX11_feed 23 [(0, .ref 0), (1, .int a1), (2, .int a2), (3, .int a3), (4, .int a4), (5, .int a5), (6, .int 0)] [] (si w 0 0 0) Q) ∧ (¬ (((wi (si w 0 0 0) 0 2) + 20) ≤ 600) → Q (some (.int (-1))) (si w 0 0 0)))) : Cl SR mX11_feed [.ref 0, .int a1, .int a2, .int a3, .int a4, .int a5] w Q := by
  refine cl_of (by decide) (Nat.le_of_ble_eq_true rfl) ?_
  show Go SR mX11_feed 0 [(0, .ref 0), (1, .int a1), (2, .int a2), (3, .int a3), (4, .int a4), (5, .int a5)] [] w Q
  refine g_aload_n (pc := 0) dX11_feed_0 rfl 0 rfl ?_
  refine g_iconst (pc := 1) dX11_feed_1 c_0 ?_
  refine g_putI (pc := 2) dX11_feed_2 rfl fX11_53 pX11_0 rfl ?_
  refine g_aload_n (pc := 5) dX11_feed_5 rfl 0 rfl ?_
  refine g_getI (pc := 6) (a := 0) dX11_feed_6 rfl fX11_64 rfl ?_
  refine g_bipush (pc := 9) (v := 20) dX11_feed_9 (by decide) ?_
  refine g_iadd (pc := 11) dX11_feed_11 ?_
  refine g_sipush (pc := 12) (v := 600) dX11_feed_12 (by decide) ?_
  refine g_icmp_le (pc := 15) (tgt := 20) dX11_feed_15 (by decide) (fun q => ?_) (fun q => ?_)
  · have h := h.1 q
    refine g_iconst (pc := 20) dX11_feed_20 c_0 ?_
    refine g_istore (pc := 21) (lv2 := [(0, .ref 0), (1, .int a1), (2, .int a2), (3, .int a3), (4, .int a4), (5, .int a5), (6, .int 0)]) dX11_feed_21 (Nat.le_of_ble_eq_true rfl) rfl ?_
    exact h
  · have h := h.2 q
    refine g_iconst (pc := 18) dX11_feed_18 cN_1 ?_
    exact g_iret (pc := 19) dX11_feed_19 rfl h
set_option maxHeartbeats 4000000 in
set_option maxRecDepth 100000 in
theorem BX11_feed_23  (l1 : Int32) (l2 : Int32) (l3 : Int32) (l4 : Int32) (l5 : Int32) (l6 : Int32) (w : Wd) (hR : w.2.2 = RM) (Q : Option Value → Wd → Prop) (h : ((20 ≤ l6 → Q (some (.int (wi w 0 2))) w) ∧ (¬ (20 ≤ l6) → vp_in (wi w 0 2) 600 ∧ Go SR mX11_feed 23 [(0, .ref 0), (1, .int l1), (2, .int l2), (3, .int l3), (4, .int l4), (5, .int l5), (6, .int (l6 + 1))] [] (si (si w 1 ((wi w 0 2).toNatClampNeg) (((if 4 ≤ l6 then (if 8 ≤ l6 then (if 12 ≤ l6 then (if 16 ≤ l6 then l5 else l4 : Int32) else l3 : Int32) else l2 : Int32) else l1 : Int32) >>> ((24 - (8 * (l6 % 4))) &&& 31)) &&& 255)) 0 2 ((wi (si w 1 ((wi w 0 2).toNatClampNeg) (((if 4 ≤ l6 then (if 8 ≤ l6 then (if 12 ≤ l6 then (if 16 ≤ l6 then l5 else l4 : Int32) else l3 : Int32) else l2 : Int32) else l1 : Int32) >>> ((24 - (8 * (l6 % 4))) &&& 31)) &&& 255)) 0 2) + 1)) Q))) : Go SR mX11_feed 23 [(0, .ref 0), (1, .int l1), (2, .int l2), (3, .int l3), (4, .int l4), (5, .int l5), (6, .int l6)] [] w Q := by
  refine g_iload (pc := 23) dX11_feed_23 6 rfl ?_
  refine g_bipush (pc := 25) (v := 20) dX11_feed_25 (by decide) ?_
  refine g_icmp_ge (pc := 27) (tgt := 120) dX11_feed_27 (by decide) (fun q => ?_) (fun q => ?_)
  · have h := h.1 q
    refine g_aload_n (pc := 120) dX11_feed_120 rfl 0 rfl ?_
    refine g_getI (pc := 121) (a := 0) dX11_feed_121 rfl fX11_64 rfl ?_
    exact g_iret (pc := 124) dX11_feed_124 rfl h
  · have h := h.2 q
    refine g_iload (pc := 30) dX11_feed_30 6 rfl ?_
    refine g_iconst (pc := 32) dX11_feed_32 c_4 ?_
    have hJ : Go SR mX11_feed 76 [(0, .ref 0), (1, .int l1), (2, .int l2), (3, .int l3), (4, .int l4), (5, .int l5), (6, .int l6)] [.int (if 4 ≤ l6 then (if 8 ≤ l6 then (if 12 ≤ l6 then (if 16 ≤ l6 then l5 else l4 : Int32) else l3 : Int32) else l2 : Int32) else l1 : Int32)] w Q := by
      refine g_istore (pc := 76) (lv2 := [(0, .ref 0), (1, .int l1), (2, .int l2), (3, .int l3), (4, .int l4), (5, .int l5), (6, .int l6), (7, .int (if 4 ≤ l6 then (if 8 ≤ l6 then (if 12 ≤ l6 then (if 16 ≤ l6 then l5 else l4 : Int32) else l3 : Int32) else l2 : Int32) else l1 : Int32))]) dX11_feed_76 (Nat.le_of_ble_eq_true rfl) rfl ?_
      refine g_aload_n (pc := 78) dX11_feed_78 rfl 0 rfl ?_
      refine g_getR (pc := 79) (a := 0) (b := 1) dX11_feed_79 rfl fX11_7 rfl (rm_1 hR) ?_
      refine g_aload_n (pc := 82) dX11_feed_82 rfl 0 rfl ?_
      refine g_getI (pc := 83) (a := 0) dX11_feed_83 rfl fX11_64 rfl ?_
      refine g_iload (pc := 86) dX11_feed_86 7 rfl ?_
      refine g_bipush (pc := 88) (v := 24) dX11_feed_88 (by decide) ?_
      refine g_bipush (pc := 90) (v := 8) dX11_feed_90 (by decide) ?_
      refine g_iload (pc := 92) dX11_feed_92 6 rfl ?_
      refine g_iconst (pc := 94) dX11_feed_94 c_4 ?_
      refine g_irem (pc := 95) dX11_feed_95 (by decide) ?_
      refine g_imul (pc := 96) dX11_feed_96 ?_
      refine g_isub (pc := 97) dX11_feed_97 ?_
      refine g_ishr (pc := 98) dX11_feed_98 ?_
      refine g_sipush (pc := 99) (v := 255) dX11_feed_99 (by decide) ?_
      refine g_iand (pc := 102) dX11_feed_102 ?_
      obtain ⟨hi1, h⟩ := h
      refine g_iast (pc := 103) (a := 1) (j := (wi w 0 2).toNatClampNeg) dX11_feed_103 rfl hi1 rfl ?_
      refine g_aload_n (pc := 104) dX11_feed_104 rfl 0 rfl ?_
      refine g_dup (pc := 105) dX11_feed_105 rfl ?_
      refine g_getI (pc := 106) (a := 0) dX11_feed_106 rfl fX11_64 rfl ?_
      refine g_iconst (pc := 109) dX11_feed_109 c_1 ?_
      refine g_iadd (pc := 110) dX11_feed_110 ?_
      refine g_putI (pc := 111) dX11_feed_111 rfl fX11_64 pX11_2 rfl ?_
      refine g_iinc (pc := 114) (v := l6 + 1) (lv2 := [(0, .ref 0), (1, .int l1), (2, .int l2), (3, .int l3), (4, .int l4), (5, .int l5), (6, .int (l6 + 1)), (7, .int (if 4 ≤ l6 then (if 8 ≤ l6 then (if 12 ≤ l6 then (if 16 ≤ l6 then l5 else l4 : Int32) else l3 : Int32) else l2 : Int32) else l1 : Int32))]) dX11_feed_114 6 rfl (Nat.le_of_ble_eq_true rfl) rfl rfl ?_
      refine g_goto (pc := 117) (tgt := 23) dX11_feed_117 (by decide) ?_
      refine g_sub (lv2 := [(0, .ref 0), (1, .int l1), (2, .int l2), (3, .int l3), (4, .int l4), (5, .int l5), (6, .int (l6 + 1))]) [0, 1, 2, 3, 4, 5, 6] rfl ?_
      exact h
    refine g_icmp_ge (pc := 33) (tgt := 40) dX11_feed_33 (by decide) (fun q33 => ?_) (fun q33 => ?_)
    · refine g_iload (pc := 40) dX11_feed_40 6 rfl ?_
      refine g_bipush (pc := 42) (v := 8) dX11_feed_42 (by decide) ?_
      refine g_icmp_ge (pc := 44) (tgt := 51) dX11_feed_44 (by decide) (fun q44 => ?_) (fun q44 => ?_)
      · refine g_iload (pc := 51) dX11_feed_51 6 rfl ?_
        refine g_bipush (pc := 53) (v := 12) dX11_feed_53 (by decide) ?_
        refine g_icmp_ge (pc := 55) (tgt := 62) dX11_feed_55 (by decide) (fun q55 => ?_) (fun q55 => ?_)
        · refine g_iload (pc := 62) dX11_feed_62 6 rfl ?_
          refine g_bipush (pc := 64) (v := 16) dX11_feed_64 (by decide) ?_
          refine g_icmp_ge (pc := 66) (tgt := 74) dX11_feed_66 (by decide) (fun q66 => ?_) (fun q66 => ?_)
          · refine g_iload (pc := 74) dX11_feed_74 5 rfl ?_
            first | (exfalso; contradiction) | exact cast (by simp only [if_pos q33, if_pos q44, if_pos q55, if_pos q66]) hJ
          · refine g_iload (pc := 69) dX11_feed_69 4 rfl ?_
            refine g_goto (pc := 71) (tgt := 76) dX11_feed_71 (by decide) ?_
            first | (exfalso; contradiction) | exact cast (by simp only [if_pos q33, if_pos q44, if_pos q55, if_neg q66]) hJ
        · refine g_iload_n (pc := 58) dX11_feed_58 rfl 3 rfl ?_
          refine g_goto (pc := 59) (tgt := 76) dX11_feed_59 (by decide) ?_
          first | (exfalso; contradiction) | exact cast (by simp only [if_pos q33, if_pos q44, if_neg q55]) hJ
      · refine g_iload_n (pc := 47) dX11_feed_47 rfl 2 rfl ?_
        refine g_goto (pc := 48) (tgt := 76) dX11_feed_48 (by decide) ?_
        first | (exfalso; contradiction) | exact cast (by simp only [if_pos q33, if_neg q44]) hJ
    · refine g_iload_n (pc := 36) dX11_feed_36 rfl 1 rfl ?_
      refine g_goto (pc := 37) (tgt := 76) dX11_feed_37 (by decide) ?_
      first | (exfalso; contradiction) | exact cast (by simp only [if_neg q33]) hJ
set_option maxHeartbeats 4000000 in
set_option maxRecDepth 100000 in
theorem TX11_see (a1 : Int32) (w : Wd) (hR : w.2.2 = RM) (Q : Option Value → Wd → Prop) (h : (((wi w 0 3) ≤ a1 → Q (some (.int (-1))) w) ∧ (¬ ((wi w 0 3) ≤ a1) → vp_in a1 600 ∧ Q (some (.int (wi w 1 a1.toNatClampNeg))) w))) : Cl SR mX11_see [.ref 0, .int a1] w Q := by
  refine cl_of (by decide) (Nat.le_of_ble_eq_true rfl) ?_
  show Go SR mX11_see 0 [(0, .ref 0), (1, .int a1)] [] w Q
  refine g_iload_n (pc := 0) dX11_see_0 rfl 1 rfl ?_
  refine g_aload_n (pc := 1) dX11_see_1 rfl 0 rfl ?_
  refine g_getI (pc := 2) (a := 0) dX11_see_2 rfl fX11_67 rfl ?_
  refine g_icmp_ge (pc := 5) (tgt := 17) dX11_see_5 (by decide) (fun q => ?_) (fun q => ?_)
  · have h := h.1 q
    refine g_iconst (pc := 17) dX11_see_17 cN_1 ?_
    exact g_iret (pc := 18) dX11_see_18 rfl h
  · have h := h.2 q
    refine g_aload_n (pc := 8) dX11_see_8 rfl 0 rfl ?_
    refine g_getR (pc := 9) (a := 0) (b := 1) dX11_see_9 rfl fX11_7 rfl (rm_1 hR) ?_
    refine g_iload_n (pc := 12) dX11_see_12 rfl 1 rfl ?_
    obtain ⟨hi1, h⟩ := h
    refine g_iald (pc := 13) (a := 1) (j := a1.toNatClampNeg) dX11_see_13 rfl hi1 rfl ?_
    refine g_goto (pc := 14) (tgt := 18) dX11_see_14 (by decide) ?_
    exact g_iret (pc := 18) dX11_see_18 rfl h
set_option maxHeartbeats 4000000 in
set_option maxRecDepth 100000 in
theorem TX11_next  (w : Wd) (hR : w.2.2 = RM) (Q : Option Value → Wd → Prop) (h : Go SR mX11_next 5 [(0, .ref 0), (1, .int (wi w 0 5))] [] w Q) : Cl SR mX11_next [.ref 0] w Q := by
  refine cl_of (by decide) (Nat.le_of_ble_eq_true rfl) ?_
  show Go SR mX11_next 0 [(0, .ref 0)] [] w Q
  refine g_aload_n (pc := 0) dX11_next_0 rfl 0 rfl ?_
  refine g_getI (pc := 1) (a := 0) dX11_next_1 rfl fX11_70 rfl ?_
  refine g_istore_n (pc := 4) (lv2 := [(0, .ref 0), (1, .int (wi w 0 5))]) dX11_next_4 rfl (Nat.le_of_ble_eq_true rfl) rfl ?_
  exact h
set_option maxHeartbeats 4000000 in
set_option maxRecDepth 100000 in
theorem BX11_next_5  (l1 : Int32) (w : Wd) (hR : w.2.2 = RM) (Q : Option Value → Wd → Prop) (h : ClI SR mX11_see [.ref 0, .int l1] w (fun x2 w1 => w1.2.2 = RM ∧ ((x2 = 32 → Go SR mX11_next 5 [(0, .ref 0), (1, .int (l1 + 1))] [] w1 Q) ∧ (¬ (x2 = 32) → ClI SR mX11_see [.ref 0, .int l1] (si w1 0 4 l1) (fun x4 w3 => w3.2.2 = RM ∧ ((x4 = (-1) → Q none (si (si (si (si w3 0 8 0) 0 7 0) 0 6 0) 0 5 l1)) ∧ (¬ (x4 = (-1)) → (((vXX11_isSmall x4) = 0 → (((vXX11_isDigit x4) = 0 → Q none (si (si (si (si w3 0 8 0) 0 7 0) 0 5 (l1 + 1)) 0 6 (if x4 = 59 then x4 else 1 : Int32))) ∧ (¬ ((vXX11_isDigit x4) = 0) → Go SR mX11_next 152 [(0, .ref 0), (1, .int l1), (2, .int x4), (3, .int 0)] [] (si (si w3 0 8 0) 0 7 0) Q))) ∧ (¬ ((vXX11_isSmall x4) = 0) → Go SR mX11_next 67 [(0, .ref 0), (1, .int l1), (2, .int x4)] [] (si (si w3 0 8 0) 0 7 0) Q))))))))) : Go SR mX11_next 5 [(0, .ref 0), (1, .int l1)] [] w Q := by
  refine g_aload_n (pc := 5) dX11_next_5 rfl 0 rfl ?_
  refine g_iload_n (pc := 6) dX11_next_6 rfl 1 rfl ?_
  refine g_callV (pc := 7) (M' := mX11_see) (n := 1) (a := 0) (as := [.int l1]) (st := []) dX11_next_7 rfl kX11_73 vX11_see (Nat.le_of_ble_eq_true rfl) rfl qX11 rfl rfl (Nat.le_of_ble_eq_true rfl) ?_
  refine cl_mono (fun r w1 hr => ?_) h
  obtain ⟨x2, rfl, hw1, h⟩ := hr
  show Go SR mX11_next 10 [(0, .ref 0), (1, .int l1)] [.int x2] w1 Q
  refine g_bipush (pc := 10) (v := 32) dX11_next_10 (by decide) ?_
  refine g_icmp_ne (pc := 12) (tgt := 21) dX11_next_12 (by decide) (fun q => ?_) (fun q => ?_)
  · have h := h.2 q
    refine g_aload_n (pc := 21) dX11_next_21 rfl 0 rfl ?_
    refine g_iload_n (pc := 22) dX11_next_22 rfl 1 rfl ?_
    refine g_putI (pc := 23) dX11_next_23 rfl fX11_76 pX11_4 rfl ?_
    refine g_aload_n (pc := 26) dX11_next_26 rfl 0 rfl ?_
    refine g_iload_n (pc := 27) dX11_next_27 rfl 1 rfl ?_
    refine g_callV (pc := 28) (M' := mX11_see) (n := 1) (a := 0) (as := [.int l1]) (st := []) dX11_next_28 rfl kX11_73 vX11_see (Nat.le_of_ble_eq_true rfl) rfl qX11 rfl rfl (Nat.le_of_ble_eq_true rfl) ?_
    refine cl_mono (fun r w3 hr => ?_) h
    obtain ⟨x4, rfl, hw3, h⟩ := hr
    show Go SR mX11_next 31 [(0, .ref 0), (1, .int l1)] [.int x4] w3 Q
    refine g_istore_n (pc := 31) (lv2 := [(0, .ref 0), (1, .int l1), (2, .int x4)]) dX11_next_31 rfl (Nat.le_of_ble_eq_true rfl) rfl ?_
    refine g_aload_n (pc := 32) dX11_next_32 rfl 0 rfl ?_
    refine g_iconst (pc := 33) dX11_next_33 c_0 ?_
    refine g_putI (pc := 34) dX11_next_34 rfl fX11_79 pX11_8 rfl ?_
    refine g_aload_n (pc := 37) dX11_next_37 rfl 0 rfl ?_
    refine g_iconst (pc := 38) dX11_next_38 c_0 ?_
    refine g_putI (pc := 39) dX11_next_39 rfl fX11_82 pX11_7 rfl ?_
    refine g_iload_n (pc := 42) dX11_next_42 rfl 2 rfl ?_
    refine g_iconst (pc := 43) dX11_next_43 cN_1 ?_
    refine g_icmp_ne (pc := 44) (tgt := 60) dX11_next_44 (by decide) (fun q => ?_) (fun q => ?_)
    · have h := h.2 q
      refine g_iload_n (pc := 60) dX11_next_60 rfl 2 rfl ?_
      refine g_callS (pc := 61) (M' := mX11_isSmall) (n := 1) (as := [.int x4]) (st := []) dX11_next_61 rfl kX11_88 sX11_isSmall (Nat.le_of_ble_eq_true rfl) rfl rfl (Nat.le_of_ble_eq_true rfl) ?_
      refine zX11_isSmall (a1 := x4) (w := si (si w3 0 8 0) 0 7 0) (hR := hw3) ?_
      show Go SR mX11_next 64 [(0, .ref 0), (1, .int l1), (2, .int x4)] [.int (vXX11_isSmall x4)] (si (si w3 0 8 0) 0 7 0) Q
      refine g_if_eq (pc := 64) (tgt := 143) dX11_next_64 (by decide) (fun q => ?_) (fun q => ?_)
      · have h := h.1 q
        refine g_iload_n (pc := 143) dX11_next_143 rfl 2 rfl ?_
        refine g_callS (pc := 144) (M' := mX11_isDigit) (n := 1) (as := [.int x4]) (st := []) dX11_next_144 rfl kX11_92 sX11_isDigit (Nat.le_of_ble_eq_true rfl) rfl rfl (Nat.le_of_ble_eq_true rfl) ?_
        refine zX11_isDigit (a1 := x4) (w := si (si w3 0 8 0) 0 7 0) (hR := hw3) ?_
        show Go SR mX11_next 147 [(0, .ref 0), (1, .int l1), (2, .int x4)] [.int (vXX11_isDigit x4)] (si (si w3 0 8 0) 0 7 0) Q
        refine g_if_eq (pc := 147) (tgt := 219) dX11_next_147 (by decide) (fun q => ?_) (fun q => ?_)
        · have h := h.1 q
          refine g_aload_n (pc := 219) dX11_next_219 rfl 0 rfl ?_
          refine g_iload_n (pc := 220) dX11_next_220 rfl 1 rfl ?_
          refine g_iconst (pc := 221) dX11_next_221 c_1 ?_
          refine g_iadd (pc := 222) dX11_next_222 ?_
          refine g_putI (pc := 223) dX11_next_223 rfl fX11_70 pX11_5 rfl ?_
          refine g_aload_n (pc := 226) dX11_next_226 rfl 0 rfl ?_
          refine g_iload_n (pc := 227) dX11_next_227 rfl 2 rfl ?_
          refine g_bipush (pc := 228) (v := 59) dX11_next_228 (by decide) ?_
          have hJ : Go SR mX11_next 238 [(0, .ref 0), (1, .int l1), (2, .int x4)] [.int (if x4 = 59 then x4 else 1 : Int32), .ref 0] (si (si (si w3 0 8 0) 0 7 0) 0 5 (l1 + 1)) Q := by
            refine g_putI (pc := 238) dX11_next_238 rfl fX11_85 pX11_6 rfl ?_
            exact g_vret (pc := 241) dX11_next_241 rfl h
          refine g_icmp_ne (pc := 230) (tgt := 237) dX11_next_230 (by decide) (fun q230 => ?_) (fun q230 => ?_)
          · refine g_iconst (pc := 237) dX11_next_237 c_1 ?_
            first | (exfalso; contradiction) | exact cast (by simp only [if_neg q230]) hJ
          · refine g_iload_n (pc := 233) dX11_next_233 rfl 2 rfl ?_
            refine g_goto (pc := 234) (tgt := 238) dX11_next_234 (by decide) ?_
            first | (exfalso; contradiction) | exact cast (by simp only [if_pos q230]) hJ
        · have h := h.2 q
          refine g_iconst (pc := 150) dX11_next_150 c_0 ?_
          refine g_istore_n (pc := 151) (lv2 := [(0, .ref 0), (1, .int l1), (2, .int x4), (3, .int 0)]) dX11_next_151 rfl (Nat.le_of_ble_eq_true rfl) rfl ?_
          exact h
      · have h := h.2 q
        exact h
    · have h := h.1 q
      refine g_aload_n (pc := 47) dX11_next_47 rfl 0 rfl ?_
      refine g_iconst (pc := 48) dX11_next_48 c_0 ?_
      refine g_putI (pc := 49) dX11_next_49 rfl fX11_85 pX11_6 rfl ?_
      refine g_aload_n (pc := 52) dX11_next_52 rfl 0 rfl ?_
      refine g_iload_n (pc := 53) dX11_next_53 rfl 1 rfl ?_
      refine g_putI (pc := 54) dX11_next_54 rfl fX11_70 pX11_5 rfl ?_
      refine g_goto (pc := 57) (tgt := 241) dX11_next_57 (by decide) ?_
      exact g_vret (pc := 241) dX11_next_241 rfl h
  · have h := h.1 q
    refine g_iinc (pc := 15) (v := l1 + 1) (lv2 := [(0, .ref 0), (1, .int (l1 + 1))]) dX11_next_15 1 rfl (Nat.le_of_ble_eq_true rfl) rfl rfl ?_
    refine g_goto (pc := 18) (tgt := 5) dX11_next_18 (by decide) ?_
    exact h
set_option maxHeartbeats 4000000 in
set_option maxRecDepth 100000 in
theorem BX11_next_67  (l1 : Int32) (l2 : Int32) (w : Wd) (hR : w.2.2 = RM) (Q : Option Value → Wd → Prop) (h : ClI SR mX11_see [.ref 0, .int l1] w (fun x2 w1 => w1.2.2 = RM ∧ (((vXX11_isSmall x2) = 0 → Q none (si (si w1 0 5 l1) 0 6 (if (wi (si w1 0 5 l1) 0 8) ≤ 12 then 2 else 1 : Int32))) ∧ (¬ ((vXX11_isSmall x2) = 0) → ((12 ≤ (wi w1 0 8) → Go SR mX11_next 67 [(0, .ref 0), (1, .int (l1 + 1)), (2, .int l2)] [] (si w1 0 8 ((wi w1 0 8) + 1)) Q) ∧ (¬ (12 ≤ (wi w1 0 8)) → ClI SR mX11_see [.ref 0, .int l1] w1 (fun x4 w3 => w3.2.2 = RM ∧ vp_in (wi w1 0 8) 12 ∧ Go SR mX11_next 67 [(0, .ref 0), (1, .int (l1 + 1)), (2, .int l2)] [] (si (si w3 2 ((wi w1 0 8).toNatClampNeg) x4) 0 8 ((wi (si w3 2 ((wi w1 0 8).toNatClampNeg) x4) 0 8) + 1)) Q))))))) : Go SR mX11_next 67 [(0, .ref 0), (1, .int l1), (2, .int l2)] [] w Q := by
  refine g_aload_n (pc := 67) dX11_next_67 rfl 0 rfl ?_
  refine g_iload_n (pc := 68) dX11_next_68 rfl 1 rfl ?_
  refine g_callV (pc := 69) (M' := mX11_see) (n := 1) (a := 0) (as := [.int l1]) (st := []) dX11_next_69 rfl kX11_73 vX11_see (Nat.le_of_ble_eq_true rfl) rfl qX11 rfl rfl (Nat.le_of_ble_eq_true rfl) ?_
  refine cl_mono (fun r w1 hr => ?_) h
  obtain ⟨x2, rfl, hw1, h⟩ := hr
  show Go SR mX11_next 72 [(0, .ref 0), (1, .int l1), (2, .int l2)] [.int x2] w1 Q
  refine g_callS (pc := 72) (M' := mX11_isSmall) (n := 1) (as := [.int x2]) (st := []) dX11_next_72 rfl kX11_88 sX11_isSmall (Nat.le_of_ble_eq_true rfl) rfl rfl (Nat.le_of_ble_eq_true rfl) ?_
  refine zX11_isSmall (a1 := x2) (w := w1) (hR := hw1) ?_
  show Go SR mX11_next 75 [(0, .ref 0), (1, .int l1), (2, .int l2)] [.int (vXX11_isSmall x2)] w1 Q
  refine g_if_eq (pc := 75) (tgt := 117) dX11_next_75 (by decide) (fun q => ?_) (fun q => ?_)
  · have h := h.1 q
    refine g_aload_n (pc := 117) dX11_next_117 rfl 0 rfl ?_
    refine g_iload_n (pc := 118) dX11_next_118 rfl 1 rfl ?_
    refine g_putI (pc := 119) dX11_next_119 rfl fX11_70 pX11_5 rfl ?_
    refine g_aload_n (pc := 122) dX11_next_122 rfl 0 rfl ?_
    refine g_aload_n (pc := 123) dX11_next_123 rfl 0 rfl ?_
    refine g_getI (pc := 124) (a := 0) dX11_next_124 rfl fX11_79 rfl ?_
    refine g_bipush (pc := 127) (v := 12) dX11_next_127 (by decide) ?_
    have hJ : Go SR mX11_next 137 [(0, .ref 0), (1, .int l1), (2, .int l2)] [.int (if (wi (si w1 0 5 l1) 0 8) ≤ 12 then 2 else 1 : Int32), .ref 0] (si w1 0 5 l1) Q := by
      refine g_putI (pc := 137) dX11_next_137 rfl fX11_85 pX11_6 rfl ?_
      refine g_goto (pc := 140) (tgt := 241) dX11_next_140 (by decide) ?_
      exact g_vret (pc := 241) dX11_next_241 rfl h
    refine g_icmp_le (pc := 129) (tgt := 136) dX11_next_129 (by decide) (fun q129 => ?_) (fun q129 => ?_)
    · refine g_iconst (pc := 136) dX11_next_136 c_2 ?_
      first | (exfalso; contradiction) | exact cast (by simp only [if_pos q129]) hJ
    · refine g_iconst (pc := 132) dX11_next_132 c_1 ?_
      refine g_goto (pc := 133) (tgt := 137) dX11_next_133 (by decide) ?_
      first | (exfalso; contradiction) | exact cast (by simp only [if_neg q129]) hJ
  · have h := h.2 q
    refine g_aload_n (pc := 78) dX11_next_78 rfl 0 rfl ?_
    refine g_getI (pc := 79) (a := 0) dX11_next_79 rfl fX11_79 rfl ?_
    refine g_bipush (pc := 82) (v := 12) dX11_next_82 (by decide) ?_
    refine g_icmp_ge (pc := 84) (tgt := 101) dX11_next_84 (by decide) (fun q => ?_) (fun q => ?_)
    · have h := h.1 q
      refine g_aload_n (pc := 101) dX11_next_101 rfl 0 rfl ?_
      refine g_dup (pc := 102) dX11_next_102 rfl ?_
      refine g_getI (pc := 103) (a := 0) dX11_next_103 rfl fX11_79 rfl ?_
      refine g_iconst (pc := 106) dX11_next_106 c_1 ?_
      refine g_iadd (pc := 107) dX11_next_107 ?_
      refine g_putI (pc := 108) dX11_next_108 rfl fX11_79 pX11_8 rfl ?_
      refine g_iinc (pc := 111) (v := l1 + 1) (lv2 := [(0, .ref 0), (1, .int (l1 + 1)), (2, .int l2)]) dX11_next_111 1 rfl (Nat.le_of_ble_eq_true rfl) rfl rfl ?_
      refine g_goto (pc := 114) (tgt := 67) dX11_next_114 (by decide) ?_
      exact h
    · have h := h.2 q
      refine g_aload_n (pc := 87) dX11_next_87 rfl 0 rfl ?_
      refine g_getR (pc := 88) (a := 0) (b := 2) dX11_next_88 rfl fX11_17 rfl (rm_12 hw1) ?_
      refine g_aload_n (pc := 91) dX11_next_91 rfl 0 rfl ?_
      refine g_getI (pc := 92) (a := 0) dX11_next_92 rfl fX11_79 rfl ?_
      refine g_aload_n (pc := 95) dX11_next_95 rfl 0 rfl ?_
      refine g_iload_n (pc := 96) dX11_next_96 rfl 1 rfl ?_
      refine g_callV (pc := 97) (M' := mX11_see) (n := 1) (a := 0) (as := [.int l1]) (st := [.int (wi w1 0 8), .ref 2]) dX11_next_97 rfl kX11_73 vX11_see (Nat.le_of_ble_eq_true rfl) rfl qX11 rfl rfl (Nat.le_of_ble_eq_true rfl) ?_
      refine cl_mono (fun r w3 hr => ?_) h
      obtain ⟨x4, rfl, hw3, h⟩ := hr
      show Go SR mX11_next 100 [(0, .ref 0), (1, .int l1), (2, .int l2)] [.int x4, .int (wi w1 0 8), .ref 2] w3 Q
      obtain ⟨hi5, h⟩ := h
      refine g_iast (pc := 100) (a := 2) (j := (wi w1 0 8).toNatClampNeg) dX11_next_100 rfl hi5 rfl ?_
      refine g_aload_n (pc := 101) dX11_next_101 rfl 0 rfl ?_
      refine g_dup (pc := 102) dX11_next_102 rfl ?_
      refine g_getI (pc := 103) (a := 0) dX11_next_103 rfl fX11_79 rfl ?_
      refine g_iconst (pc := 106) dX11_next_106 c_1 ?_
      refine g_iadd (pc := 107) dX11_next_107 ?_
      refine g_putI (pc := 108) dX11_next_108 rfl fX11_79 pX11_8 rfl ?_
      refine g_iinc (pc := 111) (v := l1 + 1) (lv2 := [(0, .ref 0), (1, .int (l1 + 1)), (2, .int l2)]) dX11_next_111 1 rfl (Nat.le_of_ble_eq_true rfl) rfl rfl ?_
      refine g_goto (pc := 114) (tgt := 67) dX11_next_114 (by decide) ?_
      exact h
set_option maxHeartbeats 4000000 in
set_option maxRecDepth 100000 in
theorem BX11_next_152  (l1 : Int32) (l2 : Int32) (l3 : Int32) (w : Wd) (hR : w.2.2 = RM) (Q : Option Value → Wd → Prop) (h : ClI SR mX11_see [.ref 0, .int l1] w (fun x2 w1 => w1.2.2 = RM ∧ (((vXX11_isDigit x2) = 0 → Q none (si (si w1 0 5 l1) 0 6 (if l3 ≤ 3 then 3 else 1 : Int32))) ∧ (¬ ((vXX11_isDigit x2) = 0) → ((3 ≤ l3 → Go SR mX11_next 152 [(0, .ref 0), (1, .int (l1 + 1)), (2, .int l2), (3, .int (l3 + 1))] [] w1 Q) ∧ (¬ (3 ≤ l3) → ClI SR mX11_see [.ref 0, .int l1] w1 (fun x4 w3 => w3.2.2 = RM ∧ Go SR mX11_next 152 [(0, .ref 0), (1, .int (l1 + 1)), (2, .int l2), (3, .int (l3 + 1))] [] (si w3 0 7 (((10 * (wi w1 0 7)) + x4) - 48)) Q))))))) : Go SR mX11_next 152 [(0, .ref 0), (1, .int l1), (2, .int l2), (3, .int l3)] [] w Q := by
  refine g_aload_n (pc := 152) dX11_next_152 rfl 0 rfl ?_
  refine g_iload_n (pc := 153) dX11_next_153 rfl 1 rfl ?_
  refine g_callV (pc := 154) (M' := mX11_see) (n := 1) (a := 0) (as := [.int l1]) (st := []) dX11_next_154 rfl kX11_73 vX11_see (Nat.le_of_ble_eq_true rfl) rfl qX11 rfl rfl (Nat.le_of_ble_eq_true rfl) ?_
  refine cl_mono (fun r w1 hr => ?_) h
  obtain ⟨x2, rfl, hw1, h⟩ := hr
  show Go SR mX11_next 157 [(0, .ref 0), (1, .int l1), (2, .int l2), (3, .int l3)] [.int x2] w1 Q
  refine g_callS (pc := 157) (M' := mX11_isDigit) (n := 1) (as := [.int x2]) (st := []) dX11_next_157 rfl kX11_92 sX11_isDigit (Nat.le_of_ble_eq_true rfl) rfl rfl (Nat.le_of_ble_eq_true rfl) ?_
  refine zX11_isDigit (a1 := x2) (w := w1) (hR := hw1) ?_
  show Go SR mX11_next 160 [(0, .ref 0), (1, .int l1), (2, .int l2), (3, .int l3)] [.int (vXX11_isDigit x2)] w1 Q
  refine g_if_eq (pc := 160) (tgt := 197) dX11_next_160 (by decide) (fun q => ?_) (fun q => ?_)
  · have h := h.1 q
    refine g_aload_n (pc := 197) dX11_next_197 rfl 0 rfl ?_
    refine g_iload_n (pc := 198) dX11_next_198 rfl 1 rfl ?_
    refine g_putI (pc := 199) dX11_next_199 rfl fX11_70 pX11_5 rfl ?_
    refine g_aload_n (pc := 202) dX11_next_202 rfl 0 rfl ?_
    refine g_iload_n (pc := 203) dX11_next_203 rfl 3 rfl ?_
    refine g_iconst (pc := 204) dX11_next_204 c_3 ?_
    have hJ : Go SR mX11_next 213 [(0, .ref 0), (1, .int l1), (2, .int l2), (3, .int l3)] [.int (if l3 ≤ 3 then 3 else 1 : Int32), .ref 0] (si w1 0 5 l1) Q := by
      refine g_putI (pc := 213) dX11_next_213 rfl fX11_85 pX11_6 rfl ?_
      refine g_goto (pc := 216) (tgt := 241) dX11_next_216 (by decide) ?_
      exact g_vret (pc := 241) dX11_next_241 rfl h
    refine g_icmp_le (pc := 205) (tgt := 212) dX11_next_205 (by decide) (fun q205 => ?_) (fun q205 => ?_)
    · refine g_iconst (pc := 212) dX11_next_212 c_3 ?_
      first | (exfalso; contradiction) | exact cast (by simp only [if_pos q205]) hJ
    · refine g_iconst (pc := 208) dX11_next_208 c_1 ?_
      refine g_goto (pc := 209) (tgt := 213) dX11_next_209 (by decide) ?_
      first | (exfalso; contradiction) | exact cast (by simp only [if_neg q205]) hJ
  · have h := h.2 q
    refine g_iload_n (pc := 163) dX11_next_163 rfl 3 rfl ?_
    refine g_iconst (pc := 164) dX11_next_164 c_3 ?_
    refine g_icmp_ge (pc := 165) (tgt := 188) dX11_next_165 (by decide) (fun q => ?_) (fun q => ?_)
    · have h := h.1 q
      refine g_iinc (pc := 188) (v := l3 + 1) (lv2 := [(0, .ref 0), (1, .int l1), (2, .int l2), (3, .int (l3 + 1))]) dX11_next_188 3 rfl (Nat.le_of_ble_eq_true rfl) rfl rfl ?_
      refine g_iinc (pc := 191) (v := l1 + 1) (lv2 := [(0, .ref 0), (1, .int (l1 + 1)), (2, .int l2), (3, .int (l3 + 1))]) dX11_next_191 1 rfl (Nat.le_of_ble_eq_true rfl) rfl rfl ?_
      refine g_goto (pc := 194) (tgt := 152) dX11_next_194 (by decide) ?_
      exact h
    · have h := h.2 q
      refine g_aload_n (pc := 168) dX11_next_168 rfl 0 rfl ?_
      refine g_bipush (pc := 169) (v := 10) dX11_next_169 (by decide) ?_
      refine g_aload_n (pc := 171) dX11_next_171 rfl 0 rfl ?_
      refine g_getI (pc := 172) (a := 0) dX11_next_172 rfl fX11_82 rfl ?_
      refine g_imul (pc := 175) dX11_next_175 ?_
      refine g_aload_n (pc := 176) dX11_next_176 rfl 0 rfl ?_
      refine g_iload_n (pc := 177) dX11_next_177 rfl 1 rfl ?_
      refine g_callV (pc := 178) (M' := mX11_see) (n := 1) (a := 0) (as := [.int l1]) (st := [.int (10 * (wi w1 0 7)), .ref 0]) dX11_next_178 rfl kX11_73 vX11_see (Nat.le_of_ble_eq_true rfl) rfl qX11 rfl rfl (Nat.le_of_ble_eq_true rfl) ?_
      refine cl_mono (fun r w3 hr => ?_) h
      obtain ⟨x4, rfl, hw3, h⟩ := hr
      show Go SR mX11_next 181 [(0, .ref 0), (1, .int l1), (2, .int l2), (3, .int l3)] [.int x4, .int (10 * (wi w1 0 7)), .ref 0] w3 Q
      refine g_iadd (pc := 181) dX11_next_181 ?_
      refine g_bipush (pc := 182) (v := 48) dX11_next_182 (by decide) ?_
      refine g_isub (pc := 184) dX11_next_184 ?_
      refine g_putI (pc := 185) dX11_next_185 rfl fX11_82 pX11_7 rfl ?_
      refine g_iinc (pc := 188) (v := l3 + 1) (lv2 := [(0, .ref 0), (1, .int l1), (2, .int l2), (3, .int (l3 + 1))]) dX11_next_188 3 rfl (Nat.le_of_ble_eq_true rfl) rfl rfl ?_
      refine g_iinc (pc := 191) (v := l1 + 1) (lv2 := [(0, .ref 0), (1, .int (l1 + 1)), (2, .int l2), (3, .int (l3 + 1))]) dX11_next_191 1 rfl (Nat.le_of_ble_eq_true rfl) rfl rfl ?_
      refine g_goto (pc := 194) (tgt := 152) dX11_next_194 (by decide) ?_
      exact h
set_option maxHeartbeats 4000000 in
set_option maxRecDepth 100000 in
theorem TX11_isWord (a1 : Nat) (ha1 : a1 < nST) (w : Wd) (hR : w.2.2 = RM) (Q : Option Value → Wd → Prop) (h : (((wi w 0 13) = 0 → (((wi w 0 6) = 2 → (((wi w 0 8) = (Int32.ofNat (lenST.getD a1 0)) → Go SR mX11_isWord 32 [(0, .ref 0), (1, .ref (1000 + a1)), (2, .int 1), (3, .int 0)] [] w Q) ∧ (¬ ((wi w 0 8) = (Int32.ofNat (lenST.getD a1 0))) → Q (some (.int 0)) w))) ∧ (¬ ((wi w 0 6) = 2) → Q (some (.int 0)) w))) ∧ (¬ ((wi w 0 13) = 0) → Q (some (.int 0)) w))) : Cl SR mX11_isWord [.ref 0, .ref (1000 + a1)] w Q := by
  refine cl_of (by decide) (Nat.le_of_ble_eq_true rfl) ?_
  show Go SR mX11_isWord 0 [(0, .ref 0), (1, .ref (1000 + a1))] [] w Q
  refine g_aload_n (pc := 0) dX11_isWord_0 rfl 0 rfl ?_
  refine g_getZ (pc := 1) (a := 0) dX11_isWord_1 rfl fX11_95 rfl ?_
  refine g_if_ne (pc := 4) (tgt := 26) dX11_isWord_4 (by decide) (fun q => ?_) (fun q => ?_)
  · have h := h.2 q
    refine g_iconst (pc := 26) dX11_isWord_26 c_0 ?_
    exact g_bret (pc := 27) dX11_isWord_27 rfl (Or.inl rfl) h
  · have h := h.1 q
    refine g_aload_n (pc := 7) dX11_isWord_7 rfl 0 rfl ?_
    refine g_getI (pc := 8) (a := 0) dX11_isWord_8 rfl fX11_85 rfl ?_
    refine g_iconst (pc := 11) dX11_isWord_11 c_2 ?_
    refine g_icmp_ne (pc := 12) (tgt := 26) dX11_isWord_12 (by decide) (fun q => ?_) (fun q => ?_)
    · have h := h.2 q
      refine g_iconst (pc := 26) dX11_isWord_26 c_0 ?_
      exact g_bret (pc := 27) dX11_isWord_27 rfl (Or.inl rfl) h
    · have h := h.1 q
      refine g_aload_n (pc := 15) dX11_isWord_15 rfl 0 rfl ?_
      refine g_getI (pc := 16) (a := 0) dX11_isWord_16 rfl fX11_79 rfl ?_
      refine g_aload_n (pc := 19) dX11_isWord_19 rfl 1 rfl ?_
      refine g_callStr (pc := 20) (M' := mJ0_length_8abf5) (n := 0) (i := a1) (as := []) (st := [.int (wi w 0 8)]) ha1 dX11_isWord_20 rfl kX11_102 vJ0_length_8abf5 (Nat.le_of_ble_eq_true rfl) rfl rfl rfl (Nat.le_of_ble_eq_true rfl) ?_
      refine h_length (i := a1) ha1 ?_
      show Go SR mX11_isWord 23 [(0, .ref 0), (1, .ref (1000 + a1))] [.int (Int32.ofNat (lenST.getD a1 0)), .int (wi w 0 8)] w Q
      refine g_icmp_eq (pc := 23) (tgt := 28) dX11_isWord_23 (by decide) (fun q => ?_) (fun q => ?_)
      · have h := h.1 q
        refine g_iconst (pc := 28) dX11_isWord_28 c_1 ?_
        refine g_istore_n (pc := 29) (lv2 := [(0, .ref 0), (1, .ref (1000 + a1)), (2, .int 1)]) dX11_isWord_29 rfl (Nat.le_of_ble_eq_true rfl) rfl ?_
        refine g_iconst (pc := 30) dX11_isWord_30 c_0 ?_
        refine g_istore_n (pc := 31) (lv2 := [(0, .ref 0), (1, .ref (1000 + a1)), (2, .int 1), (3, .int 0)]) dX11_isWord_31 rfl (Nat.le_of_ble_eq_true rfl) rfl ?_
        exact h
      · have h := h.2 q
        refine g_iconst (pc := 26) dX11_isWord_26 c_0 ?_
        exact g_bret (pc := 27) dX11_isWord_27 rfl (Or.inl rfl) h
set_option maxHeartbeats 4000000 in
set_option maxRecDepth 100000 in
theorem BX11_isWord_32 (a1 : Nat) (ha1 : a1 < nST) (l2 : Int32) (l3 : Int32) (w : Wd) (hR : w.2.2 = RM) (Q : Option Value → Wd → Prop) (h : (((wi w 0 8) ≤ l3 → (l2 = 0 ∨ l2 = 1) ∧ Q (some (.int l2)) w) ∧ (¬ ((wi w 0 8) ≤ l3) → ((l2 = 0 → Go SR mX11_isWord 32 [(0, .ref 0), (1, .ref (1000 + a1)), (2, .int 0), (3, .int (l3 + 1))] [] w Q) ∧ (¬ (l2 = 0) → vp_in l3 12 ∧ vp_in l3 (lenST.getD a1 0) ∧ Go SR mX11_isWord 32 [(0, .ref 0), (1, .ref (1000 + a1)), (2, .int (if (wi w 2 l3.toNatClampNeg) = (chST a1 l3) then 1 else 0 : Int32)), (3, .int (l3 + 1))] [] w Q))))) : Go SR mX11_isWord 32 [(0, .ref 0), (1, .ref (1000 + a1)), (2, .int l2), (3, .int l3)] [] w Q := by
  refine g_iload_n (pc := 32) dX11_isWord_32 rfl 3 rfl ?_
  refine g_aload_n (pc := 33) dX11_isWord_33 rfl 0 rfl ?_
  refine g_getI (pc := 34) (a := 0) dX11_isWord_34 rfl fX11_79 rfl ?_
  refine g_icmp_ge (pc := 37) (tgt := 70) dX11_isWord_37 (by decide) (fun q => ?_) (fun q => ?_)
  · have h := h.1 q
    refine g_iload_n (pc := 70) dX11_isWord_70 rfl 2 rfl ?_
    exact g_bret (pc := 71) dX11_isWord_71 rfl h.1 h.2
  · have h := h.2 q
    refine g_iload_n (pc := 40) dX11_isWord_40 rfl 2 rfl ?_
    refine g_if_eq (pc := 41) (tgt := 62) dX11_isWord_41 (by decide) (fun q => ?_) (fun q => ?_)
    · have h := h.1 q
      refine g_iconst (pc := 62) dX11_isWord_62 c_0 ?_
      refine g_istore_n (pc := 63) (lv2 := [(0, .ref 0), (1, .ref (1000 + a1)), (2, .int 0), (3, .int l3)]) dX11_isWord_63 rfl (Nat.le_of_ble_eq_true rfl) rfl ?_
      refine g_iinc (pc := 64) (v := l3 + 1) (lv2 := [(0, .ref 0), (1, .ref (1000 + a1)), (2, .int 0), (3, .int (l3 + 1))]) dX11_isWord_64 3 rfl (Nat.le_of_ble_eq_true rfl) rfl rfl ?_
      refine g_goto (pc := 67) (tgt := 32) dX11_isWord_67 (by decide) ?_
      exact h
    · have h := h.2 q
      refine g_aload_n (pc := 44) dX11_isWord_44 rfl 0 rfl ?_
      refine g_getR (pc := 45) (a := 0) (b := 2) dX11_isWord_45 rfl fX11_17 rfl (rm_12 hR) ?_
      refine g_iload_n (pc := 48) dX11_isWord_48 rfl 3 rfl ?_
      obtain ⟨hi1, h⟩ := h
      refine g_iald (pc := 49) (a := 2) (j := l3.toNatClampNeg) dX11_isWord_49 rfl hi1 rfl ?_
      refine g_aload_n (pc := 50) dX11_isWord_50 rfl 1 rfl ?_
      refine g_iload_n (pc := 51) dX11_isWord_51 rfl 3 rfl ?_
      refine g_callStr (pc := 52) (M' := mJ0_charAt_5068e) (n := 1) (i := a1) (as := [.int l3]) (st := [.int (wi w 2 l3.toNatClampNeg)]) ha1 dX11_isWord_52 rfl kX11_108 vJ0_charAt_5068e (Nat.le_of_ble_eq_true rfl) rfl rfl rfl (Nat.le_of_ble_eq_true rfl) ?_
      obtain ⟨hi2, h⟩ := h
      refine h_charAt (i := a1) (k := l3) ha1 hi2 ?_
      show Go SR mX11_isWord 55 [(0, .ref 0), (1, .ref (1000 + a1)), (2, .int l2), (3, .int l3)] [.int (chST a1 l3), .int (wi w 2 l3.toNatClampNeg)] w Q
      have hJ : Go SR mX11_isWord 63 [(0, .ref 0), (1, .ref (1000 + a1)), (2, .int l2), (3, .int l3)] [.int (if (wi w 2 l3.toNatClampNeg) = (chST a1 l3) then 1 else 0 : Int32)] w Q := by
        refine g_istore_n (pc := 63) (lv2 := [(0, .ref 0), (1, .ref (1000 + a1)), (2, .int (if (wi w 2 l3.toNatClampNeg) = (chST a1 l3) then 1 else 0 : Int32)), (3, .int l3)]) dX11_isWord_63 rfl (Nat.le_of_ble_eq_true rfl) rfl ?_
        refine g_iinc (pc := 64) (v := l3 + 1) (lv2 := [(0, .ref 0), (1, .ref (1000 + a1)), (2, .int (if (wi w 2 l3.toNatClampNeg) = (chST a1 l3) then 1 else 0 : Int32)), (3, .int (l3 + 1))]) dX11_isWord_64 3 rfl (Nat.le_of_ble_eq_true rfl) rfl rfl ?_
        refine g_goto (pc := 67) (tgt := 32) dX11_isWord_67 (by decide) ?_
        exact h
      refine g_icmp_ne (pc := 55) (tgt := 62) dX11_isWord_55 (by decide) (fun q55 => ?_) (fun q55 => ?_)
      · refine g_iconst (pc := 62) dX11_isWord_62 c_0 ?_
        first | (exfalso; contradiction) | exact cast (by simp only [if_neg q55]) hJ
      · refine g_iconst (pc := 58) dX11_isWord_58 c_1 ?_
        refine g_goto (pc := 59) (tgt := 63) dX11_isWord_59 (by decide) ?_
        first | (exfalso; contradiction) | exact cast (by simp only [if_pos q55]) hJ
set_option maxHeartbeats 4000000 in
set_option maxRecDepth 100000 in
theorem TX11_takesWord (a1 : Nat) (ha1 : a1 < nST) (w : Wd) (hR : w.2.2 = RM) (Q : Option Value → Wd → Prop) (h : ClI SR mX11_isWord [.ref 0, .ref (1000 + a1)] w (fun x2 w1 => w1.2.2 = RM ∧ ((x2 = 0 → Q (some (.int 0)) w1) ∧ (¬ (x2 = 0) → ClV SR mX11_next [.ref 0] w1 (fun w3 => w3.2.2 = RM ∧ Q (some (.int 1)) w3))))) : Cl SR mX11_takesWord [.ref 0, .ref (1000 + a1)] w Q := by
  refine cl_of (by decide) (Nat.le_of_ble_eq_true rfl) ?_
  show Go SR mX11_takesWord 0 [(0, .ref 0), (1, .ref (1000 + a1))] [] w Q
  refine g_aload_n (pc := 0) dX11_takesWord_0 rfl 0 rfl ?_
  refine g_aload_n (pc := 1) dX11_takesWord_1 rfl 1 rfl ?_
  refine g_callV (pc := 2) (M' := mX11_isWord) (n := 1) (a := 0) (as := [.ref (1000 + a1)]) (st := []) dX11_takesWord_2 rfl kX11_112 vX11_isWord (Nat.le_of_ble_eq_true rfl) rfl qX11 rfl rfl (Nat.le_of_ble_eq_true rfl) ?_
  refine cl_mono (fun r w1 hr => ?_) h
  obtain ⟨x2, rfl, hw1, h⟩ := hr
  show Go SR mX11_takesWord 5 [(0, .ref 0), (1, .ref (1000 + a1))] [.int x2] w1 Q
  refine g_if_ne (pc := 5) (tgt := 10) dX11_takesWord_5 (by decide) (fun q => ?_) (fun q => ?_)
  · have h := h.2 q
    refine g_aload_n (pc := 10) dX11_takesWord_10 rfl 0 rfl ?_
    refine g_callV (pc := 11) (M' := mX11_next) (n := 0) (a := 0) (as := []) (st := []) dX11_takesWord_11 rfl kX11_116 vX11_next (Nat.le_of_ble_eq_true rfl) rfl qX11 rfl rfl (Nat.le_of_ble_eq_true rfl) ?_
    refine cl_mono (fun r w3 hr => ?_) h
    obtain ⟨rfl, hw3, h⟩ := hr
    show Go SR mX11_takesWord 14 [(0, .ref 0), (1, .ref (1000 + a1))] [] w3 Q
    refine g_iconst (pc := 14) dX11_takesWord_14 c_1 ?_
    exact g_bret (pc := 15) dX11_takesWord_15 rfl (Or.inr rfl) h
  · have h := h.1 q
    refine g_iconst (pc := 8) dX11_takesWord_8 c_0 ?_
    exact g_bret (pc := 9) dX11_takesWord_9 rfl (Or.inl rfl) h
set_option maxHeartbeats 4000000 in
set_option maxRecDepth 100000 in
theorem TX11_must (a1 : Nat) (ha1 : a1 < nST) (w : Wd) (hR : w.2.2 = RM) (Q : Option Value → Wd → Prop) (h : (((wi w 0 13) = 0 → ClI SR mX11_takesWord [.ref 0, .ref (1000 + a1)] w (fun x2 w1 => w1.2.2 = RM ∧ ((x2 = 0 → Q none (wXX11_wrong 1 (wi w1 0 4) w1)) ∧ (¬ (x2 = 0) → Q none w1)))) ∧ (¬ ((wi w 0 13) = 0) → Q none w))) : Cl SR mX11_must [.ref 0, .ref (1000 + a1)] w Q := by
  refine cl_of (by decide) (Nat.le_of_ble_eq_true rfl) ?_
  show Go SR mX11_must 0 [(0, .ref 0), (1, .ref (1000 + a1))] [] w Q
  refine g_aload_n (pc := 0) dX11_must_0 rfl 0 rfl ?_
  refine g_getZ (pc := 1) (a := 0) dX11_must_1 rfl fX11_95 rfl ?_
  refine g_if_ne (pc := 4) (tgt := 24) dX11_must_4 (by decide) (fun q => ?_) (fun q => ?_)
  · have h := h.2 q
    exact g_vret (pc := 24) dX11_must_24 rfl h
  · have h := h.1 q
    refine g_aload_n (pc := 7) dX11_must_7 rfl 0 rfl ?_
    refine g_aload_n (pc := 8) dX11_must_8 rfl 1 rfl ?_
    refine g_callV (pc := 9) (M' := mX11_takesWord) (n := 1) (a := 0) (as := [.ref (1000 + a1)]) (st := []) dX11_must_9 rfl kX11_119 vX11_takesWord (Nat.le_of_ble_eq_true rfl) rfl qX11 rfl rfl (Nat.le_of_ble_eq_true rfl) ?_
    refine cl_mono (fun r w1 hr => ?_) h
    obtain ⟨x2, rfl, hw1, h⟩ := hr
    show Go SR mX11_must 12 [(0, .ref 0), (1, .ref (1000 + a1))] [.int x2] w1 Q
    refine g_if_ne (pc := 12) (tgt := 24) dX11_must_12 (by decide) (fun q => ?_) (fun q => ?_)
    · have h := h.2 q
      exact g_vret (pc := 24) dX11_must_24 rfl h
    · have h := h.1 q
      refine g_aload_n (pc := 15) dX11_must_15 rfl 0 rfl ?_
      refine g_iconst (pc := 16) dX11_must_16 c_1 ?_
      refine g_aload_n (pc := 17) dX11_must_17 rfl 0 rfl ?_
      refine g_getI (pc := 18) (a := 0) dX11_must_18 rfl fX11_76 rfl ?_
      refine g_callV (pc := 21) (M' := mX11_wrong) (n := 2) (a := 0) (as := [.int 1, .int (wi w1 0 4)]) (st := []) dX11_must_21 rfl kX11_122 vX11_wrong (Nat.le_of_ble_eq_true rfl) rfl qX11 rfl rfl (Nat.le_of_ble_eq_true rfl) ?_
      refine zX11_wrong (a1 := 1) (a2 := (wi w1 0 4)) (w := w1) (hR := hw1) ?_
      show Go SR mX11_must 24 [(0, .ref 0), (1, .ref (1000 + a1))] [] (wXX11_wrong 1 (wi w1 0 4) w1) Q
      exact g_vret (pc := 24) dX11_must_24 rfl h
set_option maxHeartbeats 4000000 in
set_option maxRecDepth 100000 in
theorem TX11_mustName  (w : Wd) (hR : w.2.2 = RM) (Q : Option Value → Wd → Prop) (h : (((wi w 0 6) = 2 → ((8 < (wi w 0 8) → Q none (wXX11_wrong 1 (wi w 0 4) w)) ∧ (¬ (8 < (wi w 0 8)) → ClI SR mX11_isWord [.ref 0, .ref 1000] w (fun x2 w1 => w1.2.2 = RM ∧ ((x2 = 0 → ClI SR mX11_isWord [.ref 0, .ref 1001] w1 (fun x4 w3 => w3.2.2 = RM ∧ ((x4 = 0 → ClI SR mX11_isWord [.ref 0, .ref 1002] w3 (fun x6 w5 => w5.2.2 = RM ∧ ((x6 = 0 → ClI SR mX11_isWord [.ref 0, .ref 1003] w5 (fun x8 w7 => w7.2.2 = RM ∧ ((x8 = 0 → Q none w7) ∧ (¬ (x8 = 0) → Q none (wXX11_wrong 1 (wi w7 0 4) w7))))) ∧ (¬ (x6 = 0) → Q none (wXX11_wrong 1 (wi w5 0 4) w5))))) ∧ (¬ (x4 = 0) → Q none (wXX11_wrong 1 (wi w3 0 4) w3))))) ∧ (¬ (x2 = 0) → Q none (wXX11_wrong 1 (wi w1 0 4) w1))))))) ∧ (¬ ((wi w 0 6) = 2) → Q none (wXX11_wrong 1 (wi w 0 4) w)))) : Cl SR mX11_mustName [.ref 0] w Q := by
  refine cl_of (by decide) (Nat.le_of_ble_eq_true rfl) ?_
  show Go SR mX11_mustName 0 [(0, .ref 0)] [] w Q
  refine g_aload_n (pc := 0) dX11_mustName_0 rfl 0 rfl ?_
  refine g_getI (pc := 1) (a := 0) dX11_mustName_1 rfl fX11_85 rfl ?_
  refine g_iconst (pc := 4) dX11_mustName_4 c_2 ?_
  refine g_icmp_ne (pc := 5) (tgt := 53) dX11_mustName_5 (by decide) (fun q => ?_) (fun q => ?_)
  · have h := h.2 q
    refine g_aload_n (pc := 53) dX11_mustName_53 rfl 0 rfl ?_
    refine g_iconst (pc := 54) dX11_mustName_54 c_1 ?_
    refine g_aload_n (pc := 55) dX11_mustName_55 rfl 0 rfl ?_
    refine g_getI (pc := 56) (a := 0) dX11_mustName_56 rfl fX11_76 rfl ?_
    refine g_callV (pc := 59) (M' := mX11_wrong) (n := 2) (a := 0) (as := [.int 1, .int (wi w 0 4)]) (st := []) dX11_mustName_59 rfl kX11_122 vX11_wrong (Nat.le_of_ble_eq_true rfl) rfl qX11 rfl rfl (Nat.le_of_ble_eq_true rfl) ?_
    refine zX11_wrong (a1 := 1) (a2 := (wi w 0 4)) (w := w) (hR := hR) ?_
    show Go SR mX11_mustName 62 [(0, .ref 0)] [] (wXX11_wrong 1 (wi w 0 4) w) Q
    exact g_vret (pc := 62) dX11_mustName_62 rfl h
  · have h := h.1 q
    refine g_aload_n (pc := 8) dX11_mustName_8 rfl 0 rfl ?_
    refine g_getI (pc := 9) (a := 0) dX11_mustName_9 rfl fX11_79 rfl ?_
    refine g_bipush (pc := 12) (v := 8) dX11_mustName_12 (by decide) ?_
    refine g_icmp_gt (pc := 14) (tgt := 53) dX11_mustName_14 (by decide) (fun q => ?_) (fun q => ?_)
    · have h := h.1 q
      refine g_aload_n (pc := 53) dX11_mustName_53 rfl 0 rfl ?_
      refine g_iconst (pc := 54) dX11_mustName_54 c_1 ?_
      refine g_aload_n (pc := 55) dX11_mustName_55 rfl 0 rfl ?_
      refine g_getI (pc := 56) (a := 0) dX11_mustName_56 rfl fX11_76 rfl ?_
      refine g_callV (pc := 59) (M' := mX11_wrong) (n := 2) (a := 0) (as := [.int 1, .int (wi w 0 4)]) (st := []) dX11_mustName_59 rfl kX11_122 vX11_wrong (Nat.le_of_ble_eq_true rfl) rfl qX11 rfl rfl (Nat.le_of_ble_eq_true rfl) ?_
      refine zX11_wrong (a1 := 1) (a2 := (wi w 0 4)) (w := w) (hR := hR) ?_
      show Go SR mX11_mustName 62 [(0, .ref 0)] [] (wXX11_wrong 1 (wi w 0 4) w) Q
      exact g_vret (pc := 62) dX11_mustName_62 rfl h
    · have h := h.2 q
      refine g_aload_n (pc := 17) dX11_mustName_17 rfl 0 rfl ?_
      refine g_ldcS (pc := 18) (i := 0) (tx := "hall") dX11_mustName_18 rfl (by decide) ?_
      refine g_callV (pc := 20) (M' := mX11_isWord) (n := 1) (a := 0) (as := [.ref 1000]) (st := []) dX11_mustName_20 rfl kX11_112 vX11_isWord (Nat.le_of_ble_eq_true rfl) rfl qX11 rfl rfl (Nat.le_of_ble_eq_true rfl) ?_
      refine cl_mono (fun r w1 hr => ?_) h
      obtain ⟨x2, rfl, hw1, h⟩ := hr
      show Go SR mX11_mustName 23 [(0, .ref 0)] [.int x2] w1 Q
      refine g_if_ne (pc := 23) (tgt := 53) dX11_mustName_23 (by decide) (fun q => ?_) (fun q => ?_)
      · have h := h.2 q
        refine g_aload_n (pc := 53) dX11_mustName_53 rfl 0 rfl ?_
        refine g_iconst (pc := 54) dX11_mustName_54 c_1 ?_
        refine g_aload_n (pc := 55) dX11_mustName_55 rfl 0 rfl ?_
        refine g_getI (pc := 56) (a := 0) dX11_mustName_56 rfl fX11_76 rfl ?_
        refine g_callV (pc := 59) (M' := mX11_wrong) (n := 2) (a := 0) (as := [.int 1, .int (wi w1 0 4)]) (st := []) dX11_mustName_59 rfl kX11_122 vX11_wrong (Nat.le_of_ble_eq_true rfl) rfl qX11 rfl rfl (Nat.le_of_ble_eq_true rfl) ?_
        refine zX11_wrong (a1 := 1) (a2 := (wi w1 0 4)) (w := w1) (hR := hw1) ?_
        show Go SR mX11_mustName 62 [(0, .ref 0)] [] (wXX11_wrong 1 (wi w1 0 4) w1) Q
        exact g_vret (pc := 62) dX11_mustName_62 rfl h
      · have h := h.1 q
        refine g_aload_n (pc := 26) dX11_mustName_26 rfl 0 rfl ?_
        refine g_ldcS (pc := 27) (i := 1) (tx := "dance") dX11_mustName_27 rfl (by decide) ?_
        refine g_callV (pc := 29) (M' := mX11_isWord) (n := 1) (a := 0) (as := [.ref 1001]) (st := []) dX11_mustName_29 rfl kX11_112 vX11_isWord (Nat.le_of_ble_eq_true rfl) rfl qX11 rfl rfl (Nat.le_of_ble_eq_true rfl) ?_
        refine cl_mono (fun r w3 hr => ?_) h
        obtain ⟨x4, rfl, hw3, h⟩ := hr
        show Go SR mX11_mustName 32 [(0, .ref 0)] [.int x4] w3 Q
        refine g_if_ne (pc := 32) (tgt := 53) dX11_mustName_32 (by decide) (fun q => ?_) (fun q => ?_)
        · have h := h.2 q
          refine g_aload_n (pc := 53) dX11_mustName_53 rfl 0 rfl ?_
          refine g_iconst (pc := 54) dX11_mustName_54 c_1 ?_
          refine g_aload_n (pc := 55) dX11_mustName_55 rfl 0 rfl ?_
          refine g_getI (pc := 56) (a := 0) dX11_mustName_56 rfl fX11_76 rfl ?_
          refine g_callV (pc := 59) (M' := mX11_wrong) (n := 2) (a := 0) (as := [.int 1, .int (wi w3 0 4)]) (st := []) dX11_mustName_59 rfl kX11_122 vX11_wrong (Nat.le_of_ble_eq_true rfl) rfl qX11 rfl rfl (Nat.le_of_ble_eq_true rfl) ?_
          refine zX11_wrong (a1 := 1) (a2 := (wi w3 0 4)) (w := w3) (hR := hw3) ?_
          show Go SR mX11_mustName 62 [(0, .ref 0)] [] (wXX11_wrong 1 (wi w3 0 4) w3) Q
          exact g_vret (pc := 62) dX11_mustName_62 rfl h
        · have h := h.1 q
          refine g_aload_n (pc := 35) dX11_mustName_35 rfl 0 rfl ?_
          refine g_ldcS (pc := 36) (i := 2) (tx := "unsure") dX11_mustName_36 rfl (by decide) ?_
          refine g_callV (pc := 38) (M' := mX11_isWord) (n := 1) (a := 0) (as := [.ref 1002]) (st := []) dX11_mustName_38 rfl kX11_112 vX11_isWord (Nat.le_of_ble_eq_true rfl) rfl qX11 rfl rfl (Nat.le_of_ble_eq_true rfl) ?_
          refine cl_mono (fun r w5 hr => ?_) h
          obtain ⟨x6, rfl, hw5, h⟩ := hr
          show Go SR mX11_mustName 41 [(0, .ref 0)] [.int x6] w5 Q
          refine g_if_ne (pc := 41) (tgt := 53) dX11_mustName_41 (by decide) (fun q => ?_) (fun q => ?_)
          · have h := h.2 q
            refine g_aload_n (pc := 53) dX11_mustName_53 rfl 0 rfl ?_
            refine g_iconst (pc := 54) dX11_mustName_54 c_1 ?_
            refine g_aload_n (pc := 55) dX11_mustName_55 rfl 0 rfl ?_
            refine g_getI (pc := 56) (a := 0) dX11_mustName_56 rfl fX11_76 rfl ?_
            refine g_callV (pc := 59) (M' := mX11_wrong) (n := 2) (a := 0) (as := [.int 1, .int (wi w5 0 4)]) (st := []) dX11_mustName_59 rfl kX11_122 vX11_wrong (Nat.le_of_ble_eq_true rfl) rfl qX11 rfl rfl (Nat.le_of_ble_eq_true rfl) ?_
            refine zX11_wrong (a1 := 1) (a2 := (wi w5 0 4)) (w := w5) (hR := hw5) ?_
            show Go SR mX11_mustName 62 [(0, .ref 0)] [] (wXX11_wrong 1 (wi w5 0 4) w5) Q
            exact g_vret (pc := 62) dX11_mustName_62 rfl h
          · have h := h.1 q
            refine g_aload_n (pc := 44) dX11_mustName_44 rfl 0 rfl ?_
            refine g_ldcS (pc := 45) (i := 3) (tx := "seen") dX11_mustName_45 rfl (by decide) ?_
            refine g_callV (pc := 47) (M' := mX11_isWord) (n := 1) (a := 0) (as := [.ref 1003]) (st := []) dX11_mustName_47 rfl kX11_112 vX11_isWord (Nat.le_of_ble_eq_true rfl) rfl qX11 rfl rfl (Nat.le_of_ble_eq_true rfl) ?_
            refine cl_mono (fun r w7 hr => ?_) h
            obtain ⟨x8, rfl, hw7, h⟩ := hr
            show Go SR mX11_mustName 50 [(0, .ref 0)] [.int x8] w7 Q
            refine g_if_eq (pc := 50) (tgt := 62) dX11_mustName_50 (by decide) (fun q => ?_) (fun q => ?_)
            · have h := h.1 q
              exact g_vret (pc := 62) dX11_mustName_62 rfl h
            · have h := h.2 q
              refine g_aload_n (pc := 53) dX11_mustName_53 rfl 0 rfl ?_
              refine g_iconst (pc := 54) dX11_mustName_54 c_1 ?_
              refine g_aload_n (pc := 55) dX11_mustName_55 rfl 0 rfl ?_
              refine g_getI (pc := 56) (a := 0) dX11_mustName_56 rfl fX11_76 rfl ?_
              refine g_callV (pc := 59) (M' := mX11_wrong) (n := 2) (a := 0) (as := [.int 1, .int (wi w7 0 4)]) (st := []) dX11_mustName_59 rfl kX11_122 vX11_wrong (Nat.le_of_ble_eq_true rfl) rfl qX11 rfl rfl (Nat.le_of_ble_eq_true rfl) ?_
              refine zX11_wrong (a1 := 1) (a2 := (wi w7 0 4)) (w := w7) (hR := hw7) ?_
              show Go SR mX11_mustName 62 [(0, .ref 0)] [] (wXX11_wrong 1 (wi w7 0 4) w7) Q
              exact g_vret (pc := 62) dX11_mustName_62 rfl h
set_option maxHeartbeats 4000000 in
set_option maxRecDepth 100000 in
theorem TX11_find  (w : Wd) (hR : w.2.2 = RM) (Q : Option Value → Wd → Prop) (h : Go SR mX11_find 2 [(0, .ref 0), (1, .int 0)] [] w Q) : Cl SR mX11_find [.ref 0] w Q := by
  refine cl_of (by decide) (Nat.le_of_ble_eq_true rfl) ?_
  show Go SR mX11_find 0 [(0, .ref 0)] [] w Q
  refine g_iconst (pc := 0) dX11_find_0 c_0 ?_
  refine g_istore_n (pc := 1) (lv2 := [(0, .ref 0), (1, .int 0)]) dX11_find_1 rfl (Nat.le_of_ble_eq_true rfl) rfl ?_
  exact h
set_option maxHeartbeats 4000000 in
set_option maxRecDepth 100000 in
theorem BX11_find_2  (l1 : Int32) (w : Wd) (hR : w.2.2 = RM) (Q : Option Value → Wd → Prop) (h : ((5 ≤ l1 → Q (some (.int (-1))) w) ∧ (¬ (5 ≤ l1) → vp_in (101 + l1) 146 ∧ (((wi w 4 ((101 + l1).toNatClampNeg)) ≤ 0 → Go SR mX11_find 43 [(0, .ref 0), (1, .int l1), (2, .int 0), (3, .int 0)] [] w Q) ∧ (¬ ((wi w 4 ((101 + l1).toNatClampNeg)) ≤ 0) → vp_in (101 + l1) 146 ∧ Go SR mX11_find 43 [(0, .ref 0), (1, .int l1), (2, .int (if (wi w 4 ((101 + l1).toNatClampNeg)) = (wi w 0 8) then 1 else 0 : Int32)), (3, .int 0)] [] w Q))))) : Go SR mX11_find 2 [(0, .ref 0), (1, .int l1)] [] w Q := by
  refine g_iload_n (pc := 2) dX11_find_2 rfl 1 rfl ?_
  refine g_iconst (pc := 3) dX11_find_3 c_5 ?_
  refine g_icmp_ge (pc := 4) (tgt := 102) dX11_find_4 (by decide) (fun q => ?_) (fun q => ?_)
  · have h := h.1 q
    refine g_iconst (pc := 102) dX11_find_102 cN_1 ?_
    exact g_iret (pc := 103) dX11_find_103 rfl h
  · have h := h.2 q
    refine g_aload_n (pc := 7) dX11_find_7 rfl 0 rfl ?_
    refine g_getR (pc := 8) (a := 0) (b := 4) dX11_find_8 rfl fX11_23 rfl (rm_17 hR) ?_
    refine g_bipush (pc := 11) (v := 101) dX11_find_11 (by decide) ?_
    refine g_iload_n (pc := 13) dX11_find_13 rfl 1 rfl ?_
    refine g_iadd (pc := 14) dX11_find_14 ?_
    obtain ⟨hi1, h⟩ := h
    refine g_iald (pc := 15) (a := 4) (j := (101 + l1).toNatClampNeg) dX11_find_15 rfl hi1 rfl ?_
    refine g_if_le (pc := 16) (tgt := 39) dX11_find_16 (by decide) (fun q => ?_) (fun q => ?_)
    · have h := h.1 q
      refine g_iconst (pc := 39) dX11_find_39 c_0 ?_
      refine g_istore_n (pc := 40) (lv2 := [(0, .ref 0), (1, .int l1), (2, .int 0)]) dX11_find_40 rfl (Nat.le_of_ble_eq_true rfl) rfl ?_
      refine g_iconst (pc := 41) dX11_find_41 c_0 ?_
      refine g_istore_n (pc := 42) (lv2 := [(0, .ref 0), (1, .int l1), (2, .int 0), (3, .int 0)]) dX11_find_42 rfl (Nat.le_of_ble_eq_true rfl) rfl ?_
      exact h
    · have h := h.2 q
      refine g_aload_n (pc := 19) dX11_find_19 rfl 0 rfl ?_
      refine g_getR (pc := 20) (a := 0) (b := 4) dX11_find_20 rfl fX11_23 rfl (rm_17 hR) ?_
      refine g_bipush (pc := 23) (v := 101) dX11_find_23 (by decide) ?_
      refine g_iload_n (pc := 25) dX11_find_25 rfl 1 rfl ?_
      refine g_iadd (pc := 26) dX11_find_26 ?_
      obtain ⟨hi2, h⟩ := h
      refine g_iald (pc := 27) (a := 4) (j := (101 + l1).toNatClampNeg) dX11_find_27 rfl hi2 rfl ?_
      refine g_aload_n (pc := 28) dX11_find_28 rfl 0 rfl ?_
      refine g_getI (pc := 29) (a := 0) dX11_find_29 rfl fX11_79 rfl ?_
      have hJ : Go SR mX11_find 40 [(0, .ref 0), (1, .int l1)] [.int (if (wi w 4 ((101 + l1).toNatClampNeg)) = (wi w 0 8) then 1 else 0 : Int32)] w Q := by
        refine g_istore_n (pc := 40) (lv2 := [(0, .ref 0), (1, .int l1), (2, .int (if (wi w 4 ((101 + l1).toNatClampNeg)) = (wi w 0 8) then 1 else 0 : Int32))]) dX11_find_40 rfl (Nat.le_of_ble_eq_true rfl) rfl ?_
        refine g_iconst (pc := 41) dX11_find_41 c_0 ?_
        refine g_istore_n (pc := 42) (lv2 := [(0, .ref 0), (1, .int l1), (2, .int (if (wi w 4 ((101 + l1).toNatClampNeg)) = (wi w 0 8) then 1 else 0 : Int32)), (3, .int 0)]) dX11_find_42 rfl (Nat.le_of_ble_eq_true rfl) rfl ?_
        exact h
      refine g_icmp_ne (pc := 32) (tgt := 39) dX11_find_32 (by decide) (fun q32 => ?_) (fun q32 => ?_)
      · refine g_iconst (pc := 39) dX11_find_39 c_0 ?_
        first | (exfalso; contradiction) | exact cast (by simp only [if_neg q32]) hJ
      · refine g_iconst (pc := 35) dX11_find_35 c_1 ?_
        refine g_goto (pc := 36) (tgt := 40) dX11_find_36 (by decide) ?_
        first | (exfalso; contradiction) | exact cast (by simp only [if_pos q32]) hJ
set_option maxHeartbeats 4000000 in
set_option maxRecDepth 100000 in
theorem BX11_find_43  (l1 : Int32) (l2 : Int32) (l3 : Int32) (w : Wd) (hR : w.2.2 = RM) (Q : Option Value → Wd → Prop) (h : (((wi w 0 8) ≤ l3 → ((l2 = 0 → Go SR mX11_find 2 [(0, .ref 0), (1, .int (l1 + 1))] [] w Q) ∧ (¬ (l2 = 0) → Q (some (.int l1)) w))) ∧ (¬ ((wi w 0 8) ≤ l3) → ((l2 = 0 → ((l2 = 0 → Go SR mX11_find 2 [(0, .ref 0), (1, .int (l1 + 1))] [] w Q) ∧ (¬ (l2 = 0) → Q (some (.int l1)) w))) ∧ (¬ (l2 = 0) → vp_in ((106 + (8 * l1)) + l3) 146 ∧ vp_in l3 12 ∧ Go SR mX11_find 43 [(0, .ref 0), (1, .int l1), (2, .int (if (wi w 4 (((106 + (8 * l1)) + l3).toNatClampNeg)) = (wi w 2 l3.toNatClampNeg) then 1 else 0 : Int32)), (3, .int (l3 + 1))] [] w Q))))) : Go SR mX11_find 43 [(0, .ref 0), (1, .int l1), (2, .int l2), (3, .int l3)] [] w Q := by
  refine g_iload_n (pc := 43) dX11_find_43 rfl 3 rfl ?_
  refine g_aload_n (pc := 44) dX11_find_44 rfl 0 rfl ?_
  refine g_getI (pc := 45) (a := 0) dX11_find_45 rfl fX11_79 rfl ?_
  refine g_icmp_ge (pc := 48) (tgt := 90) dX11_find_48 (by decide) (fun q => ?_) (fun q => ?_)
  · have h := h.1 q
    refine g_iload_n (pc := 90) dX11_find_90 rfl 2 rfl ?_
    refine g_if_eq (pc := 91) (tgt := 96) dX11_find_91 (by decide) (fun q => ?_) (fun q => ?_)
    · have h := h.1 q
      refine g_iinc (pc := 96) (v := l1 + 1) (lv2 := [(0, .ref 0), (1, .int (l1 + 1)), (2, .int l2), (3, .int l3)]) dX11_find_96 1 rfl (Nat.le_of_ble_eq_true rfl) rfl rfl ?_
      refine g_goto (pc := 99) (tgt := 2) dX11_find_99 (by decide) ?_
      refine g_sub (lv2 := [(0, .ref 0), (1, .int (l1 + 1))]) [0, 1] rfl ?_
      exact h
    · have h := h.2 q
      refine g_iload_n (pc := 94) dX11_find_94 rfl 1 rfl ?_
      exact g_iret (pc := 95) dX11_find_95 rfl h
  · have h := h.2 q
    refine g_iload_n (pc := 51) dX11_find_51 rfl 2 rfl ?_
    refine g_if_eq (pc := 52) (tgt := 90) dX11_find_52 (by decide) (fun q => ?_) (fun q => ?_)
    · have h := h.1 q
      refine g_iload_n (pc := 90) dX11_find_90 rfl 2 rfl ?_
      refine g_if_eq (pc := 91) (tgt := 96) dX11_find_91 (by decide) (fun q => ?_) (fun q => ?_)
      · have h := h.1 q
        refine g_iinc (pc := 96) (v := l1 + 1) (lv2 := [(0, .ref 0), (1, .int (l1 + 1)), (2, .int l2), (3, .int l3)]) dX11_find_96 1 rfl (Nat.le_of_ble_eq_true rfl) rfl rfl ?_
        refine g_goto (pc := 99) (tgt := 2) dX11_find_99 (by decide) ?_
        refine g_sub (lv2 := [(0, .ref 0), (1, .int (l1 + 1))]) [0, 1] rfl ?_
        exact h
      · have h := h.2 q
        refine g_iload_n (pc := 94) dX11_find_94 rfl 1 rfl ?_
        exact g_iret (pc := 95) dX11_find_95 rfl h
    · have h := h.2 q
      refine g_aload_n (pc := 55) dX11_find_55 rfl 0 rfl ?_
      refine g_getR (pc := 56) (a := 0) (b := 4) dX11_find_56 rfl fX11_23 rfl (rm_17 hR) ?_
      refine g_bipush (pc := 59) (v := 106) dX11_find_59 (by decide) ?_
      refine g_bipush (pc := 61) (v := 8) dX11_find_61 (by decide) ?_
      refine g_iload_n (pc := 63) dX11_find_63 rfl 1 rfl ?_
      refine g_imul (pc := 64) dX11_find_64 ?_
      refine g_iadd (pc := 65) dX11_find_65 ?_
      refine g_iload_n (pc := 66) dX11_find_66 rfl 3 rfl ?_
      refine g_iadd (pc := 67) dX11_find_67 ?_
      obtain ⟨hi1, h⟩ := h
      refine g_iald (pc := 68) (a := 4) (j := ((106 + (8 * l1)) + l3).toNatClampNeg) dX11_find_68 rfl hi1 rfl ?_
      refine g_aload_n (pc := 69) dX11_find_69 rfl 0 rfl ?_
      refine g_getR (pc := 70) (a := 0) (b := 2) dX11_find_70 rfl fX11_17 rfl (rm_12 hR) ?_
      refine g_iload_n (pc := 73) dX11_find_73 rfl 3 rfl ?_
      obtain ⟨hi2, h⟩ := h
      refine g_iald (pc := 74) (a := 2) (j := l3.toNatClampNeg) dX11_find_74 rfl hi2 rfl ?_
      have hJ : Go SR mX11_find 83 [(0, .ref 0), (1, .int l1), (2, .int l2), (3, .int l3)] [.int (if (wi w 4 (((106 + (8 * l1)) + l3).toNatClampNeg)) = (wi w 2 l3.toNatClampNeg) then 1 else 0 : Int32)] w Q := by
        refine g_istore_n (pc := 83) (lv2 := [(0, .ref 0), (1, .int l1), (2, .int (if (wi w 4 (((106 + (8 * l1)) + l3).toNatClampNeg)) = (wi w 2 l3.toNatClampNeg) then 1 else 0 : Int32)), (3, .int l3)]) dX11_find_83 rfl (Nat.le_of_ble_eq_true rfl) rfl ?_
        refine g_iinc (pc := 84) (v := l3 + 1) (lv2 := [(0, .ref 0), (1, .int l1), (2, .int (if (wi w 4 (((106 + (8 * l1)) + l3).toNatClampNeg)) = (wi w 2 l3.toNatClampNeg) then 1 else 0 : Int32)), (3, .int (l3 + 1))]) dX11_find_84 3 rfl (Nat.le_of_ble_eq_true rfl) rfl rfl ?_
        refine g_goto (pc := 87) (tgt := 43) dX11_find_87 (by decide) ?_
        exact h
      refine g_icmp_ne (pc := 75) (tgt := 82) dX11_find_75 (by decide) (fun q75 => ?_) (fun q75 => ?_)
      · refine g_iconst (pc := 82) dX11_find_82 c_0 ?_
        first | (exfalso; contradiction) | exact cast (by simp only [if_neg q75]) hJ
      · refine g_iconst (pc := 78) dX11_find_78 c_1 ?_
        refine g_goto (pc := 79) (tgt := 83) dX11_find_79 (by decide) ?_
        first | (exfalso; contradiction) | exact cast (by simp only [if_pos q75]) hJ
set_option maxHeartbeats 4000000 in
set_option maxRecDepth 100000 in
theorem TX11_newName (a1 : Int32) (w : Wd) (hR : w.2.2 = RM) (Q : Option Value → Wd → Prop) (h : (((wi w 0 13) = 0 → ClV SR mX11_mustName [.ref 0] w (fun w1 => w1.2.2 = RM ∧ (((wi w1 0 13) = 0 → ClI SR mX11_find [.ref 0] w1 (fun x3 w2 => w2.2.2 = RM ∧ ((x3 < 0 → (((wi w2 0 13) = 0 → Go SR mX11_newName 45 [(0, .ref 0), (1, .int a1), (2, .int 0)] [] w2 Q) ∧ (¬ ((wi w2 0 13) = 0) → Q none w2))) ∧ (¬ (x3 < 0) → (((wi (wXX11_wrong 3 (wi w2 0 4) w2) 0 13) = 0 → Go SR mX11_newName 45 [(0, .ref 0), (1, .int a1), (2, .int 0)] [] (wXX11_wrong 3 (wi w2 0 4) w2) Q) ∧ (¬ ((wi (wXX11_wrong 3 (wi w2 0 4) w2) 0 13) = 0) → Q none (wXX11_wrong 3 (wi w2 0 4) w2))))))) ∧ (¬ ((wi w1 0 13) = 0) → (((wi w1 0 13) = 0 → Go SR mX11_newName 45 [(0, .ref 0), (1, .int a1), (2, .int 0)] [] w1 Q) ∧ (¬ ((wi w1 0 13) = 0) → Q none w1)))))) ∧ (¬ ((wi w 0 13) = 0) → Q none w))) : Cl SR mX11_newName [.ref 0, .int a1] w Q := by
  refine cl_of (by decide) (Nat.le_of_ble_eq_true rfl) ?_
  show Go SR mX11_newName 0 [(0, .ref 0), (1, .int a1)] [] w Q
  refine g_aload_n (pc := 0) dX11_newName_0 rfl 0 rfl ?_
  refine g_getZ (pc := 1) (a := 0) dX11_newName_1 rfl fX11_95 rfl ?_
  refine g_if_eq (pc := 4) (tgt := 8) dX11_newName_4 (by decide) (fun q => ?_) (fun q => ?_)
  · have h := h.1 q
    refine g_aload_n (pc := 8) dX11_newName_8 rfl 0 rfl ?_
    refine g_callV (pc := 9) (M' := mX11_mustName) (n := 0) (a := 0) (as := []) (st := []) dX11_newName_9 rfl kX11_134 vX11_mustName (Nat.le_of_ble_eq_true rfl) rfl qX11 rfl rfl (Nat.le_of_ble_eq_true rfl) ?_
    refine cl_mono (fun r w1 hr => ?_) h
    obtain ⟨rfl, hw1, h⟩ := hr
    show Go SR mX11_newName 12 [(0, .ref 0), (1, .int a1)] [] w1 Q
    refine g_aload_n (pc := 12) dX11_newName_12 rfl 0 rfl ?_
    refine g_getZ (pc := 13) (a := 0) dX11_newName_13 rfl fX11_95 rfl ?_
    refine g_if_ne (pc := 16) (tgt := 35) dX11_newName_16 (by decide) (fun q => ?_) (fun q => ?_)
    · have h := h.2 q
      refine g_aload_n (pc := 35) dX11_newName_35 rfl 0 rfl ?_
      refine g_getZ (pc := 36) (a := 0) dX11_newName_36 rfl fX11_95 rfl ?_
      refine g_if_eq (pc := 39) (tgt := 43) dX11_newName_39 (by decide) (fun q => ?_) (fun q => ?_)
      · have h := h.1 q
        refine g_iconst (pc := 43) dX11_newName_43 c_0 ?_
        refine g_istore_n (pc := 44) (lv2 := [(0, .ref 0), (1, .int a1), (2, .int 0)]) dX11_newName_44 rfl (Nat.le_of_ble_eq_true rfl) rfl ?_
        exact h
      · have h := h.2 q
        exact g_vret (pc := 42) dX11_newName_42 rfl h
    · have h := h.1 q
      refine g_aload_n (pc := 19) dX11_newName_19 rfl 0 rfl ?_
      refine g_callV (pc := 20) (M' := mX11_find) (n := 0) (a := 0) (as := []) (st := []) dX11_newName_20 rfl kX11_137 vX11_find (Nat.le_of_ble_eq_true rfl) rfl qX11 rfl rfl (Nat.le_of_ble_eq_true rfl) ?_
      refine cl_mono (fun r w2 hr => ?_) h
      obtain ⟨x3, rfl, hw2, h⟩ := hr
      show Go SR mX11_newName 23 [(0, .ref 0), (1, .int a1)] [.int x3] w2 Q
      refine g_if_lt (pc := 23) (tgt := 35) dX11_newName_23 (by decide) (fun q => ?_) (fun q => ?_)
      · have h := h.1 q
        refine g_aload_n (pc := 35) dX11_newName_35 rfl 0 rfl ?_
        refine g_getZ (pc := 36) (a := 0) dX11_newName_36 rfl fX11_95 rfl ?_
        refine g_if_eq (pc := 39) (tgt := 43) dX11_newName_39 (by decide) (fun q => ?_) (fun q => ?_)
        · have h := h.1 q
          refine g_iconst (pc := 43) dX11_newName_43 c_0 ?_
          refine g_istore_n (pc := 44) (lv2 := [(0, .ref 0), (1, .int a1), (2, .int 0)]) dX11_newName_44 rfl (Nat.le_of_ble_eq_true rfl) rfl ?_
          exact h
        · have h := h.2 q
          exact g_vret (pc := 42) dX11_newName_42 rfl h
      · have h := h.2 q
        refine g_aload_n (pc := 26) dX11_newName_26 rfl 0 rfl ?_
        refine g_iconst (pc := 27) dX11_newName_27 c_3 ?_
        refine g_aload_n (pc := 28) dX11_newName_28 rfl 0 rfl ?_
        refine g_getI (pc := 29) (a := 0) dX11_newName_29 rfl fX11_76 rfl ?_
        refine g_callV (pc := 32) (M' := mX11_wrong) (n := 2) (a := 0) (as := [.int 3, .int (wi w2 0 4)]) (st := []) dX11_newName_32 rfl kX11_122 vX11_wrong (Nat.le_of_ble_eq_true rfl) rfl qX11 rfl rfl (Nat.le_of_ble_eq_true rfl) ?_
        refine zX11_wrong (a1 := 3) (a2 := (wi w2 0 4)) (w := w2) (hR := hw2) ?_
        show Go SR mX11_newName 35 [(0, .ref 0), (1, .int a1)] [] (wXX11_wrong 3 (wi w2 0 4) w2) Q
        refine g_aload_n (pc := 35) dX11_newName_35 rfl 0 rfl ?_
        refine g_getZ (pc := 36) (a := 0) dX11_newName_36 rfl fX11_95 rfl ?_
        refine g_if_eq (pc := 39) (tgt := 43) dX11_newName_39 (by decide) (fun q => ?_) (fun q => ?_)
        · have h := h.1 q
          refine g_iconst (pc := 43) dX11_newName_43 c_0 ?_
          refine g_istore_n (pc := 44) (lv2 := [(0, .ref 0), (1, .int a1), (2, .int 0)]) dX11_newName_44 rfl (Nat.le_of_ble_eq_true rfl) rfl ?_
          exact h
        · have h := h.2 q
          exact g_vret (pc := 42) dX11_newName_42 rfl h
  · have h := h.2 q
    exact g_vret (pc := 7) dX11_newName_7 rfl h
set_option maxHeartbeats 4000000 in
set_option maxRecDepth 100000 in
theorem BX11_newName_45  (l1 : Int32) (l2 : Int32) (w : Wd) (hR : w.2.2 = RM) (Q : Option Value → Wd → Prop) (h : (((wi w 0 8) ≤ l2 → vp_in (101 + l1) 146 ∧ ClV SR mX11_next [.ref 0] (si w 4 ((101 + l1).toNatClampNeg) (wi w 0 8)) (fun w2 => w2.2.2 = RM ∧ Q none w2)) ∧ (¬ ((wi w 0 8) ≤ l2) → vp_in l2 12 ∧ vp_in ((106 + (8 * l1)) + l2) 146 ∧ Go SR mX11_newName 45 [(0, .ref 0), (1, .int l1), (2, .int (l2 + 1))] [] (si w 4 (((106 + (8 * l1)) + l2).toNatClampNeg) (wi w 2 l2.toNatClampNeg)) Q))) : Go SR mX11_newName 45 [(0, .ref 0), (1, .int l1), (2, .int l2)] [] w Q := by
  refine g_iload_n (pc := 45) dX11_newName_45 rfl 2 rfl ?_
  refine g_aload_n (pc := 46) dX11_newName_46 rfl 0 rfl ?_
  refine g_getI (pc := 47) (a := 0) dX11_newName_47 rfl fX11_79 rfl ?_
  refine g_icmp_ge (pc := 50) (tgt := 79) dX11_newName_50 (by decide) (fun q => ?_) (fun q => ?_)
  · have h := h.1 q
    refine g_aload_n (pc := 79) dX11_newName_79 rfl 0 rfl ?_
    refine g_getR (pc := 80) (a := 0) (b := 4) dX11_newName_80 rfl fX11_23 rfl (rm_17 hR) ?_
    refine g_bipush (pc := 83) (v := 101) dX11_newName_83 (by decide) ?_
    refine g_iload_n (pc := 85) dX11_newName_85 rfl 1 rfl ?_
    refine g_iadd (pc := 86) dX11_newName_86 ?_
    refine g_aload_n (pc := 87) dX11_newName_87 rfl 0 rfl ?_
    refine g_getI (pc := 88) (a := 0) dX11_newName_88 rfl fX11_79 rfl ?_
    obtain ⟨hi1, h⟩ := h
    refine g_iast (pc := 91) (a := 4) (j := (101 + l1).toNatClampNeg) dX11_newName_91 rfl hi1 rfl ?_
    refine g_aload_n (pc := 92) dX11_newName_92 rfl 0 rfl ?_
    refine g_callV (pc := 93) (M' := mX11_next) (n := 0) (a := 0) (as := []) (st := []) dX11_newName_93 rfl kX11_116 vX11_next (Nat.le_of_ble_eq_true rfl) rfl qX11 rfl rfl (Nat.le_of_ble_eq_true rfl) ?_
    refine cl_mono (fun r w2 hr => ?_) h
    obtain ⟨rfl, hw2, h⟩ := hr
    show Go SR mX11_newName 96 [(0, .ref 0), (1, .int l1), (2, .int l2)] [] w2 Q
    exact g_vret (pc := 96) dX11_newName_96 rfl h
  · have h := h.2 q
    refine g_aload_n (pc := 53) dX11_newName_53 rfl 0 rfl ?_
    refine g_getR (pc := 54) (a := 0) (b := 4) dX11_newName_54 rfl fX11_23 rfl (rm_17 hR) ?_
    refine g_bipush (pc := 57) (v := 106) dX11_newName_57 (by decide) ?_
    refine g_bipush (pc := 59) (v := 8) dX11_newName_59 (by decide) ?_
    refine g_iload_n (pc := 61) dX11_newName_61 rfl 1 rfl ?_
    refine g_imul (pc := 62) dX11_newName_62 ?_
    refine g_iadd (pc := 63) dX11_newName_63 ?_
    refine g_iload_n (pc := 64) dX11_newName_64 rfl 2 rfl ?_
    refine g_iadd (pc := 65) dX11_newName_65 ?_
    refine g_aload_n (pc := 66) dX11_newName_66 rfl 0 rfl ?_
    refine g_getR (pc := 67) (a := 0) (b := 2) dX11_newName_67 rfl fX11_17 rfl (rm_12 hR) ?_
    refine g_iload_n (pc := 70) dX11_newName_70 rfl 2 rfl ?_
    obtain ⟨hi3, h⟩ := h
    refine g_iald (pc := 71) (a := 2) (j := l2.toNatClampNeg) dX11_newName_71 rfl hi3 rfl ?_
    obtain ⟨hi4, h⟩ := h
    refine g_iast (pc := 72) (a := 4) (j := ((106 + (8 * l1)) + l2).toNatClampNeg) dX11_newName_72 rfl hi4 rfl ?_
    refine g_iinc (pc := 73) (v := l2 + 1) (lv2 := [(0, .ref 0), (1, .int l1), (2, .int (l2 + 1))]) dX11_newName_73 2 rfl (Nat.le_of_ble_eq_true rfl) rfl rfl ?_
    refine g_goto (pc := 76) (tgt := 45) dX11_newName_76 (by decide) ?_
    exact h
set_option maxHeartbeats 4000000 in
set_option maxRecDepth 100000 in
theorem TX11_pass  (w : Wd) (hR : w.2.2 = RM) (Q : Option Value → Wd → Prop) (h : (((wi w 0 13) = 0 → ClV SR mX11_next [.ref 0] w (fun w1 => w1.2.2 = RM ∧ Q none w1)) ∧ (¬ ((wi w 0 13) = 0) → Q none w))) : Cl SR mX11_pass [.ref 0] w Q := by
  refine cl_of (by decide) (Nat.le_of_ble_eq_true rfl) ?_
  show Go SR mX11_pass 0 [(0, .ref 0)] [] w Q
  refine g_aload_n (pc := 0) dX11_pass_0 rfl 0 rfl ?_
  refine g_getZ (pc := 1) (a := 0) dX11_pass_1 rfl fX11_95 rfl ?_
  refine g_if_ne (pc := 4) (tgt := 11) dX11_pass_4 (by decide) (fun q => ?_) (fun q => ?_)
  · have h := h.2 q
    exact g_vret (pc := 11) dX11_pass_11 rfl h
  · have h := h.1 q
    refine g_aload_n (pc := 7) dX11_pass_7 rfl 0 rfl ?_
    refine g_callV (pc := 8) (M' := mX11_next) (n := 0) (a := 0) (as := []) (st := []) dX11_pass_8 rfl kX11_116 vX11_next (Nat.le_of_ble_eq_true rfl) rfl qX11 rfl rfl (Nat.le_of_ble_eq_true rfl) ?_
    refine cl_mono (fun r w1 hr => ?_) h
    obtain ⟨rfl, hw1, h⟩ := hr
    show Go SR mX11_pass 11 [(0, .ref 0)] [] w1 Q
    exact g_vret (pc := 11) dX11_pass_11 rfl h
set_option maxHeartbeats 4000000 in
set_option maxRecDepth 100000 in
theorem TX11_dancePassed  (w : Wd) (hR : w.2.2 = RM) (Q : Option Value → Wd → Prop) (h : (((wi w 0 13) = 0 → ClV SR mX11_mustName [.ref 0] w (fun w1 => w1.2.2 = RM ∧ (((wi w1 0 13) = 0 → ClI SR mX11_find [.ref 0] w1 (fun x3 w2 => w2.2.2 = RM ∧ ((0 ≤ x3 → ClV SR mX11_pass [.ref 0] w2 (fun w4 => w4.2.2 = RM ∧ Q (some (.int (if (wi w4 0 13) = 0 then x3 else 0 : Int32))) w4)) ∧ (¬ (0 ≤ x3) → ClV SR mX11_pass [.ref 0] (wXX11_wrong 2 (wi w2 0 4) w2) (fun w5 => w5.2.2 = RM ∧ Q (some (.int (if (wi w5 0 13) = 0 then x3 else 0 : Int32))) w5))))) ∧ (¬ ((wi w1 0 13) = 0) → Q (some (.int 0)) w1)))) ∧ (¬ ((wi w 0 13) = 0) → Q (some (.int 0)) w))) : Cl SR mX11_dancePassed [.ref 0] w Q := by
  refine cl_of (by decide) (Nat.le_of_ble_eq_true rfl) ?_
  show Go SR mX11_dancePassed 0 [(0, .ref 0)] [] w Q
  refine g_aload_n (pc := 0) dX11_dancePassed_0 rfl 0 rfl ?_
  refine g_getZ (pc := 1) (a := 0) dX11_dancePassed_1 rfl fX11_95 rfl ?_
  refine g_if_eq (pc := 4) (tgt := 9) dX11_dancePassed_4 (by decide) (fun q => ?_) (fun q => ?_)
  · have h := h.1 q
    refine g_aload_n (pc := 9) dX11_dancePassed_9 rfl 0 rfl ?_
    refine g_callV (pc := 10) (M' := mX11_mustName) (n := 0) (a := 0) (as := []) (st := []) dX11_dancePassed_10 rfl kX11_134 vX11_mustName (Nat.le_of_ble_eq_true rfl) rfl qX11 rfl rfl (Nat.le_of_ble_eq_true rfl) ?_
    refine cl_mono (fun r w1 hr => ?_) h
    obtain ⟨rfl, hw1, h⟩ := hr
    show Go SR mX11_dancePassed 13 [(0, .ref 0)] [] w1 Q
    refine g_aload_n (pc := 13) dX11_dancePassed_13 rfl 0 rfl ?_
    refine g_getZ (pc := 14) (a := 0) dX11_dancePassed_14 rfl fX11_95 rfl ?_
    refine g_if_eq (pc := 17) (tgt := 22) dX11_dancePassed_17 (by decide) (fun q => ?_) (fun q => ?_)
    · have h := h.1 q
      refine g_aload_n (pc := 22) dX11_dancePassed_22 rfl 0 rfl ?_
      refine g_callV (pc := 23) (M' := mX11_find) (n := 0) (a := 0) (as := []) (st := []) dX11_dancePassed_23 rfl kX11_137 vX11_find (Nat.le_of_ble_eq_true rfl) rfl qX11 rfl rfl (Nat.le_of_ble_eq_true rfl) ?_
      refine cl_mono (fun r w2 hr => ?_) h
      obtain ⟨x3, rfl, hw2, h⟩ := hr
      show Go SR mX11_dancePassed 26 [(0, .ref 0)] [.int x3] w2 Q
      refine g_istore_n (pc := 26) (lv2 := [(0, .ref 0), (1, .int x3)]) dX11_dancePassed_26 rfl (Nat.le_of_ble_eq_true rfl) rfl ?_
      refine g_iload_n (pc := 27) dX11_dancePassed_27 rfl 1 rfl ?_
      refine g_if_ge (pc := 28) (tgt := 40) dX11_dancePassed_28 (by decide) (fun q => ?_) (fun q => ?_)
      · have h := h.1 q
        refine g_aload_n (pc := 40) dX11_dancePassed_40 rfl 0 rfl ?_
        refine g_callV (pc := 41) (M' := mX11_pass) (n := 0) (a := 0) (as := []) (st := []) dX11_dancePassed_41 rfl kX11_140 vX11_pass (Nat.le_of_ble_eq_true rfl) rfl qX11 rfl rfl (Nat.le_of_ble_eq_true rfl) ?_
        refine cl_mono (fun r w4 hr => ?_) h
        obtain ⟨rfl, hw4, h⟩ := hr
        show Go SR mX11_dancePassed 44 [(0, .ref 0), (1, .int x3)] [] w4 Q
        refine g_aload_n (pc := 44) dX11_dancePassed_44 rfl 0 rfl ?_
        refine g_getZ (pc := 45) (a := 0) dX11_dancePassed_45 rfl fX11_95 rfl ?_
        have hJ : Go SR mX11_dancePassed 56 [(0, .ref 0), (1, .int x3)] [.int (if (wi w4 0 13) = 0 then x3 else 0 : Int32)] w4 Q := by
          exact g_iret (pc := 56) dX11_dancePassed_56 rfl h
        refine g_if_eq (pc := 48) (tgt := 55) dX11_dancePassed_48 (by decide) (fun q48 => ?_) (fun q48 => ?_)
        · refine g_iload_n (pc := 55) dX11_dancePassed_55 rfl 1 rfl ?_
          first | (exfalso; contradiction) | exact cast (by simp only [if_pos q48]) hJ
        · refine g_iconst (pc := 51) dX11_dancePassed_51 c_0 ?_
          refine g_goto (pc := 52) (tgt := 56) dX11_dancePassed_52 (by decide) ?_
          first | (exfalso; contradiction) | exact cast (by simp only [if_neg q48]) hJ
      · have h := h.2 q
        refine g_aload_n (pc := 31) dX11_dancePassed_31 rfl 0 rfl ?_
        refine g_iconst (pc := 32) dX11_dancePassed_32 c_2 ?_
        refine g_aload_n (pc := 33) dX11_dancePassed_33 rfl 0 rfl ?_
        refine g_getI (pc := 34) (a := 0) dX11_dancePassed_34 rfl fX11_76 rfl ?_
        refine g_callV (pc := 37) (M' := mX11_wrong) (n := 2) (a := 0) (as := [.int 2, .int (wi w2 0 4)]) (st := []) dX11_dancePassed_37 rfl kX11_122 vX11_wrong (Nat.le_of_ble_eq_true rfl) rfl qX11 rfl rfl (Nat.le_of_ble_eq_true rfl) ?_
        refine zX11_wrong (a1 := 2) (a2 := (wi w2 0 4)) (w := w2) (hR := hw2) ?_
        show Go SR mX11_dancePassed 40 [(0, .ref 0), (1, .int x3)] [] (wXX11_wrong 2 (wi w2 0 4) w2) Q
        refine g_aload_n (pc := 40) dX11_dancePassed_40 rfl 0 rfl ?_
        refine g_callV (pc := 41) (M' := mX11_pass) (n := 0) (a := 0) (as := []) (st := []) dX11_dancePassed_41 rfl kX11_140 vX11_pass (Nat.le_of_ble_eq_true rfl) rfl qX11 rfl rfl (Nat.le_of_ble_eq_true rfl) ?_
        refine cl_mono (fun r w5 hr => ?_) h
        obtain ⟨rfl, hw5, h⟩ := hr
        show Go SR mX11_dancePassed 44 [(0, .ref 0), (1, .int x3)] [] w5 Q
        refine g_aload_n (pc := 44) dX11_dancePassed_44 rfl 0 rfl ?_
        refine g_getZ (pc := 45) (a := 0) dX11_dancePassed_45 rfl fX11_95 rfl ?_
        have hJ : Go SR mX11_dancePassed 56 [(0, .ref 0), (1, .int x3)] [.int (if (wi w5 0 13) = 0 then x3 else 0 : Int32)] w5 Q := by
          exact g_iret (pc := 56) dX11_dancePassed_56 rfl h
        refine g_if_eq (pc := 48) (tgt := 55) dX11_dancePassed_48 (by decide) (fun q48 => ?_) (fun q48 => ?_)
        · refine g_iload_n (pc := 55) dX11_dancePassed_55 rfl 1 rfl ?_
          first | (exfalso; contradiction) | exact cast (by simp only [if_pos q48]) hJ
        · refine g_iconst (pc := 51) dX11_dancePassed_51 c_0 ?_
          refine g_goto (pc := 52) (tgt := 56) dX11_dancePassed_52 (by decide) ?_
          first | (exfalso; contradiction) | exact cast (by simp only [if_neg q48]) hJ
    · have h := h.2 q
      refine g_iconst (pc := 20) dX11_dancePassed_20 c_0 ?_
      exact g_iret (pc := 21) dX11_dancePassed_21 rfl h
  · have h := h.2 q
    refine g_iconst (pc := 7) dX11_dancePassed_7 c_0 ?_
    exact g_iret (pc := 8) dX11_dancePassed_8 rfl h
set_option maxHeartbeats 4000000 in
set_option maxRecDepth 100000 in
theorem TX11_figureOn (a1 : Int32) (w : Wd) (hR : w.2.2 = RM) (Q : Option Value → Wd → Prop) (h : ((a1 = 2 → (((wi (si (si w 0 23 (if 0 ≤ (wi w 0 23) then -(wi w 0 24) else wi w 0 24 : Int32)) 0 24 (vXX11_away (wi w 0 23))) 0 24) = 0 → Q none (si (si (si w 0 23 (if 0 ≤ (wi w 0 23) then -(wi w 0 24) else wi w 0 24 : Int32)) 0 24 (vXX11_away (wi w 0 23))) 0 23 1)) ∧ (¬ ((wi (si (si w 0 23 (if 0 ≤ (wi w 0 23) then -(wi w 0 24) else wi w 0 24 : Int32)) 0 24 (vXX11_away (wi w 0 23))) 0 24) = 0) → Q none (si (si w 0 23 (if 0 ≤ (wi w 0 23) then -(wi w 0 24) else wi w 0 24 : Int32)) 0 24 (vXX11_away (wi w 0 23)))))) ∧ (¬ (a1 = 2) → (((wi w 0 24) ≤ 0 → Q none w) ∧ (¬ ((wi w 0 24) ≤ 0) → Q none (si w 0 23 ((wi w 0 23) + (if a1 = 0 then wi w 0 24 else -(wi w 0 24) : Int32)))))))) : Cl SR mX11_figureOn [.ref 0, .int a1] w Q := by
  refine cl_of (by decide) (Nat.le_of_ble_eq_true rfl) ?_
  show Go SR mX11_figureOn 0 [(0, .ref 0), (1, .int a1)] [] w Q
  refine g_iload_n (pc := 0) dX11_figureOn_0 rfl 1 rfl ?_
  refine g_iconst (pc := 1) dX11_figureOn_1 c_2 ?_
  refine g_icmp_ne (pc := 2) (tgt := 53) dX11_figureOn_2 (by decide) (fun q => ?_) (fun q => ?_)
  · have h := h.2 q
    refine g_aload_n (pc := 53) dX11_figureOn_53 rfl 0 rfl ?_
    refine g_getI (pc := 54) (a := 0) dX11_figureOn_54 rfl fX11_172 rfl ?_
    refine g_if_le (pc := 57) (tgt := 85) dX11_figureOn_57 (by decide) (fun q => ?_) (fun q => ?_)
    · have h := h.1 q
      exact g_vret (pc := 85) dX11_figureOn_85 rfl h
    · have h := h.2 q
      refine g_aload_n (pc := 60) dX11_figureOn_60 rfl 0 rfl ?_
      refine g_dup (pc := 61) dX11_figureOn_61 rfl ?_
      refine g_getI (pc := 62) (a := 0) dX11_figureOn_62 rfl fX11_169 rfl ?_
      refine g_iload_n (pc := 65) dX11_figureOn_65 rfl 1 rfl ?_
      have hJ : Go SR mX11_figureOn 81 [(0, .ref 0), (1, .int a1)] [.int (if a1 = 0 then wi w 0 24 else -(wi w 0 24) : Int32), .int (wi w 0 23), .ref 0] w Q := by
        refine g_iadd (pc := 81) dX11_figureOn_81 ?_
        refine g_putI (pc := 82) dX11_figureOn_82 rfl fX11_169 pX11_23 rfl ?_
        exact g_vret (pc := 85) dX11_figureOn_85 rfl h
      refine g_if_ne (pc := 66) (tgt := 76) dX11_figureOn_66 (by decide) (fun q66 => ?_) (fun q66 => ?_)
      · refine g_aload_n (pc := 76) dX11_figureOn_76 rfl 0 rfl ?_
        refine g_getI (pc := 77) (a := 0) dX11_figureOn_77 rfl fX11_172 rfl ?_
        refine g_ineg (pc := 80) dX11_figureOn_80 ?_
        first | (exfalso; contradiction) | exact cast (by simp only [if_neg q66]) hJ
      · refine g_aload_n (pc := 69) dX11_figureOn_69 rfl 0 rfl ?_
        refine g_getI (pc := 70) (a := 0) dX11_figureOn_70 rfl fX11_172 rfl ?_
        refine g_goto (pc := 73) (tgt := 81) dX11_figureOn_73 (by decide) ?_
        first | (exfalso; contradiction) | exact cast (by simp only [if_pos q66]) hJ
  · have h := h.1 q
    refine g_aload_n (pc := 5) dX11_figureOn_5 rfl 0 rfl ?_
    refine g_getI (pc := 6) (a := 0) dX11_figureOn_6 rfl fX11_169 rfl ?_
    refine g_istore_n (pc := 9) (lv2 := [(0, .ref 0), (1, .int a1), (2, .int (wi w 0 23))]) dX11_figureOn_9 rfl (Nat.le_of_ble_eq_true rfl) rfl ?_
    refine g_aload_n (pc := 10) dX11_figureOn_10 rfl 0 rfl ?_
    refine g_iload_n (pc := 11) dX11_figureOn_11 rfl 2 rfl ?_
    have hJ : Go SR mX11_figureOn 27 [(0, .ref 0), (1, .int a1), (2, .int (wi w 0 23))] [.int (if 0 ≤ (wi w 0 23) then -(wi w 0 24) else wi w 0 24 : Int32), .ref 0] w Q := by
      refine g_putI (pc := 27) dX11_figureOn_27 rfl fX11_169 pX11_23 rfl ?_
      refine g_aload_n (pc := 30) dX11_figureOn_30 rfl 0 rfl ?_
      refine g_iload_n (pc := 31) dX11_figureOn_31 rfl 2 rfl ?_
      refine g_callS (pc := 32) (M' := mX11_away) (n := 1) (as := [.int (wi w 0 23)]) (st := [.ref 0]) dX11_figureOn_32 rfl kX11_60 sX11_away (Nat.le_of_ble_eq_true rfl) rfl rfl (Nat.le_of_ble_eq_true rfl) ?_
      refine zX11_away (a1 := (wi w 0 23)) (w := si w 0 23 (if 0 ≤ (wi w 0 23) then -(wi w 0 24) else wi w 0 24 : Int32)) (hR := hR) ?_
      show Go SR mX11_figureOn 35 [(0, .ref 0), (1, .int a1), (2, .int (wi w 0 23))] [.int (vXX11_away (wi w 0 23)), .ref 0] (si w 0 23 (if 0 ≤ (wi w 0 23) then -(wi w 0 24) else wi w 0 24 : Int32)) Q
      refine g_putI (pc := 35) dX11_figureOn_35 rfl fX11_172 pX11_24 rfl ?_
      refine g_aload_n (pc := 38) dX11_figureOn_38 rfl 0 rfl ?_
      refine g_getI (pc := 39) (a := 0) dX11_figureOn_39 rfl fX11_172 rfl ?_
      refine g_if_ne (pc := 42) (tgt := 50) dX11_figureOn_42 (by decide) (fun q => ?_) (fun q => ?_)
      · have h := h.2 q
        refine g_goto (pc := 50) (tgt := 85) dX11_figureOn_50 (by decide) ?_
        exact g_vret (pc := 85) dX11_figureOn_85 rfl h
      · have h := h.1 q
        refine g_aload_n (pc := 45) dX11_figureOn_45 rfl 0 rfl ?_
        refine g_iconst (pc := 46) dX11_figureOn_46 c_1 ?_
        refine g_putI (pc := 47) dX11_figureOn_47 rfl fX11_169 pX11_23 rfl ?_
        refine g_goto (pc := 50) (tgt := 85) dX11_figureOn_50 (by decide) ?_
        exact g_vret (pc := 85) dX11_figureOn_85 rfl h
    refine g_if_ge (pc := 12) (tgt := 22) dX11_figureOn_12 (by decide) (fun q12 => ?_) (fun q12 => ?_)
    · refine g_aload_n (pc := 22) dX11_figureOn_22 rfl 0 rfl ?_
      refine g_getI (pc := 23) (a := 0) dX11_figureOn_23 rfl fX11_172 rfl ?_
      refine g_ineg (pc := 26) dX11_figureOn_26 ?_
      first | (exfalso; contradiction) | exact cast (by simp only [if_pos q12]) hJ
    · refine g_aload_n (pc := 15) dX11_figureOn_15 rfl 0 rfl ?_
      refine g_getI (pc := 16) (a := 0) dX11_figureOn_16 rfl fX11_172 rfl ?_
      refine g_goto (pc := 19) (tgt := 27) dX11_figureOn_19 (by decide) ?_
      first | (exfalso; contradiction) | exact cast (by simp only [if_neg q12]) hJ
set_option maxHeartbeats 4000000 in
set_option maxRecDepth 100000 in
theorem TX11_dance (a1 : Int32) (a2 : Int32) (a3 : Int32) (a4 : Int32) (w : Wd) (hR : w.2.2 = RM) (Q : Option Value → Wd → Prop) (h : Go SR mX11_dance 13 [(0, .ref 0), (1, .int a1), (2, .int a2), (3, .int a3), (4, .int a4), (5, .int 0)] [] (si (si w 0 23 0) 0 24 1) Q) : Cl SR mX11_dance [.ref 0, .int a1, .int a2, .int a3, .int a4] w Q := by
  refine cl_of (by decide) (Nat.le_of_ble_eq_true rfl) ?_
  show Go SR mX11_dance 0 [(0, .ref 0), (1, .int a1), (2, .int a2), (3, .int a3), (4, .int a4)] [] w Q
  refine g_aload_n (pc := 0) dX11_dance_0 rfl 0 rfl ?_
  refine g_iconst (pc := 1) dX11_dance_1 c_0 ?_
  refine g_putI (pc := 2) dX11_dance_2 rfl fX11_169 pX11_23 rfl ?_
  refine g_aload_n (pc := 5) dX11_dance_5 rfl 0 rfl ?_
  refine g_iconst (pc := 6) dX11_dance_6 c_1 ?_
  refine g_putI (pc := 7) dX11_dance_7 rfl fX11_172 pX11_24 rfl ?_
  refine g_iconst (pc := 10) dX11_dance_10 c_0 ?_
  refine g_istore (pc := 11) (lv2 := [(0, .ref 0), (1, .int a1), (2, .int a2), (3, .int a3), (4, .int a4), (5, .int 0)]) dX11_dance_11 (Nat.le_of_ble_eq_true rfl) rfl ?_
  exact h
set_option maxHeartbeats 4000000 in
set_option maxRecDepth 100000 in
theorem BX11_dance_13  (l1 : Int32) (l2 : Int32) (l3 : Int32) (l4 : Int32) (l5 : Int32) (w : Wd) (hR : w.2.2 = RM) (Q : Option Value → Wd → Prop) (h : ((l2 ≤ l5 → Q none w) ∧ (¬ (l2 ≤ l5) → Go SR mX11_dance 39 [(0, .ref 0), (1, .int l1), (2, .int l2), (3, .int l3), (4, .int l4), (5, .int l5), (6, .int (if (vXX11_hasBit l4 l5) = 0 then 1 else 0 : Int32)), (7, .int 0)] [] w Q))) : Go SR mX11_dance 13 [(0, .ref 0), (1, .int l1), (2, .int l2), (3, .int l3), (4, .int l4), (5, .int l5)] [] w Q := by
  refine g_iload (pc := 13) dX11_dance_13 5 rfl ?_
  refine g_iload_n (pc := 15) dX11_dance_15 rfl 2 rfl ?_
  refine g_icmp_ge (pc := 16) (tgt := 142) dX11_dance_16 (by decide) (fun q => ?_) (fun q => ?_)
  · have h := h.1 q
    exact g_vret (pc := 142) dX11_dance_142 rfl h
  · have h := h.2 q
    refine g_iload (pc := 19) dX11_dance_19 4 rfl ?_
    refine g_iload (pc := 21) dX11_dance_21 5 rfl ?_
    refine g_callS (pc := 23) (M' := mX11_hasBit) (n := 2) (as := [.int l4, .int l5]) (st := []) dX11_dance_23 rfl kX11_232 sX11_hasBit (Nat.le_of_ble_eq_true rfl) rfl rfl (Nat.le_of_ble_eq_true rfl) ?_
    refine zX11_hasBit (a1 := l4) (a2 := l5) (w := w) (hR := hR) ?_
    show Go SR mX11_dance 26 [(0, .ref 0), (1, .int l1), (2, .int l2), (3, .int l3), (4, .int l4), (5, .int l5)] [.int (vXX11_hasBit l4 l5)] w Q
    have hJ : Go SR mX11_dance 34 [(0, .ref 0), (1, .int l1), (2, .int l2), (3, .int l3), (4, .int l4), (5, .int l5)] [.int (if (vXX11_hasBit l4 l5) = 0 then 1 else 0 : Int32)] w Q := by
      refine g_istore (pc := 34) (lv2 := [(0, .ref 0), (1, .int l1), (2, .int l2), (3, .int l3), (4, .int l4), (5, .int l5), (6, .int (if (vXX11_hasBit l4 l5) = 0 then 1 else 0 : Int32))]) dX11_dance_34 (Nat.le_of_ble_eq_true rfl) rfl ?_
      refine g_iconst (pc := 36) dX11_dance_36 c_0 ?_
      refine g_istore (pc := 37) (lv2 := [(0, .ref 0), (1, .int l1), (2, .int l2), (3, .int l3), (4, .int l4), (5, .int l5), (6, .int (if (vXX11_hasBit l4 l5) = 0 then 1 else 0 : Int32)), (7, .int 0)]) dX11_dance_37 (Nat.le_of_ble_eq_true rfl) rfl ?_
      exact h
    refine g_if_ne (pc := 26) (tgt := 33) dX11_dance_26 (by decide) (fun q26 => ?_) (fun q26 => ?_)
    · refine g_iconst (pc := 33) dX11_dance_33 c_0 ?_
      first | (exfalso; contradiction) | exact cast (by simp only [if_neg q26]) hJ
    · refine g_iconst (pc := 29) dX11_dance_29 c_1 ?_
      refine g_goto (pc := 30) (tgt := 34) dX11_dance_30 (by decide) ?_
      first | (exfalso; contradiction) | exact cast (by simp only [if_pos q26]) hJ
set_option maxHeartbeats 4000000 in
set_option maxRecDepth 100000 in
theorem BX11_dance_39  (l1 : Int32) (l2 : Int32) (l3 : Int32) (l4 : Int32) (l5 : Int32) (l6 : Int32) (l7 : Int32) (w : Wd) (hR : w.2.2 = RM) (Q : Option Value → Wd → Prop) (h : (((wi w 3 2) ≤ l7 → ((l6 = 0 → Go SR mX11_dance 13 [(0, .ref 0), (1, .int l1), (2, .int l2), (3, .int l3), (4, .int l4), (5, .int (l5 + 1))] [] w Q) ∧ (¬ (l6 = 0) → vp_in ((9 + (12 * l1)) + l5) 146 ∧ ClV SR mX11_figureOn [.ref 0, .int (wi w 3 (((9 + (12 * l1)) + l5).toNatClampNeg))] w (fun w2 => w2.2.2 = RM ∧ Go SR mX11_dance 13 [(0, .ref 0), (1, .int l1), (2, .int l2), (3, .int l3), (4, .int l4), (5, .int (l5 + 1))] [] w2 Q)))) ∧ (¬ ((wi w 3 2) ≤ l7) → ((l6 = 0 → Go SR mX11_dance 39 [(0, .ref 0), (1, .int l1), (2, .int l2), (3, .int l3), (4, .int l4), (5, .int l5), (6, .int 0), (7, .int (l7 + 1))] [] w Q) ∧ (¬ (l6 = 0) → (((vXX11_hasBit l3 l7) = 0 → Go SR mX11_dance 39 [(0, .ref 0), (1, .int l1), (2, .int l2), (3, .int l3), (4, .int l4), (5, .int l5), (6, .int 1), (7, .int (l7 + 1))] [] w Q) ∧ (¬ ((vXX11_hasBit l3 l7) = 0) → vp_in (69 + (2 * l7)) 146 ∧ (((wi w 3 ((69 + (2 * l7)).toNatClampNeg)) = l1 → vp_in ((69 + (2 * l7)) + 1) 146 ∧ Go SR mX11_dance 39 [(0, .ref 0), (1, .int l1), (2, .int l2), (3, .int l3), (4, .int l4), (5, .int l5), (6, .int (if (wi w 3 (((69 + (2 * l7)) + 1).toNatClampNeg)) = l5 then 0 else 1 : Int32)), (7, .int (l7 + 1))] [] w Q) ∧ (¬ ((wi w 3 ((69 + (2 * l7)).toNatClampNeg)) = l1) → Go SR mX11_dance 39 [(0, .ref 0), (1, .int l1), (2, .int l2), (3, .int l3), (4, .int l4), (5, .int l5), (6, .int 1), (7, .int (l7 + 1))] [] w Q))))))))) : Go SR mX11_dance 39 [(0, .ref 0), (1, .int l1), (2, .int l2), (3, .int l3), (4, .int l4), (5, .int l5), (6, .int l6), (7, .int l7)] [] w Q := by
  refine g_iload (pc := 39) dX11_dance_39 7 rfl ?_
  refine g_aload_n (pc := 41) dX11_dance_41 rfl 0 rfl ?_
  refine g_getR (pc := 42) (a := 0) (b := 3) dX11_dance_42 rfl fX11_20 rfl (rm_16 hR) ?_
  refine g_iconst (pc := 45) dX11_dance_45 c_2 ?_
  refine g_iald (pc := 46) (a := 3) (j := 2) dX11_dance_46 rfl (vin (by decide) (by decide)) (by decide) ?_
  refine g_icmp_ge (pc := 47) (tgt := 112) dX11_dance_47 (by decide) (fun q => ?_) (fun q => ?_)
  · have h := h.1 q
    refine g_iload (pc := 112) dX11_dance_112 6 rfl ?_
    refine g_if_eq (pc := 114) (tgt := 136) dX11_dance_114 (by decide) (fun q => ?_) (fun q => ?_)
    · have h := h.1 q
      refine g_iinc (pc := 136) (v := l5 + 1) (lv2 := [(0, .ref 0), (1, .int l1), (2, .int l2), (3, .int l3), (4, .int l4), (5, .int (l5 + 1)), (6, .int l6), (7, .int l7)]) dX11_dance_136 5 rfl (Nat.le_of_ble_eq_true rfl) rfl rfl ?_
      refine g_goto (pc := 139) (tgt := 13) dX11_dance_139 (by decide) ?_
      refine g_sub (lv2 := [(0, .ref 0), (1, .int l1), (2, .int l2), (3, .int l3), (4, .int l4), (5, .int (l5 + 1))]) [0, 1, 2, 3, 4, 5] rfl ?_
      exact h
    · have h := h.2 q
      refine g_aload_n (pc := 117) dX11_dance_117 rfl 0 rfl ?_
      refine g_aload_n (pc := 118) dX11_dance_118 rfl 0 rfl ?_
      refine g_getR (pc := 119) (a := 0) (b := 3) dX11_dance_119 rfl fX11_20 rfl (rm_16 hR) ?_
      refine g_bipush (pc := 122) (v := 9) dX11_dance_122 (by decide) ?_
      refine g_bipush (pc := 124) (v := 12) dX11_dance_124 (by decide) ?_
      refine g_iload_n (pc := 126) dX11_dance_126 rfl 1 rfl ?_
      refine g_imul (pc := 127) dX11_dance_127 ?_
      refine g_iadd (pc := 128) dX11_dance_128 ?_
      refine g_iload (pc := 129) dX11_dance_129 5 rfl ?_
      refine g_iadd (pc := 131) dX11_dance_131 ?_
      obtain ⟨hi1, h⟩ := h
      refine g_iald (pc := 132) (a := 3) (j := ((9 + (12 * l1)) + l5).toNatClampNeg) dX11_dance_132 rfl hi1 rfl ?_
      refine g_callV (pc := 133) (M' := mX11_figureOn) (n := 1) (a := 0) (as := [.int (wi w 3 (((9 + (12 * l1)) + l5).toNatClampNeg))]) (st := []) dX11_dance_133 rfl kX11_225 vX11_figureOn (Nat.le_of_ble_eq_true rfl) rfl qX11 rfl rfl (Nat.le_of_ble_eq_true rfl) ?_
      refine cl_mono (fun r w2 hr => ?_) h
      obtain ⟨rfl, hw2, h⟩ := hr
      show Go SR mX11_dance 136 [(0, .ref 0), (1, .int l1), (2, .int l2), (3, .int l3), (4, .int l4), (5, .int l5), (6, .int l6), (7, .int l7)] [] w2 Q
      refine g_iinc (pc := 136) (v := l5 + 1) (lv2 := [(0, .ref 0), (1, .int l1), (2, .int l2), (3, .int l3), (4, .int l4), (5, .int (l5 + 1)), (6, .int l6), (7, .int l7)]) dX11_dance_136 5 rfl (Nat.le_of_ble_eq_true rfl) rfl rfl ?_
      refine g_goto (pc := 139) (tgt := 13) dX11_dance_139 (by decide) ?_
      refine g_sub (lv2 := [(0, .ref 0), (1, .int l1), (2, .int l2), (3, .int l3), (4, .int l4), (5, .int (l5 + 1))]) [0, 1, 2, 3, 4, 5] rfl ?_
      exact h
  · have h := h.2 q
    refine g_iload (pc := 50) dX11_dance_50 6 rfl ?_
    refine g_if_eq (pc := 52) (tgt := 103) dX11_dance_52 (by decide) (fun q => ?_) (fun q => ?_)
    · have h := h.1 q
      refine g_iconst (pc := 103) dX11_dance_103 c_0 ?_
      refine g_istore (pc := 104) (lv2 := [(0, .ref 0), (1, .int l1), (2, .int l2), (3, .int l3), (4, .int l4), (5, .int l5), (6, .int 0), (7, .int l7)]) dX11_dance_104 (Nat.le_of_ble_eq_true rfl) rfl ?_
      refine g_iinc (pc := 106) (v := l7 + 1) (lv2 := [(0, .ref 0), (1, .int l1), (2, .int l2), (3, .int l3), (4, .int l4), (5, .int l5), (6, .int 0), (7, .int (l7 + 1))]) dX11_dance_106 7 rfl (Nat.le_of_ble_eq_true rfl) rfl rfl ?_
      refine g_goto (pc := 109) (tgt := 39) dX11_dance_109 (by decide) ?_
      exact h
    · have h := h.2 q
      refine g_iload_n (pc := 55) dX11_dance_55 rfl 3 rfl ?_
      refine g_iload (pc := 56) dX11_dance_56 7 rfl ?_
      refine g_callS (pc := 58) (M' := mX11_hasBit) (n := 2) (as := [.int l3, .int l7]) (st := []) dX11_dance_58 rfl kX11_232 sX11_hasBit (Nat.le_of_ble_eq_true rfl) rfl rfl (Nat.le_of_ble_eq_true rfl) ?_
      refine zX11_hasBit (a1 := l3) (a2 := l7) (w := w) (hR := hR) ?_
      show Go SR mX11_dance 61 [(0, .ref 0), (1, .int l1), (2, .int l2), (3, .int l3), (4, .int l4), (5, .int l5), (6, .int l6), (7, .int l7)] [.int (vXX11_hasBit l3 l7)] w Q
      refine g_if_eq (pc := 61) (tgt := 99) dX11_dance_61 (by decide) (fun q => ?_) (fun q => ?_)
      · have h := h.1 q
        refine g_iconst (pc := 99) dX11_dance_99 c_1 ?_
        refine g_goto (pc := 100) (tgt := 104) dX11_dance_100 (by decide) ?_
        refine g_istore (pc := 104) (lv2 := [(0, .ref 0), (1, .int l1), (2, .int l2), (3, .int l3), (4, .int l4), (5, .int l5), (6, .int 1), (7, .int l7)]) dX11_dance_104 (Nat.le_of_ble_eq_true rfl) rfl ?_
        refine g_iinc (pc := 106) (v := l7 + 1) (lv2 := [(0, .ref 0), (1, .int l1), (2, .int l2), (3, .int l3), (4, .int l4), (5, .int l5), (6, .int 1), (7, .int (l7 + 1))]) dX11_dance_106 7 rfl (Nat.le_of_ble_eq_true rfl) rfl rfl ?_
        refine g_goto (pc := 109) (tgt := 39) dX11_dance_109 (by decide) ?_
        exact h
      · have h := h.2 q
        refine g_aload_n (pc := 64) dX11_dance_64 rfl 0 rfl ?_
        refine g_getR (pc := 65) (a := 0) (b := 3) dX11_dance_65 rfl fX11_20 rfl (rm_16 hR) ?_
        refine g_bipush (pc := 68) (v := 69) dX11_dance_68 (by decide) ?_
        refine g_iconst (pc := 70) dX11_dance_70 c_2 ?_
        refine g_iload (pc := 71) dX11_dance_71 7 rfl ?_
        refine g_imul (pc := 73) dX11_dance_73 ?_
        refine g_iadd (pc := 74) dX11_dance_74 ?_
        obtain ⟨hi3, h⟩ := h
        refine g_iald (pc := 75) (a := 3) (j := (69 + (2 * l7)).toNatClampNeg) dX11_dance_75 rfl hi3 rfl ?_
        refine g_iload_n (pc := 76) dX11_dance_76 rfl 1 rfl ?_
        refine g_icmp_ne (pc := 77) (tgt := 99) dX11_dance_77 (by decide) (fun q => ?_) (fun q => ?_)
        · have h := h.2 q
          refine g_iconst (pc := 99) dX11_dance_99 c_1 ?_
          refine g_goto (pc := 100) (tgt := 104) dX11_dance_100 (by decide) ?_
          refine g_istore (pc := 104) (lv2 := [(0, .ref 0), (1, .int l1), (2, .int l2), (3, .int l3), (4, .int l4), (5, .int l5), (6, .int 1), (7, .int l7)]) dX11_dance_104 (Nat.le_of_ble_eq_true rfl) rfl ?_
          refine g_iinc (pc := 106) (v := l7 + 1) (lv2 := [(0, .ref 0), (1, .int l1), (2, .int l2), (3, .int l3), (4, .int l4), (5, .int l5), (6, .int 1), (7, .int (l7 + 1))]) dX11_dance_106 7 rfl (Nat.le_of_ble_eq_true rfl) rfl rfl ?_
          refine g_goto (pc := 109) (tgt := 39) dX11_dance_109 (by decide) ?_
          exact h
        · have h := h.1 q
          refine g_aload_n (pc := 80) dX11_dance_80 rfl 0 rfl ?_
          refine g_getR (pc := 81) (a := 0) (b := 3) dX11_dance_81 rfl fX11_20 rfl (rm_16 hR) ?_
          refine g_bipush (pc := 84) (v := 69) dX11_dance_84 (by decide) ?_
          refine g_iconst (pc := 86) dX11_dance_86 c_2 ?_
          refine g_iload (pc := 87) dX11_dance_87 7 rfl ?_
          refine g_imul (pc := 89) dX11_dance_89 ?_
          refine g_iadd (pc := 90) dX11_dance_90 ?_
          refine g_iconst (pc := 91) dX11_dance_91 c_1 ?_
          refine g_iadd (pc := 92) dX11_dance_92 ?_
          obtain ⟨hi4, h⟩ := h
          refine g_iald (pc := 93) (a := 3) (j := ((69 + (2 * l7)) + 1).toNatClampNeg) dX11_dance_93 rfl hi4 rfl ?_
          refine g_iload (pc := 94) dX11_dance_94 5 rfl ?_
          have hJ : Go SR mX11_dance 104 [(0, .ref 0), (1, .int l1), (2, .int l2), (3, .int l3), (4, .int l4), (5, .int l5), (6, .int l6), (7, .int l7)] [.int (if (wi w 3 (((69 + (2 * l7)) + 1).toNatClampNeg)) = l5 then 0 else 1 : Int32)] w Q := by
            refine g_istore (pc := 104) (lv2 := [(0, .ref 0), (1, .int l1), (2, .int l2), (3, .int l3), (4, .int l4), (5, .int l5), (6, .int (if (wi w 3 (((69 + (2 * l7)) + 1).toNatClampNeg)) = l5 then 0 else 1 : Int32)), (7, .int l7)]) dX11_dance_104 (Nat.le_of_ble_eq_true rfl) rfl ?_
            refine g_iinc (pc := 106) (v := l7 + 1) (lv2 := [(0, .ref 0), (1, .int l1), (2, .int l2), (3, .int l3), (4, .int l4), (5, .int l5), (6, .int (if (wi w 3 (((69 + (2 * l7)) + 1).toNatClampNeg)) = l5 then 0 else 1 : Int32)), (7, .int (l7 + 1))]) dX11_dance_106 7 rfl (Nat.le_of_ble_eq_true rfl) rfl rfl ?_
            refine g_goto (pc := 109) (tgt := 39) dX11_dance_109 (by decide) ?_
            exact h
          refine g_icmp_eq (pc := 96) (tgt := 103) dX11_dance_96 (by decide) (fun q96 => ?_) (fun q96 => ?_)
          · refine g_iconst (pc := 103) dX11_dance_103 c_0 ?_
            first | (exfalso; contradiction) | exact cast (by simp only [if_pos q96]) hJ
          · refine g_iconst (pc := 99) dX11_dance_99 c_1 ?_
            refine g_goto (pc := 100) (tgt := 104) dX11_dance_100 (by decide) ?_
            first | (exfalso; contradiction) | exact cast (by simp only [if_neg q96]) hJ
set_option maxHeartbeats 4000000 in
set_option maxRecDepth 100000 in
theorem TX11_begins (a1 : Nat) (ha1 : a1 < nST) (a2 : Int32) (w : Wd) (hR : w.2.2 = RM) (Q : Option Value → Wd → Prop) (h : ClI SR mX11_isWord [.ref 0, .ref (1000 + a1)] w (fun x2 w1 => w1.2.2 = RM ∧ ((x2 = 0 → Q (some (.int 0)) w1) ∧ (¬ (x2 = 0) → ((a2 = 0 → (((wi (wXX11_wrong 5 (wi w1 0 4) w1) 0 14) = 0 → ClV SR mX11_pass [.ref 0] (wXX11_wrong 6 (wi (wXX11_wrong 5 (wi w1 0 4) w1) 0 4) (wXX11_wrong 5 (wi w1 0 4) w1)) (fun w6 => w6.2.2 = RM ∧ Q (some (.int 1)) w6)) ∧ (¬ ((wi (wXX11_wrong 5 (wi w1 0 4) w1) 0 14) = 0) → ClV SR mX11_pass [.ref 0] (wXX11_wrong 5 (wi w1 0 4) w1) (fun w5 => w5.2.2 = RM ∧ Q (some (.int 1)) w5)))) ∧ (¬ (a2 = 0) → (((wi w1 0 14) = 0 → ClV SR mX11_pass [.ref 0] (wXX11_wrong 6 (wi w1 0 4) w1) (fun w4 => w4.2.2 = RM ∧ Q (some (.int 1)) w4)) ∧ (¬ ((wi w1 0 14) = 0) → ClV SR mX11_pass [.ref 0] w1 (fun w3 => w3.2.2 = RM ∧ Q (some (.int 1)) w3))))))))) : Cl SR mX11_begins [.ref 0, .ref (1000 + a1), .int a2] w Q := by
  refine cl_of (by decide) (Nat.le_of_ble_eq_true rfl) ?_
  show Go SR mX11_begins 0 [(0, .ref 0), (1, .ref (1000 + a1)), (2, .int a2)] [] w Q
  refine g_aload_n (pc := 0) dX11_begins_0 rfl 0 rfl ?_
  refine g_aload_n (pc := 1) dX11_begins_1 rfl 1 rfl ?_
  refine g_callV (pc := 2) (M' := mX11_isWord) (n := 1) (a := 0) (as := [.ref (1000 + a1)]) (st := []) dX11_begins_2 rfl kX11_112 vX11_isWord (Nat.le_of_ble_eq_true rfl) rfl qX11 rfl rfl (Nat.le_of_ble_eq_true rfl) ?_
  refine cl_mono (fun r w1 hr => ?_) h
  obtain ⟨x2, rfl, hw1, h⟩ := hr
  show Go SR mX11_begins 5 [(0, .ref 0), (1, .ref (1000 + a1)), (2, .int a2)] [.int x2] w1 Q
  refine g_if_ne (pc := 5) (tgt := 10) dX11_begins_5 (by decide) (fun q => ?_) (fun q => ?_)
  · have h := h.2 q
    refine g_iload_n (pc := 10) dX11_begins_10 rfl 2 rfl ?_
    refine g_if_ne (pc := 11) (tgt := 23) dX11_begins_11 (by decide) (fun q => ?_) (fun q => ?_)
    · have h := h.2 q
      refine g_aload_n (pc := 23) dX11_begins_23 rfl 0 rfl ?_
      refine g_getZ (pc := 24) (a := 0) dX11_begins_24 rfl fX11_153 rfl ?_
      refine g_if_ne (pc := 27) (tgt := 40) dX11_begins_27 (by decide) (fun q => ?_) (fun q => ?_)
      · have h := h.2 q
        refine g_aload_n (pc := 40) dX11_begins_40 rfl 0 rfl ?_
        refine g_callV (pc := 41) (M' := mX11_pass) (n := 0) (a := 0) (as := []) (st := []) dX11_begins_41 rfl kX11_140 vX11_pass (Nat.le_of_ble_eq_true rfl) rfl qX11 rfl rfl (Nat.le_of_ble_eq_true rfl) ?_
        refine cl_mono (fun r w3 hr => ?_) h
        obtain ⟨rfl, hw3, h⟩ := hr
        show Go SR mX11_begins 44 [(0, .ref 0), (1, .ref (1000 + a1)), (2, .int a2)] [] w3 Q
        refine g_iconst (pc := 44) dX11_begins_44 c_1 ?_
        exact g_bret (pc := 45) dX11_begins_45 rfl (Or.inr rfl) h
      · have h := h.1 q
        refine g_aload_n (pc := 30) dX11_begins_30 rfl 0 rfl ?_
        refine g_bipush (pc := 31) (v := 6) dX11_begins_31 (by decide) ?_
        refine g_aload_n (pc := 33) dX11_begins_33 rfl 0 rfl ?_
        refine g_getI (pc := 34) (a := 0) dX11_begins_34 rfl fX11_76 rfl ?_
        refine g_callV (pc := 37) (M' := mX11_wrong) (n := 2) (a := 0) (as := [.int 6, .int (wi w1 0 4)]) (st := []) dX11_begins_37 rfl kX11_122 vX11_wrong (Nat.le_of_ble_eq_true rfl) rfl qX11 rfl rfl (Nat.le_of_ble_eq_true rfl) ?_
        refine zX11_wrong (a1 := 6) (a2 := (wi w1 0 4)) (w := w1) (hR := hw1) ?_
        show Go SR mX11_begins 40 [(0, .ref 0), (1, .ref (1000 + a1)), (2, .int a2)] [] (wXX11_wrong 6 (wi w1 0 4) w1) Q
        refine g_aload_n (pc := 40) dX11_begins_40 rfl 0 rfl ?_
        refine g_callV (pc := 41) (M' := mX11_pass) (n := 0) (a := 0) (as := []) (st := []) dX11_begins_41 rfl kX11_140 vX11_pass (Nat.le_of_ble_eq_true rfl) rfl qX11 rfl rfl (Nat.le_of_ble_eq_true rfl) ?_
        refine cl_mono (fun r w4 hr => ?_) h
        obtain ⟨rfl, hw4, h⟩ := hr
        show Go SR mX11_begins 44 [(0, .ref 0), (1, .ref (1000 + a1)), (2, .int a2)] [] w4 Q
        refine g_iconst (pc := 44) dX11_begins_44 c_1 ?_
        exact g_bret (pc := 45) dX11_begins_45 rfl (Or.inr rfl) h
    · have h := h.1 q
      refine g_aload_n (pc := 14) dX11_begins_14 rfl 0 rfl ?_
      refine g_iconst (pc := 15) dX11_begins_15 c_5 ?_
      refine g_aload_n (pc := 16) dX11_begins_16 rfl 0 rfl ?_
      refine g_getI (pc := 17) (a := 0) dX11_begins_17 rfl fX11_76 rfl ?_
      refine g_callV (pc := 20) (M' := mX11_wrong) (n := 2) (a := 0) (as := [.int 5, .int (wi w1 0 4)]) (st := []) dX11_begins_20 rfl kX11_122 vX11_wrong (Nat.le_of_ble_eq_true rfl) rfl qX11 rfl rfl (Nat.le_of_ble_eq_true rfl) ?_
      refine zX11_wrong (a1 := 5) (a2 := (wi w1 0 4)) (w := w1) (hR := hw1) ?_
      show Go SR mX11_begins 23 [(0, .ref 0), (1, .ref (1000 + a1)), (2, .int a2)] [] (wXX11_wrong 5 (wi w1 0 4) w1) Q
      refine g_aload_n (pc := 23) dX11_begins_23 rfl 0 rfl ?_
      refine g_getZ (pc := 24) (a := 0) dX11_begins_24 rfl fX11_153 rfl ?_
      refine g_if_ne (pc := 27) (tgt := 40) dX11_begins_27 (by decide) (fun q => ?_) (fun q => ?_)
      · have h := h.2 q
        refine g_aload_n (pc := 40) dX11_begins_40 rfl 0 rfl ?_
        refine g_callV (pc := 41) (M' := mX11_pass) (n := 0) (a := 0) (as := []) (st := []) dX11_begins_41 rfl kX11_140 vX11_pass (Nat.le_of_ble_eq_true rfl) rfl qX11 rfl rfl (Nat.le_of_ble_eq_true rfl) ?_
        refine cl_mono (fun r w5 hr => ?_) h
        obtain ⟨rfl, hw5, h⟩ := hr
        show Go SR mX11_begins 44 [(0, .ref 0), (1, .ref (1000 + a1)), (2, .int a2)] [] w5 Q
        refine g_iconst (pc := 44) dX11_begins_44 c_1 ?_
        exact g_bret (pc := 45) dX11_begins_45 rfl (Or.inr rfl) h
      · have h := h.1 q
        refine g_aload_n (pc := 30) dX11_begins_30 rfl 0 rfl ?_
        refine g_bipush (pc := 31) (v := 6) dX11_begins_31 (by decide) ?_
        refine g_aload_n (pc := 33) dX11_begins_33 rfl 0 rfl ?_
        refine g_getI (pc := 34) (a := 0) dX11_begins_34 rfl fX11_76 rfl ?_
        refine g_callV (pc := 37) (M' := mX11_wrong) (n := 2) (a := 0) (as := [.int 6, .int (wi (wXX11_wrong 5 (wi w1 0 4) w1) 0 4)]) (st := []) dX11_begins_37 rfl kX11_122 vX11_wrong (Nat.le_of_ble_eq_true rfl) rfl qX11 rfl rfl (Nat.le_of_ble_eq_true rfl) ?_
        refine zX11_wrong (a1 := 6) (a2 := (wi (wXX11_wrong 5 (wi w1 0 4) w1) 0 4)) (w := wXX11_wrong 5 (wi w1 0 4) w1) (hR := ((rXX11_wrong 5 (wi w1 0 4) w1).trans hw1)) ?_
        show Go SR mX11_begins 40 [(0, .ref 0), (1, .ref (1000 + a1)), (2, .int a2)] [] (wXX11_wrong 6 (wi (wXX11_wrong 5 (wi w1 0 4) w1) 0 4) (wXX11_wrong 5 (wi w1 0 4) w1)) Q
        refine g_aload_n (pc := 40) dX11_begins_40 rfl 0 rfl ?_
        refine g_callV (pc := 41) (M' := mX11_pass) (n := 0) (a := 0) (as := []) (st := []) dX11_begins_41 rfl kX11_140 vX11_pass (Nat.le_of_ble_eq_true rfl) rfl qX11 rfl rfl (Nat.le_of_ble_eq_true rfl) ?_
        refine cl_mono (fun r w6 hr => ?_) h
        obtain ⟨rfl, hw6, h⟩ := hr
        show Go SR mX11_begins 44 [(0, .ref 0), (1, .ref (1000 + a1)), (2, .int a2)] [] w6 Q
        refine g_iconst (pc := 44) dX11_begins_44 c_1 ?_
        exact g_bret (pc := 45) dX11_begins_45 rfl (Or.inr rfl) h
  · have h := h.1 q
    refine g_iconst (pc := 8) dX11_begins_8 c_0 ?_
    exact g_bret (pc := 9) dX11_begins_9 rfl (Or.inl rfl) h
set_option maxHeartbeats 4000000 in
set_option maxRecDepth 100000 in
theorem TX11_danceLine  (w : Wd) (hR : w.2.2 = RM) (Q : Option Value → Wd → Prop) (h : (((wi w 0 13) = 0 → ClV SR mX11_newName [.ref 0, .int (wi w 4 1)] w (fun w1 => w1.2.2 = RM ∧ (((wi w1 0 13) = 0 → (((wi w1 0 6) = 2 → Go SR mX11_danceLine 47 [(0, .ref 0), (1, .int (wi w 4 1)), (2, .int 0)] [] w1 Q) ∧ (¬ ((wi w1 0 6) = 2) → Go SR mX11_danceLine 47 [(0, .ref 0), (1, .int (wi w 4 1)), (2, .int 0)] [] (wXX11_wrong 1 (wi w1 0 4) w1) Q))) ∧ (¬ ((wi w1 0 13) = 0) → Q none w1)))) ∧ (¬ ((wi w 0 13) = 0) → Q none w))) : Cl SR mX11_danceLine [.ref 0] w Q := by
  refine cl_of (by decide) (Nat.le_of_ble_eq_true rfl) ?_
  show Go SR mX11_danceLine 0 [(0, .ref 0)] [] w Q
  refine g_aload_n (pc := 0) dX11_danceLine_0 rfl 0 rfl ?_
  refine g_getZ (pc := 1) (a := 0) dX11_danceLine_1 rfl fX11_95 rfl ?_
  refine g_if_eq (pc := 4) (tgt := 8) dX11_danceLine_4 (by decide) (fun q => ?_) (fun q => ?_)
  · have h := h.1 q
    refine g_aload_n (pc := 8) dX11_danceLine_8 rfl 0 rfl ?_
    refine g_getR (pc := 9) (a := 0) (b := 4) dX11_danceLine_9 rfl fX11_23 rfl (rm_17 hR) ?_
    refine g_iconst (pc := 12) dX11_danceLine_12 c_1 ?_
    refine g_iald (pc := 13) (a := 4) (j := 1) dX11_danceLine_13 rfl (vin (by decide) (by decide)) (by decide) ?_
    refine g_istore_n (pc := 14) (lv2 := [(0, .ref 0), (1, .int (wi w 4 1))]) dX11_danceLine_14 rfl (Nat.le_of_ble_eq_true rfl) rfl ?_
    refine g_aload_n (pc := 15) dX11_danceLine_15 rfl 0 rfl ?_
    refine g_iload_n (pc := 16) dX11_danceLine_16 rfl 1 rfl ?_
    refine g_callV (pc := 17) (M' := mX11_newName) (n := 1) (a := 0) (as := [.int (wi w 4 1)]) (st := []) dX11_danceLine_17 rfl kX11_207 vX11_newName (Nat.le_of_ble_eq_true rfl) rfl qX11 rfl rfl (Nat.le_of_ble_eq_true rfl) ?_
    refine cl_mono (fun r w1 hr => ?_) h
    obtain ⟨rfl, hw1, h⟩ := hr
    show Go SR mX11_danceLine 20 [(0, .ref 0), (1, .int (wi w 4 1))] [] w1 Q
    refine g_aload_n (pc := 20) dX11_danceLine_20 rfl 0 rfl ?_
    refine g_getZ (pc := 21) (a := 0) dX11_danceLine_21 rfl fX11_95 rfl ?_
    refine g_if_eq (pc := 24) (tgt := 28) dX11_danceLine_24 (by decide) (fun q => ?_) (fun q => ?_)
    · have h := h.1 q
      refine g_aload_n (pc := 28) dX11_danceLine_28 rfl 0 rfl ?_
      refine g_getI (pc := 29) (a := 0) dX11_danceLine_29 rfl fX11_85 rfl ?_
      refine g_iconst (pc := 32) dX11_danceLine_32 c_2 ?_
      refine g_icmp_eq (pc := 33) (tgt := 45) dX11_danceLine_33 (by decide) (fun q => ?_) (fun q => ?_)
      · have h := h.1 q
        refine g_iconst (pc := 45) dX11_danceLine_45 c_0 ?_
        refine g_istore_n (pc := 46) (lv2 := [(0, .ref 0), (1, .int (wi w 4 1)), (2, .int 0)]) dX11_danceLine_46 rfl (Nat.le_of_ble_eq_true rfl) rfl ?_
        exact h
      · have h := h.2 q
        refine g_aload_n (pc := 36) dX11_danceLine_36 rfl 0 rfl ?_
        refine g_iconst (pc := 37) dX11_danceLine_37 c_1 ?_
        refine g_aload_n (pc := 38) dX11_danceLine_38 rfl 0 rfl ?_
        refine g_getI (pc := 39) (a := 0) dX11_danceLine_39 rfl fX11_76 rfl ?_
        refine g_callV (pc := 42) (M' := mX11_wrong) (n := 2) (a := 0) (as := [.int 1, .int (wi w1 0 4)]) (st := []) dX11_danceLine_42 rfl kX11_122 vX11_wrong (Nat.le_of_ble_eq_true rfl) rfl qX11 rfl rfl (Nat.le_of_ble_eq_true rfl) ?_
        refine zX11_wrong (a1 := 1) (a2 := (wi w1 0 4)) (w := w1) (hR := hw1) ?_
        show Go SR mX11_danceLine 45 [(0, .ref 0), (1, .int (wi w 4 1))] [] (wXX11_wrong 1 (wi w1 0 4) w1) Q
        refine g_iconst (pc := 45) dX11_danceLine_45 c_0 ?_
        refine g_istore_n (pc := 46) (lv2 := [(0, .ref 0), (1, .int (wi w 4 1)), (2, .int 0)]) dX11_danceLine_46 rfl (Nat.le_of_ble_eq_true rfl) rfl ?_
        exact h
    · have h := h.2 q
      exact g_vret (pc := 27) dX11_danceLine_27 rfl h
  · have h := h.2 q
    exact g_vret (pc := 7) dX11_danceLine_7 rfl h
set_option maxHeartbeats 4000000 in
set_option maxRecDepth 100000 in
theorem BX11_danceLine_47  (l1 : Int32) (l2 : Int32) (w : Wd) (hR : w.2.2 = RM) (Q : Option Value → Wd → Prop) (h : (((wi w 0 8) ≤ l2 → (((wi w 0 13) = 0 → vp_in (4 + l1) 146 ∧ ClV SR mX11_next [.ref 0] (si (si w 4 ((4 + l1).toNatClampNeg) (wi w 0 8)) 4 1 ((wi (si w 4 ((4 + l1).toNatClampNeg) (wi w 0 8)) 4 1) + 1)) (fun w2 => w2.2.2 = RM ∧ Q none w2)) ∧ (¬ ((wi w 0 13) = 0) → Q none w))) ∧ (¬ ((wi w 0 8) ≤ l2) → (((wi w 0 13) = 0 → vp_in l2 12 ∧ (((wi w 2 l2.toNatClampNeg) = 116 → vp_in ((9 + (12 * l1)) + l2) 146 ∧ Go SR mX11_danceLine 47 [(0, .ref 0), (1, .int l1), (2, .int (l2 + 1))] [] (si w 4 (((9 + (12 * l1)) + l2).toNatClampNeg) (if (wi w 2 l2.toNatClampNeg) = 116 then 0 else (if (wi w 2 l2.toNatClampNeg) = 117 then 1 else 2 : Int32) : Int32)) Q) ∧ (¬ ((wi w 2 l2.toNatClampNeg) = 116) → (((wi w 2 l2.toNatClampNeg) = 117 → vp_in ((9 + (12 * l1)) + l2) 146 ∧ Go SR mX11_danceLine 47 [(0, .ref 0), (1, .int l1), (2, .int (l2 + 1))] [] (si w 4 (((9 + (12 * l1)) + l2).toNatClampNeg) (if (wi w 2 l2.toNatClampNeg) = 116 then 0 else (if (wi w 2 l2.toNatClampNeg) = 117 then 1 else 2 : Int32) : Int32)) Q) ∧ (¬ ((wi w 2 l2.toNatClampNeg) = 117) → (((wi w 2 l2.toNatClampNeg) = 114 → vp_in ((9 + (12 * l1)) + l2) 146 ∧ Go SR mX11_danceLine 47 [(0, .ref 0), (1, .int l1), (2, .int (l2 + 1))] [] (si w 4 (((9 + (12 * l1)) + l2).toNatClampNeg) (if (wi w 2 l2.toNatClampNeg) = 116 then 0 else (if (wi w 2 l2.toNatClampNeg) = 117 then 1 else 2 : Int32) : Int32)) Q) ∧ (¬ ((wi w 2 l2.toNatClampNeg) = 114) → vp_in ((9 + (12 * l1)) + l2) 146 ∧ Go SR mX11_danceLine 47 [(0, .ref 0), (1, .int l1), (2, .int (l2 + 1))] [] (si (wXX11_wrong 7 (wi w 0 4) w) 4 (((9 + (12 * l1)) + l2).toNatClampNeg) (if (wi w 2 l2.toNatClampNeg) = 116 then 0 else (if (wi w 2 l2.toNatClampNeg) = 117 then 1 else 2 : Int32) : Int32)) Q))))))) ∧ (¬ ((wi w 0 13) = 0) → (((wi w 0 13) = 0 → vp_in (4 + l1) 146 ∧ ClV SR mX11_next [.ref 0] (si (si w 4 ((4 + l1).toNatClampNeg) (wi w 0 8)) 4 1 ((wi (si w 4 ((4 + l1).toNatClampNeg) (wi w 0 8)) 4 1) + 1)) (fun w4 => w4.2.2 = RM ∧ Q none w4)) ∧ (¬ ((wi w 0 13) = 0) → Q none w))))))) : Go SR mX11_danceLine 47 [(0, .ref 0), (1, .int l1), (2, .int l2)] [] w Q := by
  refine g_iload_n (pc := 47) dX11_danceLine_47 rfl 2 rfl ?_
  refine g_aload_n (pc := 48) dX11_danceLine_48 rfl 0 rfl ?_
  refine g_getI (pc := 49) (a := 0) dX11_danceLine_49 rfl fX11_79 rfl ?_
  refine g_icmp_ge (pc := 52) (tgt := 138) dX11_danceLine_52 (by decide) (fun q => ?_) (fun q => ?_)
  · have h := h.1 q
    refine g_aload_n (pc := 138) dX11_danceLine_138 rfl 0 rfl ?_
    refine g_getZ (pc := 139) (a := 0) dX11_danceLine_139 rfl fX11_95 rfl ?_
    refine g_if_eq (pc := 142) (tgt := 146) dX11_danceLine_142 (by decide) (fun q => ?_) (fun q => ?_)
    · have h := h.1 q
      refine g_aload_n (pc := 146) dX11_danceLine_146 rfl 0 rfl ?_
      refine g_getR (pc := 147) (a := 0) (b := 4) dX11_danceLine_147 rfl fX11_23 rfl (rm_17 hR) ?_
      refine g_iconst (pc := 150) dX11_danceLine_150 c_4 ?_
      refine g_iload_n (pc := 151) dX11_danceLine_151 rfl 1 rfl ?_
      refine g_iadd (pc := 152) dX11_danceLine_152 ?_
      refine g_aload_n (pc := 153) dX11_danceLine_153 rfl 0 rfl ?_
      refine g_getI (pc := 154) (a := 0) dX11_danceLine_154 rfl fX11_79 rfl ?_
      obtain ⟨hi1, h⟩ := h
      refine g_iast (pc := 157) (a := 4) (j := (4 + l1).toNatClampNeg) dX11_danceLine_157 rfl hi1 rfl ?_
      refine g_aload_n (pc := 158) dX11_danceLine_158 rfl 0 rfl ?_
      refine g_getR (pc := 159) (a := 0) (b := 4) dX11_danceLine_159 rfl fX11_23 rfl (rm_17 hR) ?_
      refine g_iconst (pc := 162) dX11_danceLine_162 c_1 ?_
      refine g_dup2 (pc := 163) dX11_danceLine_163 rfl rfl ?_
      refine g_iald (pc := 164) (a := 4) (j := 1) dX11_danceLine_164 rfl (vin (by decide) (by decide)) (by decide) ?_
      refine g_iconst (pc := 165) dX11_danceLine_165 c_1 ?_
      refine g_iadd (pc := 166) dX11_danceLine_166 ?_
      refine g_iast (pc := 167) (a := 4) (j := 1) dX11_danceLine_167 rfl (vin (by decide) (by decide)) (by decide) ?_
      refine g_aload_n (pc := 168) dX11_danceLine_168 rfl 0 rfl ?_
      refine g_callV (pc := 169) (M' := mX11_next) (n := 0) (a := 0) (as := []) (st := []) dX11_danceLine_169 rfl kX11_116 vX11_next (Nat.le_of_ble_eq_true rfl) rfl qX11 rfl rfl (Nat.le_of_ble_eq_true rfl) ?_
      refine cl_mono (fun r w2 hr => ?_) h
      obtain ⟨rfl, hw2, h⟩ := hr
      show Go SR mX11_danceLine 172 [(0, .ref 0), (1, .int l1), (2, .int l2)] [] w2 Q
      exact g_vret (pc := 172) dX11_danceLine_172 rfl h
    · have h := h.2 q
      exact g_vret (pc := 145) dX11_danceLine_145 rfl h
  · have h := h.2 q
    refine g_aload_n (pc := 55) dX11_danceLine_55 rfl 0 rfl ?_
    refine g_getZ (pc := 56) (a := 0) dX11_danceLine_56 rfl fX11_95 rfl ?_
    refine g_if_ne (pc := 59) (tgt := 138) dX11_danceLine_59 (by decide) (fun q => ?_) (fun q => ?_)
    · have h := h.2 q
      refine g_aload_n (pc := 138) dX11_danceLine_138 rfl 0 rfl ?_
      refine g_getZ (pc := 139) (a := 0) dX11_danceLine_139 rfl fX11_95 rfl ?_
      refine g_if_eq (pc := 142) (tgt := 146) dX11_danceLine_142 (by decide) (fun q => ?_) (fun q => ?_)
      · have h := h.1 q
        refine g_aload_n (pc := 146) dX11_danceLine_146 rfl 0 rfl ?_
        refine g_getR (pc := 147) (a := 0) (b := 4) dX11_danceLine_147 rfl fX11_23 rfl (rm_17 hR) ?_
        refine g_iconst (pc := 150) dX11_danceLine_150 c_4 ?_
        refine g_iload_n (pc := 151) dX11_danceLine_151 rfl 1 rfl ?_
        refine g_iadd (pc := 152) dX11_danceLine_152 ?_
        refine g_aload_n (pc := 153) dX11_danceLine_153 rfl 0 rfl ?_
        refine g_getI (pc := 154) (a := 0) dX11_danceLine_154 rfl fX11_79 rfl ?_
        obtain ⟨hi3, h⟩ := h
        refine g_iast (pc := 157) (a := 4) (j := (4 + l1).toNatClampNeg) dX11_danceLine_157 rfl hi3 rfl ?_
        refine g_aload_n (pc := 158) dX11_danceLine_158 rfl 0 rfl ?_
        refine g_getR (pc := 159) (a := 0) (b := 4) dX11_danceLine_159 rfl fX11_23 rfl (rm_17 hR) ?_
        refine g_iconst (pc := 162) dX11_danceLine_162 c_1 ?_
        refine g_dup2 (pc := 163) dX11_danceLine_163 rfl rfl ?_
        refine g_iald (pc := 164) (a := 4) (j := 1) dX11_danceLine_164 rfl (vin (by decide) (by decide)) (by decide) ?_
        refine g_iconst (pc := 165) dX11_danceLine_165 c_1 ?_
        refine g_iadd (pc := 166) dX11_danceLine_166 ?_
        refine g_iast (pc := 167) (a := 4) (j := 1) dX11_danceLine_167 rfl (vin (by decide) (by decide)) (by decide) ?_
        refine g_aload_n (pc := 168) dX11_danceLine_168 rfl 0 rfl ?_
        refine g_callV (pc := 169) (M' := mX11_next) (n := 0) (a := 0) (as := []) (st := []) dX11_danceLine_169 rfl kX11_116 vX11_next (Nat.le_of_ble_eq_true rfl) rfl qX11 rfl rfl (Nat.le_of_ble_eq_true rfl) ?_
        refine cl_mono (fun r w4 hr => ?_) h
        obtain ⟨rfl, hw4, h⟩ := hr
        show Go SR mX11_danceLine 172 [(0, .ref 0), (1, .int l1), (2, .int l2)] [] w4 Q
        exact g_vret (pc := 172) dX11_danceLine_172 rfl h
      · have h := h.2 q
        exact g_vret (pc := 145) dX11_danceLine_145 rfl h
    · have h := h.1 q
      refine g_aload_n (pc := 62) dX11_danceLine_62 rfl 0 rfl ?_
      refine g_getR (pc := 63) (a := 0) (b := 2) dX11_danceLine_63 rfl fX11_17 rfl (rm_12 hR) ?_
      refine g_iload_n (pc := 66) dX11_danceLine_66 rfl 2 rfl ?_
      obtain ⟨hi5, h⟩ := h
      refine g_iald (pc := 67) (a := 2) (j := l2.toNatClampNeg) dX11_danceLine_67 rfl hi5 rfl ?_
      refine g_istore_n (pc := 68) (lv2 := [(0, .ref 0), (1, .int l1), (2, .int l2), (3, .int (wi w 2 l2.toNatClampNeg))]) dX11_danceLine_68 rfl (Nat.le_of_ble_eq_true rfl) rfl ?_
      refine g_iload_n (pc := 69) dX11_danceLine_69 rfl 3 rfl ?_
      refine g_bipush (pc := 70) (v := 116) dX11_danceLine_70 (by decide) ?_
      refine g_icmp_eq (pc := 72) (tgt := 97) dX11_danceLine_72 (by decide) (fun q => ?_) (fun q => ?_)
      · have h := h.1 q
        refine g_aload_n (pc := 97) dX11_danceLine_97 rfl 0 rfl ?_
        refine g_getR (pc := 98) (a := 0) (b := 4) dX11_danceLine_98 rfl fX11_23 rfl (rm_17 hR) ?_
        refine g_bipush (pc := 101) (v := 9) dX11_danceLine_101 (by decide) ?_
        refine g_bipush (pc := 103) (v := 12) dX11_danceLine_103 (by decide) ?_
        refine g_iload_n (pc := 105) dX11_danceLine_105 rfl 1 rfl ?_
        refine g_imul (pc := 106) dX11_danceLine_106 ?_
        refine g_iadd (pc := 107) dX11_danceLine_107 ?_
        refine g_iload_n (pc := 108) dX11_danceLine_108 rfl 2 rfl ?_
        refine g_iadd (pc := 109) dX11_danceLine_109 ?_
        refine g_iload_n (pc := 110) dX11_danceLine_110 rfl 3 rfl ?_
        refine g_bipush (pc := 111) (v := 116) dX11_danceLine_111 (by decide) ?_
        have hJ : Go SR mX11_danceLine 131 [(0, .ref 0), (1, .int l1), (2, .int l2), (3, .int (wi w 2 l2.toNatClampNeg))] [.int (if (wi w 2 l2.toNatClampNeg) = 116 then 0 else (if (wi w 2 l2.toNatClampNeg) = 117 then 1 else 2 : Int32) : Int32), .int ((9 + (12 * l1)) + l2), .ref 4] w Q := by
          obtain ⟨hi6, h⟩ := h
          refine g_iast (pc := 131) (a := 4) (j := ((9 + (12 * l1)) + l2).toNatClampNeg) dX11_danceLine_131 rfl hi6 rfl ?_
          refine g_iinc (pc := 132) (v := l2 + 1) (lv2 := [(0, .ref 0), (1, .int l1), (2, .int (l2 + 1)), (3, .int (wi w 2 l2.toNatClampNeg))]) dX11_danceLine_132 2 rfl (Nat.le_of_ble_eq_true rfl) rfl rfl ?_
          refine g_goto (pc := 135) (tgt := 47) dX11_danceLine_135 (by decide) ?_
          refine g_sub (lv2 := [(0, .ref 0), (1, .int l1), (2, .int (l2 + 1))]) [0, 1, 2] rfl ?_
          exact h
        refine g_icmp_ne (pc := 113) (tgt := 120) dX11_danceLine_113 (by decide) (fun q113 => ?_) (fun q113 => ?_)
        · refine g_iload_n (pc := 120) dX11_danceLine_120 rfl 3 rfl ?_
          refine g_bipush (pc := 121) (v := 117) dX11_danceLine_121 (by decide) ?_
          refine g_icmp_ne (pc := 123) (tgt := 130) dX11_danceLine_123 (by decide) (fun q123 => ?_) (fun q123 => ?_)
          · refine g_iconst (pc := 130) dX11_danceLine_130 c_2 ?_
            first | (exfalso; contradiction) | exact cast (by simp only [if_neg q113, if_neg q123]) hJ
          · refine g_iconst (pc := 126) dX11_danceLine_126 c_1 ?_
            refine g_goto (pc := 127) (tgt := 131) dX11_danceLine_127 (by decide) ?_
            first | (exfalso; contradiction) | exact cast (by simp only [if_neg q113, if_pos q123]) hJ
        · refine g_iconst (pc := 116) dX11_danceLine_116 c_0 ?_
          refine g_goto (pc := 117) (tgt := 131) dX11_danceLine_117 (by decide) ?_
          first | (exfalso; contradiction) | exact cast (by simp only [if_pos q113]) hJ
      · have h := h.2 q
        refine g_iload_n (pc := 75) dX11_danceLine_75 rfl 3 rfl ?_
        refine g_bipush (pc := 76) (v := 117) dX11_danceLine_76 (by decide) ?_
        refine g_icmp_eq (pc := 78) (tgt := 97) dX11_danceLine_78 (by decide) (fun q => ?_) (fun q => ?_)
        · have h := h.1 q
          refine g_aload_n (pc := 97) dX11_danceLine_97 rfl 0 rfl ?_
          refine g_getR (pc := 98) (a := 0) (b := 4) dX11_danceLine_98 rfl fX11_23 rfl (rm_17 hR) ?_
          refine g_bipush (pc := 101) (v := 9) dX11_danceLine_101 (by decide) ?_
          refine g_bipush (pc := 103) (v := 12) dX11_danceLine_103 (by decide) ?_
          refine g_iload_n (pc := 105) dX11_danceLine_105 rfl 1 rfl ?_
          refine g_imul (pc := 106) dX11_danceLine_106 ?_
          refine g_iadd (pc := 107) dX11_danceLine_107 ?_
          refine g_iload_n (pc := 108) dX11_danceLine_108 rfl 2 rfl ?_
          refine g_iadd (pc := 109) dX11_danceLine_109 ?_
          refine g_iload_n (pc := 110) dX11_danceLine_110 rfl 3 rfl ?_
          refine g_bipush (pc := 111) (v := 116) dX11_danceLine_111 (by decide) ?_
          have hJ : Go SR mX11_danceLine 131 [(0, .ref 0), (1, .int l1), (2, .int l2), (3, .int (wi w 2 l2.toNatClampNeg))] [.int (if (wi w 2 l2.toNatClampNeg) = 116 then 0 else (if (wi w 2 l2.toNatClampNeg) = 117 then 1 else 2 : Int32) : Int32), .int ((9 + (12 * l1)) + l2), .ref 4] w Q := by
            obtain ⟨hi7, h⟩ := h
            refine g_iast (pc := 131) (a := 4) (j := ((9 + (12 * l1)) + l2).toNatClampNeg) dX11_danceLine_131 rfl hi7 rfl ?_
            refine g_iinc (pc := 132) (v := l2 + 1) (lv2 := [(0, .ref 0), (1, .int l1), (2, .int (l2 + 1)), (3, .int (wi w 2 l2.toNatClampNeg))]) dX11_danceLine_132 2 rfl (Nat.le_of_ble_eq_true rfl) rfl rfl ?_
            refine g_goto (pc := 135) (tgt := 47) dX11_danceLine_135 (by decide) ?_
            refine g_sub (lv2 := [(0, .ref 0), (1, .int l1), (2, .int (l2 + 1))]) [0, 1, 2] rfl ?_
            exact h
          refine g_icmp_ne (pc := 113) (tgt := 120) dX11_danceLine_113 (by decide) (fun q113 => ?_) (fun q113 => ?_)
          · refine g_iload_n (pc := 120) dX11_danceLine_120 rfl 3 rfl ?_
            refine g_bipush (pc := 121) (v := 117) dX11_danceLine_121 (by decide) ?_
            refine g_icmp_ne (pc := 123) (tgt := 130) dX11_danceLine_123 (by decide) (fun q123 => ?_) (fun q123 => ?_)
            · refine g_iconst (pc := 130) dX11_danceLine_130 c_2 ?_
              first | (exfalso; contradiction) | exact cast (by simp only [if_neg q113, if_neg q123]) hJ
            · refine g_iconst (pc := 126) dX11_danceLine_126 c_1 ?_
              refine g_goto (pc := 127) (tgt := 131) dX11_danceLine_127 (by decide) ?_
              first | (exfalso; contradiction) | exact cast (by simp only [if_neg q113, if_pos q123]) hJ
          · refine g_iconst (pc := 116) dX11_danceLine_116 c_0 ?_
            refine g_goto (pc := 117) (tgt := 131) dX11_danceLine_117 (by decide) ?_
            first | (exfalso; contradiction) | exact cast (by simp only [if_pos q113]) hJ
        · have h := h.2 q
          refine g_iload_n (pc := 81) dX11_danceLine_81 rfl 3 rfl ?_
          refine g_bipush (pc := 82) (v := 114) dX11_danceLine_82 (by decide) ?_
          refine g_icmp_eq (pc := 84) (tgt := 97) dX11_danceLine_84 (by decide) (fun q => ?_) (fun q => ?_)
          · have h := h.1 q
            refine g_aload_n (pc := 97) dX11_danceLine_97 rfl 0 rfl ?_
            refine g_getR (pc := 98) (a := 0) (b := 4) dX11_danceLine_98 rfl fX11_23 rfl (rm_17 hR) ?_
            refine g_bipush (pc := 101) (v := 9) dX11_danceLine_101 (by decide) ?_
            refine g_bipush (pc := 103) (v := 12) dX11_danceLine_103 (by decide) ?_
            refine g_iload_n (pc := 105) dX11_danceLine_105 rfl 1 rfl ?_
            refine g_imul (pc := 106) dX11_danceLine_106 ?_
            refine g_iadd (pc := 107) dX11_danceLine_107 ?_
            refine g_iload_n (pc := 108) dX11_danceLine_108 rfl 2 rfl ?_
            refine g_iadd (pc := 109) dX11_danceLine_109 ?_
            refine g_iload_n (pc := 110) dX11_danceLine_110 rfl 3 rfl ?_
            refine g_bipush (pc := 111) (v := 116) dX11_danceLine_111 (by decide) ?_
            have hJ : Go SR mX11_danceLine 131 [(0, .ref 0), (1, .int l1), (2, .int l2), (3, .int (wi w 2 l2.toNatClampNeg))] [.int (if (wi w 2 l2.toNatClampNeg) = 116 then 0 else (if (wi w 2 l2.toNatClampNeg) = 117 then 1 else 2 : Int32) : Int32), .int ((9 + (12 * l1)) + l2), .ref 4] w Q := by
              obtain ⟨hi8, h⟩ := h
              refine g_iast (pc := 131) (a := 4) (j := ((9 + (12 * l1)) + l2).toNatClampNeg) dX11_danceLine_131 rfl hi8 rfl ?_
              refine g_iinc (pc := 132) (v := l2 + 1) (lv2 := [(0, .ref 0), (1, .int l1), (2, .int (l2 + 1)), (3, .int (wi w 2 l2.toNatClampNeg))]) dX11_danceLine_132 2 rfl (Nat.le_of_ble_eq_true rfl) rfl rfl ?_
              refine g_goto (pc := 135) (tgt := 47) dX11_danceLine_135 (by decide) ?_
              refine g_sub (lv2 := [(0, .ref 0), (1, .int l1), (2, .int (l2 + 1))]) [0, 1, 2] rfl ?_
              exact h
            refine g_icmp_ne (pc := 113) (tgt := 120) dX11_danceLine_113 (by decide) (fun q113 => ?_) (fun q113 => ?_)
            · refine g_iload_n (pc := 120) dX11_danceLine_120 rfl 3 rfl ?_
              refine g_bipush (pc := 121) (v := 117) dX11_danceLine_121 (by decide) ?_
              refine g_icmp_ne (pc := 123) (tgt := 130) dX11_danceLine_123 (by decide) (fun q123 => ?_) (fun q123 => ?_)
              · refine g_iconst (pc := 130) dX11_danceLine_130 c_2 ?_
                first | (exfalso; contradiction) | exact cast (by simp only [if_neg q113, if_neg q123]) hJ
              · refine g_iconst (pc := 126) dX11_danceLine_126 c_1 ?_
                refine g_goto (pc := 127) (tgt := 131) dX11_danceLine_127 (by decide) ?_
                first | (exfalso; contradiction) | exact cast (by simp only [if_neg q113, if_pos q123]) hJ
            · refine g_iconst (pc := 116) dX11_danceLine_116 c_0 ?_
              refine g_goto (pc := 117) (tgt := 131) dX11_danceLine_117 (by decide) ?_
              first | (exfalso; contradiction) | exact cast (by simp only [if_pos q113]) hJ
          · have h := h.2 q
            refine g_aload_n (pc := 87) dX11_danceLine_87 rfl 0 rfl ?_
            refine g_bipush (pc := 88) (v := 7) dX11_danceLine_88 (by decide) ?_
            refine g_aload_n (pc := 90) dX11_danceLine_90 rfl 0 rfl ?_
            refine g_getI (pc := 91) (a := 0) dX11_danceLine_91 rfl fX11_76 rfl ?_
            refine g_callV (pc := 94) (M' := mX11_wrong) (n := 2) (a := 0) (as := [.int 7, .int (wi w 0 4)]) (st := []) dX11_danceLine_94 rfl kX11_122 vX11_wrong (Nat.le_of_ble_eq_true rfl) rfl qX11 rfl rfl (Nat.le_of_ble_eq_true rfl) ?_
            refine zX11_wrong (a1 := 7) (a2 := (wi w 0 4)) (w := w) (hR := hR) ?_
            show Go SR mX11_danceLine 97 [(0, .ref 0), (1, .int l1), (2, .int l2), (3, .int (wi w 2 l2.toNatClampNeg))] [] (wXX11_wrong 7 (wi w 0 4) w) Q
            refine g_aload_n (pc := 97) dX11_danceLine_97 rfl 0 rfl ?_
            refine g_getR (pc := 98) (a := 0) (b := 4) dX11_danceLine_98 rfl fX11_23 rfl (rm_17 ((rXX11_wrong 7 (wi w 0 4) w).trans hR)) ?_
            refine g_bipush (pc := 101) (v := 9) dX11_danceLine_101 (by decide) ?_
            refine g_bipush (pc := 103) (v := 12) dX11_danceLine_103 (by decide) ?_
            refine g_iload_n (pc := 105) dX11_danceLine_105 rfl 1 rfl ?_
            refine g_imul (pc := 106) dX11_danceLine_106 ?_
            refine g_iadd (pc := 107) dX11_danceLine_107 ?_
            refine g_iload_n (pc := 108) dX11_danceLine_108 rfl 2 rfl ?_
            refine g_iadd (pc := 109) dX11_danceLine_109 ?_
            refine g_iload_n (pc := 110) dX11_danceLine_110 rfl 3 rfl ?_
            refine g_bipush (pc := 111) (v := 116) dX11_danceLine_111 (by decide) ?_
            have hJ : Go SR mX11_danceLine 131 [(0, .ref 0), (1, .int l1), (2, .int l2), (3, .int (wi w 2 l2.toNatClampNeg))] [.int (if (wi w 2 l2.toNatClampNeg) = 116 then 0 else (if (wi w 2 l2.toNatClampNeg) = 117 then 1 else 2 : Int32) : Int32), .int ((9 + (12 * l1)) + l2), .ref 4] (wXX11_wrong 7 (wi w 0 4) w) Q := by
              obtain ⟨hi9, h⟩ := h
              refine g_iast (pc := 131) (a := 4) (j := ((9 + (12 * l1)) + l2).toNatClampNeg) dX11_danceLine_131 rfl hi9 rfl ?_
              refine g_iinc (pc := 132) (v := l2 + 1) (lv2 := [(0, .ref 0), (1, .int l1), (2, .int (l2 + 1)), (3, .int (wi w 2 l2.toNatClampNeg))]) dX11_danceLine_132 2 rfl (Nat.le_of_ble_eq_true rfl) rfl rfl ?_
              refine g_goto (pc := 135) (tgt := 47) dX11_danceLine_135 (by decide) ?_
              refine g_sub (lv2 := [(0, .ref 0), (1, .int l1), (2, .int (l2 + 1))]) [0, 1, 2] rfl ?_
              exact h
            refine g_icmp_ne (pc := 113) (tgt := 120) dX11_danceLine_113 (by decide) (fun q113 => ?_) (fun q113 => ?_)
            · refine g_iload_n (pc := 120) dX11_danceLine_120 rfl 3 rfl ?_
              refine g_bipush (pc := 121) (v := 117) dX11_danceLine_121 (by decide) ?_
              refine g_icmp_ne (pc := 123) (tgt := 130) dX11_danceLine_123 (by decide) (fun q123 => ?_) (fun q123 => ?_)
              · refine g_iconst (pc := 130) dX11_danceLine_130 c_2 ?_
                first | (exfalso; contradiction) | exact cast (by simp only [if_neg q113, if_neg q123]) hJ
              · refine g_iconst (pc := 126) dX11_danceLine_126 c_1 ?_
                refine g_goto (pc := 127) (tgt := 131) dX11_danceLine_127 (by decide) ?_
                first | (exfalso; contradiction) | exact cast (by simp only [if_neg q113, if_pos q123]) hJ
            · refine g_iconst (pc := 116) dX11_danceLine_116 c_0 ?_
              refine g_goto (pc := 117) (tgt := 131) dX11_danceLine_117 (by decide) ?_
              first | (exfalso; contradiction) | exact cast (by simp only [if_pos q113]) hJ
set_option maxHeartbeats 4000000 in
set_option maxRecDepth 100000 in
theorem TX11_hallLine  (w : Wd) (hR : w.2.2 = RM) (Q : Option Value → Wd → Prop) (h : (((wi w 0 14) = 0 → (((wi w 0 13) = 0 → ClV SR mX11_next [.ref 0] w (fun w1 => w1.2.2 = RM ∧ ClV SR mX11_must [.ref 0, .ref 1004] w1 (fun w2 => w2.2.2 = RM ∧ ClV SR mX11_pass [.ref 0] (si (wXX11_numberHere 0 100 w2) 4 0 (vXX11_numberHere 0 100 w2)) (fun w3 => w3.2.2 = RM ∧ Q none (si w3 0 14 (if (wi w3 0 13) = 0 then 1 else 0 : Int32)))))) ∧ (¬ ((wi w 0 13) = 0) → Q none w))) ∧ (¬ ((wi w 0 14) = 0) → (((wi (wXX11_wrong 3 (wi w 0 4) w) 0 13) = 0 → ClV SR mX11_next [.ref 0] (wXX11_wrong 3 (wi w 0 4) w) (fun w4 => w4.2.2 = RM ∧ ClV SR mX11_must [.ref 0, .ref 1004] w4 (fun w5 => w5.2.2 = RM ∧ ClV SR mX11_pass [.ref 0] (si (wXX11_numberHere 0 100 w5) 4 0 (vXX11_numberHere 0 100 w5)) (fun w6 => w6.2.2 = RM ∧ Q none (si w6 0 14 (if (wi w6 0 13) = 0 then 1 else 0 : Int32)))))) ∧ (¬ ((wi (wXX11_wrong 3 (wi w 0 4) w) 0 13) = 0) → Q none (wXX11_wrong 3 (wi w 0 4) w)))))) : Cl SR mX11_hallLine [.ref 0] w Q := by
  refine cl_of (by decide) (Nat.le_of_ble_eq_true rfl) ?_
  show Go SR mX11_hallLine 0 [(0, .ref 0)] [] w Q
  refine g_aload_n (pc := 0) dX11_hallLine_0 rfl 0 rfl ?_
  refine g_getZ (pc := 1) (a := 0) dX11_hallLine_1 rfl fX11_153 rfl ?_
  refine g_if_eq (pc := 4) (tgt := 16) dX11_hallLine_4 (by decide) (fun q => ?_) (fun q => ?_)
  · have h := h.1 q
    refine g_aload_n (pc := 16) dX11_hallLine_16 rfl 0 rfl ?_
    refine g_getZ (pc := 17) (a := 0) dX11_hallLine_17 rfl fX11_95 rfl ?_
    refine g_if_eq (pc := 20) (tgt := 24) dX11_hallLine_20 (by decide) (fun q => ?_) (fun q => ?_)
    · have h := h.1 q
      refine g_aload_n (pc := 24) dX11_hallLine_24 rfl 0 rfl ?_
      refine g_callV (pc := 25) (M' := mX11_next) (n := 0) (a := 0) (as := []) (st := []) dX11_hallLine_25 rfl kX11_116 vX11_next (Nat.le_of_ble_eq_true rfl) rfl qX11 rfl rfl (Nat.le_of_ble_eq_true rfl) ?_
      refine cl_mono (fun r w1 hr => ?_) h
      obtain ⟨rfl, hw1, h⟩ := hr
      show Go SR mX11_hallLine 28 [(0, .ref 0)] [] w1 Q
      refine g_aload_n (pc := 28) dX11_hallLine_28 rfl 0 rfl ?_
      refine g_ldcS (pc := 29) (i := 4) (tx := "slips") dX11_hallLine_29 rfl (by decide) ?_
      refine g_callV (pc := 31) (M' := mX11_must) (n := 1) (a := 0) (as := [.ref 1004]) (st := []) dX11_hallLine_31 rfl kX11_199 vX11_must (Nat.le_of_ble_eq_true rfl) rfl qX11 rfl rfl (Nat.le_of_ble_eq_true rfl) ?_
      refine cl_mono (fun r w2 hr => ?_) h
      obtain ⟨rfl, hw2, h⟩ := hr
      show Go SR mX11_hallLine 34 [(0, .ref 0)] [] w2 Q
      refine g_aload_n (pc := 34) dX11_hallLine_34 rfl 0 rfl ?_
      refine g_getR (pc := 35) (a := 0) (b := 4) dX11_hallLine_35 rfl fX11_23 rfl (rm_17 hw2) ?_
      refine g_iconst (pc := 38) dX11_hallLine_38 c_0 ?_
      refine g_aload_n (pc := 39) dX11_hallLine_39 rfl 0 rfl ?_
      refine g_iconst (pc := 40) dX11_hallLine_40 c_0 ?_
      refine g_bipush (pc := 41) (v := 100) dX11_hallLine_41 (by decide) ?_
      refine g_callV (pc := 43) (M' := mX11_numberHere) (n := 2) (a := 0) (as := [.int 0, .int 100]) (st := [.int 0, .ref 4]) dX11_hallLine_43 rfl kX11_203 vX11_numberHere (Nat.le_of_ble_eq_true rfl) rfl qX11 rfl rfl (Nat.le_of_ble_eq_true rfl) ?_
      refine zX11_numberHere (a1 := 0) (a2 := 100) (w := w2) (hR := hw2) ?_
      show Go SR mX11_hallLine 46 [(0, .ref 0)] [.int (vXX11_numberHere 0 100 w2), .int 0, .ref 4] (wXX11_numberHere 0 100 w2) Q
      refine g_iast (pc := 46) (a := 4) (j := 0) dX11_hallLine_46 rfl (vin (by decide) (by decide)) (by decide) ?_
      refine g_aload_n (pc := 47) dX11_hallLine_47 rfl 0 rfl ?_
      refine g_callV (pc := 48) (M' := mX11_pass) (n := 0) (a := 0) (as := []) (st := []) dX11_hallLine_48 rfl kX11_140 vX11_pass (Nat.le_of_ble_eq_true rfl) rfl qX11 rfl rfl (Nat.le_of_ble_eq_true rfl) ?_
      refine cl_mono (fun r w3 hr => ?_) h
      obtain ⟨rfl, hw3, h⟩ := hr
      show Go SR mX11_hallLine 51 [(0, .ref 0)] [] w3 Q
      refine g_aload_n (pc := 51) dX11_hallLine_51 rfl 0 rfl ?_
      refine g_aload_n (pc := 52) dX11_hallLine_52 rfl 0 rfl ?_
      refine g_getZ (pc := 53) (a := 0) dX11_hallLine_53 rfl fX11_95 rfl ?_
      have hJ : Go SR mX11_hallLine 64 [(0, .ref 0)] [.int (if (wi w3 0 13) = 0 then 1 else 0 : Int32), .ref 0] w3 Q := by
        refine g_putZ (pc := 64) dX11_hallLine_64 rfl fX11_153 pX11_14 rfl (z_ite (Or.inr rfl) (Or.inl rfl)) ?_
        exact g_vret (pc := 67) dX11_hallLine_67 rfl h
      refine g_if_ne (pc := 56) (tgt := 63) dX11_hallLine_56 (by decide) (fun q56 => ?_) (fun q56 => ?_)
      · refine g_iconst (pc := 63) dX11_hallLine_63 c_0 ?_
        first | (exfalso; contradiction) | exact cast (by simp only [if_neg q56]) hJ
      · refine g_iconst (pc := 59) dX11_hallLine_59 c_1 ?_
        refine g_goto (pc := 60) (tgt := 64) dX11_hallLine_60 (by decide) ?_
        first | (exfalso; contradiction) | exact cast (by simp only [if_pos q56]) hJ
    · have h := h.2 q
      exact g_vret (pc := 23) dX11_hallLine_23 rfl h
  · have h := h.2 q
    refine g_aload_n (pc := 7) dX11_hallLine_7 rfl 0 rfl ?_
    refine g_iconst (pc := 8) dX11_hallLine_8 c_3 ?_
    refine g_aload_n (pc := 9) dX11_hallLine_9 rfl 0 rfl ?_
    refine g_getI (pc := 10) (a := 0) dX11_hallLine_10 rfl fX11_76 rfl ?_
    refine g_callV (pc := 13) (M' := mX11_wrong) (n := 2) (a := 0) (as := [.int 3, .int (wi w 0 4)]) (st := []) dX11_hallLine_13 rfl kX11_122 vX11_wrong (Nat.le_of_ble_eq_true rfl) rfl qX11 rfl rfl (Nat.le_of_ble_eq_true rfl) ?_
    refine zX11_wrong (a1 := 3) (a2 := (wi w 0 4)) (w := w) (hR := hR) ?_
    show Go SR mX11_hallLine 16 [(0, .ref 0)] [] (wXX11_wrong 3 (wi w 0 4) w) Q
    refine g_aload_n (pc := 16) dX11_hallLine_16 rfl 0 rfl ?_
    refine g_getZ (pc := 17) (a := 0) dX11_hallLine_17 rfl fX11_95 rfl ?_
    refine g_if_eq (pc := 20) (tgt := 24) dX11_hallLine_20 (by decide) (fun q => ?_) (fun q => ?_)
    · have h := h.1 q
      refine g_aload_n (pc := 24) dX11_hallLine_24 rfl 0 rfl ?_
      refine g_callV (pc := 25) (M' := mX11_next) (n := 0) (a := 0) (as := []) (st := []) dX11_hallLine_25 rfl kX11_116 vX11_next (Nat.le_of_ble_eq_true rfl) rfl qX11 rfl rfl (Nat.le_of_ble_eq_true rfl) ?_
      refine cl_mono (fun r w4 hr => ?_) h
      obtain ⟨rfl, hw4, h⟩ := hr
      show Go SR mX11_hallLine 28 [(0, .ref 0)] [] w4 Q
      refine g_aload_n (pc := 28) dX11_hallLine_28 rfl 0 rfl ?_
      refine g_ldcS (pc := 29) (i := 4) (tx := "slips") dX11_hallLine_29 rfl (by decide) ?_
      refine g_callV (pc := 31) (M' := mX11_must) (n := 1) (a := 0) (as := [.ref 1004]) (st := []) dX11_hallLine_31 rfl kX11_199 vX11_must (Nat.le_of_ble_eq_true rfl) rfl qX11 rfl rfl (Nat.le_of_ble_eq_true rfl) ?_
      refine cl_mono (fun r w5 hr => ?_) h
      obtain ⟨rfl, hw5, h⟩ := hr
      show Go SR mX11_hallLine 34 [(0, .ref 0)] [] w5 Q
      refine g_aload_n (pc := 34) dX11_hallLine_34 rfl 0 rfl ?_
      refine g_getR (pc := 35) (a := 0) (b := 4) dX11_hallLine_35 rfl fX11_23 rfl (rm_17 hw5) ?_
      refine g_iconst (pc := 38) dX11_hallLine_38 c_0 ?_
      refine g_aload_n (pc := 39) dX11_hallLine_39 rfl 0 rfl ?_
      refine g_iconst (pc := 40) dX11_hallLine_40 c_0 ?_
      refine g_bipush (pc := 41) (v := 100) dX11_hallLine_41 (by decide) ?_
      refine g_callV (pc := 43) (M' := mX11_numberHere) (n := 2) (a := 0) (as := [.int 0, .int 100]) (st := [.int 0, .ref 4]) dX11_hallLine_43 rfl kX11_203 vX11_numberHere (Nat.le_of_ble_eq_true rfl) rfl qX11 rfl rfl (Nat.le_of_ble_eq_true rfl) ?_
      refine zX11_numberHere (a1 := 0) (a2 := 100) (w := w5) (hR := hw5) ?_
      show Go SR mX11_hallLine 46 [(0, .ref 0)] [.int (vXX11_numberHere 0 100 w5), .int 0, .ref 4] (wXX11_numberHere 0 100 w5) Q
      refine g_iast (pc := 46) (a := 4) (j := 0) dX11_hallLine_46 rfl (vin (by decide) (by decide)) (by decide) ?_
      refine g_aload_n (pc := 47) dX11_hallLine_47 rfl 0 rfl ?_
      refine g_callV (pc := 48) (M' := mX11_pass) (n := 0) (a := 0) (as := []) (st := []) dX11_hallLine_48 rfl kX11_140 vX11_pass (Nat.le_of_ble_eq_true rfl) rfl qX11 rfl rfl (Nat.le_of_ble_eq_true rfl) ?_
      refine cl_mono (fun r w6 hr => ?_) h
      obtain ⟨rfl, hw6, h⟩ := hr
      show Go SR mX11_hallLine 51 [(0, .ref 0)] [] w6 Q
      refine g_aload_n (pc := 51) dX11_hallLine_51 rfl 0 rfl ?_
      refine g_aload_n (pc := 52) dX11_hallLine_52 rfl 0 rfl ?_
      refine g_getZ (pc := 53) (a := 0) dX11_hallLine_53 rfl fX11_95 rfl ?_
      have hJ : Go SR mX11_hallLine 64 [(0, .ref 0)] [.int (if (wi w6 0 13) = 0 then 1 else 0 : Int32), .ref 0] w6 Q := by
        refine g_putZ (pc := 64) dX11_hallLine_64 rfl fX11_153 pX11_14 rfl (z_ite (Or.inr rfl) (Or.inl rfl)) ?_
        exact g_vret (pc := 67) dX11_hallLine_67 rfl h
      refine g_if_ne (pc := 56) (tgt := 63) dX11_hallLine_56 (by decide) (fun q56 => ?_) (fun q56 => ?_)
      · refine g_iconst (pc := 63) dX11_hallLine_63 c_0 ?_
        first | (exfalso; contradiction) | exact cast (by simp only [if_neg q56]) hJ
      · refine g_iconst (pc := 59) dX11_hallLine_59 c_1 ?_
        refine g_goto (pc := 60) (tgt := 64) dX11_hallLine_60 (by decide) ?_
        first | (exfalso; contradiction) | exact cast (by simp only [if_pos q56]) hJ
    · have h := h.2 q
      exact g_vret (pc := 23) dX11_hallLine_23 rfl h
set_option maxHeartbeats 4000000 in
set_option maxRecDepth 100000 in
theorem TX11_cornerHere  (w : Wd) (hR : w.2.2 = RM) (Q : Option Value → Wd → Prop) (h : ClI SR mX11_isWord [.ref 0, .ref 1005] w (fun x2 w1 => w1.2.2 = RM ∧ ((x2 = 0 → ClI SR mX11_isWord [.ref 0, .ref 1006] w1 (fun x4 w3 => w3.2.2 = RM ∧ ((x4 = 0 → ClI SR mX11_isWord [.ref 0, .ref 1007] w3 (fun x6 w5 => w5.2.2 = RM ∧ ((x6 = 0 → ClI SR mX11_isWord [.ref 0, .ref 1008] w5 (fun x8 w7 => w7.2.2 = RM ∧ (((0 : Int32) ≤ (if x8 = 0 then (-1) else 3 : Int32) → Q (some (.int (if x8 = 0 then (-1) else 3 : Int32))) w7) ∧ (¬ ((0 : Int32) ≤ (if x8 = 0 then (-1) else 3 : Int32)) → Q (some (.int (if x8 = 0 then (-1) else 3 : Int32))) (wXX11_wrong 1 (wi w7 0 4) w7))))) ∧ (¬ (x6 = 0) → (((0 : Int32) ≤ (2 : Int32) → Q (some (.int 2)) w5) ∧ (¬ ((0 : Int32) ≤ (2 : Int32)) → Q (some (.int 2)) (wXX11_wrong 1 (wi w5 0 4) w5))))))) ∧ (¬ (x4 = 0) → (((0 : Int32) ≤ (1 : Int32) → Q (some (.int 1)) w3) ∧ (¬ ((0 : Int32) ≤ (1 : Int32)) → Q (some (.int 1)) (wXX11_wrong 1 (wi w3 0 4) w3))))))) ∧ (¬ (x2 = 0) → (((0 : Int32) ≤ (0 : Int32) → Q (some (.int 0)) w1) ∧ (¬ ((0 : Int32) ≤ (0 : Int32)) → Q (some (.int 0)) (wXX11_wrong 1 (wi w1 0 4) w1))))))) : Cl SR mX11_cornerHere [.ref 0] w Q := by
  refine cl_of (by decide) (Nat.le_of_ble_eq_true rfl) ?_
  show Go SR mX11_cornerHere 0 [(0, .ref 0)] [] w Q
  refine g_aload_n (pc := 0) dX11_cornerHere_0 rfl 0 rfl ?_
  refine g_ldcS (pc := 1) (i := 5) (tx := "nw") dX11_cornerHere_1 rfl (by decide) ?_
  refine g_callV (pc := 3) (M' := mX11_isWord) (n := 1) (a := 0) (as := [.ref 1005]) (st := []) dX11_cornerHere_3 rfl kX11_112 vX11_isWord (Nat.le_of_ble_eq_true rfl) rfl qX11 rfl rfl (Nat.le_of_ble_eq_true rfl) ?_
  refine cl_mono (fun r w1 hr => ?_) h
  obtain ⟨x2, rfl, hw1, h⟩ := hr
  show Go SR mX11_cornerHere 6 [(0, .ref 0)] [.int x2] w1 Q
  refine g_if_eq (pc := 6) (tgt := 13) dX11_cornerHere_6 (by decide) (fun q => ?_) (fun q => ?_)
  · have h := h.1 q
    refine g_aload_n (pc := 13) dX11_cornerHere_13 rfl 0 rfl ?_
    refine g_ldcS (pc := 14) (i := 6) (tx := "ne") dX11_cornerHere_14 rfl (by decide) ?_
    refine g_callV (pc := 16) (M' := mX11_isWord) (n := 1) (a := 0) (as := [.ref 1006]) (st := []) dX11_cornerHere_16 rfl kX11_112 vX11_isWord (Nat.le_of_ble_eq_true rfl) rfl qX11 rfl rfl (Nat.le_of_ble_eq_true rfl) ?_
    refine cl_mono (fun r w3 hr => ?_) h
    obtain ⟨x4, rfl, hw3, h⟩ := hr
    show Go SR mX11_cornerHere 19 [(0, .ref 0)] [.int x4] w3 Q
    refine g_if_eq (pc := 19) (tgt := 26) dX11_cornerHere_19 (by decide) (fun q => ?_) (fun q => ?_)
    · have h := h.1 q
      refine g_aload_n (pc := 26) dX11_cornerHere_26 rfl 0 rfl ?_
      refine g_ldcS (pc := 27) (i := 7) (tx := "sw") dX11_cornerHere_27 rfl (by decide) ?_
      refine g_callV (pc := 29) (M' := mX11_isWord) (n := 1) (a := 0) (as := [.ref 1007]) (st := []) dX11_cornerHere_29 rfl kX11_112 vX11_isWord (Nat.le_of_ble_eq_true rfl) rfl qX11 rfl rfl (Nat.le_of_ble_eq_true rfl) ?_
      refine cl_mono (fun r w5 hr => ?_) h
      obtain ⟨x6, rfl, hw5, h⟩ := hr
      show Go SR mX11_cornerHere 32 [(0, .ref 0)] [.int x6] w5 Q
      refine g_if_eq (pc := 32) (tgt := 39) dX11_cornerHere_32 (by decide) (fun q => ?_) (fun q => ?_)
      · have h := h.1 q
        refine g_aload_n (pc := 39) dX11_cornerHere_39 rfl 0 rfl ?_
        refine g_ldcS (pc := 40) (i := 8) (tx := "se") dX11_cornerHere_40 rfl (by decide) ?_
        refine g_callV (pc := 42) (M' := mX11_isWord) (n := 1) (a := 0) (as := [.ref 1008]) (st := []) dX11_cornerHere_42 rfl kX11_112 vX11_isWord (Nat.le_of_ble_eq_true rfl) rfl qX11 rfl rfl (Nat.le_of_ble_eq_true rfl) ?_
        refine cl_mono (fun r w7 hr => ?_) h
        obtain ⟨x8, rfl, hw7, h⟩ := hr
        show Go SR mX11_cornerHere 45 [(0, .ref 0)] [.int x8] w7 Q
        have hJ : Go SR mX11_cornerHere 53 [(0, .ref 0)] [.int (if x8 = 0 then (-1) else 3 : Int32)] w7 Q := by
          refine g_istore_n (pc := 53) (lv2 := [(0, .ref 0), (1, .int (if x8 = 0 then (-1) else 3 : Int32))]) dX11_cornerHere_53 rfl (Nat.le_of_ble_eq_true rfl) rfl ?_
          refine g_iload_n (pc := 54) dX11_cornerHere_54 rfl 1 rfl ?_
          refine g_if_ge (pc := 55) (tgt := 67) dX11_cornerHere_55 (by decide) (fun q => ?_) (fun q => ?_)
          · have h := h.1 q
            refine g_iload_n (pc := 67) dX11_cornerHere_67 rfl 1 rfl ?_
            exact g_iret (pc := 68) dX11_cornerHere_68 rfl h
          · have h := h.2 q
            refine g_aload_n (pc := 58) dX11_cornerHere_58 rfl 0 rfl ?_
            refine g_iconst (pc := 59) dX11_cornerHere_59 c_1 ?_
            refine g_aload_n (pc := 60) dX11_cornerHere_60 rfl 0 rfl ?_
            refine g_getI (pc := 61) (a := 0) dX11_cornerHere_61 rfl fX11_76 rfl ?_
            refine g_callV (pc := 64) (M' := mX11_wrong) (n := 2) (a := 0) (as := [.int 1, .int (wi w7 0 4)]) (st := []) dX11_cornerHere_64 rfl kX11_122 vX11_wrong (Nat.le_of_ble_eq_true rfl) rfl qX11 rfl rfl (Nat.le_of_ble_eq_true rfl) ?_
            refine zX11_wrong (a1 := 1) (a2 := (wi w7 0 4)) (w := w7) (hR := hw7) ?_
            show Go SR mX11_cornerHere 67 [(0, .ref 0), (1, .int (if x8 = 0 then (-1) else 3 : Int32))] [] (wXX11_wrong 1 (wi w7 0 4) w7) Q
            refine g_iload_n (pc := 67) dX11_cornerHere_67 rfl 1 rfl ?_
            exact g_iret (pc := 68) dX11_cornerHere_68 rfl h
        refine g_if_eq (pc := 45) (tgt := 52) dX11_cornerHere_45 (by decide) (fun q45 => ?_) (fun q45 => ?_)
        · refine g_iconst (pc := 52) dX11_cornerHere_52 cN_1 ?_
          first | (exfalso; contradiction) | exact cast (by simp only [if_pos q45]) hJ
        · refine g_iconst (pc := 48) dX11_cornerHere_48 c_3 ?_
          refine g_goto (pc := 49) (tgt := 53) dX11_cornerHere_49 (by decide) ?_
          first | (exfalso; contradiction) | exact cast (by simp only [if_neg q45]) hJ
      · have h := h.2 q
        refine g_iconst (pc := 35) dX11_cornerHere_35 c_2 ?_
        refine g_goto (pc := 36) (tgt := 53) dX11_cornerHere_36 (by decide) ?_
        refine g_istore_n (pc := 53) (lv2 := [(0, .ref 0), (1, .int 2)]) dX11_cornerHere_53 rfl (Nat.le_of_ble_eq_true rfl) rfl ?_
        refine g_iload_n (pc := 54) dX11_cornerHere_54 rfl 1 rfl ?_
        refine g_if_ge (pc := 55) (tgt := 67) dX11_cornerHere_55 (by decide) (fun q => ?_) (fun q => ?_)
        · have h := h.1 q
          refine g_iload_n (pc := 67) dX11_cornerHere_67 rfl 1 rfl ?_
          exact g_iret (pc := 68) dX11_cornerHere_68 rfl h
        · have h := h.2 q
          refine g_aload_n (pc := 58) dX11_cornerHere_58 rfl 0 rfl ?_
          refine g_iconst (pc := 59) dX11_cornerHere_59 c_1 ?_
          refine g_aload_n (pc := 60) dX11_cornerHere_60 rfl 0 rfl ?_
          refine g_getI (pc := 61) (a := 0) dX11_cornerHere_61 rfl fX11_76 rfl ?_
          refine g_callV (pc := 64) (M' := mX11_wrong) (n := 2) (a := 0) (as := [.int 1, .int (wi w5 0 4)]) (st := []) dX11_cornerHere_64 rfl kX11_122 vX11_wrong (Nat.le_of_ble_eq_true rfl) rfl qX11 rfl rfl (Nat.le_of_ble_eq_true rfl) ?_
          refine zX11_wrong (a1 := 1) (a2 := (wi w5 0 4)) (w := w5) (hR := hw5) ?_
          show Go SR mX11_cornerHere 67 [(0, .ref 0), (1, .int 2)] [] (wXX11_wrong 1 (wi w5 0 4) w5) Q
          refine g_iload_n (pc := 67) dX11_cornerHere_67 rfl 1 rfl ?_
          exact g_iret (pc := 68) dX11_cornerHere_68 rfl h
    · have h := h.2 q
      refine g_iconst (pc := 22) dX11_cornerHere_22 c_1 ?_
      refine g_goto (pc := 23) (tgt := 53) dX11_cornerHere_23 (by decide) ?_
      refine g_istore_n (pc := 53) (lv2 := [(0, .ref 0), (1, .int 1)]) dX11_cornerHere_53 rfl (Nat.le_of_ble_eq_true rfl) rfl ?_
      refine g_iload_n (pc := 54) dX11_cornerHere_54 rfl 1 rfl ?_
      refine g_if_ge (pc := 55) (tgt := 67) dX11_cornerHere_55 (by decide) (fun q => ?_) (fun q => ?_)
      · have h := h.1 q
        refine g_iload_n (pc := 67) dX11_cornerHere_67 rfl 1 rfl ?_
        exact g_iret (pc := 68) dX11_cornerHere_68 rfl h
      · have h := h.2 q
        refine g_aload_n (pc := 58) dX11_cornerHere_58 rfl 0 rfl ?_
        refine g_iconst (pc := 59) dX11_cornerHere_59 c_1 ?_
        refine g_aload_n (pc := 60) dX11_cornerHere_60 rfl 0 rfl ?_
        refine g_getI (pc := 61) (a := 0) dX11_cornerHere_61 rfl fX11_76 rfl ?_
        refine g_callV (pc := 64) (M' := mX11_wrong) (n := 2) (a := 0) (as := [.int 1, .int (wi w3 0 4)]) (st := []) dX11_cornerHere_64 rfl kX11_122 vX11_wrong (Nat.le_of_ble_eq_true rfl) rfl qX11 rfl rfl (Nat.le_of_ble_eq_true rfl) ?_
        refine zX11_wrong (a1 := 1) (a2 := (wi w3 0 4)) (w := w3) (hR := hw3) ?_
        show Go SR mX11_cornerHere 67 [(0, .ref 0), (1, .int 1)] [] (wXX11_wrong 1 (wi w3 0 4) w3) Q
        refine g_iload_n (pc := 67) dX11_cornerHere_67 rfl 1 rfl ?_
        exact g_iret (pc := 68) dX11_cornerHere_68 rfl h
  · have h := h.2 q
    refine g_iconst (pc := 9) dX11_cornerHere_9 c_0 ?_
    refine g_goto (pc := 10) (tgt := 53) dX11_cornerHere_10 (by decide) ?_
    refine g_istore_n (pc := 53) (lv2 := [(0, .ref 0), (1, .int 0)]) dX11_cornerHere_53 rfl (Nat.le_of_ble_eq_true rfl) rfl ?_
    refine g_iload_n (pc := 54) dX11_cornerHere_54 rfl 1 rfl ?_
    refine g_if_ge (pc := 55) (tgt := 67) dX11_cornerHere_55 (by decide) (fun q => ?_) (fun q => ?_)
    · have h := h.1 q
      refine g_iload_n (pc := 67) dX11_cornerHere_67 rfl 1 rfl ?_
      exact g_iret (pc := 68) dX11_cornerHere_68 rfl h
    · have h := h.2 q
      refine g_aload_n (pc := 58) dX11_cornerHere_58 rfl 0 rfl ?_
      refine g_iconst (pc := 59) dX11_cornerHere_59 c_1 ?_
      refine g_aload_n (pc := 60) dX11_cornerHere_60 rfl 0 rfl ?_
      refine g_getI (pc := 61) (a := 0) dX11_cornerHere_61 rfl fX11_76 rfl ?_
      refine g_callV (pc := 64) (M' := mX11_wrong) (n := 2) (a := 0) (as := [.int 1, .int (wi w1 0 4)]) (st := []) dX11_cornerHere_64 rfl kX11_122 vX11_wrong (Nat.le_of_ble_eq_true rfl) rfl qX11 rfl rfl (Nat.le_of_ble_eq_true rfl) ?_
      refine zX11_wrong (a1 := 1) (a2 := (wi w1 0 4)) (w := w1) (hR := hw1) ?_
      show Go SR mX11_cornerHere 67 [(0, .ref 0), (1, .int 0)] [] (wXX11_wrong 1 (wi w1 0 4) w1) Q
      refine g_iload_n (pc := 67) dX11_cornerHere_67 rfl 1 rfl ?_
      exact g_iret (pc := 68) dX11_cornerHere_68 rfl h
set_option maxHeartbeats 4000000 in
set_option maxRecDepth 100000 in
theorem TX11_seenLine  (w : Wd) (hR : w.2.2 = RM) (Q : Option Value → Wd → Prop) (h : (((wi w 0 13) = 0 → ClI SR mX11_dancePassed [.ref 0] w (fun x2 w1 => w1.2.2 = RM ∧ vp_in (4 + x2) 146 ∧ Go SR mX11_seenLine 42 [(0, .ref 0), (1, .int (77 + (4 * (wi w 4 3)))), (2, .int x2), (3, .int (vXX11_numberHere 0 (wi w1 4 ((4 + x2).toNatClampNeg)) w1)), (4, .int 0)] [] (wXX11_numberHere 0 (wi w1 4 ((4 + x2).toNatClampNeg)) w1) Q)) ∧ (¬ ((wi w 0 13) = 0) → Q none w))) : Cl SR mX11_seenLine [.ref 0] w Q := by
  refine cl_of (by decide) (Nat.le_of_ble_eq_true rfl) ?_
  show Go SR mX11_seenLine 0 [(0, .ref 0)] [] w Q
  refine g_aload_n (pc := 0) dX11_seenLine_0 rfl 0 rfl ?_
  refine g_getZ (pc := 1) (a := 0) dX11_seenLine_1 rfl fX11_95 rfl ?_
  refine g_if_eq (pc := 4) (tgt := 8) dX11_seenLine_4 (by decide) (fun q => ?_) (fun q => ?_)
  · have h := h.1 q
    refine g_bipush (pc := 8) (v := 77) dX11_seenLine_8 (by decide) ?_
    refine g_iconst (pc := 10) dX11_seenLine_10 c_4 ?_
    refine g_aload_n (pc := 11) dX11_seenLine_11 rfl 0 rfl ?_
    refine g_getR (pc := 12) (a := 0) (b := 4) dX11_seenLine_12 rfl fX11_23 rfl (rm_17 hR) ?_
    refine g_iconst (pc := 15) dX11_seenLine_15 c_3 ?_
    refine g_iald (pc := 16) (a := 4) (j := 3) dX11_seenLine_16 rfl (vin (by decide) (by decide)) (by decide) ?_
    refine g_imul (pc := 17) dX11_seenLine_17 ?_
    refine g_iadd (pc := 18) dX11_seenLine_18 ?_
    refine g_istore_n (pc := 19) (lv2 := [(0, .ref 0), (1, .int (77 + (4 * (wi w 4 3))))]) dX11_seenLine_19 rfl (Nat.le_of_ble_eq_true rfl) rfl ?_
    refine g_aload_n (pc := 20) dX11_seenLine_20 rfl 0 rfl ?_
    refine g_callV (pc := 21) (M' := mX11_dancePassed) (n := 0) (a := 0) (as := []) (st := []) dX11_seenLine_21 rfl kX11_211 vX11_dancePassed (Nat.le_of_ble_eq_true rfl) rfl qX11 rfl rfl (Nat.le_of_ble_eq_true rfl) ?_
    refine cl_mono (fun r w1 hr => ?_) h
    obtain ⟨x2, rfl, hw1, h⟩ := hr
    show Go SR mX11_seenLine 24 [(0, .ref 0), (1, .int (77 + (4 * (wi w 4 3))))] [.int x2] w1 Q
    refine g_istore_n (pc := 24) (lv2 := [(0, .ref 0), (1, .int (77 + (4 * (wi w 4 3)))), (2, .int x2)]) dX11_seenLine_24 rfl (Nat.le_of_ble_eq_true rfl) rfl ?_
    refine g_aload_n (pc := 25) dX11_seenLine_25 rfl 0 rfl ?_
    refine g_iconst (pc := 26) dX11_seenLine_26 c_0 ?_
    refine g_aload_n (pc := 27) dX11_seenLine_27 rfl 0 rfl ?_
    refine g_getR (pc := 28) (a := 0) (b := 4) dX11_seenLine_28 rfl fX11_23 rfl (rm_17 hw1) ?_
    refine g_iconst (pc := 31) dX11_seenLine_31 c_4 ?_
    refine g_iload_n (pc := 32) dX11_seenLine_32 rfl 2 rfl ?_
    refine g_iadd (pc := 33) dX11_seenLine_33 ?_
    obtain ⟨hi3, h⟩ := h
    refine g_iald (pc := 34) (a := 4) (j := (4 + x2).toNatClampNeg) dX11_seenLine_34 rfl hi3 rfl ?_
    refine g_callV (pc := 35) (M' := mX11_numberHere) (n := 2) (a := 0) (as := [.int 0, .int (wi w1 4 ((4 + x2).toNatClampNeg))]) (st := []) dX11_seenLine_35 rfl kX11_203 vX11_numberHere (Nat.le_of_ble_eq_true rfl) rfl qX11 rfl rfl (Nat.le_of_ble_eq_true rfl) ?_
    refine zX11_numberHere (a1 := 0) (a2 := (wi w1 4 ((4 + x2).toNatClampNeg))) (w := w1) (hR := hw1) ?_
    show Go SR mX11_seenLine 38 [(0, .ref 0), (1, .int (77 + (4 * (wi w 4 3)))), (2, .int x2)] [.int (vXX11_numberHere 0 (wi w1 4 ((4 + x2).toNatClampNeg)) w1)] (wXX11_numberHere 0 (wi w1 4 ((4 + x2).toNatClampNeg)) w1) Q
    refine g_istore_n (pc := 38) (lv2 := [(0, .ref 0), (1, .int (77 + (4 * (wi w 4 3)))), (2, .int x2), (3, .int (vXX11_numberHere 0 (wi w1 4 ((4 + x2).toNatClampNeg)) w1))]) dX11_seenLine_38 rfl (Nat.le_of_ble_eq_true rfl) rfl ?_
    refine g_iconst (pc := 39) dX11_seenLine_39 c_0 ?_
    refine g_istore (pc := 40) (lv2 := [(0, .ref 0), (1, .int (77 + (4 * (wi w 4 3)))), (2, .int x2), (3, .int (vXX11_numberHere 0 (wi w1 4 ((4 + x2).toNatClampNeg)) w1)), (4, .int 0)]) dX11_seenLine_40 (Nat.le_of_ble_eq_true rfl) rfl ?_
    exact h
  · have h := h.2 q
    exact g_vret (pc := 7) dX11_seenLine_7 rfl h
set_option maxHeartbeats 4000000 in
set_option maxRecDepth 100000 in
theorem BX11_seenLine_42  (l1 : Int32) (l2 : Int32) (l3 : Int32) (l4 : Int32) (w : Wd) (hR : w.2.2 = RM) (Q : Option Value → Wd → Prop) (h : (((wi w 4 3) ≤ l4 → ClV SR mX11_pass [.ref 0] w (fun w1 => w1.2.2 = RM ∧ ClI SR mX11_cornerHere [.ref 0] w1 (fun x3 w2 => w2.2.2 = RM ∧ ClV SR mX11_pass [.ref 0] w2 (fun w4 => w4.2.2 = RM ∧ ClI SR mX11_cornerHere [.ref 0] w4 (fun x6 w5 => w5.2.2 = RM ∧ (((wi w5 0 13) = 0 → ((x3 = x6 → ClV SR mX11_pass [.ref 0] (wXX11_wrong 3 (wi w5 0 4) w5) (fun w17 => w17.2.2 = RM ∧ (((wi w17 0 13) = 0 → vp_in l1 146 ∧ vp_in (l1 + 1) 146 ∧ vp_in (l1 + 2) 146 ∧ vp_in (l1 + 3) 146 ∧ Q none (si (si (si (si (si w17 4 l1.toNatClampNeg l2) 4 ((l1 + 1).toNatClampNeg) l3) 4 ((l1 + 2).toNatClampNeg) x3) 4 ((l1 + 3).toNatClampNeg) x6) 4 3 ((wi (si (si (si (si w17 4 l1.toNatClampNeg l2) 4 ((l1 + 1).toNatClampNeg) l3) 4 ((l1 + 2).toNatClampNeg) x3) 4 ((l1 + 3).toNatClampNeg) x6) 4 3) + 1))) ∧ (¬ ((wi w17 0 13) = 0) → Q none w17)))) ∧ (¬ (x3 = x6) → ClV SR mX11_pass [.ref 0] w5 (fun w12 => w12.2.2 = RM ∧ (((wi w12 0 13) = 0 → vp_in l1 146 ∧ vp_in (l1 + 1) 146 ∧ vp_in (l1 + 2) 146 ∧ vp_in (l1 + 3) 146 ∧ Q none (si (si (si (si (si w12 4 l1.toNatClampNeg l2) 4 ((l1 + 1).toNatClampNeg) l3) 4 ((l1 + 2).toNatClampNeg) x3) 4 ((l1 + 3).toNatClampNeg) x6) 4 3 ((wi (si (si (si (si w12 4 l1.toNatClampNeg l2) 4 ((l1 + 1).toNatClampNeg) l3) 4 ((l1 + 2).toNatClampNeg) x3) 4 ((l1 + 3).toNatClampNeg) x6) 4 3) + 1))) ∧ (¬ ((wi w12 0 13) = 0) → Q none w12)))))) ∧ (¬ ((wi w5 0 13) = 0) → ClV SR mX11_pass [.ref 0] w5 (fun w7 => w7.2.2 = RM ∧ (((wi w7 0 13) = 0 → vp_in l1 146 ∧ vp_in (l1 + 1) 146 ∧ vp_in (l1 + 2) 146 ∧ vp_in (l1 + 3) 146 ∧ Q none (si (si (si (si (si w7 4 l1.toNatClampNeg l2) 4 ((l1 + 1).toNatClampNeg) l3) 4 ((l1 + 2).toNatClampNeg) x3) 4 ((l1 + 3).toNatClampNeg) x6) 4 3 ((wi (si (si (si (si w7 4 l1.toNatClampNeg l2) 4 ((l1 + 1).toNatClampNeg) l3) 4 ((l1 + 2).toNatClampNeg) x3) 4 ((l1 + 3).toNatClampNeg) x6) 4 3) + 1))) ∧ (¬ ((wi w7 0 13) = 0) → Q none w7)))))))))) ∧ (¬ ((wi w 4 3) ≤ l4) → (((wi w 0 13) = 0 → vp_in (77 + (4 * l4)) 146 ∧ (((wi w 4 ((77 + (4 * l4)).toNatClampNeg)) = l2 → vp_in ((77 + (4 * l4)) + 1) 146 ∧ (((wi w 4 (((77 + (4 * l4)) + 1).toNatClampNeg)) = l3 → Go SR mX11_seenLine 42 [(0, .ref 0), (1, .int l1), (2, .int l2), (3, .int l3), (4, .int (l4 + 1))] [] (wXX11_wrong 3 (wi w 0 4) w) Q) ∧ (¬ ((wi w 4 (((77 + (4 * l4)) + 1).toNatClampNeg)) = l3) → Go SR mX11_seenLine 42 [(0, .ref 0), (1, .int l1), (2, .int l2), (3, .int l3), (4, .int (l4 + 1))] [] w Q))) ∧ (¬ ((wi w 4 ((77 + (4 * l4)).toNatClampNeg)) = l2) → Go SR mX11_seenLine 42 [(0, .ref 0), (1, .int l1), (2, .int l2), (3, .int l3), (4, .int (l4 + 1))] [] w Q))) ∧ (¬ ((wi w 0 13) = 0) → Go SR mX11_seenLine 42 [(0, .ref 0), (1, .int l1), (2, .int l2), (3, .int l3), (4, .int (l4 + 1))] [] w Q))))) : Go SR mX11_seenLine 42 [(0, .ref 0), (1, .int l1), (2, .int l2), (3, .int l3), (4, .int l4)] [] w Q := by
  refine g_iload (pc := 42) dX11_seenLine_42 4 rfl ?_
  refine g_aload_n (pc := 44) dX11_seenLine_44 rfl 0 rfl ?_
  refine g_getR (pc := 45) (a := 0) (b := 4) dX11_seenLine_45 rfl fX11_23 rfl (rm_17 hR) ?_
  refine g_iconst (pc := 48) dX11_seenLine_48 c_3 ?_
  refine g_iald (pc := 49) (a := 4) (j := 3) dX11_seenLine_49 rfl (vin (by decide) (by decide)) (by decide) ?_
  refine g_icmp_ge (pc := 50) (tgt := 109) dX11_seenLine_50 (by decide) (fun q => ?_) (fun q => ?_)
  · have h := h.1 q
    refine g_aload_n (pc := 109) dX11_seenLine_109 rfl 0 rfl ?_
    refine g_callV (pc := 110) (M' := mX11_pass) (n := 0) (a := 0) (as := []) (st := []) dX11_seenLine_110 rfl kX11_140 vX11_pass (Nat.le_of_ble_eq_true rfl) rfl qX11 rfl rfl (Nat.le_of_ble_eq_true rfl) ?_
    refine cl_mono (fun r w1 hr => ?_) h
    obtain ⟨rfl, hw1, h⟩ := hr
    show Go SR mX11_seenLine 113 [(0, .ref 0), (1, .int l1), (2, .int l2), (3, .int l3), (4, .int l4)] [] w1 Q
    refine g_aload_n (pc := 113) dX11_seenLine_113 rfl 0 rfl ?_
    refine g_callV (pc := 114) (M' := mX11_cornerHere) (n := 0) (a := 0) (as := []) (st := []) dX11_seenLine_114 rfl kX11_222 vX11_cornerHere (Nat.le_of_ble_eq_true rfl) rfl qX11 rfl rfl (Nat.le_of_ble_eq_true rfl) ?_
    refine cl_mono (fun r w2 hr => ?_) h
    obtain ⟨x3, rfl, hw2, h⟩ := hr
    show Go SR mX11_seenLine 117 [(0, .ref 0), (1, .int l1), (2, .int l2), (3, .int l3), (4, .int l4)] [.int x3] w2 Q
    refine g_istore (pc := 117) (lv2 := [(0, .ref 0), (1, .int l1), (2, .int l2), (3, .int l3), (4, .int x3)]) dX11_seenLine_117 (Nat.le_of_ble_eq_true rfl) rfl ?_
    refine g_aload_n (pc := 119) dX11_seenLine_119 rfl 0 rfl ?_
    refine g_callV (pc := 120) (M' := mX11_pass) (n := 0) (a := 0) (as := []) (st := []) dX11_seenLine_120 rfl kX11_140 vX11_pass (Nat.le_of_ble_eq_true rfl) rfl qX11 rfl rfl (Nat.le_of_ble_eq_true rfl) ?_
    refine cl_mono (fun r w4 hr => ?_) h
    obtain ⟨rfl, hw4, h⟩ := hr
    show Go SR mX11_seenLine 123 [(0, .ref 0), (1, .int l1), (2, .int l2), (3, .int l3), (4, .int x3)] [] w4 Q
    refine g_aload_n (pc := 123) dX11_seenLine_123 rfl 0 rfl ?_
    refine g_callV (pc := 124) (M' := mX11_cornerHere) (n := 0) (a := 0) (as := []) (st := []) dX11_seenLine_124 rfl kX11_222 vX11_cornerHere (Nat.le_of_ble_eq_true rfl) rfl qX11 rfl rfl (Nat.le_of_ble_eq_true rfl) ?_
    refine cl_mono (fun r w5 hr => ?_) h
    obtain ⟨x6, rfl, hw5, h⟩ := hr
    show Go SR mX11_seenLine 127 [(0, .ref 0), (1, .int l1), (2, .int l2), (3, .int l3), (4, .int x3)] [.int x6] w5 Q
    refine g_istore (pc := 127) (lv2 := [(0, .ref 0), (1, .int l1), (2, .int l2), (3, .int l3), (4, .int x3), (5, .int x6)]) dX11_seenLine_127 (Nat.le_of_ble_eq_true rfl) rfl ?_
    refine g_aload_n (pc := 129) dX11_seenLine_129 rfl 0 rfl ?_
    refine g_getZ (pc := 130) (a := 0) dX11_seenLine_130 rfl fX11_95 rfl ?_
    refine g_if_ne (pc := 133) (tgt := 152) dX11_seenLine_133 (by decide) (fun q => ?_) (fun q => ?_)
    · have h := h.2 q
      refine g_aload_n (pc := 152) dX11_seenLine_152 rfl 0 rfl ?_
      refine g_callV (pc := 153) (M' := mX11_pass) (n := 0) (a := 0) (as := []) (st := []) dX11_seenLine_153 rfl kX11_140 vX11_pass (Nat.le_of_ble_eq_true rfl) rfl qX11 rfl rfl (Nat.le_of_ble_eq_true rfl) ?_
      refine cl_mono (fun r w7 hr => ?_) h
      obtain ⟨rfl, hw7, h⟩ := hr
      show Go SR mX11_seenLine 156 [(0, .ref 0), (1, .int l1), (2, .int l2), (3, .int l3), (4, .int x3), (5, .int x6)] [] w7 Q
      refine g_aload_n (pc := 156) dX11_seenLine_156 rfl 0 rfl ?_
      refine g_getZ (pc := 157) (a := 0) dX11_seenLine_157 rfl fX11_95 rfl ?_
      refine g_if_eq (pc := 160) (tgt := 164) dX11_seenLine_160 (by decide) (fun q => ?_) (fun q => ?_)
      · have h := h.1 q
        refine g_aload_n (pc := 164) dX11_seenLine_164 rfl 0 rfl ?_
        refine g_getR (pc := 165) (a := 0) (b := 4) dX11_seenLine_165 rfl fX11_23 rfl (rm_17 hw7) ?_
        refine g_iload_n (pc := 168) dX11_seenLine_168 rfl 1 rfl ?_
        refine g_iload_n (pc := 169) dX11_seenLine_169 rfl 2 rfl ?_
        obtain ⟨hi8, h⟩ := h
        refine g_iast (pc := 170) (a := 4) (j := l1.toNatClampNeg) dX11_seenLine_170 rfl hi8 rfl ?_
        refine g_aload_n (pc := 171) dX11_seenLine_171 rfl 0 rfl ?_
        refine g_getR (pc := 172) (a := 0) (b := 4) dX11_seenLine_172 rfl fX11_23 rfl (rm_17 hw7) ?_
        refine g_iload_n (pc := 175) dX11_seenLine_175 rfl 1 rfl ?_
        refine g_iconst (pc := 176) dX11_seenLine_176 c_1 ?_
        refine g_iadd (pc := 177) dX11_seenLine_177 ?_
        refine g_iload_n (pc := 178) dX11_seenLine_178 rfl 3 rfl ?_
        obtain ⟨hi9, h⟩ := h
        refine g_iast (pc := 179) (a := 4) (j := (l1 + 1).toNatClampNeg) dX11_seenLine_179 rfl hi9 rfl ?_
        refine g_aload_n (pc := 180) dX11_seenLine_180 rfl 0 rfl ?_
        refine g_getR (pc := 181) (a := 0) (b := 4) dX11_seenLine_181 rfl fX11_23 rfl (rm_17 hw7) ?_
        refine g_iload_n (pc := 184) dX11_seenLine_184 rfl 1 rfl ?_
        refine g_iconst (pc := 185) dX11_seenLine_185 c_2 ?_
        refine g_iadd (pc := 186) dX11_seenLine_186 ?_
        refine g_iload (pc := 187) dX11_seenLine_187 4 rfl ?_
        obtain ⟨hi10, h⟩ := h
        refine g_iast (pc := 189) (a := 4) (j := (l1 + 2).toNatClampNeg) dX11_seenLine_189 rfl hi10 rfl ?_
        refine g_aload_n (pc := 190) dX11_seenLine_190 rfl 0 rfl ?_
        refine g_getR (pc := 191) (a := 0) (b := 4) dX11_seenLine_191 rfl fX11_23 rfl (rm_17 hw7) ?_
        refine g_iload_n (pc := 194) dX11_seenLine_194 rfl 1 rfl ?_
        refine g_iconst (pc := 195) dX11_seenLine_195 c_3 ?_
        refine g_iadd (pc := 196) dX11_seenLine_196 ?_
        refine g_iload (pc := 197) dX11_seenLine_197 5 rfl ?_
        obtain ⟨hi11, h⟩ := h
        refine g_iast (pc := 199) (a := 4) (j := (l1 + 3).toNatClampNeg) dX11_seenLine_199 rfl hi11 rfl ?_
        refine g_aload_n (pc := 200) dX11_seenLine_200 rfl 0 rfl ?_
        refine g_getR (pc := 201) (a := 0) (b := 4) dX11_seenLine_201 rfl fX11_23 rfl (rm_17 hw7) ?_
        refine g_iconst (pc := 204) dX11_seenLine_204 c_3 ?_
        refine g_dup2 (pc := 205) dX11_seenLine_205 rfl rfl ?_
        refine g_iald (pc := 206) (a := 4) (j := 3) dX11_seenLine_206 rfl (vin (by decide) (by decide)) (by decide) ?_
        refine g_iconst (pc := 207) dX11_seenLine_207 c_1 ?_
        refine g_iadd (pc := 208) dX11_seenLine_208 ?_
        refine g_iast (pc := 209) (a := 4) (j := 3) dX11_seenLine_209 rfl (vin (by decide) (by decide)) (by decide) ?_
        exact g_vret (pc := 210) dX11_seenLine_210 rfl h
      · have h := h.2 q
        exact g_vret (pc := 163) dX11_seenLine_163 rfl h
    · have h := h.1 q
      refine g_iload (pc := 136) dX11_seenLine_136 4 rfl ?_
      refine g_iload (pc := 138) dX11_seenLine_138 5 rfl ?_
      refine g_icmp_ne (pc := 140) (tgt := 152) dX11_seenLine_140 (by decide) (fun q => ?_) (fun q => ?_)
      · have h := h.2 q
        refine g_aload_n (pc := 152) dX11_seenLine_152 rfl 0 rfl ?_
        refine g_callV (pc := 153) (M' := mX11_pass) (n := 0) (a := 0) (as := []) (st := []) dX11_seenLine_153 rfl kX11_140 vX11_pass (Nat.le_of_ble_eq_true rfl) rfl qX11 rfl rfl (Nat.le_of_ble_eq_true rfl) ?_
        refine cl_mono (fun r w12 hr => ?_) h
        obtain ⟨rfl, hw12, h⟩ := hr
        show Go SR mX11_seenLine 156 [(0, .ref 0), (1, .int l1), (2, .int l2), (3, .int l3), (4, .int x3), (5, .int x6)] [] w12 Q
        refine g_aload_n (pc := 156) dX11_seenLine_156 rfl 0 rfl ?_
        refine g_getZ (pc := 157) (a := 0) dX11_seenLine_157 rfl fX11_95 rfl ?_
        refine g_if_eq (pc := 160) (tgt := 164) dX11_seenLine_160 (by decide) (fun q => ?_) (fun q => ?_)
        · have h := h.1 q
          refine g_aload_n (pc := 164) dX11_seenLine_164 rfl 0 rfl ?_
          refine g_getR (pc := 165) (a := 0) (b := 4) dX11_seenLine_165 rfl fX11_23 rfl (rm_17 hw12) ?_
          refine g_iload_n (pc := 168) dX11_seenLine_168 rfl 1 rfl ?_
          refine g_iload_n (pc := 169) dX11_seenLine_169 rfl 2 rfl ?_
          obtain ⟨hi13, h⟩ := h
          refine g_iast (pc := 170) (a := 4) (j := l1.toNatClampNeg) dX11_seenLine_170 rfl hi13 rfl ?_
          refine g_aload_n (pc := 171) dX11_seenLine_171 rfl 0 rfl ?_
          refine g_getR (pc := 172) (a := 0) (b := 4) dX11_seenLine_172 rfl fX11_23 rfl (rm_17 hw12) ?_
          refine g_iload_n (pc := 175) dX11_seenLine_175 rfl 1 rfl ?_
          refine g_iconst (pc := 176) dX11_seenLine_176 c_1 ?_
          refine g_iadd (pc := 177) dX11_seenLine_177 ?_
          refine g_iload_n (pc := 178) dX11_seenLine_178 rfl 3 rfl ?_
          obtain ⟨hi14, h⟩ := h
          refine g_iast (pc := 179) (a := 4) (j := (l1 + 1).toNatClampNeg) dX11_seenLine_179 rfl hi14 rfl ?_
          refine g_aload_n (pc := 180) dX11_seenLine_180 rfl 0 rfl ?_
          refine g_getR (pc := 181) (a := 0) (b := 4) dX11_seenLine_181 rfl fX11_23 rfl (rm_17 hw12) ?_
          refine g_iload_n (pc := 184) dX11_seenLine_184 rfl 1 rfl ?_
          refine g_iconst (pc := 185) dX11_seenLine_185 c_2 ?_
          refine g_iadd (pc := 186) dX11_seenLine_186 ?_
          refine g_iload (pc := 187) dX11_seenLine_187 4 rfl ?_
          obtain ⟨hi15, h⟩ := h
          refine g_iast (pc := 189) (a := 4) (j := (l1 + 2).toNatClampNeg) dX11_seenLine_189 rfl hi15 rfl ?_
          refine g_aload_n (pc := 190) dX11_seenLine_190 rfl 0 rfl ?_
          refine g_getR (pc := 191) (a := 0) (b := 4) dX11_seenLine_191 rfl fX11_23 rfl (rm_17 hw12) ?_
          refine g_iload_n (pc := 194) dX11_seenLine_194 rfl 1 rfl ?_
          refine g_iconst (pc := 195) dX11_seenLine_195 c_3 ?_
          refine g_iadd (pc := 196) dX11_seenLine_196 ?_
          refine g_iload (pc := 197) dX11_seenLine_197 5 rfl ?_
          obtain ⟨hi16, h⟩ := h
          refine g_iast (pc := 199) (a := 4) (j := (l1 + 3).toNatClampNeg) dX11_seenLine_199 rfl hi16 rfl ?_
          refine g_aload_n (pc := 200) dX11_seenLine_200 rfl 0 rfl ?_
          refine g_getR (pc := 201) (a := 0) (b := 4) dX11_seenLine_201 rfl fX11_23 rfl (rm_17 hw12) ?_
          refine g_iconst (pc := 204) dX11_seenLine_204 c_3 ?_
          refine g_dup2 (pc := 205) dX11_seenLine_205 rfl rfl ?_
          refine g_iald (pc := 206) (a := 4) (j := 3) dX11_seenLine_206 rfl (vin (by decide) (by decide)) (by decide) ?_
          refine g_iconst (pc := 207) dX11_seenLine_207 c_1 ?_
          refine g_iadd (pc := 208) dX11_seenLine_208 ?_
          refine g_iast (pc := 209) (a := 4) (j := 3) dX11_seenLine_209 rfl (vin (by decide) (by decide)) (by decide) ?_
          exact g_vret (pc := 210) dX11_seenLine_210 rfl h
        · have h := h.2 q
          exact g_vret (pc := 163) dX11_seenLine_163 rfl h
      · have h := h.1 q
        refine g_aload_n (pc := 143) dX11_seenLine_143 rfl 0 rfl ?_
        refine g_iconst (pc := 144) dX11_seenLine_144 c_3 ?_
        refine g_aload_n (pc := 145) dX11_seenLine_145 rfl 0 rfl ?_
        refine g_getI (pc := 146) (a := 0) dX11_seenLine_146 rfl fX11_76 rfl ?_
        refine g_callV (pc := 149) (M' := mX11_wrong) (n := 2) (a := 0) (as := [.int 3, .int (wi w5 0 4)]) (st := []) dX11_seenLine_149 rfl kX11_122 vX11_wrong (Nat.le_of_ble_eq_true rfl) rfl qX11 rfl rfl (Nat.le_of_ble_eq_true rfl) ?_
        refine zX11_wrong (a1 := 3) (a2 := (wi w5 0 4)) (w := w5) (hR := hw5) ?_
        show Go SR mX11_seenLine 152 [(0, .ref 0), (1, .int l1), (2, .int l2), (3, .int l3), (4, .int x3), (5, .int x6)] [] (wXX11_wrong 3 (wi w5 0 4) w5) Q
        refine g_aload_n (pc := 152) dX11_seenLine_152 rfl 0 rfl ?_
        refine g_callV (pc := 153) (M' := mX11_pass) (n := 0) (a := 0) (as := []) (st := []) dX11_seenLine_153 rfl kX11_140 vX11_pass (Nat.le_of_ble_eq_true rfl) rfl qX11 rfl rfl (Nat.le_of_ble_eq_true rfl) ?_
        refine cl_mono (fun r w17 hr => ?_) h
        obtain ⟨rfl, hw17, h⟩ := hr
        show Go SR mX11_seenLine 156 [(0, .ref 0), (1, .int l1), (2, .int l2), (3, .int l3), (4, .int x3), (5, .int x6)] [] w17 Q
        refine g_aload_n (pc := 156) dX11_seenLine_156 rfl 0 rfl ?_
        refine g_getZ (pc := 157) (a := 0) dX11_seenLine_157 rfl fX11_95 rfl ?_
        refine g_if_eq (pc := 160) (tgt := 164) dX11_seenLine_160 (by decide) (fun q => ?_) (fun q => ?_)
        · have h := h.1 q
          refine g_aload_n (pc := 164) dX11_seenLine_164 rfl 0 rfl ?_
          refine g_getR (pc := 165) (a := 0) (b := 4) dX11_seenLine_165 rfl fX11_23 rfl (rm_17 hw17) ?_
          refine g_iload_n (pc := 168) dX11_seenLine_168 rfl 1 rfl ?_
          refine g_iload_n (pc := 169) dX11_seenLine_169 rfl 2 rfl ?_
          obtain ⟨hi18, h⟩ := h
          refine g_iast (pc := 170) (a := 4) (j := l1.toNatClampNeg) dX11_seenLine_170 rfl hi18 rfl ?_
          refine g_aload_n (pc := 171) dX11_seenLine_171 rfl 0 rfl ?_
          refine g_getR (pc := 172) (a := 0) (b := 4) dX11_seenLine_172 rfl fX11_23 rfl (rm_17 hw17) ?_
          refine g_iload_n (pc := 175) dX11_seenLine_175 rfl 1 rfl ?_
          refine g_iconst (pc := 176) dX11_seenLine_176 c_1 ?_
          refine g_iadd (pc := 177) dX11_seenLine_177 ?_
          refine g_iload_n (pc := 178) dX11_seenLine_178 rfl 3 rfl ?_
          obtain ⟨hi19, h⟩ := h
          refine g_iast (pc := 179) (a := 4) (j := (l1 + 1).toNatClampNeg) dX11_seenLine_179 rfl hi19 rfl ?_
          refine g_aload_n (pc := 180) dX11_seenLine_180 rfl 0 rfl ?_
          refine g_getR (pc := 181) (a := 0) (b := 4) dX11_seenLine_181 rfl fX11_23 rfl (rm_17 hw17) ?_
          refine g_iload_n (pc := 184) dX11_seenLine_184 rfl 1 rfl ?_
          refine g_iconst (pc := 185) dX11_seenLine_185 c_2 ?_
          refine g_iadd (pc := 186) dX11_seenLine_186 ?_
          refine g_iload (pc := 187) dX11_seenLine_187 4 rfl ?_
          obtain ⟨hi20, h⟩ := h
          refine g_iast (pc := 189) (a := 4) (j := (l1 + 2).toNatClampNeg) dX11_seenLine_189 rfl hi20 rfl ?_
          refine g_aload_n (pc := 190) dX11_seenLine_190 rfl 0 rfl ?_
          refine g_getR (pc := 191) (a := 0) (b := 4) dX11_seenLine_191 rfl fX11_23 rfl (rm_17 hw17) ?_
          refine g_iload_n (pc := 194) dX11_seenLine_194 rfl 1 rfl ?_
          refine g_iconst (pc := 195) dX11_seenLine_195 c_3 ?_
          refine g_iadd (pc := 196) dX11_seenLine_196 ?_
          refine g_iload (pc := 197) dX11_seenLine_197 5 rfl ?_
          obtain ⟨hi21, h⟩ := h
          refine g_iast (pc := 199) (a := 4) (j := (l1 + 3).toNatClampNeg) dX11_seenLine_199 rfl hi21 rfl ?_
          refine g_aload_n (pc := 200) dX11_seenLine_200 rfl 0 rfl ?_
          refine g_getR (pc := 201) (a := 0) (b := 4) dX11_seenLine_201 rfl fX11_23 rfl (rm_17 hw17) ?_
          refine g_iconst (pc := 204) dX11_seenLine_204 c_3 ?_
          refine g_dup2 (pc := 205) dX11_seenLine_205 rfl rfl ?_
          refine g_iald (pc := 206) (a := 4) (j := 3) dX11_seenLine_206 rfl (vin (by decide) (by decide)) (by decide) ?_
          refine g_iconst (pc := 207) dX11_seenLine_207 c_1 ?_
          refine g_iadd (pc := 208) dX11_seenLine_208 ?_
          refine g_iast (pc := 209) (a := 4) (j := 3) dX11_seenLine_209 rfl (vin (by decide) (by decide)) (by decide) ?_
          exact g_vret (pc := 210) dX11_seenLine_210 rfl h
        · have h := h.2 q
          exact g_vret (pc := 163) dX11_seenLine_163 rfl h
  · have h := h.2 q
    refine g_aload_n (pc := 53) dX11_seenLine_53 rfl 0 rfl ?_
    refine g_getZ (pc := 54) (a := 0) dX11_seenLine_54 rfl fX11_95 rfl ?_
    refine g_if_ne (pc := 57) (tgt := 103) dX11_seenLine_57 (by decide) (fun q => ?_) (fun q => ?_)
    · have h := h.2 q
      refine g_iinc (pc := 103) (v := l4 + 1) (lv2 := [(0, .ref 0), (1, .int l1), (2, .int l2), (3, .int l3), (4, .int (l4 + 1))]) dX11_seenLine_103 4 rfl (Nat.le_of_ble_eq_true rfl) rfl rfl ?_
      refine g_goto (pc := 106) (tgt := 42) dX11_seenLine_106 (by decide) ?_
      exact h
    · have h := h.1 q
      refine g_aload_n (pc := 60) dX11_seenLine_60 rfl 0 rfl ?_
      refine g_getR (pc := 61) (a := 0) (b := 4) dX11_seenLine_61 rfl fX11_23 rfl (rm_17 hR) ?_
      refine g_bipush (pc := 64) (v := 77) dX11_seenLine_64 (by decide) ?_
      refine g_iconst (pc := 66) dX11_seenLine_66 c_4 ?_
      refine g_iload (pc := 67) dX11_seenLine_67 4 rfl ?_
      refine g_imul (pc := 69) dX11_seenLine_69 ?_
      refine g_iadd (pc := 70) dX11_seenLine_70 ?_
      obtain ⟨hi22, h⟩ := h
      refine g_iald (pc := 71) (a := 4) (j := (77 + (4 * l4)).toNatClampNeg) dX11_seenLine_71 rfl hi22 rfl ?_
      refine g_iload_n (pc := 72) dX11_seenLine_72 rfl 2 rfl ?_
      refine g_icmp_ne (pc := 73) (tgt := 103) dX11_seenLine_73 (by decide) (fun q => ?_) (fun q => ?_)
      · have h := h.2 q
        refine g_iinc (pc := 103) (v := l4 + 1) (lv2 := [(0, .ref 0), (1, .int l1), (2, .int l2), (3, .int l3), (4, .int (l4 + 1))]) dX11_seenLine_103 4 rfl (Nat.le_of_ble_eq_true rfl) rfl rfl ?_
        refine g_goto (pc := 106) (tgt := 42) dX11_seenLine_106 (by decide) ?_
        exact h
      · have h := h.1 q
        refine g_aload_n (pc := 76) dX11_seenLine_76 rfl 0 rfl ?_
        refine g_getR (pc := 77) (a := 0) (b := 4) dX11_seenLine_77 rfl fX11_23 rfl (rm_17 hR) ?_
        refine g_bipush (pc := 80) (v := 77) dX11_seenLine_80 (by decide) ?_
        refine g_iconst (pc := 82) dX11_seenLine_82 c_4 ?_
        refine g_iload (pc := 83) dX11_seenLine_83 4 rfl ?_
        refine g_imul (pc := 85) dX11_seenLine_85 ?_
        refine g_iadd (pc := 86) dX11_seenLine_86 ?_
        refine g_iconst (pc := 87) dX11_seenLine_87 c_1 ?_
        refine g_iadd (pc := 88) dX11_seenLine_88 ?_
        obtain ⟨hi23, h⟩ := h
        refine g_iald (pc := 89) (a := 4) (j := ((77 + (4 * l4)) + 1).toNatClampNeg) dX11_seenLine_89 rfl hi23 rfl ?_
        refine g_iload_n (pc := 90) dX11_seenLine_90 rfl 3 rfl ?_
        refine g_icmp_ne (pc := 91) (tgt := 103) dX11_seenLine_91 (by decide) (fun q => ?_) (fun q => ?_)
        · have h := h.2 q
          refine g_iinc (pc := 103) (v := l4 + 1) (lv2 := [(0, .ref 0), (1, .int l1), (2, .int l2), (3, .int l3), (4, .int (l4 + 1))]) dX11_seenLine_103 4 rfl (Nat.le_of_ble_eq_true rfl) rfl rfl ?_
          refine g_goto (pc := 106) (tgt := 42) dX11_seenLine_106 (by decide) ?_
          exact h
        · have h := h.1 q
          refine g_aload_n (pc := 94) dX11_seenLine_94 rfl 0 rfl ?_
          refine g_iconst (pc := 95) dX11_seenLine_95 c_3 ?_
          refine g_aload_n (pc := 96) dX11_seenLine_96 rfl 0 rfl ?_
          refine g_getI (pc := 97) (a := 0) dX11_seenLine_97 rfl fX11_76 rfl ?_
          refine g_callV (pc := 100) (M' := mX11_wrong) (n := 2) (a := 0) (as := [.int 3, .int (wi w 0 4)]) (st := []) dX11_seenLine_100 rfl kX11_122 vX11_wrong (Nat.le_of_ble_eq_true rfl) rfl qX11 rfl rfl (Nat.le_of_ble_eq_true rfl) ?_
          refine zX11_wrong (a1 := 3) (a2 := (wi w 0 4)) (w := w) (hR := hR) ?_
          show Go SR mX11_seenLine 103 [(0, .ref 0), (1, .int l1), (2, .int l2), (3, .int l3), (4, .int l4)] [] (wXX11_wrong 3 (wi w 0 4) w) Q
          refine g_iinc (pc := 103) (v := l4 + 1) (lv2 := [(0, .ref 0), (1, .int l1), (2, .int l2), (3, .int l3), (4, .int (l4 + 1))]) dX11_seenLine_103 4 rfl (Nat.le_of_ble_eq_true rfl) rfl rfl ?_
          refine g_goto (pc := 106) (tgt := 42) dX11_seenLine_106 (by decide) ?_
          exact h
set_option maxHeartbeats 4000000 in
set_option maxRecDepth 100000 in
theorem TX11_unsureLine  (w : Wd) (hR : w.2.2 = RM) (Q : Option Value → Wd → Prop) (h : (((wi w 0 13) = 0 → ClI SR mX11_dancePassed [.ref 0] w (fun x2 w1 => w1.2.2 = RM ∧ vp_in (4 + x2) 146 ∧ Go SR mX11_unsureLine 44 [(0, .ref 0), (1, .int (69 + (2 * (wi w 4 2)))), (2, .int x2), (3, .int (vXX11_numberHere 0 ((wi w1 4 ((4 + x2).toNatClampNeg)) - 1) w1)), (4, .int 0)] [] (wXX11_numberHere 0 ((wi w1 4 ((4 + x2).toNatClampNeg)) - 1) w1) Q)) ∧ (¬ ((wi w 0 13) = 0) → Q none w))) : Cl SR mX11_unsureLine [.ref 0] w Q := by
  refine cl_of (by decide) (Nat.le_of_ble_eq_true rfl) ?_
  show Go SR mX11_unsureLine 0 [(0, .ref 0)] [] w Q
  refine g_aload_n (pc := 0) dX11_unsureLine_0 rfl 0 rfl ?_
  refine g_getZ (pc := 1) (a := 0) dX11_unsureLine_1 rfl fX11_95 rfl ?_
  refine g_if_eq (pc := 4) (tgt := 8) dX11_unsureLine_4 (by decide) (fun q => ?_) (fun q => ?_)
  · have h := h.1 q
    refine g_bipush (pc := 8) (v := 69) dX11_unsureLine_8 (by decide) ?_
    refine g_iconst (pc := 10) dX11_unsureLine_10 c_2 ?_
    refine g_aload_n (pc := 11) dX11_unsureLine_11 rfl 0 rfl ?_
    refine g_getR (pc := 12) (a := 0) (b := 4) dX11_unsureLine_12 rfl fX11_23 rfl (rm_17 hR) ?_
    refine g_iconst (pc := 15) dX11_unsureLine_15 c_2 ?_
    refine g_iald (pc := 16) (a := 4) (j := 2) dX11_unsureLine_16 rfl (vin (by decide) (by decide)) (by decide) ?_
    refine g_imul (pc := 17) dX11_unsureLine_17 ?_
    refine g_iadd (pc := 18) dX11_unsureLine_18 ?_
    refine g_istore_n (pc := 19) (lv2 := [(0, .ref 0), (1, .int (69 + (2 * (wi w 4 2))))]) dX11_unsureLine_19 rfl (Nat.le_of_ble_eq_true rfl) rfl ?_
    refine g_aload_n (pc := 20) dX11_unsureLine_20 rfl 0 rfl ?_
    refine g_callV (pc := 21) (M' := mX11_dancePassed) (n := 0) (a := 0) (as := []) (st := []) dX11_unsureLine_21 rfl kX11_211 vX11_dancePassed (Nat.le_of_ble_eq_true rfl) rfl qX11 rfl rfl (Nat.le_of_ble_eq_true rfl) ?_
    refine cl_mono (fun r w1 hr => ?_) h
    obtain ⟨x2, rfl, hw1, h⟩ := hr
    show Go SR mX11_unsureLine 24 [(0, .ref 0), (1, .int (69 + (2 * (wi w 4 2))))] [.int x2] w1 Q
    refine g_istore_n (pc := 24) (lv2 := [(0, .ref 0), (1, .int (69 + (2 * (wi w 4 2)))), (2, .int x2)]) dX11_unsureLine_24 rfl (Nat.le_of_ble_eq_true rfl) rfl ?_
    refine g_aload_n (pc := 25) dX11_unsureLine_25 rfl 0 rfl ?_
    refine g_iconst (pc := 26) dX11_unsureLine_26 c_0 ?_
    refine g_aload_n (pc := 27) dX11_unsureLine_27 rfl 0 rfl ?_
    refine g_getR (pc := 28) (a := 0) (b := 4) dX11_unsureLine_28 rfl fX11_23 rfl (rm_17 hw1) ?_
    refine g_iconst (pc := 31) dX11_unsureLine_31 c_4 ?_
    refine g_iload_n (pc := 32) dX11_unsureLine_32 rfl 2 rfl ?_
    refine g_iadd (pc := 33) dX11_unsureLine_33 ?_
    obtain ⟨hi3, h⟩ := h
    refine g_iald (pc := 34) (a := 4) (j := (4 + x2).toNatClampNeg) dX11_unsureLine_34 rfl hi3 rfl ?_
    refine g_iconst (pc := 35) dX11_unsureLine_35 c_1 ?_
    refine g_isub (pc := 36) dX11_unsureLine_36 ?_
    refine g_callV (pc := 37) (M' := mX11_numberHere) (n := 2) (a := 0) (as := [.int 0, .int ((wi w1 4 ((4 + x2).toNatClampNeg)) - 1)]) (st := []) dX11_unsureLine_37 rfl kX11_203 vX11_numberHere (Nat.le_of_ble_eq_true rfl) rfl qX11 rfl rfl (Nat.le_of_ble_eq_true rfl) ?_
    refine zX11_numberHere (a1 := 0) (a2 := ((wi w1 4 ((4 + x2).toNatClampNeg)) - 1)) (w := w1) (hR := hw1) ?_
    show Go SR mX11_unsureLine 40 [(0, .ref 0), (1, .int (69 + (2 * (wi w 4 2)))), (2, .int x2)] [.int (vXX11_numberHere 0 ((wi w1 4 ((4 + x2).toNatClampNeg)) - 1) w1)] (wXX11_numberHere 0 ((wi w1 4 ((4 + x2).toNatClampNeg)) - 1) w1) Q
    refine g_istore_n (pc := 40) (lv2 := [(0, .ref 0), (1, .int (69 + (2 * (wi w 4 2)))), (2, .int x2), (3, .int (vXX11_numberHere 0 ((wi w1 4 ((4 + x2).toNatClampNeg)) - 1) w1))]) dX11_unsureLine_40 rfl (Nat.le_of_ble_eq_true rfl) rfl ?_
    refine g_iconst (pc := 41) dX11_unsureLine_41 c_0 ?_
    refine g_istore (pc := 42) (lv2 := [(0, .ref 0), (1, .int (69 + (2 * (wi w 4 2)))), (2, .int x2), (3, .int (vXX11_numberHere 0 ((wi w1 4 ((4 + x2).toNatClampNeg)) - 1) w1)), (4, .int 0)]) dX11_unsureLine_42 (Nat.le_of_ble_eq_true rfl) rfl ?_
    exact h
  · have h := h.2 q
    exact g_vret (pc := 7) dX11_unsureLine_7 rfl h
set_option maxHeartbeats 4000000 in
set_option maxRecDepth 100000 in
theorem BX11_unsureLine_44  (l1 : Int32) (l2 : Int32) (l3 : Int32) (l4 : Int32) (w : Wd) (hR : w.2.2 = RM) (Q : Option Value → Wd → Prop) (h : (((wi w 4 2) ≤ l4 → ClV SR mX11_pass [.ref 0] w (fun w1 => w1.2.2 = RM ∧ (((wi w1 0 13) = 0 → vp_in l1 146 ∧ vp_in (l1 + 1) 146 ∧ Q none (si (si (si w1 4 l1.toNatClampNeg l2) 4 ((l1 + 1).toNatClampNeg) l3) 4 2 ((wi (si (si w1 4 l1.toNatClampNeg l2) 4 ((l1 + 1).toNatClampNeg) l3) 4 2) + 1))) ∧ (¬ ((wi w1 0 13) = 0) → Q none w1)))) ∧ (¬ ((wi w 4 2) ≤ l4) → (((wi w 0 13) = 0 → vp_in (69 + (2 * l4)) 146 ∧ (((wi w 4 ((69 + (2 * l4)).toNatClampNeg)) = l2 → vp_in ((69 + (2 * l4)) + 1) 146 ∧ (((wi w 4 (((69 + (2 * l4)) + 1).toNatClampNeg)) = l3 → Go SR mX11_unsureLine 44 [(0, .ref 0), (1, .int l1), (2, .int l2), (3, .int l3), (4, .int (l4 + 1))] [] (wXX11_wrong 3 (wi w 0 4) w) Q) ∧ (¬ ((wi w 4 (((69 + (2 * l4)) + 1).toNatClampNeg)) = l3) → Go SR mX11_unsureLine 44 [(0, .ref 0), (1, .int l1), (2, .int l2), (3, .int l3), (4, .int (l4 + 1))] [] w Q))) ∧ (¬ ((wi w 4 ((69 + (2 * l4)).toNatClampNeg)) = l2) → Go SR mX11_unsureLine 44 [(0, .ref 0), (1, .int l1), (2, .int l2), (3, .int l3), (4, .int (l4 + 1))] [] w Q))) ∧ (¬ ((wi w 0 13) = 0) → Go SR mX11_unsureLine 44 [(0, .ref 0), (1, .int l1), (2, .int l2), (3, .int l3), (4, .int (l4 + 1))] [] w Q))))) : Go SR mX11_unsureLine 44 [(0, .ref 0), (1, .int l1), (2, .int l2), (3, .int l3), (4, .int l4)] [] w Q := by
  refine g_iload (pc := 44) dX11_unsureLine_44 4 rfl ?_
  refine g_aload_n (pc := 46) dX11_unsureLine_46 rfl 0 rfl ?_
  refine g_getR (pc := 47) (a := 0) (b := 4) dX11_unsureLine_47 rfl fX11_23 rfl (rm_17 hR) ?_
  refine g_iconst (pc := 50) dX11_unsureLine_50 c_2 ?_
  refine g_iald (pc := 51) (a := 4) (j := 2) dX11_unsureLine_51 rfl (vin (by decide) (by decide)) (by decide) ?_
  refine g_icmp_ge (pc := 52) (tgt := 111) dX11_unsureLine_52 (by decide) (fun q => ?_) (fun q => ?_)
  · have h := h.1 q
    refine g_aload_n (pc := 111) dX11_unsureLine_111 rfl 0 rfl ?_
    refine g_callV (pc := 112) (M' := mX11_pass) (n := 0) (a := 0) (as := []) (st := []) dX11_unsureLine_112 rfl kX11_140 vX11_pass (Nat.le_of_ble_eq_true rfl) rfl qX11 rfl rfl (Nat.le_of_ble_eq_true rfl) ?_
    refine cl_mono (fun r w1 hr => ?_) h
    obtain ⟨rfl, hw1, h⟩ := hr
    show Go SR mX11_unsureLine 115 [(0, .ref 0), (1, .int l1), (2, .int l2), (3, .int l3), (4, .int l4)] [] w1 Q
    refine g_aload_n (pc := 115) dX11_unsureLine_115 rfl 0 rfl ?_
    refine g_getZ (pc := 116) (a := 0) dX11_unsureLine_116 rfl fX11_95 rfl ?_
    refine g_if_eq (pc := 119) (tgt := 123) dX11_unsureLine_119 (by decide) (fun q => ?_) (fun q => ?_)
    · have h := h.1 q
      refine g_aload_n (pc := 123) dX11_unsureLine_123 rfl 0 rfl ?_
      refine g_getR (pc := 124) (a := 0) (b := 4) dX11_unsureLine_124 rfl fX11_23 rfl (rm_17 hw1) ?_
      refine g_iload_n (pc := 127) dX11_unsureLine_127 rfl 1 rfl ?_
      refine g_iload_n (pc := 128) dX11_unsureLine_128 rfl 2 rfl ?_
      obtain ⟨hi2, h⟩ := h
      refine g_iast (pc := 129) (a := 4) (j := l1.toNatClampNeg) dX11_unsureLine_129 rfl hi2 rfl ?_
      refine g_aload_n (pc := 130) dX11_unsureLine_130 rfl 0 rfl ?_
      refine g_getR (pc := 131) (a := 0) (b := 4) dX11_unsureLine_131 rfl fX11_23 rfl (rm_17 hw1) ?_
      refine g_iload_n (pc := 134) dX11_unsureLine_134 rfl 1 rfl ?_
      refine g_iconst (pc := 135) dX11_unsureLine_135 c_1 ?_
      refine g_iadd (pc := 136) dX11_unsureLine_136 ?_
      refine g_iload_n (pc := 137) dX11_unsureLine_137 rfl 3 rfl ?_
      obtain ⟨hi3, h⟩ := h
      refine g_iast (pc := 138) (a := 4) (j := (l1 + 1).toNatClampNeg) dX11_unsureLine_138 rfl hi3 rfl ?_
      refine g_aload_n (pc := 139) dX11_unsureLine_139 rfl 0 rfl ?_
      refine g_getR (pc := 140) (a := 0) (b := 4) dX11_unsureLine_140 rfl fX11_23 rfl (rm_17 hw1) ?_
      refine g_iconst (pc := 143) dX11_unsureLine_143 c_2 ?_
      refine g_dup2 (pc := 144) dX11_unsureLine_144 rfl rfl ?_
      refine g_iald (pc := 145) (a := 4) (j := 2) dX11_unsureLine_145 rfl (vin (by decide) (by decide)) (by decide) ?_
      refine g_iconst (pc := 146) dX11_unsureLine_146 c_1 ?_
      refine g_iadd (pc := 147) dX11_unsureLine_147 ?_
      refine g_iast (pc := 148) (a := 4) (j := 2) dX11_unsureLine_148 rfl (vin (by decide) (by decide)) (by decide) ?_
      exact g_vret (pc := 149) dX11_unsureLine_149 rfl h
    · have h := h.2 q
      exact g_vret (pc := 122) dX11_unsureLine_122 rfl h
  · have h := h.2 q
    refine g_aload_n (pc := 55) dX11_unsureLine_55 rfl 0 rfl ?_
    refine g_getZ (pc := 56) (a := 0) dX11_unsureLine_56 rfl fX11_95 rfl ?_
    refine g_if_ne (pc := 59) (tgt := 105) dX11_unsureLine_59 (by decide) (fun q => ?_) (fun q => ?_)
    · have h := h.2 q
      refine g_iinc (pc := 105) (v := l4 + 1) (lv2 := [(0, .ref 0), (1, .int l1), (2, .int l2), (3, .int l3), (4, .int (l4 + 1))]) dX11_unsureLine_105 4 rfl (Nat.le_of_ble_eq_true rfl) rfl rfl ?_
      refine g_goto (pc := 108) (tgt := 44) dX11_unsureLine_108 (by decide) ?_
      exact h
    · have h := h.1 q
      refine g_aload_n (pc := 62) dX11_unsureLine_62 rfl 0 rfl ?_
      refine g_getR (pc := 63) (a := 0) (b := 4) dX11_unsureLine_63 rfl fX11_23 rfl (rm_17 hR) ?_
      refine g_bipush (pc := 66) (v := 69) dX11_unsureLine_66 (by decide) ?_
      refine g_iconst (pc := 68) dX11_unsureLine_68 c_2 ?_
      refine g_iload (pc := 69) dX11_unsureLine_69 4 rfl ?_
      refine g_imul (pc := 71) dX11_unsureLine_71 ?_
      refine g_iadd (pc := 72) dX11_unsureLine_72 ?_
      obtain ⟨hi4, h⟩ := h
      refine g_iald (pc := 73) (a := 4) (j := (69 + (2 * l4)).toNatClampNeg) dX11_unsureLine_73 rfl hi4 rfl ?_
      refine g_iload_n (pc := 74) dX11_unsureLine_74 rfl 2 rfl ?_
      refine g_icmp_ne (pc := 75) (tgt := 105) dX11_unsureLine_75 (by decide) (fun q => ?_) (fun q => ?_)
      · have h := h.2 q
        refine g_iinc (pc := 105) (v := l4 + 1) (lv2 := [(0, .ref 0), (1, .int l1), (2, .int l2), (3, .int l3), (4, .int (l4 + 1))]) dX11_unsureLine_105 4 rfl (Nat.le_of_ble_eq_true rfl) rfl rfl ?_
        refine g_goto (pc := 108) (tgt := 44) dX11_unsureLine_108 (by decide) ?_
        exact h
      · have h := h.1 q
        refine g_aload_n (pc := 78) dX11_unsureLine_78 rfl 0 rfl ?_
        refine g_getR (pc := 79) (a := 0) (b := 4) dX11_unsureLine_79 rfl fX11_23 rfl (rm_17 hR) ?_
        refine g_bipush (pc := 82) (v := 69) dX11_unsureLine_82 (by decide) ?_
        refine g_iconst (pc := 84) dX11_unsureLine_84 c_2 ?_
        refine g_iload (pc := 85) dX11_unsureLine_85 4 rfl ?_
        refine g_imul (pc := 87) dX11_unsureLine_87 ?_
        refine g_iadd (pc := 88) dX11_unsureLine_88 ?_
        refine g_iconst (pc := 89) dX11_unsureLine_89 c_1 ?_
        refine g_iadd (pc := 90) dX11_unsureLine_90 ?_
        obtain ⟨hi5, h⟩ := h
        refine g_iald (pc := 91) (a := 4) (j := ((69 + (2 * l4)) + 1).toNatClampNeg) dX11_unsureLine_91 rfl hi5 rfl ?_
        refine g_iload_n (pc := 92) dX11_unsureLine_92 rfl 3 rfl ?_
        refine g_icmp_ne (pc := 93) (tgt := 105) dX11_unsureLine_93 (by decide) (fun q => ?_) (fun q => ?_)
        · have h := h.2 q
          refine g_iinc (pc := 105) (v := l4 + 1) (lv2 := [(0, .ref 0), (1, .int l1), (2, .int l2), (3, .int l3), (4, .int (l4 + 1))]) dX11_unsureLine_105 4 rfl (Nat.le_of_ble_eq_true rfl) rfl rfl ?_
          refine g_goto (pc := 108) (tgt := 44) dX11_unsureLine_108 (by decide) ?_
          exact h
        · have h := h.1 q
          refine g_aload_n (pc := 96) dX11_unsureLine_96 rfl 0 rfl ?_
          refine g_iconst (pc := 97) dX11_unsureLine_97 c_3 ?_
          refine g_aload_n (pc := 98) dX11_unsureLine_98 rfl 0 rfl ?_
          refine g_getI (pc := 99) (a := 0) dX11_unsureLine_99 rfl fX11_76 rfl ?_
          refine g_callV (pc := 102) (M' := mX11_wrong) (n := 2) (a := 0) (as := [.int 3, .int (wi w 0 4)]) (st := []) dX11_unsureLine_102 rfl kX11_122 vX11_wrong (Nat.le_of_ble_eq_true rfl) rfl qX11 rfl rfl (Nat.le_of_ble_eq_true rfl) ?_
          refine zX11_wrong (a1 := 3) (a2 := (wi w 0 4)) (w := w) (hR := hR) ?_
          show Go SR mX11_unsureLine 105 [(0, .ref 0), (1, .int l1), (2, .int l2), (3, .int l3), (4, .int l4)] [] (wXX11_wrong 3 (wi w 0 4) w) Q
          refine g_iinc (pc := 105) (v := l4 + 1) (lv2 := [(0, .ref 0), (1, .int l1), (2, .int l2), (3, .int l3), (4, .int (l4 + 1))]) dX11_unsureLine_105 4 rfl (Nat.le_of_ble_eq_true rfl) rfl rfl ?_
          refine g_goto (pc := 108) (tgt := 44) dX11_unsureLine_108 (by decide) ?_
          exact h
set_option maxHeartbeats 4000000 in
set_option maxRecDepth 100000 in
theorem TX11_readLine  (w : Wd) (hR : w.2.2 = RM) (Q : Option Value → Wd → Prop) (h : ClI SR mX11_isWord [.ref 0, .ref 1000] w (fun x2 w1 => w1.2.2 = RM ∧ ((x2 = 0 → ClI SR mX11_begins [.ref 0, .ref 1001, .int (if 5 ≤ (wi w1 4 1) then 0 else 1 : Int32)] w1 (fun x4 w3 => w3.2.2 = RM ∧ ((x4 = 0 → ClI SR mX11_begins [.ref 0, .ref 1002, .int (if 4 ≤ (wi w3 4 2) then 0 else 1 : Int32)] w3 (fun x6 w5 => w5.2.2 = RM ∧ ((x6 = 0 → ClI SR mX11_begins [.ref 0, .ref 1003, .int (if 6 ≤ (wi w5 4 3) then 0 else 1 : Int32)] w5 (fun x8 w7 => w7.2.2 = RM ∧ ((x8 = 0 → Q none (wXX11_wrong 1 (wi w7 0 4) w7)) ∧ (¬ (x8 = 0) → ClV SR mX11_seenLine [.ref 0] w7 (fun w9 => w9.2.2 = RM ∧ Q none w9))))) ∧ (¬ (x6 = 0) → ClV SR mX11_unsureLine [.ref 0] w5 (fun w10 => w10.2.2 = RM ∧ Q none w10))))) ∧ (¬ (x4 = 0) → ClV SR mX11_danceLine [.ref 0] w3 (fun w11 => w11.2.2 = RM ∧ Q none w11))))) ∧ (¬ (x2 = 0) → ClV SR mX11_hallLine [.ref 0] w1 (fun w12 => w12.2.2 = RM ∧ Q none w12))))) : Cl SR mX11_readLine [.ref 0] w Q := by
  refine cl_of (by decide) (Nat.le_of_ble_eq_true rfl) ?_
  show Go SR mX11_readLine 0 [(0, .ref 0)] [] w Q
  refine g_aload_n (pc := 0) dX11_readLine_0 rfl 0 rfl ?_
  refine g_ldcS (pc := 1) (i := 0) (tx := "hall") dX11_readLine_1 rfl (by decide) ?_
  refine g_callV (pc := 3) (M' := mX11_isWord) (n := 1) (a := 0) (as := [.ref 1000]) (st := []) dX11_readLine_3 rfl kX11_112 vX11_isWord (Nat.le_of_ble_eq_true rfl) rfl qX11 rfl rfl (Nat.le_of_ble_eq_true rfl) ?_
  refine cl_mono (fun r w1 hr => ?_) h
  obtain ⟨x2, rfl, hw1, h⟩ := hr
  show Go SR mX11_readLine 6 [(0, .ref 0)] [.int x2] w1 Q
  refine g_if_eq (pc := 6) (tgt := 16) dX11_readLine_6 (by decide) (fun q => ?_) (fun q => ?_)
  · have h := h.1 q
    refine g_aload_n (pc := 16) dX11_readLine_16 rfl 0 rfl ?_
    refine g_ldcS (pc := 17) (i := 1) (tx := "dance") dX11_readLine_17 rfl (by decide) ?_
    refine g_aload_n (pc := 19) dX11_readLine_19 rfl 0 rfl ?_
    refine g_getR (pc := 20) (a := 0) (b := 4) dX11_readLine_20 rfl fX11_23 rfl (rm_17 hw1) ?_
    refine g_iconst (pc := 23) dX11_readLine_23 c_1 ?_
    refine g_iald (pc := 24) (a := 4) (j := 1) dX11_readLine_24 rfl (vin (by decide) (by decide)) (by decide) ?_
    refine g_iconst (pc := 25) dX11_readLine_25 c_5 ?_
    have hJ : Go SR mX11_readLine 34 [(0, .ref 0)] [.int (if 5 ≤ (wi w1 4 1) then 0 else 1 : Int32), .ref 1001, .ref 0] w1 Q := by
      refine g_callV (pc := 34) (M' := mX11_begins) (n := 2) (a := 0) (as := [.ref 1001, .int (if 5 ≤ (wi w1 4 1) then 0 else 1 : Int32)]) (st := []) dX11_readLine_34 rfl kX11_184 vX11_begins (Nat.le_of_ble_eq_true rfl) rfl qX11 rfl rfl (Nat.le_of_ble_eq_true rfl) ?_
      refine cl_mono (fun r w3 hr => ?_) h
      obtain ⟨x4, rfl, hw3, h⟩ := hr
      show Go SR mX11_readLine 37 [(0, .ref 0)] [.int x4] w3 Q
      refine g_if_eq (pc := 37) (tgt := 47) dX11_readLine_37 (by decide) (fun q => ?_) (fun q => ?_)
      · have h := h.1 q
        refine g_aload_n (pc := 47) dX11_readLine_47 rfl 0 rfl ?_
        refine g_ldcS (pc := 48) (i := 2) (tx := "unsure") dX11_readLine_48 rfl (by decide) ?_
        refine g_aload_n (pc := 50) dX11_readLine_50 rfl 0 rfl ?_
        refine g_getR (pc := 51) (a := 0) (b := 4) dX11_readLine_51 rfl fX11_23 rfl (rm_17 hw3) ?_
        refine g_iconst (pc := 54) dX11_readLine_54 c_2 ?_
        refine g_iald (pc := 55) (a := 4) (j := 2) dX11_readLine_55 rfl (vin (by decide) (by decide)) (by decide) ?_
        refine g_iconst (pc := 56) dX11_readLine_56 c_4 ?_
        have hJ : Go SR mX11_readLine 65 [(0, .ref 0)] [.int (if 4 ≤ (wi w3 4 2) then 0 else 1 : Int32), .ref 1002, .ref 0] w3 Q := by
          refine g_callV (pc := 65) (M' := mX11_begins) (n := 2) (a := 0) (as := [.ref 1002, .int (if 4 ≤ (wi w3 4 2) then 0 else 1 : Int32)]) (st := []) dX11_readLine_65 rfl kX11_184 vX11_begins (Nat.le_of_ble_eq_true rfl) rfl qX11 rfl rfl (Nat.le_of_ble_eq_true rfl) ?_
          refine cl_mono (fun r w5 hr => ?_) h
          obtain ⟨x6, rfl, hw5, h⟩ := hr
          show Go SR mX11_readLine 68 [(0, .ref 0)] [.int x6] w5 Q
          refine g_if_eq (pc := 68) (tgt := 78) dX11_readLine_68 (by decide) (fun q => ?_) (fun q => ?_)
          · have h := h.1 q
            refine g_aload_n (pc := 78) dX11_readLine_78 rfl 0 rfl ?_
            refine g_ldcS (pc := 79) (i := 3) (tx := "seen") dX11_readLine_79 rfl (by decide) ?_
            refine g_aload_n (pc := 81) dX11_readLine_81 rfl 0 rfl ?_
            refine g_getR (pc := 82) (a := 0) (b := 4) dX11_readLine_82 rfl fX11_23 rfl (rm_17 hw5) ?_
            refine g_iconst (pc := 85) dX11_readLine_85 c_3 ?_
            refine g_iald (pc := 86) (a := 4) (j := 3) dX11_readLine_86 rfl (vin (by decide) (by decide)) (by decide) ?_
            refine g_bipush (pc := 87) (v := 6) dX11_readLine_87 (by decide) ?_
            have hJ : Go SR mX11_readLine 97 [(0, .ref 0)] [.int (if 6 ≤ (wi w5 4 3) then 0 else 1 : Int32), .ref 1003, .ref 0] w5 Q := by
              refine g_callV (pc := 97) (M' := mX11_begins) (n := 2) (a := 0) (as := [.ref 1003, .int (if 6 ≤ (wi w5 4 3) then 0 else 1 : Int32)]) (st := []) dX11_readLine_97 rfl kX11_184 vX11_begins (Nat.le_of_ble_eq_true rfl) rfl qX11 rfl rfl (Nat.le_of_ble_eq_true rfl) ?_
              refine cl_mono (fun r w7 hr => ?_) h
              obtain ⟨x8, rfl, hw7, h⟩ := hr
              show Go SR mX11_readLine 100 [(0, .ref 0)] [.int x8] w7 Q
              refine g_if_eq (pc := 100) (tgt := 110) dX11_readLine_100 (by decide) (fun q => ?_) (fun q => ?_)
              · have h := h.1 q
                refine g_aload_n (pc := 110) dX11_readLine_110 rfl 0 rfl ?_
                refine g_iconst (pc := 111) dX11_readLine_111 c_1 ?_
                refine g_aload_n (pc := 112) dX11_readLine_112 rfl 0 rfl ?_
                refine g_getI (pc := 113) (a := 0) dX11_readLine_113 rfl fX11_76 rfl ?_
                refine g_callV (pc := 116) (M' := mX11_wrong) (n := 2) (a := 0) (as := [.int 1, .int (wi w7 0 4)]) (st := []) dX11_readLine_116 rfl kX11_122 vX11_wrong (Nat.le_of_ble_eq_true rfl) rfl qX11 rfl rfl (Nat.le_of_ble_eq_true rfl) ?_
                refine zX11_wrong (a1 := 1) (a2 := (wi w7 0 4)) (w := w7) (hR := hw7) ?_
                show Go SR mX11_readLine 119 [(0, .ref 0)] [] (wXX11_wrong 1 (wi w7 0 4) w7) Q
                exact g_vret (pc := 119) dX11_readLine_119 rfl h
              · have h := h.2 q
                refine g_aload_n (pc := 103) dX11_readLine_103 rfl 0 rfl ?_
                refine g_callV (pc := 104) (M' := mX11_seenLine) (n := 0) (a := 0) (as := []) (st := []) dX11_readLine_104 rfl kX11_194 vX11_seenLine (Nat.le_of_ble_eq_true rfl) rfl qX11 rfl rfl (Nat.le_of_ble_eq_true rfl) ?_
                refine cl_mono (fun r w9 hr => ?_) h
                obtain ⟨rfl, hw9, h⟩ := hr
                show Go SR mX11_readLine 107 [(0, .ref 0)] [] w9 Q
                refine g_goto (pc := 107) (tgt := 119) dX11_readLine_107 (by decide) ?_
                exact g_vret (pc := 119) dX11_readLine_119 rfl h
            refine g_icmp_ge (pc := 89) (tgt := 96) dX11_readLine_89 (by decide) (fun q89 => ?_) (fun q89 => ?_)
            · refine g_iconst (pc := 96) dX11_readLine_96 c_0 ?_
              first | (exfalso; contradiction) | exact cast (by simp only [if_pos q89]) hJ
            · refine g_iconst (pc := 92) dX11_readLine_92 c_1 ?_
              refine g_goto (pc := 93) (tgt := 97) dX11_readLine_93 (by decide) ?_
              first | (exfalso; contradiction) | exact cast (by simp only [if_neg q89]) hJ
          · have h := h.2 q
            refine g_aload_n (pc := 71) dX11_readLine_71 rfl 0 rfl ?_
            refine g_callV (pc := 72) (M' := mX11_unsureLine) (n := 0) (a := 0) (as := []) (st := []) dX11_readLine_72 rfl kX11_191 vX11_unsureLine (Nat.le_of_ble_eq_true rfl) rfl qX11 rfl rfl (Nat.le_of_ble_eq_true rfl) ?_
            refine cl_mono (fun r w10 hr => ?_) h
            obtain ⟨rfl, hw10, h⟩ := hr
            show Go SR mX11_readLine 75 [(0, .ref 0)] [] w10 Q
            refine g_goto (pc := 75) (tgt := 119) dX11_readLine_75 (by decide) ?_
            exact g_vret (pc := 119) dX11_readLine_119 rfl h
        refine g_icmp_ge (pc := 57) (tgt := 64) dX11_readLine_57 (by decide) (fun q57 => ?_) (fun q57 => ?_)
        · refine g_iconst (pc := 64) dX11_readLine_64 c_0 ?_
          first | (exfalso; contradiction) | exact cast (by simp only [if_pos q57]) hJ
        · refine g_iconst (pc := 60) dX11_readLine_60 c_1 ?_
          refine g_goto (pc := 61) (tgt := 65) dX11_readLine_61 (by decide) ?_
          first | (exfalso; contradiction) | exact cast (by simp only [if_neg q57]) hJ
      · have h := h.2 q
        refine g_aload_n (pc := 40) dX11_readLine_40 rfl 0 rfl ?_
        refine g_callV (pc := 41) (M' := mX11_danceLine) (n := 0) (a := 0) (as := []) (st := []) dX11_readLine_41 rfl kX11_188 vX11_danceLine (Nat.le_of_ble_eq_true rfl) rfl qX11 rfl rfl (Nat.le_of_ble_eq_true rfl) ?_
        refine cl_mono (fun r w11 hr => ?_) h
        obtain ⟨rfl, hw11, h⟩ := hr
        show Go SR mX11_readLine 44 [(0, .ref 0)] [] w11 Q
        refine g_goto (pc := 44) (tgt := 119) dX11_readLine_44 (by decide) ?_
        exact g_vret (pc := 119) dX11_readLine_119 rfl h
    refine g_icmp_ge (pc := 26) (tgt := 33) dX11_readLine_26 (by decide) (fun q26 => ?_) (fun q26 => ?_)
    · refine g_iconst (pc := 33) dX11_readLine_33 c_0 ?_
      first | (exfalso; contradiction) | exact cast (by simp only [if_pos q26]) hJ
    · refine g_iconst (pc := 29) dX11_readLine_29 c_1 ?_
      refine g_goto (pc := 30) (tgt := 34) dX11_readLine_30 (by decide) ?_
      first | (exfalso; contradiction) | exact cast (by simp only [if_neg q26]) hJ
  · have h := h.2 q
    refine g_aload_n (pc := 9) dX11_readLine_9 rfl 0 rfl ?_
    refine g_callV (pc := 10) (M' := mX11_hallLine) (n := 0) (a := 0) (as := []) (st := []) dX11_readLine_10 rfl kX11_181 vX11_hallLine (Nat.le_of_ble_eq_true rfl) rfl qX11 rfl rfl (Nat.le_of_ble_eq_true rfl) ?_
    refine cl_mono (fun r w12 hr => ?_) h
    obtain ⟨rfl, hw12, h⟩ := hr
    show Go SR mX11_readLine 13 [(0, .ref 0)] [] w12 Q
    refine g_goto (pc := 13) (tgt := 119) dX11_readLine_13 (by decide) ?_
    exact g_vret (pc := 119) dX11_readLine_119 rfl h
set_option maxHeartbeats 4000000 in
set_option maxRecDepth 100000 in
theorem TX11_hall (a1 : Int32) (w : Wd) (hR : w.2.2 = RM) (Q : Option Value → Wd → Prop) (h : (((vXX11_in a1 0 (wi (wXX11_anew w) 0 2)) = 0 → Q (some (.int (vXX11_no 2))) (wXX11_no 2 (wXX11_anew w))) ∧ (¬ ((vXX11_in a1 0 (wi (wXX11_anew w) 0 2)) = 0) → Go SR mX11_hall 44 [(0, .ref 0), (1, .int a1), (2, .int 0)] [] (si (si (si (si (wXX11_anew w) 0 2 0) 0 9 0) 0 13 0) 0 14 0) Q))) : Cl SR mX11_hall [.ref 0, .int a1] w Q := by
  refine cl_of (by decide) (Nat.le_of_ble_eq_true rfl) ?_
  show Go SR mX11_hall 0 [(0, .ref 0), (1, .int a1)] [] w Q
  refine g_aload_n (pc := 0) dX11_hall_0 rfl 0 rfl ?_
  refine g_callV (pc := 1) (M' := mX11_anew) (n := 0) (a := 0) (as := []) (st := []) dX11_hall_1 rfl kX11_147 vX11_anew (Nat.le_of_ble_eq_true rfl) rfl qX11 rfl rfl (Nat.le_of_ble_eq_true rfl) ?_
  refine zX11_anew (w := w) (hR := hR) ?_
  show Go SR mX11_hall 4 [(0, .ref 0), (1, .int a1)] [] (wXX11_anew w) Q
  refine g_iload_n (pc := 4) dX11_hall_4 rfl 1 rfl ?_
  refine g_iconst (pc := 5) dX11_hall_5 c_0 ?_
  refine g_aload_n (pc := 6) dX11_hall_6 rfl 0 rfl ?_
  refine g_getI (pc := 7) (a := 0) dX11_hall_7 rfl fX11_64 rfl ?_
  refine g_callS (pc := 10) (M' := mX11_in) (n := 3) (as := [.int a1, .int 0, .int (wi (wXX11_anew w) 0 2)]) (st := []) dX11_hall_10 rfl kX11_143 sX11_in (Nat.le_of_ble_eq_true rfl) rfl rfl (Nat.le_of_ble_eq_true rfl) ?_
  refine zX11_in (a1 := a1) (a2 := 0) (a3 := (wi (wXX11_anew w) 0 2)) (w := wXX11_anew w) (hR := hR) ?_
  show Go SR mX11_hall 13 [(0, .ref 0), (1, .int a1)] [.int (vXX11_in a1 0 (wi (wXX11_anew w) 0 2))] (wXX11_anew w) Q
  refine g_if_ne (pc := 13) (tgt := 22) dX11_hall_13 (by decide) (fun q => ?_) (fun q => ?_)
  · have h := h.2 q
    refine g_aload_n (pc := 22) dX11_hall_22 rfl 0 rfl ?_
    refine g_iconst (pc := 23) dX11_hall_23 c_0 ?_
    refine g_putI (pc := 24) dX11_hall_24 rfl fX11_64 pX11_2 rfl ?_
    refine g_aload_n (pc := 27) dX11_hall_27 rfl 0 rfl ?_
    refine g_iconst (pc := 28) dX11_hall_28 c_0 ?_
    refine g_putI (pc := 29) dX11_hall_29 rfl fX11_99 pX11_9 rfl ?_
    refine g_aload_n (pc := 32) dX11_hall_32 rfl 0 rfl ?_
    refine g_iconst (pc := 33) dX11_hall_33 c_0 ?_
    refine g_putZ (pc := 34) dX11_hall_34 rfl fX11_95 pX11_13 rfl (Or.inl rfl) ?_
    refine g_aload_n (pc := 37) dX11_hall_37 rfl 0 rfl ?_
    refine g_iconst (pc := 38) dX11_hall_38 c_0 ?_
    refine g_putZ (pc := 39) dX11_hall_39 rfl fX11_153 pX11_14 rfl (Or.inl rfl) ?_
    refine g_iconst (pc := 42) dX11_hall_42 c_0 ?_
    refine g_istore_n (pc := 43) (lv2 := [(0, .ref 0), (1, .int a1), (2, .int 0)]) dX11_hall_43 rfl (Nat.le_of_ble_eq_true rfl) rfl ?_
    exact h
  · have h := h.1 q
    refine g_aload_n (pc := 16) dX11_hall_16 rfl 0 rfl ?_
    refine g_iconst (pc := 17) dX11_hall_17 c_2 ?_
    refine g_callV (pc := 18) (M' := mX11_no) (n := 1) (a := 0) (as := [.int 2]) (st := []) dX11_hall_18 rfl kX11_150 vX11_no (Nat.le_of_ble_eq_true rfl) rfl qX11 rfl rfl (Nat.le_of_ble_eq_true rfl) ?_
    refine zX11_no (a1 := 2) (w := wXX11_anew w) (hR := hR) ?_
    show Go SR mX11_hall 21 [(0, .ref 0), (1, .int a1)] [.int (vXX11_no 2)] (wXX11_no 2 (wXX11_anew w)) Q
    exact g_iret (pc := 21) dX11_hall_21 rfl h
set_option maxHeartbeats 4000000 in
set_option maxRecDepth 100000 in
theorem BX11_hall_44  (l1 : Int32) (l2 : Int32) (w : Wd) (hR : w.2.2 = RM) (Q : Option Value → Wd → Prop) (h : ((146 ≤ l2 → ClV SR mX11_next [.ref 0] (si (si w 0 3 l1) 0 5 0) (fun w1 => w1.2.2 = RM ∧ ClV SR mX11_readLine [.ref 0] w1 (fun w2 => w2.2.2 = RM ∧ Go SR mX11_hall 82 [(0, .ref 0), (1, .int l1), (2, .int l2)] [] w2 Q))) ∧ (¬ (146 ≤ l2) → vp_in l2 146 ∧ Go SR mX11_hall 44 [(0, .ref 0), (1, .int l1), (2, .int (l2 + 1))] [] (si w 4 l2.toNatClampNeg 0) Q))) : Go SR mX11_hall 44 [(0, .ref 0), (1, .int l1), (2, .int l2)] [] w Q := by
  refine g_iload_n (pc := 44) dX11_hall_44 rfl 2 rfl ?_
  refine g_sipush (pc := 45) (v := 146) dX11_hall_45 (by decide) ?_
  refine g_icmp_ge (pc := 48) (tgt := 64) dX11_hall_48 (by decide) (fun q => ?_) (fun q => ?_)
  · have h := h.1 q
    refine g_aload_n (pc := 64) dX11_hall_64 rfl 0 rfl ?_
    refine g_iload_n (pc := 65) dX11_hall_65 rfl 1 rfl ?_
    refine g_putI (pc := 66) dX11_hall_66 rfl fX11_67 pX11_3 rfl ?_
    refine g_aload_n (pc := 69) dX11_hall_69 rfl 0 rfl ?_
    refine g_iconst (pc := 70) dX11_hall_70 c_0 ?_
    refine g_putI (pc := 71) dX11_hall_71 rfl fX11_70 pX11_5 rfl ?_
    refine g_aload_n (pc := 74) dX11_hall_74 rfl 0 rfl ?_
    refine g_callV (pc := 75) (M' := mX11_next) (n := 0) (a := 0) (as := []) (st := []) dX11_hall_75 rfl kX11_116 vX11_next (Nat.le_of_ble_eq_true rfl) rfl qX11 rfl rfl (Nat.le_of_ble_eq_true rfl) ?_
    refine cl_mono (fun r w1 hr => ?_) h
    obtain ⟨rfl, hw1, h⟩ := hr
    show Go SR mX11_hall 78 [(0, .ref 0), (1, .int l1), (2, .int l2)] [] w1 Q
    refine g_aload_n (pc := 78) dX11_hall_78 rfl 0 rfl ?_
    refine g_callV (pc := 79) (M' := mX11_readLine) (n := 0) (a := 0) (as := []) (st := []) dX11_hall_79 rfl kX11_156 vX11_readLine (Nat.le_of_ble_eq_true rfl) rfl qX11 rfl rfl (Nat.le_of_ble_eq_true rfl) ?_
    refine cl_mono (fun r w2 hr => ?_) h
    obtain ⟨rfl, hw2, h⟩ := hr
    show Go SR mX11_hall 82 [(0, .ref 0), (1, .int l1), (2, .int l2)] [] w2 Q
    exact h
  · have h := h.2 q
    refine g_aload_n (pc := 51) dX11_hall_51 rfl 0 rfl ?_
    refine g_getR (pc := 52) (a := 0) (b := 4) dX11_hall_52 rfl fX11_23 rfl (rm_17 hR) ?_
    refine g_iload_n (pc := 55) dX11_hall_55 rfl 2 rfl ?_
    refine g_iconst (pc := 56) dX11_hall_56 c_0 ?_
    obtain ⟨hi3, h⟩ := h
    refine g_iast (pc := 57) (a := 4) (j := l2.toNatClampNeg) dX11_hall_57 rfl hi3 rfl ?_
    refine g_iinc (pc := 58) (v := l2 + 1) (lv2 := [(0, .ref 0), (1, .int l1), (2, .int (l2 + 1))]) dX11_hall_58 2 rfl (Nat.le_of_ble_eq_true rfl) rfl rfl ?_
    refine g_goto (pc := 61) (tgt := 44) dX11_hall_61 (by decide) ?_
    exact h
set_option maxHeartbeats 4000000 in
set_option maxRecDepth 100000 in
theorem BX11_hall_82  (l1 : Int32) (l2 : Int32) (w : Wd) (hR : w.2.2 = RM) (Q : Option Value → Wd → Prop) (h : (((wi w 0 13) = 0 → (((wi w 0 6) = 59 → ClV SR mX11_next [.ref 0] w (fun w25 => w25.2.2 = RM ∧ ClV SR mX11_readLine [.ref 0] w25 (fun w26 => w26.2.2 = RM ∧ Go SR mX11_hall 82 [(0, .ref 0), (1, .int l1), (2, .int l2)] [] w26 Q))) ∧ (¬ ((wi w 0 6) = 59) → (((wi w 0 13) = 0 → (((wi w 0 6) = 0 → (((wi w 0 13) = 0 → (((wi w 0 14) = 0 → (((wi (wXX11_wrong 6 (wi w 0 4) w) 0 13) = 0 → ClV SR mX11_copy [.ref 4, .int 0, .ref 3, .int 0, .int 146] (wXX11_wrong 6 (wi w 0 4) w) (fun w18 => w18.2.2 = RM ∧ Go SR mX11_hall 201 [(0, .ref 0), (1, .int l1), (2, .int 0)] [] (si w18 0 15 1) Q)) ∧ (¬ ((wi (wXX11_wrong 6 (wi w 0 4) w) 0 13) = 0) → Q (some (.int (vXX11_no 4))) (wXX11_no 4 (wXX11_wrong 6 (wi w 0 4) w))))) ∧ (¬ ((wi w 0 14) = 0) → (((wi w 4 1) = 0 → (((wi (wXX11_wrong 6 (wi w 0 4) w) 0 13) = 0 → ClV SR mX11_copy [.ref 4, .int 0, .ref 3, .int 0, .int 146] (wXX11_wrong 6 (wi w 0 4) w) (fun w20 => w20.2.2 = RM ∧ Go SR mX11_hall 201 [(0, .ref 0), (1, .int l1), (2, .int 0)] [] (si w20 0 15 1) Q)) ∧ (¬ ((wi (wXX11_wrong 6 (wi w 0 4) w) 0 13) = 0) → Q (some (.int (vXX11_no 4))) (wXX11_no 4 (wXX11_wrong 6 (wi w 0 4) w))))) ∧ (¬ ((wi w 4 1) = 0) → (((wi w 0 13) = 0 → ClV SR mX11_copy [.ref 4, .int 0, .ref 3, .int 0, .int 146] w (fun w19 => w19.2.2 = RM ∧ Go SR mX11_hall 201 [(0, .ref 0), (1, .int l1), (2, .int 0)] [] (si w19 0 15 1) Q)) ∧ (¬ ((wi w 0 13) = 0) → Q (some (.int (vXX11_no 4))) (wXX11_no 4 w)))))))) ∧ (¬ ((wi w 0 13) = 0) → (((wi w 0 13) = 0 → ClV SR mX11_copy [.ref 4, .int 0, .ref 3, .int 0, .int 146] w (fun w17 => w17.2.2 = RM ∧ Go SR mX11_hall 201 [(0, .ref 0), (1, .int l1), (2, .int 0)] [] (si w17 0 15 1) Q)) ∧ (¬ ((wi w 0 13) = 0) → Q (some (.int (vXX11_no 4))) (wXX11_no 4 w)))))) ∧ (¬ ((wi w 0 6) = 0) → (((wi (wXX11_wrong 1 (wi w 0 4) w) 0 13) = 0 → (((wi (wXX11_wrong 1 (wi w 0 4) w) 0 14) = 0 → (((wi (wXX11_wrong 6 (wi (wXX11_wrong 1 (wi w 0 4) w) 0 4) (wXX11_wrong 1 (wi w 0 4) w)) 0 13) = 0 → ClV SR mX11_copy [.ref 4, .int 0, .ref 3, .int 0, .int 146] (wXX11_wrong 6 (wi (wXX11_wrong 1 (wi w 0 4) w) 0 4) (wXX11_wrong 1 (wi w 0 4) w)) (fun w22 => w22.2.2 = RM ∧ Go SR mX11_hall 201 [(0, .ref 0), (1, .int l1), (2, .int 0)] [] (si w22 0 15 1) Q)) ∧ (¬ ((wi (wXX11_wrong 6 (wi (wXX11_wrong 1 (wi w 0 4) w) 0 4) (wXX11_wrong 1 (wi w 0 4) w)) 0 13) = 0) → Q (some (.int (vXX11_no 4))) (wXX11_no 4 (wXX11_wrong 6 (wi (wXX11_wrong 1 (wi w 0 4) w) 0 4) (wXX11_wrong 1 (wi w 0 4) w)))))) ∧ (¬ ((wi (wXX11_wrong 1 (wi w 0 4) w) 0 14) = 0) → (((wi (wXX11_wrong 1 (wi w 0 4) w) 4 1) = 0 → (((wi (wXX11_wrong 6 (wi (wXX11_wrong 1 (wi w 0 4) w) 0 4) (wXX11_wrong 1 (wi w 0 4) w)) 0 13) = 0 → ClV SR mX11_copy [.ref 4, .int 0, .ref 3, .int 0, .int 146] (wXX11_wrong 6 (wi (wXX11_wrong 1 (wi w 0 4) w) 0 4) (wXX11_wrong 1 (wi w 0 4) w)) (fun w24 => w24.2.2 = RM ∧ Go SR mX11_hall 201 [(0, .ref 0), (1, .int l1), (2, .int 0)] [] (si w24 0 15 1) Q)) ∧ (¬ ((wi (wXX11_wrong 6 (wi (wXX11_wrong 1 (wi w 0 4) w) 0 4) (wXX11_wrong 1 (wi w 0 4) w)) 0 13) = 0) → Q (some (.int (vXX11_no 4))) (wXX11_no 4 (wXX11_wrong 6 (wi (wXX11_wrong 1 (wi w 0 4) w) 0 4) (wXX11_wrong 1 (wi w 0 4) w)))))) ∧ (¬ ((wi (wXX11_wrong 1 (wi w 0 4) w) 4 1) = 0) → (((wi (wXX11_wrong 1 (wi w 0 4) w) 0 13) = 0 → ClV SR mX11_copy [.ref 4, .int 0, .ref 3, .int 0, .int 146] (wXX11_wrong 1 (wi w 0 4) w) (fun w23 => w23.2.2 = RM ∧ Go SR mX11_hall 201 [(0, .ref 0), (1, .int l1), (2, .int 0)] [] (si w23 0 15 1) Q)) ∧ (¬ ((wi (wXX11_wrong 1 (wi w 0 4) w) 0 13) = 0) → Q (some (.int (vXX11_no 4))) (wXX11_no 4 (wXX11_wrong 1 (wi w 0 4) w))))))))) ∧ (¬ ((wi (wXX11_wrong 1 (wi w 0 4) w) 0 13) = 0) → (((wi (wXX11_wrong 1 (wi w 0 4) w) 0 13) = 0 → ClV SR mX11_copy [.ref 4, .int 0, .ref 3, .int 0, .int 146] (wXX11_wrong 1 (wi w 0 4) w) (fun w21 => w21.2.2 = RM ∧ Go SR mX11_hall 201 [(0, .ref 0), (1, .int l1), (2, .int 0)] [] (si w21 0 15 1) Q)) ∧ (¬ ((wi (wXX11_wrong 1 (wi w 0 4) w) 0 13) = 0) → Q (some (.int (vXX11_no 4))) (wXX11_no 4 (wXX11_wrong 1 (wi w 0 4) w))))))))) ∧ (¬ ((wi w 0 13) = 0) → (((wi w 0 13) = 0 → (((wi w 0 14) = 0 → (((wi (wXX11_wrong 6 (wi w 0 4) w) 0 13) = 0 → ClV SR mX11_copy [.ref 4, .int 0, .ref 3, .int 0, .int 146] (wXX11_wrong 6 (wi w 0 4) w) (fun w14 => w14.2.2 = RM ∧ Go SR mX11_hall 201 [(0, .ref 0), (1, .int l1), (2, .int 0)] [] (si w14 0 15 1) Q)) ∧ (¬ ((wi (wXX11_wrong 6 (wi w 0 4) w) 0 13) = 0) → Q (some (.int (vXX11_no 4))) (wXX11_no 4 (wXX11_wrong 6 (wi w 0 4) w))))) ∧ (¬ ((wi w 0 14) = 0) → (((wi w 4 1) = 0 → (((wi (wXX11_wrong 6 (wi w 0 4) w) 0 13) = 0 → ClV SR mX11_copy [.ref 4, .int 0, .ref 3, .int 0, .int 146] (wXX11_wrong 6 (wi w 0 4) w) (fun w16 => w16.2.2 = RM ∧ Go SR mX11_hall 201 [(0, .ref 0), (1, .int l1), (2, .int 0)] [] (si w16 0 15 1) Q)) ∧ (¬ ((wi (wXX11_wrong 6 (wi w 0 4) w) 0 13) = 0) → Q (some (.int (vXX11_no 4))) (wXX11_no 4 (wXX11_wrong 6 (wi w 0 4) w))))) ∧ (¬ ((wi w 4 1) = 0) → (((wi w 0 13) = 0 → ClV SR mX11_copy [.ref 4, .int 0, .ref 3, .int 0, .int 146] w (fun w15 => w15.2.2 = RM ∧ Go SR mX11_hall 201 [(0, .ref 0), (1, .int l1), (2, .int 0)] [] (si w15 0 15 1) Q)) ∧ (¬ ((wi w 0 13) = 0) → Q (some (.int (vXX11_no 4))) (wXX11_no 4 w)))))))) ∧ (¬ ((wi w 0 13) = 0) → (((wi w 0 13) = 0 → ClV SR mX11_copy [.ref 4, .int 0, .ref 3, .int 0, .int 146] w (fun w13 => w13.2.2 = RM ∧ Go SR mX11_hall 201 [(0, .ref 0), (1, .int l1), (2, .int 0)] [] (si w13 0 15 1) Q)) ∧ (¬ ((wi w 0 13) = 0) → Q (some (.int (vXX11_no 4))) (wXX11_no 4 w)))))))))) ∧ (¬ ((wi w 0 13) = 0) → (((wi w 0 13) = 0 → (((wi w 0 6) = 0 → (((wi w 0 13) = 0 → (((wi w 0 14) = 0 → (((wi (wXX11_wrong 6 (wi w 0 4) w) 0 13) = 0 → ClV SR mX11_copy [.ref 4, .int 0, .ref 3, .int 0, .int 146] (wXX11_wrong 6 (wi w 0 4) w) (fun w6 => w6.2.2 = RM ∧ Go SR mX11_hall 201 [(0, .ref 0), (1, .int l1), (2, .int 0)] [] (si w6 0 15 1) Q)) ∧ (¬ ((wi (wXX11_wrong 6 (wi w 0 4) w) 0 13) = 0) → Q (some (.int (vXX11_no 4))) (wXX11_no 4 (wXX11_wrong 6 (wi w 0 4) w))))) ∧ (¬ ((wi w 0 14) = 0) → (((wi w 4 1) = 0 → (((wi (wXX11_wrong 6 (wi w 0 4) w) 0 13) = 0 → ClV SR mX11_copy [.ref 4, .int 0, .ref 3, .int 0, .int 146] (wXX11_wrong 6 (wi w 0 4) w) (fun w8 => w8.2.2 = RM ∧ Go SR mX11_hall 201 [(0, .ref 0), (1, .int l1), (2, .int 0)] [] (si w8 0 15 1) Q)) ∧ (¬ ((wi (wXX11_wrong 6 (wi w 0 4) w) 0 13) = 0) → Q (some (.int (vXX11_no 4))) (wXX11_no 4 (wXX11_wrong 6 (wi w 0 4) w))))) ∧ (¬ ((wi w 4 1) = 0) → (((wi w 0 13) = 0 → ClV SR mX11_copy [.ref 4, .int 0, .ref 3, .int 0, .int 146] w (fun w7 => w7.2.2 = RM ∧ Go SR mX11_hall 201 [(0, .ref 0), (1, .int l1), (2, .int 0)] [] (si w7 0 15 1) Q)) ∧ (¬ ((wi w 0 13) = 0) → Q (some (.int (vXX11_no 4))) (wXX11_no 4 w)))))))) ∧ (¬ ((wi w 0 13) = 0) → (((wi w 0 13) = 0 → ClV SR mX11_copy [.ref 4, .int 0, .ref 3, .int 0, .int 146] w (fun w5 => w5.2.2 = RM ∧ Go SR mX11_hall 201 [(0, .ref 0), (1, .int l1), (2, .int 0)] [] (si w5 0 15 1) Q)) ∧ (¬ ((wi w 0 13) = 0) → Q (some (.int (vXX11_no 4))) (wXX11_no 4 w)))))) ∧ (¬ ((wi w 0 6) = 0) → (((wi (wXX11_wrong 1 (wi w 0 4) w) 0 13) = 0 → (((wi (wXX11_wrong 1 (wi w 0 4) w) 0 14) = 0 → (((wi (wXX11_wrong 6 (wi (wXX11_wrong 1 (wi w 0 4) w) 0 4) (wXX11_wrong 1 (wi w 0 4) w)) 0 13) = 0 → ClV SR mX11_copy [.ref 4, .int 0, .ref 3, .int 0, .int 146] (wXX11_wrong 6 (wi (wXX11_wrong 1 (wi w 0 4) w) 0 4) (wXX11_wrong 1 (wi w 0 4) w)) (fun w10 => w10.2.2 = RM ∧ Go SR mX11_hall 201 [(0, .ref 0), (1, .int l1), (2, .int 0)] [] (si w10 0 15 1) Q)) ∧ (¬ ((wi (wXX11_wrong 6 (wi (wXX11_wrong 1 (wi w 0 4) w) 0 4) (wXX11_wrong 1 (wi w 0 4) w)) 0 13) = 0) → Q (some (.int (vXX11_no 4))) (wXX11_no 4 (wXX11_wrong 6 (wi (wXX11_wrong 1 (wi w 0 4) w) 0 4) (wXX11_wrong 1 (wi w 0 4) w)))))) ∧ (¬ ((wi (wXX11_wrong 1 (wi w 0 4) w) 0 14) = 0) → (((wi (wXX11_wrong 1 (wi w 0 4) w) 4 1) = 0 → (((wi (wXX11_wrong 6 (wi (wXX11_wrong 1 (wi w 0 4) w) 0 4) (wXX11_wrong 1 (wi w 0 4) w)) 0 13) = 0 → ClV SR mX11_copy [.ref 4, .int 0, .ref 3, .int 0, .int 146] (wXX11_wrong 6 (wi (wXX11_wrong 1 (wi w 0 4) w) 0 4) (wXX11_wrong 1 (wi w 0 4) w)) (fun w12 => w12.2.2 = RM ∧ Go SR mX11_hall 201 [(0, .ref 0), (1, .int l1), (2, .int 0)] [] (si w12 0 15 1) Q)) ∧ (¬ ((wi (wXX11_wrong 6 (wi (wXX11_wrong 1 (wi w 0 4) w) 0 4) (wXX11_wrong 1 (wi w 0 4) w)) 0 13) = 0) → Q (some (.int (vXX11_no 4))) (wXX11_no 4 (wXX11_wrong 6 (wi (wXX11_wrong 1 (wi w 0 4) w) 0 4) (wXX11_wrong 1 (wi w 0 4) w)))))) ∧ (¬ ((wi (wXX11_wrong 1 (wi w 0 4) w) 4 1) = 0) → (((wi (wXX11_wrong 1 (wi w 0 4) w) 0 13) = 0 → ClV SR mX11_copy [.ref 4, .int 0, .ref 3, .int 0, .int 146] (wXX11_wrong 1 (wi w 0 4) w) (fun w11 => w11.2.2 = RM ∧ Go SR mX11_hall 201 [(0, .ref 0), (1, .int l1), (2, .int 0)] [] (si w11 0 15 1) Q)) ∧ (¬ ((wi (wXX11_wrong 1 (wi w 0 4) w) 0 13) = 0) → Q (some (.int (vXX11_no 4))) (wXX11_no 4 (wXX11_wrong 1 (wi w 0 4) w))))))))) ∧ (¬ ((wi (wXX11_wrong 1 (wi w 0 4) w) 0 13) = 0) → (((wi (wXX11_wrong 1 (wi w 0 4) w) 0 13) = 0 → ClV SR mX11_copy [.ref 4, .int 0, .ref 3, .int 0, .int 146] (wXX11_wrong 1 (wi w 0 4) w) (fun w9 => w9.2.2 = RM ∧ Go SR mX11_hall 201 [(0, .ref 0), (1, .int l1), (2, .int 0)] [] (si w9 0 15 1) Q)) ∧ (¬ ((wi (wXX11_wrong 1 (wi w 0 4) w) 0 13) = 0) → Q (some (.int (vXX11_no 4))) (wXX11_no 4 (wXX11_wrong 1 (wi w 0 4) w))))))))) ∧ (¬ ((wi w 0 13) = 0) → (((wi w 0 13) = 0 → (((wi w 0 14) = 0 → (((wi (wXX11_wrong 6 (wi w 0 4) w) 0 13) = 0 → ClV SR mX11_copy [.ref 4, .int 0, .ref 3, .int 0, .int 146] (wXX11_wrong 6 (wi w 0 4) w) (fun w2 => w2.2.2 = RM ∧ Go SR mX11_hall 201 [(0, .ref 0), (1, .int l1), (2, .int 0)] [] (si w2 0 15 1) Q)) ∧ (¬ ((wi (wXX11_wrong 6 (wi w 0 4) w) 0 13) = 0) → Q (some (.int (vXX11_no 4))) (wXX11_no 4 (wXX11_wrong 6 (wi w 0 4) w))))) ∧ (¬ ((wi w 0 14) = 0) → (((wi w 4 1) = 0 → (((wi (wXX11_wrong 6 (wi w 0 4) w) 0 13) = 0 → ClV SR mX11_copy [.ref 4, .int 0, .ref 3, .int 0, .int 146] (wXX11_wrong 6 (wi w 0 4) w) (fun w4 => w4.2.2 = RM ∧ Go SR mX11_hall 201 [(0, .ref 0), (1, .int l1), (2, .int 0)] [] (si w4 0 15 1) Q)) ∧ (¬ ((wi (wXX11_wrong 6 (wi w 0 4) w) 0 13) = 0) → Q (some (.int (vXX11_no 4))) (wXX11_no 4 (wXX11_wrong 6 (wi w 0 4) w))))) ∧ (¬ ((wi w 4 1) = 0) → (((wi w 0 13) = 0 → ClV SR mX11_copy [.ref 4, .int 0, .ref 3, .int 0, .int 146] w (fun w3 => w3.2.2 = RM ∧ Go SR mX11_hall 201 [(0, .ref 0), (1, .int l1), (2, .int 0)] [] (si w3 0 15 1) Q)) ∧ (¬ ((wi w 0 13) = 0) → Q (some (.int (vXX11_no 4))) (wXX11_no 4 w)))))))) ∧ (¬ ((wi w 0 13) = 0) → (((wi w 0 13) = 0 → ClV SR mX11_copy [.ref 4, .int 0, .ref 3, .int 0, .int 146] w (fun w1 => w1.2.2 = RM ∧ Go SR mX11_hall 201 [(0, .ref 0), (1, .int l1), (2, .int 0)] [] (si w1 0 15 1) Q)) ∧ (¬ ((wi w 0 13) = 0) → Q (some (.int (vXX11_no 4))) (wXX11_no 4 w)))))))))) : Go SR mX11_hall 82 [(0, .ref 0), (1, .int l1), (2, .int l2)] [] w Q := by
  refine g_aload_n (pc := 82) dX11_hall_82 rfl 0 rfl ?_
  refine g_getZ (pc := 83) (a := 0) dX11_hall_83 rfl fX11_95 rfl ?_
  refine g_if_ne (pc := 86) (tgt := 109) dX11_hall_86 (by decide) (fun q => ?_) (fun q => ?_)
  · have h := h.2 q
    refine g_aload_n (pc := 109) dX11_hall_109 rfl 0 rfl ?_
    refine g_getZ (pc := 110) (a := 0) dX11_hall_110 rfl fX11_95 rfl ?_
    refine g_if_ne (pc := 113) (tgt := 132) dX11_hall_113 (by decide) (fun q => ?_) (fun q => ?_)
    · have h := h.2 q
      refine g_aload_n (pc := 132) dX11_hall_132 rfl 0 rfl ?_
      refine g_getZ (pc := 133) (a := 0) dX11_hall_133 rfl fX11_95 rfl ?_
      refine g_if_ne (pc := 136) (tgt := 165) dX11_hall_136 (by decide) (fun q => ?_) (fun q => ?_)
      · have h := h.2 q
        refine g_aload_n (pc := 165) dX11_hall_165 rfl 0 rfl ?_
        refine g_getZ (pc := 166) (a := 0) dX11_hall_166 rfl fX11_95 rfl ?_
        refine g_if_eq (pc := 169) (tgt := 178) dX11_hall_169 (by decide) (fun q => ?_) (fun q => ?_)
        · have h := h.1 q
          refine g_aload_n (pc := 178) dX11_hall_178 rfl 0 rfl ?_
          refine g_getR (pc := 179) (a := 0) (b := 4) dX11_hall_179 rfl fX11_23 rfl (rm_17 hR) ?_
          refine g_iconst (pc := 182) dX11_hall_182 c_0 ?_
          refine g_aload_n (pc := 183) dX11_hall_183 rfl 0 rfl ?_
          refine g_getR (pc := 184) (a := 0) (b := 3) dX11_hall_184 rfl fX11_20 rfl (rm_16 hR) ?_
          refine g_iconst (pc := 187) dX11_hall_187 c_0 ?_
          refine g_sipush (pc := 188) (v := 146) dX11_hall_188 (by decide) ?_
          refine g_callS (pc := 191) (M' := mX11_copy) (n := 5) (as := [.ref 4, .int 0, .ref 3, .int 0, .int 146]) (st := []) dX11_hall_191 rfl kX11_159 sX11_copy (Nat.le_of_ble_eq_true rfl) rfl rfl (Nat.le_of_ble_eq_true rfl) ?_
          refine cl_mono (fun r w1 hr => ?_) h
          obtain ⟨rfl, hw1, h⟩ := hr
          show Go SR mX11_hall 194 [(0, .ref 0), (1, .int l1), (2, .int l2)] [] w1 Q
          refine g_aload_n (pc := 194) dX11_hall_194 rfl 0 rfl ?_
          refine g_iconst (pc := 195) dX11_hall_195 c_1 ?_
          refine g_putZ (pc := 196) dX11_hall_196 rfl fX11_163 pX11_15 rfl (Or.inr rfl) ?_
          refine g_iconst (pc := 199) dX11_hall_199 c_0 ?_
          refine g_istore_n (pc := 200) (lv2 := [(0, .ref 0), (1, .int l1), (2, .int 0)]) dX11_hall_200 rfl (Nat.le_of_ble_eq_true rfl) rfl ?_
          exact h
        · have h := h.2 q
          refine g_aload_n (pc := 172) dX11_hall_172 rfl 0 rfl ?_
          refine g_iconst (pc := 173) dX11_hall_173 c_4 ?_
          refine g_callV (pc := 174) (M' := mX11_no) (n := 1) (a := 0) (as := [.int 4]) (st := []) dX11_hall_174 rfl kX11_150 vX11_no (Nat.le_of_ble_eq_true rfl) rfl qX11 rfl rfl (Nat.le_of_ble_eq_true rfl) ?_
          refine zX11_no (a1 := 4) (w := w) (hR := hR) ?_
          show Go SR mX11_hall 177 [(0, .ref 0), (1, .int l1), (2, .int l2)] [.int (vXX11_no 4)] (wXX11_no 4 w) Q
          exact g_iret (pc := 177) dX11_hall_177 rfl h
      · have h := h.1 q
        refine g_aload_n (pc := 139) dX11_hall_139 rfl 0 rfl ?_
        refine g_getZ (pc := 140) (a := 0) dX11_hall_140 rfl fX11_153 rfl ?_
        refine g_if_eq (pc := 143) (tgt := 155) dX11_hall_143 (by decide) (fun q => ?_) (fun q => ?_)
        · have h := h.1 q
          refine g_aload_n (pc := 155) dX11_hall_155 rfl 0 rfl ?_
          refine g_bipush (pc := 156) (v := 6) dX11_hall_156 (by decide) ?_
          refine g_aload_n (pc := 158) dX11_hall_158 rfl 0 rfl ?_
          refine g_getI (pc := 159) (a := 0) dX11_hall_159 rfl fX11_76 rfl ?_
          refine g_callV (pc := 162) (M' := mX11_wrong) (n := 2) (a := 0) (as := [.int 6, .int (wi w 0 4)]) (st := []) dX11_hall_162 rfl kX11_122 vX11_wrong (Nat.le_of_ble_eq_true rfl) rfl qX11 rfl rfl (Nat.le_of_ble_eq_true rfl) ?_
          refine zX11_wrong (a1 := 6) (a2 := (wi w 0 4)) (w := w) (hR := hR) ?_
          show Go SR mX11_hall 165 [(0, .ref 0), (1, .int l1), (2, .int l2)] [] (wXX11_wrong 6 (wi w 0 4) w) Q
          refine g_aload_n (pc := 165) dX11_hall_165 rfl 0 rfl ?_
          refine g_getZ (pc := 166) (a := 0) dX11_hall_166 rfl fX11_95 rfl ?_
          refine g_if_eq (pc := 169) (tgt := 178) dX11_hall_169 (by decide) (fun q => ?_) (fun q => ?_)
          · have h := h.1 q
            refine g_aload_n (pc := 178) dX11_hall_178 rfl 0 rfl ?_
            refine g_getR (pc := 179) (a := 0) (b := 4) dX11_hall_179 rfl fX11_23 rfl (rm_17 ((rXX11_wrong 6 (wi w 0 4) w).trans hR)) ?_
            refine g_iconst (pc := 182) dX11_hall_182 c_0 ?_
            refine g_aload_n (pc := 183) dX11_hall_183 rfl 0 rfl ?_
            refine g_getR (pc := 184) (a := 0) (b := 3) dX11_hall_184 rfl fX11_20 rfl (rm_16 ((rXX11_wrong 6 (wi w 0 4) w).trans hR)) ?_
            refine g_iconst (pc := 187) dX11_hall_187 c_0 ?_
            refine g_sipush (pc := 188) (v := 146) dX11_hall_188 (by decide) ?_
            refine g_callS (pc := 191) (M' := mX11_copy) (n := 5) (as := [.ref 4, .int 0, .ref 3, .int 0, .int 146]) (st := []) dX11_hall_191 rfl kX11_159 sX11_copy (Nat.le_of_ble_eq_true rfl) rfl rfl (Nat.le_of_ble_eq_true rfl) ?_
            refine cl_mono (fun r w2 hr => ?_) h
            obtain ⟨rfl, hw2, h⟩ := hr
            show Go SR mX11_hall 194 [(0, .ref 0), (1, .int l1), (2, .int l2)] [] w2 Q
            refine g_aload_n (pc := 194) dX11_hall_194 rfl 0 rfl ?_
            refine g_iconst (pc := 195) dX11_hall_195 c_1 ?_
            refine g_putZ (pc := 196) dX11_hall_196 rfl fX11_163 pX11_15 rfl (Or.inr rfl) ?_
            refine g_iconst (pc := 199) dX11_hall_199 c_0 ?_
            refine g_istore_n (pc := 200) (lv2 := [(0, .ref 0), (1, .int l1), (2, .int 0)]) dX11_hall_200 rfl (Nat.le_of_ble_eq_true rfl) rfl ?_
            exact h
          · have h := h.2 q
            refine g_aload_n (pc := 172) dX11_hall_172 rfl 0 rfl ?_
            refine g_iconst (pc := 173) dX11_hall_173 c_4 ?_
            refine g_callV (pc := 174) (M' := mX11_no) (n := 1) (a := 0) (as := [.int 4]) (st := []) dX11_hall_174 rfl kX11_150 vX11_no (Nat.le_of_ble_eq_true rfl) rfl qX11 rfl rfl (Nat.le_of_ble_eq_true rfl) ?_
            refine zX11_no (a1 := 4) (w := wXX11_wrong 6 (wi w 0 4) w) (hR := ((rXX11_wrong 6 (wi w 0 4) w).trans hR)) ?_
            show Go SR mX11_hall 177 [(0, .ref 0), (1, .int l1), (2, .int l2)] [.int (vXX11_no 4)] (wXX11_no 4 (wXX11_wrong 6 (wi w 0 4) w)) Q
            exact g_iret (pc := 177) dX11_hall_177 rfl h
        · have h := h.2 q
          refine g_aload_n (pc := 146) dX11_hall_146 rfl 0 rfl ?_
          refine g_getR (pc := 147) (a := 0) (b := 4) dX11_hall_147 rfl fX11_23 rfl (rm_17 hR) ?_
          refine g_iconst (pc := 150) dX11_hall_150 c_1 ?_
          refine g_iald (pc := 151) (a := 4) (j := 1) dX11_hall_151 rfl (vin (by decide) (by decide)) (by decide) ?_
          refine g_if_ne (pc := 152) (tgt := 165) dX11_hall_152 (by decide) (fun q => ?_) (fun q => ?_)
          · have h := h.2 q
            refine g_aload_n (pc := 165) dX11_hall_165 rfl 0 rfl ?_
            refine g_getZ (pc := 166) (a := 0) dX11_hall_166 rfl fX11_95 rfl ?_
            refine g_if_eq (pc := 169) (tgt := 178) dX11_hall_169 (by decide) (fun q => ?_) (fun q => ?_)
            · have h := h.1 q
              refine g_aload_n (pc := 178) dX11_hall_178 rfl 0 rfl ?_
              refine g_getR (pc := 179) (a := 0) (b := 4) dX11_hall_179 rfl fX11_23 rfl (rm_17 hR) ?_
              refine g_iconst (pc := 182) dX11_hall_182 c_0 ?_
              refine g_aload_n (pc := 183) dX11_hall_183 rfl 0 rfl ?_
              refine g_getR (pc := 184) (a := 0) (b := 3) dX11_hall_184 rfl fX11_20 rfl (rm_16 hR) ?_
              refine g_iconst (pc := 187) dX11_hall_187 c_0 ?_
              refine g_sipush (pc := 188) (v := 146) dX11_hall_188 (by decide) ?_
              refine g_callS (pc := 191) (M' := mX11_copy) (n := 5) (as := [.ref 4, .int 0, .ref 3, .int 0, .int 146]) (st := []) dX11_hall_191 rfl kX11_159 sX11_copy (Nat.le_of_ble_eq_true rfl) rfl rfl (Nat.le_of_ble_eq_true rfl) ?_
              refine cl_mono (fun r w3 hr => ?_) h
              obtain ⟨rfl, hw3, h⟩ := hr
              show Go SR mX11_hall 194 [(0, .ref 0), (1, .int l1), (2, .int l2)] [] w3 Q
              refine g_aload_n (pc := 194) dX11_hall_194 rfl 0 rfl ?_
              refine g_iconst (pc := 195) dX11_hall_195 c_1 ?_
              refine g_putZ (pc := 196) dX11_hall_196 rfl fX11_163 pX11_15 rfl (Or.inr rfl) ?_
              refine g_iconst (pc := 199) dX11_hall_199 c_0 ?_
              refine g_istore_n (pc := 200) (lv2 := [(0, .ref 0), (1, .int l1), (2, .int 0)]) dX11_hall_200 rfl (Nat.le_of_ble_eq_true rfl) rfl ?_
              exact h
            · have h := h.2 q
              refine g_aload_n (pc := 172) dX11_hall_172 rfl 0 rfl ?_
              refine g_iconst (pc := 173) dX11_hall_173 c_4 ?_
              refine g_callV (pc := 174) (M' := mX11_no) (n := 1) (a := 0) (as := [.int 4]) (st := []) dX11_hall_174 rfl kX11_150 vX11_no (Nat.le_of_ble_eq_true rfl) rfl qX11 rfl rfl (Nat.le_of_ble_eq_true rfl) ?_
              refine zX11_no (a1 := 4) (w := w) (hR := hR) ?_
              show Go SR mX11_hall 177 [(0, .ref 0), (1, .int l1), (2, .int l2)] [.int (vXX11_no 4)] (wXX11_no 4 w) Q
              exact g_iret (pc := 177) dX11_hall_177 rfl h
          · have h := h.1 q
            refine g_aload_n (pc := 155) dX11_hall_155 rfl 0 rfl ?_
            refine g_bipush (pc := 156) (v := 6) dX11_hall_156 (by decide) ?_
            refine g_aload_n (pc := 158) dX11_hall_158 rfl 0 rfl ?_
            refine g_getI (pc := 159) (a := 0) dX11_hall_159 rfl fX11_76 rfl ?_
            refine g_callV (pc := 162) (M' := mX11_wrong) (n := 2) (a := 0) (as := [.int 6, .int (wi w 0 4)]) (st := []) dX11_hall_162 rfl kX11_122 vX11_wrong (Nat.le_of_ble_eq_true rfl) rfl qX11 rfl rfl (Nat.le_of_ble_eq_true rfl) ?_
            refine zX11_wrong (a1 := 6) (a2 := (wi w 0 4)) (w := w) (hR := hR) ?_
            show Go SR mX11_hall 165 [(0, .ref 0), (1, .int l1), (2, .int l2)] [] (wXX11_wrong 6 (wi w 0 4) w) Q
            refine g_aload_n (pc := 165) dX11_hall_165 rfl 0 rfl ?_
            refine g_getZ (pc := 166) (a := 0) dX11_hall_166 rfl fX11_95 rfl ?_
            refine g_if_eq (pc := 169) (tgt := 178) dX11_hall_169 (by decide) (fun q => ?_) (fun q => ?_)
            · have h := h.1 q
              refine g_aload_n (pc := 178) dX11_hall_178 rfl 0 rfl ?_
              refine g_getR (pc := 179) (a := 0) (b := 4) dX11_hall_179 rfl fX11_23 rfl (rm_17 ((rXX11_wrong 6 (wi w 0 4) w).trans hR)) ?_
              refine g_iconst (pc := 182) dX11_hall_182 c_0 ?_
              refine g_aload_n (pc := 183) dX11_hall_183 rfl 0 rfl ?_
              refine g_getR (pc := 184) (a := 0) (b := 3) dX11_hall_184 rfl fX11_20 rfl (rm_16 ((rXX11_wrong 6 (wi w 0 4) w).trans hR)) ?_
              refine g_iconst (pc := 187) dX11_hall_187 c_0 ?_
              refine g_sipush (pc := 188) (v := 146) dX11_hall_188 (by decide) ?_
              refine g_callS (pc := 191) (M' := mX11_copy) (n := 5) (as := [.ref 4, .int 0, .ref 3, .int 0, .int 146]) (st := []) dX11_hall_191 rfl kX11_159 sX11_copy (Nat.le_of_ble_eq_true rfl) rfl rfl (Nat.le_of_ble_eq_true rfl) ?_
              refine cl_mono (fun r w4 hr => ?_) h
              obtain ⟨rfl, hw4, h⟩ := hr
              show Go SR mX11_hall 194 [(0, .ref 0), (1, .int l1), (2, .int l2)] [] w4 Q
              refine g_aload_n (pc := 194) dX11_hall_194 rfl 0 rfl ?_
              refine g_iconst (pc := 195) dX11_hall_195 c_1 ?_
              refine g_putZ (pc := 196) dX11_hall_196 rfl fX11_163 pX11_15 rfl (Or.inr rfl) ?_
              refine g_iconst (pc := 199) dX11_hall_199 c_0 ?_
              refine g_istore_n (pc := 200) (lv2 := [(0, .ref 0), (1, .int l1), (2, .int 0)]) dX11_hall_200 rfl (Nat.le_of_ble_eq_true rfl) rfl ?_
              exact h
            · have h := h.2 q
              refine g_aload_n (pc := 172) dX11_hall_172 rfl 0 rfl ?_
              refine g_iconst (pc := 173) dX11_hall_173 c_4 ?_
              refine g_callV (pc := 174) (M' := mX11_no) (n := 1) (a := 0) (as := [.int 4]) (st := []) dX11_hall_174 rfl kX11_150 vX11_no (Nat.le_of_ble_eq_true rfl) rfl qX11 rfl rfl (Nat.le_of_ble_eq_true rfl) ?_
              refine zX11_no (a1 := 4) (w := wXX11_wrong 6 (wi w 0 4) w) (hR := ((rXX11_wrong 6 (wi w 0 4) w).trans hR)) ?_
              show Go SR mX11_hall 177 [(0, .ref 0), (1, .int l1), (2, .int l2)] [.int (vXX11_no 4)] (wXX11_no 4 (wXX11_wrong 6 (wi w 0 4) w)) Q
              exact g_iret (pc := 177) dX11_hall_177 rfl h
    · have h := h.1 q
      refine g_aload_n (pc := 116) dX11_hall_116 rfl 0 rfl ?_
      refine g_getI (pc := 117) (a := 0) dX11_hall_117 rfl fX11_85 rfl ?_
      refine g_if_eq (pc := 120) (tgt := 132) dX11_hall_120 (by decide) (fun q => ?_) (fun q => ?_)
      · have h := h.1 q
        refine g_aload_n (pc := 132) dX11_hall_132 rfl 0 rfl ?_
        refine g_getZ (pc := 133) (a := 0) dX11_hall_133 rfl fX11_95 rfl ?_
        refine g_if_ne (pc := 136) (tgt := 165) dX11_hall_136 (by decide) (fun q => ?_) (fun q => ?_)
        · have h := h.2 q
          refine g_aload_n (pc := 165) dX11_hall_165 rfl 0 rfl ?_
          refine g_getZ (pc := 166) (a := 0) dX11_hall_166 rfl fX11_95 rfl ?_
          refine g_if_eq (pc := 169) (tgt := 178) dX11_hall_169 (by decide) (fun q => ?_) (fun q => ?_)
          · have h := h.1 q
            refine g_aload_n (pc := 178) dX11_hall_178 rfl 0 rfl ?_
            refine g_getR (pc := 179) (a := 0) (b := 4) dX11_hall_179 rfl fX11_23 rfl (rm_17 hR) ?_
            refine g_iconst (pc := 182) dX11_hall_182 c_0 ?_
            refine g_aload_n (pc := 183) dX11_hall_183 rfl 0 rfl ?_
            refine g_getR (pc := 184) (a := 0) (b := 3) dX11_hall_184 rfl fX11_20 rfl (rm_16 hR) ?_
            refine g_iconst (pc := 187) dX11_hall_187 c_0 ?_
            refine g_sipush (pc := 188) (v := 146) dX11_hall_188 (by decide) ?_
            refine g_callS (pc := 191) (M' := mX11_copy) (n := 5) (as := [.ref 4, .int 0, .ref 3, .int 0, .int 146]) (st := []) dX11_hall_191 rfl kX11_159 sX11_copy (Nat.le_of_ble_eq_true rfl) rfl rfl (Nat.le_of_ble_eq_true rfl) ?_
            refine cl_mono (fun r w5 hr => ?_) h
            obtain ⟨rfl, hw5, h⟩ := hr
            show Go SR mX11_hall 194 [(0, .ref 0), (1, .int l1), (2, .int l2)] [] w5 Q
            refine g_aload_n (pc := 194) dX11_hall_194 rfl 0 rfl ?_
            refine g_iconst (pc := 195) dX11_hall_195 c_1 ?_
            refine g_putZ (pc := 196) dX11_hall_196 rfl fX11_163 pX11_15 rfl (Or.inr rfl) ?_
            refine g_iconst (pc := 199) dX11_hall_199 c_0 ?_
            refine g_istore_n (pc := 200) (lv2 := [(0, .ref 0), (1, .int l1), (2, .int 0)]) dX11_hall_200 rfl (Nat.le_of_ble_eq_true rfl) rfl ?_
            exact h
          · have h := h.2 q
            refine g_aload_n (pc := 172) dX11_hall_172 rfl 0 rfl ?_
            refine g_iconst (pc := 173) dX11_hall_173 c_4 ?_
            refine g_callV (pc := 174) (M' := mX11_no) (n := 1) (a := 0) (as := [.int 4]) (st := []) dX11_hall_174 rfl kX11_150 vX11_no (Nat.le_of_ble_eq_true rfl) rfl qX11 rfl rfl (Nat.le_of_ble_eq_true rfl) ?_
            refine zX11_no (a1 := 4) (w := w) (hR := hR) ?_
            show Go SR mX11_hall 177 [(0, .ref 0), (1, .int l1), (2, .int l2)] [.int (vXX11_no 4)] (wXX11_no 4 w) Q
            exact g_iret (pc := 177) dX11_hall_177 rfl h
        · have h := h.1 q
          refine g_aload_n (pc := 139) dX11_hall_139 rfl 0 rfl ?_
          refine g_getZ (pc := 140) (a := 0) dX11_hall_140 rfl fX11_153 rfl ?_
          refine g_if_eq (pc := 143) (tgt := 155) dX11_hall_143 (by decide) (fun q => ?_) (fun q => ?_)
          · have h := h.1 q
            refine g_aload_n (pc := 155) dX11_hall_155 rfl 0 rfl ?_
            refine g_bipush (pc := 156) (v := 6) dX11_hall_156 (by decide) ?_
            refine g_aload_n (pc := 158) dX11_hall_158 rfl 0 rfl ?_
            refine g_getI (pc := 159) (a := 0) dX11_hall_159 rfl fX11_76 rfl ?_
            refine g_callV (pc := 162) (M' := mX11_wrong) (n := 2) (a := 0) (as := [.int 6, .int (wi w 0 4)]) (st := []) dX11_hall_162 rfl kX11_122 vX11_wrong (Nat.le_of_ble_eq_true rfl) rfl qX11 rfl rfl (Nat.le_of_ble_eq_true rfl) ?_
            refine zX11_wrong (a1 := 6) (a2 := (wi w 0 4)) (w := w) (hR := hR) ?_
            show Go SR mX11_hall 165 [(0, .ref 0), (1, .int l1), (2, .int l2)] [] (wXX11_wrong 6 (wi w 0 4) w) Q
            refine g_aload_n (pc := 165) dX11_hall_165 rfl 0 rfl ?_
            refine g_getZ (pc := 166) (a := 0) dX11_hall_166 rfl fX11_95 rfl ?_
            refine g_if_eq (pc := 169) (tgt := 178) dX11_hall_169 (by decide) (fun q => ?_) (fun q => ?_)
            · have h := h.1 q
              refine g_aload_n (pc := 178) dX11_hall_178 rfl 0 rfl ?_
              refine g_getR (pc := 179) (a := 0) (b := 4) dX11_hall_179 rfl fX11_23 rfl (rm_17 ((rXX11_wrong 6 (wi w 0 4) w).trans hR)) ?_
              refine g_iconst (pc := 182) dX11_hall_182 c_0 ?_
              refine g_aload_n (pc := 183) dX11_hall_183 rfl 0 rfl ?_
              refine g_getR (pc := 184) (a := 0) (b := 3) dX11_hall_184 rfl fX11_20 rfl (rm_16 ((rXX11_wrong 6 (wi w 0 4) w).trans hR)) ?_
              refine g_iconst (pc := 187) dX11_hall_187 c_0 ?_
              refine g_sipush (pc := 188) (v := 146) dX11_hall_188 (by decide) ?_
              refine g_callS (pc := 191) (M' := mX11_copy) (n := 5) (as := [.ref 4, .int 0, .ref 3, .int 0, .int 146]) (st := []) dX11_hall_191 rfl kX11_159 sX11_copy (Nat.le_of_ble_eq_true rfl) rfl rfl (Nat.le_of_ble_eq_true rfl) ?_
              refine cl_mono (fun r w6 hr => ?_) h
              obtain ⟨rfl, hw6, h⟩ := hr
              show Go SR mX11_hall 194 [(0, .ref 0), (1, .int l1), (2, .int l2)] [] w6 Q
              refine g_aload_n (pc := 194) dX11_hall_194 rfl 0 rfl ?_
              refine g_iconst (pc := 195) dX11_hall_195 c_1 ?_
              refine g_putZ (pc := 196) dX11_hall_196 rfl fX11_163 pX11_15 rfl (Or.inr rfl) ?_
              refine g_iconst (pc := 199) dX11_hall_199 c_0 ?_
              refine g_istore_n (pc := 200) (lv2 := [(0, .ref 0), (1, .int l1), (2, .int 0)]) dX11_hall_200 rfl (Nat.le_of_ble_eq_true rfl) rfl ?_
              exact h
            · have h := h.2 q
              refine g_aload_n (pc := 172) dX11_hall_172 rfl 0 rfl ?_
              refine g_iconst (pc := 173) dX11_hall_173 c_4 ?_
              refine g_callV (pc := 174) (M' := mX11_no) (n := 1) (a := 0) (as := [.int 4]) (st := []) dX11_hall_174 rfl kX11_150 vX11_no (Nat.le_of_ble_eq_true rfl) rfl qX11 rfl rfl (Nat.le_of_ble_eq_true rfl) ?_
              refine zX11_no (a1 := 4) (w := wXX11_wrong 6 (wi w 0 4) w) (hR := ((rXX11_wrong 6 (wi w 0 4) w).trans hR)) ?_
              show Go SR mX11_hall 177 [(0, .ref 0), (1, .int l1), (2, .int l2)] [.int (vXX11_no 4)] (wXX11_no 4 (wXX11_wrong 6 (wi w 0 4) w)) Q
              exact g_iret (pc := 177) dX11_hall_177 rfl h
          · have h := h.2 q
            refine g_aload_n (pc := 146) dX11_hall_146 rfl 0 rfl ?_
            refine g_getR (pc := 147) (a := 0) (b := 4) dX11_hall_147 rfl fX11_23 rfl (rm_17 hR) ?_
            refine g_iconst (pc := 150) dX11_hall_150 c_1 ?_
            refine g_iald (pc := 151) (a := 4) (j := 1) dX11_hall_151 rfl (vin (by decide) (by decide)) (by decide) ?_
            refine g_if_ne (pc := 152) (tgt := 165) dX11_hall_152 (by decide) (fun q => ?_) (fun q => ?_)
            · have h := h.2 q
              refine g_aload_n (pc := 165) dX11_hall_165 rfl 0 rfl ?_
              refine g_getZ (pc := 166) (a := 0) dX11_hall_166 rfl fX11_95 rfl ?_
              refine g_if_eq (pc := 169) (tgt := 178) dX11_hall_169 (by decide) (fun q => ?_) (fun q => ?_)
              · have h := h.1 q
                refine g_aload_n (pc := 178) dX11_hall_178 rfl 0 rfl ?_
                refine g_getR (pc := 179) (a := 0) (b := 4) dX11_hall_179 rfl fX11_23 rfl (rm_17 hR) ?_
                refine g_iconst (pc := 182) dX11_hall_182 c_0 ?_
                refine g_aload_n (pc := 183) dX11_hall_183 rfl 0 rfl ?_
                refine g_getR (pc := 184) (a := 0) (b := 3) dX11_hall_184 rfl fX11_20 rfl (rm_16 hR) ?_
                refine g_iconst (pc := 187) dX11_hall_187 c_0 ?_
                refine g_sipush (pc := 188) (v := 146) dX11_hall_188 (by decide) ?_
                refine g_callS (pc := 191) (M' := mX11_copy) (n := 5) (as := [.ref 4, .int 0, .ref 3, .int 0, .int 146]) (st := []) dX11_hall_191 rfl kX11_159 sX11_copy (Nat.le_of_ble_eq_true rfl) rfl rfl (Nat.le_of_ble_eq_true rfl) ?_
                refine cl_mono (fun r w7 hr => ?_) h
                obtain ⟨rfl, hw7, h⟩ := hr
                show Go SR mX11_hall 194 [(0, .ref 0), (1, .int l1), (2, .int l2)] [] w7 Q
                refine g_aload_n (pc := 194) dX11_hall_194 rfl 0 rfl ?_
                refine g_iconst (pc := 195) dX11_hall_195 c_1 ?_
                refine g_putZ (pc := 196) dX11_hall_196 rfl fX11_163 pX11_15 rfl (Or.inr rfl) ?_
                refine g_iconst (pc := 199) dX11_hall_199 c_0 ?_
                refine g_istore_n (pc := 200) (lv2 := [(0, .ref 0), (1, .int l1), (2, .int 0)]) dX11_hall_200 rfl (Nat.le_of_ble_eq_true rfl) rfl ?_
                exact h
              · have h := h.2 q
                refine g_aload_n (pc := 172) dX11_hall_172 rfl 0 rfl ?_
                refine g_iconst (pc := 173) dX11_hall_173 c_4 ?_
                refine g_callV (pc := 174) (M' := mX11_no) (n := 1) (a := 0) (as := [.int 4]) (st := []) dX11_hall_174 rfl kX11_150 vX11_no (Nat.le_of_ble_eq_true rfl) rfl qX11 rfl rfl (Nat.le_of_ble_eq_true rfl) ?_
                refine zX11_no (a1 := 4) (w := w) (hR := hR) ?_
                show Go SR mX11_hall 177 [(0, .ref 0), (1, .int l1), (2, .int l2)] [.int (vXX11_no 4)] (wXX11_no 4 w) Q
                exact g_iret (pc := 177) dX11_hall_177 rfl h
            · have h := h.1 q
              refine g_aload_n (pc := 155) dX11_hall_155 rfl 0 rfl ?_
              refine g_bipush (pc := 156) (v := 6) dX11_hall_156 (by decide) ?_
              refine g_aload_n (pc := 158) dX11_hall_158 rfl 0 rfl ?_
              refine g_getI (pc := 159) (a := 0) dX11_hall_159 rfl fX11_76 rfl ?_
              refine g_callV (pc := 162) (M' := mX11_wrong) (n := 2) (a := 0) (as := [.int 6, .int (wi w 0 4)]) (st := []) dX11_hall_162 rfl kX11_122 vX11_wrong (Nat.le_of_ble_eq_true rfl) rfl qX11 rfl rfl (Nat.le_of_ble_eq_true rfl) ?_
              refine zX11_wrong (a1 := 6) (a2 := (wi w 0 4)) (w := w) (hR := hR) ?_
              show Go SR mX11_hall 165 [(0, .ref 0), (1, .int l1), (2, .int l2)] [] (wXX11_wrong 6 (wi w 0 4) w) Q
              refine g_aload_n (pc := 165) dX11_hall_165 rfl 0 rfl ?_
              refine g_getZ (pc := 166) (a := 0) dX11_hall_166 rfl fX11_95 rfl ?_
              refine g_if_eq (pc := 169) (tgt := 178) dX11_hall_169 (by decide) (fun q => ?_) (fun q => ?_)
              · have h := h.1 q
                refine g_aload_n (pc := 178) dX11_hall_178 rfl 0 rfl ?_
                refine g_getR (pc := 179) (a := 0) (b := 4) dX11_hall_179 rfl fX11_23 rfl (rm_17 ((rXX11_wrong 6 (wi w 0 4) w).trans hR)) ?_
                refine g_iconst (pc := 182) dX11_hall_182 c_0 ?_
                refine g_aload_n (pc := 183) dX11_hall_183 rfl 0 rfl ?_
                refine g_getR (pc := 184) (a := 0) (b := 3) dX11_hall_184 rfl fX11_20 rfl (rm_16 ((rXX11_wrong 6 (wi w 0 4) w).trans hR)) ?_
                refine g_iconst (pc := 187) dX11_hall_187 c_0 ?_
                refine g_sipush (pc := 188) (v := 146) dX11_hall_188 (by decide) ?_
                refine g_callS (pc := 191) (M' := mX11_copy) (n := 5) (as := [.ref 4, .int 0, .ref 3, .int 0, .int 146]) (st := []) dX11_hall_191 rfl kX11_159 sX11_copy (Nat.le_of_ble_eq_true rfl) rfl rfl (Nat.le_of_ble_eq_true rfl) ?_
                refine cl_mono (fun r w8 hr => ?_) h
                obtain ⟨rfl, hw8, h⟩ := hr
                show Go SR mX11_hall 194 [(0, .ref 0), (1, .int l1), (2, .int l2)] [] w8 Q
                refine g_aload_n (pc := 194) dX11_hall_194 rfl 0 rfl ?_
                refine g_iconst (pc := 195) dX11_hall_195 c_1 ?_
                refine g_putZ (pc := 196) dX11_hall_196 rfl fX11_163 pX11_15 rfl (Or.inr rfl) ?_
                refine g_iconst (pc := 199) dX11_hall_199 c_0 ?_
                refine g_istore_n (pc := 200) (lv2 := [(0, .ref 0), (1, .int l1), (2, .int 0)]) dX11_hall_200 rfl (Nat.le_of_ble_eq_true rfl) rfl ?_
                exact h
              · have h := h.2 q
                refine g_aload_n (pc := 172) dX11_hall_172 rfl 0 rfl ?_
                refine g_iconst (pc := 173) dX11_hall_173 c_4 ?_
                refine g_callV (pc := 174) (M' := mX11_no) (n := 1) (a := 0) (as := [.int 4]) (st := []) dX11_hall_174 rfl kX11_150 vX11_no (Nat.le_of_ble_eq_true rfl) rfl qX11 rfl rfl (Nat.le_of_ble_eq_true rfl) ?_
                refine zX11_no (a1 := 4) (w := wXX11_wrong 6 (wi w 0 4) w) (hR := ((rXX11_wrong 6 (wi w 0 4) w).trans hR)) ?_
                show Go SR mX11_hall 177 [(0, .ref 0), (1, .int l1), (2, .int l2)] [.int (vXX11_no 4)] (wXX11_no 4 (wXX11_wrong 6 (wi w 0 4) w)) Q
                exact g_iret (pc := 177) dX11_hall_177 rfl h
      · have h := h.2 q
        refine g_aload_n (pc := 123) dX11_hall_123 rfl 0 rfl ?_
        refine g_iconst (pc := 124) dX11_hall_124 c_1 ?_
        refine g_aload_n (pc := 125) dX11_hall_125 rfl 0 rfl ?_
        refine g_getI (pc := 126) (a := 0) dX11_hall_126 rfl fX11_76 rfl ?_
        refine g_callV (pc := 129) (M' := mX11_wrong) (n := 2) (a := 0) (as := [.int 1, .int (wi w 0 4)]) (st := []) dX11_hall_129 rfl kX11_122 vX11_wrong (Nat.le_of_ble_eq_true rfl) rfl qX11 rfl rfl (Nat.le_of_ble_eq_true rfl) ?_
        refine zX11_wrong (a1 := 1) (a2 := (wi w 0 4)) (w := w) (hR := hR) ?_
        show Go SR mX11_hall 132 [(0, .ref 0), (1, .int l1), (2, .int l2)] [] (wXX11_wrong 1 (wi w 0 4) w) Q
        refine g_aload_n (pc := 132) dX11_hall_132 rfl 0 rfl ?_
        refine g_getZ (pc := 133) (a := 0) dX11_hall_133 rfl fX11_95 rfl ?_
        refine g_if_ne (pc := 136) (tgt := 165) dX11_hall_136 (by decide) (fun q => ?_) (fun q => ?_)
        · have h := h.2 q
          refine g_aload_n (pc := 165) dX11_hall_165 rfl 0 rfl ?_
          refine g_getZ (pc := 166) (a := 0) dX11_hall_166 rfl fX11_95 rfl ?_
          refine g_if_eq (pc := 169) (tgt := 178) dX11_hall_169 (by decide) (fun q => ?_) (fun q => ?_)
          · have h := h.1 q
            refine g_aload_n (pc := 178) dX11_hall_178 rfl 0 rfl ?_
            refine g_getR (pc := 179) (a := 0) (b := 4) dX11_hall_179 rfl fX11_23 rfl (rm_17 ((rXX11_wrong 1 (wi w 0 4) w).trans hR)) ?_
            refine g_iconst (pc := 182) dX11_hall_182 c_0 ?_
            refine g_aload_n (pc := 183) dX11_hall_183 rfl 0 rfl ?_
            refine g_getR (pc := 184) (a := 0) (b := 3) dX11_hall_184 rfl fX11_20 rfl (rm_16 ((rXX11_wrong 1 (wi w 0 4) w).trans hR)) ?_
            refine g_iconst (pc := 187) dX11_hall_187 c_0 ?_
            refine g_sipush (pc := 188) (v := 146) dX11_hall_188 (by decide) ?_
            refine g_callS (pc := 191) (M' := mX11_copy) (n := 5) (as := [.ref 4, .int 0, .ref 3, .int 0, .int 146]) (st := []) dX11_hall_191 rfl kX11_159 sX11_copy (Nat.le_of_ble_eq_true rfl) rfl rfl (Nat.le_of_ble_eq_true rfl) ?_
            refine cl_mono (fun r w9 hr => ?_) h
            obtain ⟨rfl, hw9, h⟩ := hr
            show Go SR mX11_hall 194 [(0, .ref 0), (1, .int l1), (2, .int l2)] [] w9 Q
            refine g_aload_n (pc := 194) dX11_hall_194 rfl 0 rfl ?_
            refine g_iconst (pc := 195) dX11_hall_195 c_1 ?_
            refine g_putZ (pc := 196) dX11_hall_196 rfl fX11_163 pX11_15 rfl (Or.inr rfl) ?_
            refine g_iconst (pc := 199) dX11_hall_199 c_0 ?_
            refine g_istore_n (pc := 200) (lv2 := [(0, .ref 0), (1, .int l1), (2, .int 0)]) dX11_hall_200 rfl (Nat.le_of_ble_eq_true rfl) rfl ?_
            exact h
          · have h := h.2 q
            refine g_aload_n (pc := 172) dX11_hall_172 rfl 0 rfl ?_
            refine g_iconst (pc := 173) dX11_hall_173 c_4 ?_
            refine g_callV (pc := 174) (M' := mX11_no) (n := 1) (a := 0) (as := [.int 4]) (st := []) dX11_hall_174 rfl kX11_150 vX11_no (Nat.le_of_ble_eq_true rfl) rfl qX11 rfl rfl (Nat.le_of_ble_eq_true rfl) ?_
            refine zX11_no (a1 := 4) (w := wXX11_wrong 1 (wi w 0 4) w) (hR := ((rXX11_wrong 1 (wi w 0 4) w).trans hR)) ?_
            show Go SR mX11_hall 177 [(0, .ref 0), (1, .int l1), (2, .int l2)] [.int (vXX11_no 4)] (wXX11_no 4 (wXX11_wrong 1 (wi w 0 4) w)) Q
            exact g_iret (pc := 177) dX11_hall_177 rfl h
        · have h := h.1 q
          refine g_aload_n (pc := 139) dX11_hall_139 rfl 0 rfl ?_
          refine g_getZ (pc := 140) (a := 0) dX11_hall_140 rfl fX11_153 rfl ?_
          refine g_if_eq (pc := 143) (tgt := 155) dX11_hall_143 (by decide) (fun q => ?_) (fun q => ?_)
          · have h := h.1 q
            refine g_aload_n (pc := 155) dX11_hall_155 rfl 0 rfl ?_
            refine g_bipush (pc := 156) (v := 6) dX11_hall_156 (by decide) ?_
            refine g_aload_n (pc := 158) dX11_hall_158 rfl 0 rfl ?_
            refine g_getI (pc := 159) (a := 0) dX11_hall_159 rfl fX11_76 rfl ?_
            refine g_callV (pc := 162) (M' := mX11_wrong) (n := 2) (a := 0) (as := [.int 6, .int (wi (wXX11_wrong 1 (wi w 0 4) w) 0 4)]) (st := []) dX11_hall_162 rfl kX11_122 vX11_wrong (Nat.le_of_ble_eq_true rfl) rfl qX11 rfl rfl (Nat.le_of_ble_eq_true rfl) ?_
            refine zX11_wrong (a1 := 6) (a2 := (wi (wXX11_wrong 1 (wi w 0 4) w) 0 4)) (w := wXX11_wrong 1 (wi w 0 4) w) (hR := ((rXX11_wrong 1 (wi w 0 4) w).trans hR)) ?_
            show Go SR mX11_hall 165 [(0, .ref 0), (1, .int l1), (2, .int l2)] [] (wXX11_wrong 6 (wi (wXX11_wrong 1 (wi w 0 4) w) 0 4) (wXX11_wrong 1 (wi w 0 4) w)) Q
            refine g_aload_n (pc := 165) dX11_hall_165 rfl 0 rfl ?_
            refine g_getZ (pc := 166) (a := 0) dX11_hall_166 rfl fX11_95 rfl ?_
            refine g_if_eq (pc := 169) (tgt := 178) dX11_hall_169 (by decide) (fun q => ?_) (fun q => ?_)
            · have h := h.1 q
              refine g_aload_n (pc := 178) dX11_hall_178 rfl 0 rfl ?_
              refine g_getR (pc := 179) (a := 0) (b := 4) dX11_hall_179 rfl fX11_23 rfl (rm_17 ((rXX11_wrong 6 (wi (wXX11_wrong 1 (wi w 0 4) w) 0 4) (wXX11_wrong 1 (wi w 0 4) w)).trans ((rXX11_wrong 1 (wi w 0 4) w).trans hR))) ?_
              refine g_iconst (pc := 182) dX11_hall_182 c_0 ?_
              refine g_aload_n (pc := 183) dX11_hall_183 rfl 0 rfl ?_
              refine g_getR (pc := 184) (a := 0) (b := 3) dX11_hall_184 rfl fX11_20 rfl (rm_16 ((rXX11_wrong 6 (wi (wXX11_wrong 1 (wi w 0 4) w) 0 4) (wXX11_wrong 1 (wi w 0 4) w)).trans ((rXX11_wrong 1 (wi w 0 4) w).trans hR))) ?_
              refine g_iconst (pc := 187) dX11_hall_187 c_0 ?_
              refine g_sipush (pc := 188) (v := 146) dX11_hall_188 (by decide) ?_
              refine g_callS (pc := 191) (M' := mX11_copy) (n := 5) (as := [.ref 4, .int 0, .ref 3, .int 0, .int 146]) (st := []) dX11_hall_191 rfl kX11_159 sX11_copy (Nat.le_of_ble_eq_true rfl) rfl rfl (Nat.le_of_ble_eq_true rfl) ?_
              refine cl_mono (fun r w10 hr => ?_) h
              obtain ⟨rfl, hw10, h⟩ := hr
              show Go SR mX11_hall 194 [(0, .ref 0), (1, .int l1), (2, .int l2)] [] w10 Q
              refine g_aload_n (pc := 194) dX11_hall_194 rfl 0 rfl ?_
              refine g_iconst (pc := 195) dX11_hall_195 c_1 ?_
              refine g_putZ (pc := 196) dX11_hall_196 rfl fX11_163 pX11_15 rfl (Or.inr rfl) ?_
              refine g_iconst (pc := 199) dX11_hall_199 c_0 ?_
              refine g_istore_n (pc := 200) (lv2 := [(0, .ref 0), (1, .int l1), (2, .int 0)]) dX11_hall_200 rfl (Nat.le_of_ble_eq_true rfl) rfl ?_
              exact h
            · have h := h.2 q
              refine g_aload_n (pc := 172) dX11_hall_172 rfl 0 rfl ?_
              refine g_iconst (pc := 173) dX11_hall_173 c_4 ?_
              refine g_callV (pc := 174) (M' := mX11_no) (n := 1) (a := 0) (as := [.int 4]) (st := []) dX11_hall_174 rfl kX11_150 vX11_no (Nat.le_of_ble_eq_true rfl) rfl qX11 rfl rfl (Nat.le_of_ble_eq_true rfl) ?_
              refine zX11_no (a1 := 4) (w := wXX11_wrong 6 (wi (wXX11_wrong 1 (wi w 0 4) w) 0 4) (wXX11_wrong 1 (wi w 0 4) w)) (hR := ((rXX11_wrong 6 (wi (wXX11_wrong 1 (wi w 0 4) w) 0 4) (wXX11_wrong 1 (wi w 0 4) w)).trans ((rXX11_wrong 1 (wi w 0 4) w).trans hR))) ?_
              show Go SR mX11_hall 177 [(0, .ref 0), (1, .int l1), (2, .int l2)] [.int (vXX11_no 4)] (wXX11_no 4 (wXX11_wrong 6 (wi (wXX11_wrong 1 (wi w 0 4) w) 0 4) (wXX11_wrong 1 (wi w 0 4) w))) Q
              exact g_iret (pc := 177) dX11_hall_177 rfl h
          · have h := h.2 q
            refine g_aload_n (pc := 146) dX11_hall_146 rfl 0 rfl ?_
            refine g_getR (pc := 147) (a := 0) (b := 4) dX11_hall_147 rfl fX11_23 rfl (rm_17 ((rXX11_wrong 1 (wi w 0 4) w).trans hR)) ?_
            refine g_iconst (pc := 150) dX11_hall_150 c_1 ?_
            refine g_iald (pc := 151) (a := 4) (j := 1) dX11_hall_151 rfl (vin (by decide) (by decide)) (by decide) ?_
            refine g_if_ne (pc := 152) (tgt := 165) dX11_hall_152 (by decide) (fun q => ?_) (fun q => ?_)
            · have h := h.2 q
              refine g_aload_n (pc := 165) dX11_hall_165 rfl 0 rfl ?_
              refine g_getZ (pc := 166) (a := 0) dX11_hall_166 rfl fX11_95 rfl ?_
              refine g_if_eq (pc := 169) (tgt := 178) dX11_hall_169 (by decide) (fun q => ?_) (fun q => ?_)
              · have h := h.1 q
                refine g_aload_n (pc := 178) dX11_hall_178 rfl 0 rfl ?_
                refine g_getR (pc := 179) (a := 0) (b := 4) dX11_hall_179 rfl fX11_23 rfl (rm_17 ((rXX11_wrong 1 (wi w 0 4) w).trans hR)) ?_
                refine g_iconst (pc := 182) dX11_hall_182 c_0 ?_
                refine g_aload_n (pc := 183) dX11_hall_183 rfl 0 rfl ?_
                refine g_getR (pc := 184) (a := 0) (b := 3) dX11_hall_184 rfl fX11_20 rfl (rm_16 ((rXX11_wrong 1 (wi w 0 4) w).trans hR)) ?_
                refine g_iconst (pc := 187) dX11_hall_187 c_0 ?_
                refine g_sipush (pc := 188) (v := 146) dX11_hall_188 (by decide) ?_
                refine g_callS (pc := 191) (M' := mX11_copy) (n := 5) (as := [.ref 4, .int 0, .ref 3, .int 0, .int 146]) (st := []) dX11_hall_191 rfl kX11_159 sX11_copy (Nat.le_of_ble_eq_true rfl) rfl rfl (Nat.le_of_ble_eq_true rfl) ?_
                refine cl_mono (fun r w11 hr => ?_) h
                obtain ⟨rfl, hw11, h⟩ := hr
                show Go SR mX11_hall 194 [(0, .ref 0), (1, .int l1), (2, .int l2)] [] w11 Q
                refine g_aload_n (pc := 194) dX11_hall_194 rfl 0 rfl ?_
                refine g_iconst (pc := 195) dX11_hall_195 c_1 ?_
                refine g_putZ (pc := 196) dX11_hall_196 rfl fX11_163 pX11_15 rfl (Or.inr rfl) ?_
                refine g_iconst (pc := 199) dX11_hall_199 c_0 ?_
                refine g_istore_n (pc := 200) (lv2 := [(0, .ref 0), (1, .int l1), (2, .int 0)]) dX11_hall_200 rfl (Nat.le_of_ble_eq_true rfl) rfl ?_
                exact h
              · have h := h.2 q
                refine g_aload_n (pc := 172) dX11_hall_172 rfl 0 rfl ?_
                refine g_iconst (pc := 173) dX11_hall_173 c_4 ?_
                refine g_callV (pc := 174) (M' := mX11_no) (n := 1) (a := 0) (as := [.int 4]) (st := []) dX11_hall_174 rfl kX11_150 vX11_no (Nat.le_of_ble_eq_true rfl) rfl qX11 rfl rfl (Nat.le_of_ble_eq_true rfl) ?_
                refine zX11_no (a1 := 4) (w := wXX11_wrong 1 (wi w 0 4) w) (hR := ((rXX11_wrong 1 (wi w 0 4) w).trans hR)) ?_
                show Go SR mX11_hall 177 [(0, .ref 0), (1, .int l1), (2, .int l2)] [.int (vXX11_no 4)] (wXX11_no 4 (wXX11_wrong 1 (wi w 0 4) w)) Q
                exact g_iret (pc := 177) dX11_hall_177 rfl h
            · have h := h.1 q
              refine g_aload_n (pc := 155) dX11_hall_155 rfl 0 rfl ?_
              refine g_bipush (pc := 156) (v := 6) dX11_hall_156 (by decide) ?_
              refine g_aload_n (pc := 158) dX11_hall_158 rfl 0 rfl ?_
              refine g_getI (pc := 159) (a := 0) dX11_hall_159 rfl fX11_76 rfl ?_
              refine g_callV (pc := 162) (M' := mX11_wrong) (n := 2) (a := 0) (as := [.int 6, .int (wi (wXX11_wrong 1 (wi w 0 4) w) 0 4)]) (st := []) dX11_hall_162 rfl kX11_122 vX11_wrong (Nat.le_of_ble_eq_true rfl) rfl qX11 rfl rfl (Nat.le_of_ble_eq_true rfl) ?_
              refine zX11_wrong (a1 := 6) (a2 := (wi (wXX11_wrong 1 (wi w 0 4) w) 0 4)) (w := wXX11_wrong 1 (wi w 0 4) w) (hR := ((rXX11_wrong 1 (wi w 0 4) w).trans hR)) ?_
              show Go SR mX11_hall 165 [(0, .ref 0), (1, .int l1), (2, .int l2)] [] (wXX11_wrong 6 (wi (wXX11_wrong 1 (wi w 0 4) w) 0 4) (wXX11_wrong 1 (wi w 0 4) w)) Q
              refine g_aload_n (pc := 165) dX11_hall_165 rfl 0 rfl ?_
              refine g_getZ (pc := 166) (a := 0) dX11_hall_166 rfl fX11_95 rfl ?_
              refine g_if_eq (pc := 169) (tgt := 178) dX11_hall_169 (by decide) (fun q => ?_) (fun q => ?_)
              · have h := h.1 q
                refine g_aload_n (pc := 178) dX11_hall_178 rfl 0 rfl ?_
                refine g_getR (pc := 179) (a := 0) (b := 4) dX11_hall_179 rfl fX11_23 rfl (rm_17 ((rXX11_wrong 6 (wi (wXX11_wrong 1 (wi w 0 4) w) 0 4) (wXX11_wrong 1 (wi w 0 4) w)).trans ((rXX11_wrong 1 (wi w 0 4) w).trans hR))) ?_
                refine g_iconst (pc := 182) dX11_hall_182 c_0 ?_
                refine g_aload_n (pc := 183) dX11_hall_183 rfl 0 rfl ?_
                refine g_getR (pc := 184) (a := 0) (b := 3) dX11_hall_184 rfl fX11_20 rfl (rm_16 ((rXX11_wrong 6 (wi (wXX11_wrong 1 (wi w 0 4) w) 0 4) (wXX11_wrong 1 (wi w 0 4) w)).trans ((rXX11_wrong 1 (wi w 0 4) w).trans hR))) ?_
                refine g_iconst (pc := 187) dX11_hall_187 c_0 ?_
                refine g_sipush (pc := 188) (v := 146) dX11_hall_188 (by decide) ?_
                refine g_callS (pc := 191) (M' := mX11_copy) (n := 5) (as := [.ref 4, .int 0, .ref 3, .int 0, .int 146]) (st := []) dX11_hall_191 rfl kX11_159 sX11_copy (Nat.le_of_ble_eq_true rfl) rfl rfl (Nat.le_of_ble_eq_true rfl) ?_
                refine cl_mono (fun r w12 hr => ?_) h
                obtain ⟨rfl, hw12, h⟩ := hr
                show Go SR mX11_hall 194 [(0, .ref 0), (1, .int l1), (2, .int l2)] [] w12 Q
                refine g_aload_n (pc := 194) dX11_hall_194 rfl 0 rfl ?_
                refine g_iconst (pc := 195) dX11_hall_195 c_1 ?_
                refine g_putZ (pc := 196) dX11_hall_196 rfl fX11_163 pX11_15 rfl (Or.inr rfl) ?_
                refine g_iconst (pc := 199) dX11_hall_199 c_0 ?_
                refine g_istore_n (pc := 200) (lv2 := [(0, .ref 0), (1, .int l1), (2, .int 0)]) dX11_hall_200 rfl (Nat.le_of_ble_eq_true rfl) rfl ?_
                exact h
              · have h := h.2 q
                refine g_aload_n (pc := 172) dX11_hall_172 rfl 0 rfl ?_
                refine g_iconst (pc := 173) dX11_hall_173 c_4 ?_
                refine g_callV (pc := 174) (M' := mX11_no) (n := 1) (a := 0) (as := [.int 4]) (st := []) dX11_hall_174 rfl kX11_150 vX11_no (Nat.le_of_ble_eq_true rfl) rfl qX11 rfl rfl (Nat.le_of_ble_eq_true rfl) ?_
                refine zX11_no (a1 := 4) (w := wXX11_wrong 6 (wi (wXX11_wrong 1 (wi w 0 4) w) 0 4) (wXX11_wrong 1 (wi w 0 4) w)) (hR := ((rXX11_wrong 6 (wi (wXX11_wrong 1 (wi w 0 4) w) 0 4) (wXX11_wrong 1 (wi w 0 4) w)).trans ((rXX11_wrong 1 (wi w 0 4) w).trans hR))) ?_
                show Go SR mX11_hall 177 [(0, .ref 0), (1, .int l1), (2, .int l2)] [.int (vXX11_no 4)] (wXX11_no 4 (wXX11_wrong 6 (wi (wXX11_wrong 1 (wi w 0 4) w) 0 4) (wXX11_wrong 1 (wi w 0 4) w))) Q
                exact g_iret (pc := 177) dX11_hall_177 rfl h
  · have h := h.1 q
    refine g_aload_n (pc := 89) dX11_hall_89 rfl 0 rfl ?_
    refine g_getI (pc := 90) (a := 0) dX11_hall_90 rfl fX11_85 rfl ?_
    refine g_bipush (pc := 93) (v := 59) dX11_hall_93 (by decide) ?_
    refine g_icmp_ne (pc := 95) (tgt := 109) dX11_hall_95 (by decide) (fun q => ?_) (fun q => ?_)
    · have h := h.2 q
      refine g_aload_n (pc := 109) dX11_hall_109 rfl 0 rfl ?_
      refine g_getZ (pc := 110) (a := 0) dX11_hall_110 rfl fX11_95 rfl ?_
      refine g_if_ne (pc := 113) (tgt := 132) dX11_hall_113 (by decide) (fun q => ?_) (fun q => ?_)
      · have h := h.2 q
        refine g_aload_n (pc := 132) dX11_hall_132 rfl 0 rfl ?_
        refine g_getZ (pc := 133) (a := 0) dX11_hall_133 rfl fX11_95 rfl ?_
        refine g_if_ne (pc := 136) (tgt := 165) dX11_hall_136 (by decide) (fun q => ?_) (fun q => ?_)
        · have h := h.2 q
          refine g_aload_n (pc := 165) dX11_hall_165 rfl 0 rfl ?_
          refine g_getZ (pc := 166) (a := 0) dX11_hall_166 rfl fX11_95 rfl ?_
          refine g_if_eq (pc := 169) (tgt := 178) dX11_hall_169 (by decide) (fun q => ?_) (fun q => ?_)
          · have h := h.1 q
            refine g_aload_n (pc := 178) dX11_hall_178 rfl 0 rfl ?_
            refine g_getR (pc := 179) (a := 0) (b := 4) dX11_hall_179 rfl fX11_23 rfl (rm_17 hR) ?_
            refine g_iconst (pc := 182) dX11_hall_182 c_0 ?_
            refine g_aload_n (pc := 183) dX11_hall_183 rfl 0 rfl ?_
            refine g_getR (pc := 184) (a := 0) (b := 3) dX11_hall_184 rfl fX11_20 rfl (rm_16 hR) ?_
            refine g_iconst (pc := 187) dX11_hall_187 c_0 ?_
            refine g_sipush (pc := 188) (v := 146) dX11_hall_188 (by decide) ?_
            refine g_callS (pc := 191) (M' := mX11_copy) (n := 5) (as := [.ref 4, .int 0, .ref 3, .int 0, .int 146]) (st := []) dX11_hall_191 rfl kX11_159 sX11_copy (Nat.le_of_ble_eq_true rfl) rfl rfl (Nat.le_of_ble_eq_true rfl) ?_
            refine cl_mono (fun r w13 hr => ?_) h
            obtain ⟨rfl, hw13, h⟩ := hr
            show Go SR mX11_hall 194 [(0, .ref 0), (1, .int l1), (2, .int l2)] [] w13 Q
            refine g_aload_n (pc := 194) dX11_hall_194 rfl 0 rfl ?_
            refine g_iconst (pc := 195) dX11_hall_195 c_1 ?_
            refine g_putZ (pc := 196) dX11_hall_196 rfl fX11_163 pX11_15 rfl (Or.inr rfl) ?_
            refine g_iconst (pc := 199) dX11_hall_199 c_0 ?_
            refine g_istore_n (pc := 200) (lv2 := [(0, .ref 0), (1, .int l1), (2, .int 0)]) dX11_hall_200 rfl (Nat.le_of_ble_eq_true rfl) rfl ?_
            exact h
          · have h := h.2 q
            refine g_aload_n (pc := 172) dX11_hall_172 rfl 0 rfl ?_
            refine g_iconst (pc := 173) dX11_hall_173 c_4 ?_
            refine g_callV (pc := 174) (M' := mX11_no) (n := 1) (a := 0) (as := [.int 4]) (st := []) dX11_hall_174 rfl kX11_150 vX11_no (Nat.le_of_ble_eq_true rfl) rfl qX11 rfl rfl (Nat.le_of_ble_eq_true rfl) ?_
            refine zX11_no (a1 := 4) (w := w) (hR := hR) ?_
            show Go SR mX11_hall 177 [(0, .ref 0), (1, .int l1), (2, .int l2)] [.int (vXX11_no 4)] (wXX11_no 4 w) Q
            exact g_iret (pc := 177) dX11_hall_177 rfl h
        · have h := h.1 q
          refine g_aload_n (pc := 139) dX11_hall_139 rfl 0 rfl ?_
          refine g_getZ (pc := 140) (a := 0) dX11_hall_140 rfl fX11_153 rfl ?_
          refine g_if_eq (pc := 143) (tgt := 155) dX11_hall_143 (by decide) (fun q => ?_) (fun q => ?_)
          · have h := h.1 q
            refine g_aload_n (pc := 155) dX11_hall_155 rfl 0 rfl ?_
            refine g_bipush (pc := 156) (v := 6) dX11_hall_156 (by decide) ?_
            refine g_aload_n (pc := 158) dX11_hall_158 rfl 0 rfl ?_
            refine g_getI (pc := 159) (a := 0) dX11_hall_159 rfl fX11_76 rfl ?_
            refine g_callV (pc := 162) (M' := mX11_wrong) (n := 2) (a := 0) (as := [.int 6, .int (wi w 0 4)]) (st := []) dX11_hall_162 rfl kX11_122 vX11_wrong (Nat.le_of_ble_eq_true rfl) rfl qX11 rfl rfl (Nat.le_of_ble_eq_true rfl) ?_
            refine zX11_wrong (a1 := 6) (a2 := (wi w 0 4)) (w := w) (hR := hR) ?_
            show Go SR mX11_hall 165 [(0, .ref 0), (1, .int l1), (2, .int l2)] [] (wXX11_wrong 6 (wi w 0 4) w) Q
            refine g_aload_n (pc := 165) dX11_hall_165 rfl 0 rfl ?_
            refine g_getZ (pc := 166) (a := 0) dX11_hall_166 rfl fX11_95 rfl ?_
            refine g_if_eq (pc := 169) (tgt := 178) dX11_hall_169 (by decide) (fun q => ?_) (fun q => ?_)
            · have h := h.1 q
              refine g_aload_n (pc := 178) dX11_hall_178 rfl 0 rfl ?_
              refine g_getR (pc := 179) (a := 0) (b := 4) dX11_hall_179 rfl fX11_23 rfl (rm_17 ((rXX11_wrong 6 (wi w 0 4) w).trans hR)) ?_
              refine g_iconst (pc := 182) dX11_hall_182 c_0 ?_
              refine g_aload_n (pc := 183) dX11_hall_183 rfl 0 rfl ?_
              refine g_getR (pc := 184) (a := 0) (b := 3) dX11_hall_184 rfl fX11_20 rfl (rm_16 ((rXX11_wrong 6 (wi w 0 4) w).trans hR)) ?_
              refine g_iconst (pc := 187) dX11_hall_187 c_0 ?_
              refine g_sipush (pc := 188) (v := 146) dX11_hall_188 (by decide) ?_
              refine g_callS (pc := 191) (M' := mX11_copy) (n := 5) (as := [.ref 4, .int 0, .ref 3, .int 0, .int 146]) (st := []) dX11_hall_191 rfl kX11_159 sX11_copy (Nat.le_of_ble_eq_true rfl) rfl rfl (Nat.le_of_ble_eq_true rfl) ?_
              refine cl_mono (fun r w14 hr => ?_) h
              obtain ⟨rfl, hw14, h⟩ := hr
              show Go SR mX11_hall 194 [(0, .ref 0), (1, .int l1), (2, .int l2)] [] w14 Q
              refine g_aload_n (pc := 194) dX11_hall_194 rfl 0 rfl ?_
              refine g_iconst (pc := 195) dX11_hall_195 c_1 ?_
              refine g_putZ (pc := 196) dX11_hall_196 rfl fX11_163 pX11_15 rfl (Or.inr rfl) ?_
              refine g_iconst (pc := 199) dX11_hall_199 c_0 ?_
              refine g_istore_n (pc := 200) (lv2 := [(0, .ref 0), (1, .int l1), (2, .int 0)]) dX11_hall_200 rfl (Nat.le_of_ble_eq_true rfl) rfl ?_
              exact h
            · have h := h.2 q
              refine g_aload_n (pc := 172) dX11_hall_172 rfl 0 rfl ?_
              refine g_iconst (pc := 173) dX11_hall_173 c_4 ?_
              refine g_callV (pc := 174) (M' := mX11_no) (n := 1) (a := 0) (as := [.int 4]) (st := []) dX11_hall_174 rfl kX11_150 vX11_no (Nat.le_of_ble_eq_true rfl) rfl qX11 rfl rfl (Nat.le_of_ble_eq_true rfl) ?_
              refine zX11_no (a1 := 4) (w := wXX11_wrong 6 (wi w 0 4) w) (hR := ((rXX11_wrong 6 (wi w 0 4) w).trans hR)) ?_
              show Go SR mX11_hall 177 [(0, .ref 0), (1, .int l1), (2, .int l2)] [.int (vXX11_no 4)] (wXX11_no 4 (wXX11_wrong 6 (wi w 0 4) w)) Q
              exact g_iret (pc := 177) dX11_hall_177 rfl h
          · have h := h.2 q
            refine g_aload_n (pc := 146) dX11_hall_146 rfl 0 rfl ?_
            refine g_getR (pc := 147) (a := 0) (b := 4) dX11_hall_147 rfl fX11_23 rfl (rm_17 hR) ?_
            refine g_iconst (pc := 150) dX11_hall_150 c_1 ?_
            refine g_iald (pc := 151) (a := 4) (j := 1) dX11_hall_151 rfl (vin (by decide) (by decide)) (by decide) ?_
            refine g_if_ne (pc := 152) (tgt := 165) dX11_hall_152 (by decide) (fun q => ?_) (fun q => ?_)
            · have h := h.2 q
              refine g_aload_n (pc := 165) dX11_hall_165 rfl 0 rfl ?_
              refine g_getZ (pc := 166) (a := 0) dX11_hall_166 rfl fX11_95 rfl ?_
              refine g_if_eq (pc := 169) (tgt := 178) dX11_hall_169 (by decide) (fun q => ?_) (fun q => ?_)
              · have h := h.1 q
                refine g_aload_n (pc := 178) dX11_hall_178 rfl 0 rfl ?_
                refine g_getR (pc := 179) (a := 0) (b := 4) dX11_hall_179 rfl fX11_23 rfl (rm_17 hR) ?_
                refine g_iconst (pc := 182) dX11_hall_182 c_0 ?_
                refine g_aload_n (pc := 183) dX11_hall_183 rfl 0 rfl ?_
                refine g_getR (pc := 184) (a := 0) (b := 3) dX11_hall_184 rfl fX11_20 rfl (rm_16 hR) ?_
                refine g_iconst (pc := 187) dX11_hall_187 c_0 ?_
                refine g_sipush (pc := 188) (v := 146) dX11_hall_188 (by decide) ?_
                refine g_callS (pc := 191) (M' := mX11_copy) (n := 5) (as := [.ref 4, .int 0, .ref 3, .int 0, .int 146]) (st := []) dX11_hall_191 rfl kX11_159 sX11_copy (Nat.le_of_ble_eq_true rfl) rfl rfl (Nat.le_of_ble_eq_true rfl) ?_
                refine cl_mono (fun r w15 hr => ?_) h
                obtain ⟨rfl, hw15, h⟩ := hr
                show Go SR mX11_hall 194 [(0, .ref 0), (1, .int l1), (2, .int l2)] [] w15 Q
                refine g_aload_n (pc := 194) dX11_hall_194 rfl 0 rfl ?_
                refine g_iconst (pc := 195) dX11_hall_195 c_1 ?_
                refine g_putZ (pc := 196) dX11_hall_196 rfl fX11_163 pX11_15 rfl (Or.inr rfl) ?_
                refine g_iconst (pc := 199) dX11_hall_199 c_0 ?_
                refine g_istore_n (pc := 200) (lv2 := [(0, .ref 0), (1, .int l1), (2, .int 0)]) dX11_hall_200 rfl (Nat.le_of_ble_eq_true rfl) rfl ?_
                exact h
              · have h := h.2 q
                refine g_aload_n (pc := 172) dX11_hall_172 rfl 0 rfl ?_
                refine g_iconst (pc := 173) dX11_hall_173 c_4 ?_
                refine g_callV (pc := 174) (M' := mX11_no) (n := 1) (a := 0) (as := [.int 4]) (st := []) dX11_hall_174 rfl kX11_150 vX11_no (Nat.le_of_ble_eq_true rfl) rfl qX11 rfl rfl (Nat.le_of_ble_eq_true rfl) ?_
                refine zX11_no (a1 := 4) (w := w) (hR := hR) ?_
                show Go SR mX11_hall 177 [(0, .ref 0), (1, .int l1), (2, .int l2)] [.int (vXX11_no 4)] (wXX11_no 4 w) Q
                exact g_iret (pc := 177) dX11_hall_177 rfl h
            · have h := h.1 q
              refine g_aload_n (pc := 155) dX11_hall_155 rfl 0 rfl ?_
              refine g_bipush (pc := 156) (v := 6) dX11_hall_156 (by decide) ?_
              refine g_aload_n (pc := 158) dX11_hall_158 rfl 0 rfl ?_
              refine g_getI (pc := 159) (a := 0) dX11_hall_159 rfl fX11_76 rfl ?_
              refine g_callV (pc := 162) (M' := mX11_wrong) (n := 2) (a := 0) (as := [.int 6, .int (wi w 0 4)]) (st := []) dX11_hall_162 rfl kX11_122 vX11_wrong (Nat.le_of_ble_eq_true rfl) rfl qX11 rfl rfl (Nat.le_of_ble_eq_true rfl) ?_
              refine zX11_wrong (a1 := 6) (a2 := (wi w 0 4)) (w := w) (hR := hR) ?_
              show Go SR mX11_hall 165 [(0, .ref 0), (1, .int l1), (2, .int l2)] [] (wXX11_wrong 6 (wi w 0 4) w) Q
              refine g_aload_n (pc := 165) dX11_hall_165 rfl 0 rfl ?_
              refine g_getZ (pc := 166) (a := 0) dX11_hall_166 rfl fX11_95 rfl ?_
              refine g_if_eq (pc := 169) (tgt := 178) dX11_hall_169 (by decide) (fun q => ?_) (fun q => ?_)
              · have h := h.1 q
                refine g_aload_n (pc := 178) dX11_hall_178 rfl 0 rfl ?_
                refine g_getR (pc := 179) (a := 0) (b := 4) dX11_hall_179 rfl fX11_23 rfl (rm_17 ((rXX11_wrong 6 (wi w 0 4) w).trans hR)) ?_
                refine g_iconst (pc := 182) dX11_hall_182 c_0 ?_
                refine g_aload_n (pc := 183) dX11_hall_183 rfl 0 rfl ?_
                refine g_getR (pc := 184) (a := 0) (b := 3) dX11_hall_184 rfl fX11_20 rfl (rm_16 ((rXX11_wrong 6 (wi w 0 4) w).trans hR)) ?_
                refine g_iconst (pc := 187) dX11_hall_187 c_0 ?_
                refine g_sipush (pc := 188) (v := 146) dX11_hall_188 (by decide) ?_
                refine g_callS (pc := 191) (M' := mX11_copy) (n := 5) (as := [.ref 4, .int 0, .ref 3, .int 0, .int 146]) (st := []) dX11_hall_191 rfl kX11_159 sX11_copy (Nat.le_of_ble_eq_true rfl) rfl rfl (Nat.le_of_ble_eq_true rfl) ?_
                refine cl_mono (fun r w16 hr => ?_) h
                obtain ⟨rfl, hw16, h⟩ := hr
                show Go SR mX11_hall 194 [(0, .ref 0), (1, .int l1), (2, .int l2)] [] w16 Q
                refine g_aload_n (pc := 194) dX11_hall_194 rfl 0 rfl ?_
                refine g_iconst (pc := 195) dX11_hall_195 c_1 ?_
                refine g_putZ (pc := 196) dX11_hall_196 rfl fX11_163 pX11_15 rfl (Or.inr rfl) ?_
                refine g_iconst (pc := 199) dX11_hall_199 c_0 ?_
                refine g_istore_n (pc := 200) (lv2 := [(0, .ref 0), (1, .int l1), (2, .int 0)]) dX11_hall_200 rfl (Nat.le_of_ble_eq_true rfl) rfl ?_
                exact h
              · have h := h.2 q
                refine g_aload_n (pc := 172) dX11_hall_172 rfl 0 rfl ?_
                refine g_iconst (pc := 173) dX11_hall_173 c_4 ?_
                refine g_callV (pc := 174) (M' := mX11_no) (n := 1) (a := 0) (as := [.int 4]) (st := []) dX11_hall_174 rfl kX11_150 vX11_no (Nat.le_of_ble_eq_true rfl) rfl qX11 rfl rfl (Nat.le_of_ble_eq_true rfl) ?_
                refine zX11_no (a1 := 4) (w := wXX11_wrong 6 (wi w 0 4) w) (hR := ((rXX11_wrong 6 (wi w 0 4) w).trans hR)) ?_
                show Go SR mX11_hall 177 [(0, .ref 0), (1, .int l1), (2, .int l2)] [.int (vXX11_no 4)] (wXX11_no 4 (wXX11_wrong 6 (wi w 0 4) w)) Q
                exact g_iret (pc := 177) dX11_hall_177 rfl h
      · have h := h.1 q
        refine g_aload_n (pc := 116) dX11_hall_116 rfl 0 rfl ?_
        refine g_getI (pc := 117) (a := 0) dX11_hall_117 rfl fX11_85 rfl ?_
        refine g_if_eq (pc := 120) (tgt := 132) dX11_hall_120 (by decide) (fun q => ?_) (fun q => ?_)
        · have h := h.1 q
          refine g_aload_n (pc := 132) dX11_hall_132 rfl 0 rfl ?_
          refine g_getZ (pc := 133) (a := 0) dX11_hall_133 rfl fX11_95 rfl ?_
          refine g_if_ne (pc := 136) (tgt := 165) dX11_hall_136 (by decide) (fun q => ?_) (fun q => ?_)
          · have h := h.2 q
            refine g_aload_n (pc := 165) dX11_hall_165 rfl 0 rfl ?_
            refine g_getZ (pc := 166) (a := 0) dX11_hall_166 rfl fX11_95 rfl ?_
            refine g_if_eq (pc := 169) (tgt := 178) dX11_hall_169 (by decide) (fun q => ?_) (fun q => ?_)
            · have h := h.1 q
              refine g_aload_n (pc := 178) dX11_hall_178 rfl 0 rfl ?_
              refine g_getR (pc := 179) (a := 0) (b := 4) dX11_hall_179 rfl fX11_23 rfl (rm_17 hR) ?_
              refine g_iconst (pc := 182) dX11_hall_182 c_0 ?_
              refine g_aload_n (pc := 183) dX11_hall_183 rfl 0 rfl ?_
              refine g_getR (pc := 184) (a := 0) (b := 3) dX11_hall_184 rfl fX11_20 rfl (rm_16 hR) ?_
              refine g_iconst (pc := 187) dX11_hall_187 c_0 ?_
              refine g_sipush (pc := 188) (v := 146) dX11_hall_188 (by decide) ?_
              refine g_callS (pc := 191) (M' := mX11_copy) (n := 5) (as := [.ref 4, .int 0, .ref 3, .int 0, .int 146]) (st := []) dX11_hall_191 rfl kX11_159 sX11_copy (Nat.le_of_ble_eq_true rfl) rfl rfl (Nat.le_of_ble_eq_true rfl) ?_
              refine cl_mono (fun r w17 hr => ?_) h
              obtain ⟨rfl, hw17, h⟩ := hr
              show Go SR mX11_hall 194 [(0, .ref 0), (1, .int l1), (2, .int l2)] [] w17 Q
              refine g_aload_n (pc := 194) dX11_hall_194 rfl 0 rfl ?_
              refine g_iconst (pc := 195) dX11_hall_195 c_1 ?_
              refine g_putZ (pc := 196) dX11_hall_196 rfl fX11_163 pX11_15 rfl (Or.inr rfl) ?_
              refine g_iconst (pc := 199) dX11_hall_199 c_0 ?_
              refine g_istore_n (pc := 200) (lv2 := [(0, .ref 0), (1, .int l1), (2, .int 0)]) dX11_hall_200 rfl (Nat.le_of_ble_eq_true rfl) rfl ?_
              exact h
            · have h := h.2 q
              refine g_aload_n (pc := 172) dX11_hall_172 rfl 0 rfl ?_
              refine g_iconst (pc := 173) dX11_hall_173 c_4 ?_
              refine g_callV (pc := 174) (M' := mX11_no) (n := 1) (a := 0) (as := [.int 4]) (st := []) dX11_hall_174 rfl kX11_150 vX11_no (Nat.le_of_ble_eq_true rfl) rfl qX11 rfl rfl (Nat.le_of_ble_eq_true rfl) ?_
              refine zX11_no (a1 := 4) (w := w) (hR := hR) ?_
              show Go SR mX11_hall 177 [(0, .ref 0), (1, .int l1), (2, .int l2)] [.int (vXX11_no 4)] (wXX11_no 4 w) Q
              exact g_iret (pc := 177) dX11_hall_177 rfl h
          · have h := h.1 q
            refine g_aload_n (pc := 139) dX11_hall_139 rfl 0 rfl ?_
            refine g_getZ (pc := 140) (a := 0) dX11_hall_140 rfl fX11_153 rfl ?_
            refine g_if_eq (pc := 143) (tgt := 155) dX11_hall_143 (by decide) (fun q => ?_) (fun q => ?_)
            · have h := h.1 q
              refine g_aload_n (pc := 155) dX11_hall_155 rfl 0 rfl ?_
              refine g_bipush (pc := 156) (v := 6) dX11_hall_156 (by decide) ?_
              refine g_aload_n (pc := 158) dX11_hall_158 rfl 0 rfl ?_
              refine g_getI (pc := 159) (a := 0) dX11_hall_159 rfl fX11_76 rfl ?_
              refine g_callV (pc := 162) (M' := mX11_wrong) (n := 2) (a := 0) (as := [.int 6, .int (wi w 0 4)]) (st := []) dX11_hall_162 rfl kX11_122 vX11_wrong (Nat.le_of_ble_eq_true rfl) rfl qX11 rfl rfl (Nat.le_of_ble_eq_true rfl) ?_
              refine zX11_wrong (a1 := 6) (a2 := (wi w 0 4)) (w := w) (hR := hR) ?_
              show Go SR mX11_hall 165 [(0, .ref 0), (1, .int l1), (2, .int l2)] [] (wXX11_wrong 6 (wi w 0 4) w) Q
              refine g_aload_n (pc := 165) dX11_hall_165 rfl 0 rfl ?_
              refine g_getZ (pc := 166) (a := 0) dX11_hall_166 rfl fX11_95 rfl ?_
              refine g_if_eq (pc := 169) (tgt := 178) dX11_hall_169 (by decide) (fun q => ?_) (fun q => ?_)
              · have h := h.1 q
                refine g_aload_n (pc := 178) dX11_hall_178 rfl 0 rfl ?_
                refine g_getR (pc := 179) (a := 0) (b := 4) dX11_hall_179 rfl fX11_23 rfl (rm_17 ((rXX11_wrong 6 (wi w 0 4) w).trans hR)) ?_
                refine g_iconst (pc := 182) dX11_hall_182 c_0 ?_
                refine g_aload_n (pc := 183) dX11_hall_183 rfl 0 rfl ?_
                refine g_getR (pc := 184) (a := 0) (b := 3) dX11_hall_184 rfl fX11_20 rfl (rm_16 ((rXX11_wrong 6 (wi w 0 4) w).trans hR)) ?_
                refine g_iconst (pc := 187) dX11_hall_187 c_0 ?_
                refine g_sipush (pc := 188) (v := 146) dX11_hall_188 (by decide) ?_
                refine g_callS (pc := 191) (M' := mX11_copy) (n := 5) (as := [.ref 4, .int 0, .ref 3, .int 0, .int 146]) (st := []) dX11_hall_191 rfl kX11_159 sX11_copy (Nat.le_of_ble_eq_true rfl) rfl rfl (Nat.le_of_ble_eq_true rfl) ?_
                refine cl_mono (fun r w18 hr => ?_) h
                obtain ⟨rfl, hw18, h⟩ := hr
                show Go SR mX11_hall 194 [(0, .ref 0), (1, .int l1), (2, .int l2)] [] w18 Q
                refine g_aload_n (pc := 194) dX11_hall_194 rfl 0 rfl ?_
                refine g_iconst (pc := 195) dX11_hall_195 c_1 ?_
                refine g_putZ (pc := 196) dX11_hall_196 rfl fX11_163 pX11_15 rfl (Or.inr rfl) ?_
                refine g_iconst (pc := 199) dX11_hall_199 c_0 ?_
                refine g_istore_n (pc := 200) (lv2 := [(0, .ref 0), (1, .int l1), (2, .int 0)]) dX11_hall_200 rfl (Nat.le_of_ble_eq_true rfl) rfl ?_
                exact h
              · have h := h.2 q
                refine g_aload_n (pc := 172) dX11_hall_172 rfl 0 rfl ?_
                refine g_iconst (pc := 173) dX11_hall_173 c_4 ?_
                refine g_callV (pc := 174) (M' := mX11_no) (n := 1) (a := 0) (as := [.int 4]) (st := []) dX11_hall_174 rfl kX11_150 vX11_no (Nat.le_of_ble_eq_true rfl) rfl qX11 rfl rfl (Nat.le_of_ble_eq_true rfl) ?_
                refine zX11_no (a1 := 4) (w := wXX11_wrong 6 (wi w 0 4) w) (hR := ((rXX11_wrong 6 (wi w 0 4) w).trans hR)) ?_
                show Go SR mX11_hall 177 [(0, .ref 0), (1, .int l1), (2, .int l2)] [.int (vXX11_no 4)] (wXX11_no 4 (wXX11_wrong 6 (wi w 0 4) w)) Q
                exact g_iret (pc := 177) dX11_hall_177 rfl h
            · have h := h.2 q
              refine g_aload_n (pc := 146) dX11_hall_146 rfl 0 rfl ?_
              refine g_getR (pc := 147) (a := 0) (b := 4) dX11_hall_147 rfl fX11_23 rfl (rm_17 hR) ?_
              refine g_iconst (pc := 150) dX11_hall_150 c_1 ?_
              refine g_iald (pc := 151) (a := 4) (j := 1) dX11_hall_151 rfl (vin (by decide) (by decide)) (by decide) ?_
              refine g_if_ne (pc := 152) (tgt := 165) dX11_hall_152 (by decide) (fun q => ?_) (fun q => ?_)
              · have h := h.2 q
                refine g_aload_n (pc := 165) dX11_hall_165 rfl 0 rfl ?_
                refine g_getZ (pc := 166) (a := 0) dX11_hall_166 rfl fX11_95 rfl ?_
                refine g_if_eq (pc := 169) (tgt := 178) dX11_hall_169 (by decide) (fun q => ?_) (fun q => ?_)
                · have h := h.1 q
                  refine g_aload_n (pc := 178) dX11_hall_178 rfl 0 rfl ?_
                  refine g_getR (pc := 179) (a := 0) (b := 4) dX11_hall_179 rfl fX11_23 rfl (rm_17 hR) ?_
                  refine g_iconst (pc := 182) dX11_hall_182 c_0 ?_
                  refine g_aload_n (pc := 183) dX11_hall_183 rfl 0 rfl ?_
                  refine g_getR (pc := 184) (a := 0) (b := 3) dX11_hall_184 rfl fX11_20 rfl (rm_16 hR) ?_
                  refine g_iconst (pc := 187) dX11_hall_187 c_0 ?_
                  refine g_sipush (pc := 188) (v := 146) dX11_hall_188 (by decide) ?_
                  refine g_callS (pc := 191) (M' := mX11_copy) (n := 5) (as := [.ref 4, .int 0, .ref 3, .int 0, .int 146]) (st := []) dX11_hall_191 rfl kX11_159 sX11_copy (Nat.le_of_ble_eq_true rfl) rfl rfl (Nat.le_of_ble_eq_true rfl) ?_
                  refine cl_mono (fun r w19 hr => ?_) h
                  obtain ⟨rfl, hw19, h⟩ := hr
                  show Go SR mX11_hall 194 [(0, .ref 0), (1, .int l1), (2, .int l2)] [] w19 Q
                  refine g_aload_n (pc := 194) dX11_hall_194 rfl 0 rfl ?_
                  refine g_iconst (pc := 195) dX11_hall_195 c_1 ?_
                  refine g_putZ (pc := 196) dX11_hall_196 rfl fX11_163 pX11_15 rfl (Or.inr rfl) ?_
                  refine g_iconst (pc := 199) dX11_hall_199 c_0 ?_
                  refine g_istore_n (pc := 200) (lv2 := [(0, .ref 0), (1, .int l1), (2, .int 0)]) dX11_hall_200 rfl (Nat.le_of_ble_eq_true rfl) rfl ?_
                  exact h
                · have h := h.2 q
                  refine g_aload_n (pc := 172) dX11_hall_172 rfl 0 rfl ?_
                  refine g_iconst (pc := 173) dX11_hall_173 c_4 ?_
                  refine g_callV (pc := 174) (M' := mX11_no) (n := 1) (a := 0) (as := [.int 4]) (st := []) dX11_hall_174 rfl kX11_150 vX11_no (Nat.le_of_ble_eq_true rfl) rfl qX11 rfl rfl (Nat.le_of_ble_eq_true rfl) ?_
                  refine zX11_no (a1 := 4) (w := w) (hR := hR) ?_
                  show Go SR mX11_hall 177 [(0, .ref 0), (1, .int l1), (2, .int l2)] [.int (vXX11_no 4)] (wXX11_no 4 w) Q
                  exact g_iret (pc := 177) dX11_hall_177 rfl h
              · have h := h.1 q
                refine g_aload_n (pc := 155) dX11_hall_155 rfl 0 rfl ?_
                refine g_bipush (pc := 156) (v := 6) dX11_hall_156 (by decide) ?_
                refine g_aload_n (pc := 158) dX11_hall_158 rfl 0 rfl ?_
                refine g_getI (pc := 159) (a := 0) dX11_hall_159 rfl fX11_76 rfl ?_
                refine g_callV (pc := 162) (M' := mX11_wrong) (n := 2) (a := 0) (as := [.int 6, .int (wi w 0 4)]) (st := []) dX11_hall_162 rfl kX11_122 vX11_wrong (Nat.le_of_ble_eq_true rfl) rfl qX11 rfl rfl (Nat.le_of_ble_eq_true rfl) ?_
                refine zX11_wrong (a1 := 6) (a2 := (wi w 0 4)) (w := w) (hR := hR) ?_
                show Go SR mX11_hall 165 [(0, .ref 0), (1, .int l1), (2, .int l2)] [] (wXX11_wrong 6 (wi w 0 4) w) Q
                refine g_aload_n (pc := 165) dX11_hall_165 rfl 0 rfl ?_
                refine g_getZ (pc := 166) (a := 0) dX11_hall_166 rfl fX11_95 rfl ?_
                refine g_if_eq (pc := 169) (tgt := 178) dX11_hall_169 (by decide) (fun q => ?_) (fun q => ?_)
                · have h := h.1 q
                  refine g_aload_n (pc := 178) dX11_hall_178 rfl 0 rfl ?_
                  refine g_getR (pc := 179) (a := 0) (b := 4) dX11_hall_179 rfl fX11_23 rfl (rm_17 ((rXX11_wrong 6 (wi w 0 4) w).trans hR)) ?_
                  refine g_iconst (pc := 182) dX11_hall_182 c_0 ?_
                  refine g_aload_n (pc := 183) dX11_hall_183 rfl 0 rfl ?_
                  refine g_getR (pc := 184) (a := 0) (b := 3) dX11_hall_184 rfl fX11_20 rfl (rm_16 ((rXX11_wrong 6 (wi w 0 4) w).trans hR)) ?_
                  refine g_iconst (pc := 187) dX11_hall_187 c_0 ?_
                  refine g_sipush (pc := 188) (v := 146) dX11_hall_188 (by decide) ?_
                  refine g_callS (pc := 191) (M' := mX11_copy) (n := 5) (as := [.ref 4, .int 0, .ref 3, .int 0, .int 146]) (st := []) dX11_hall_191 rfl kX11_159 sX11_copy (Nat.le_of_ble_eq_true rfl) rfl rfl (Nat.le_of_ble_eq_true rfl) ?_
                  refine cl_mono (fun r w20 hr => ?_) h
                  obtain ⟨rfl, hw20, h⟩ := hr
                  show Go SR mX11_hall 194 [(0, .ref 0), (1, .int l1), (2, .int l2)] [] w20 Q
                  refine g_aload_n (pc := 194) dX11_hall_194 rfl 0 rfl ?_
                  refine g_iconst (pc := 195) dX11_hall_195 c_1 ?_
                  refine g_putZ (pc := 196) dX11_hall_196 rfl fX11_163 pX11_15 rfl (Or.inr rfl) ?_
                  refine g_iconst (pc := 199) dX11_hall_199 c_0 ?_
                  refine g_istore_n (pc := 200) (lv2 := [(0, .ref 0), (1, .int l1), (2, .int 0)]) dX11_hall_200 rfl (Nat.le_of_ble_eq_true rfl) rfl ?_
                  exact h
                · have h := h.2 q
                  refine g_aload_n (pc := 172) dX11_hall_172 rfl 0 rfl ?_
                  refine g_iconst (pc := 173) dX11_hall_173 c_4 ?_
                  refine g_callV (pc := 174) (M' := mX11_no) (n := 1) (a := 0) (as := [.int 4]) (st := []) dX11_hall_174 rfl kX11_150 vX11_no (Nat.le_of_ble_eq_true rfl) rfl qX11 rfl rfl (Nat.le_of_ble_eq_true rfl) ?_
                  refine zX11_no (a1 := 4) (w := wXX11_wrong 6 (wi w 0 4) w) (hR := ((rXX11_wrong 6 (wi w 0 4) w).trans hR)) ?_
                  show Go SR mX11_hall 177 [(0, .ref 0), (1, .int l1), (2, .int l2)] [.int (vXX11_no 4)] (wXX11_no 4 (wXX11_wrong 6 (wi w 0 4) w)) Q
                  exact g_iret (pc := 177) dX11_hall_177 rfl h
        · have h := h.2 q
          refine g_aload_n (pc := 123) dX11_hall_123 rfl 0 rfl ?_
          refine g_iconst (pc := 124) dX11_hall_124 c_1 ?_
          refine g_aload_n (pc := 125) dX11_hall_125 rfl 0 rfl ?_
          refine g_getI (pc := 126) (a := 0) dX11_hall_126 rfl fX11_76 rfl ?_
          refine g_callV (pc := 129) (M' := mX11_wrong) (n := 2) (a := 0) (as := [.int 1, .int (wi w 0 4)]) (st := []) dX11_hall_129 rfl kX11_122 vX11_wrong (Nat.le_of_ble_eq_true rfl) rfl qX11 rfl rfl (Nat.le_of_ble_eq_true rfl) ?_
          refine zX11_wrong (a1 := 1) (a2 := (wi w 0 4)) (w := w) (hR := hR) ?_
          show Go SR mX11_hall 132 [(0, .ref 0), (1, .int l1), (2, .int l2)] [] (wXX11_wrong 1 (wi w 0 4) w) Q
          refine g_aload_n (pc := 132) dX11_hall_132 rfl 0 rfl ?_
          refine g_getZ (pc := 133) (a := 0) dX11_hall_133 rfl fX11_95 rfl ?_
          refine g_if_ne (pc := 136) (tgt := 165) dX11_hall_136 (by decide) (fun q => ?_) (fun q => ?_)
          · have h := h.2 q
            refine g_aload_n (pc := 165) dX11_hall_165 rfl 0 rfl ?_
            refine g_getZ (pc := 166) (a := 0) dX11_hall_166 rfl fX11_95 rfl ?_
            refine g_if_eq (pc := 169) (tgt := 178) dX11_hall_169 (by decide) (fun q => ?_) (fun q => ?_)
            · have h := h.1 q
              refine g_aload_n (pc := 178) dX11_hall_178 rfl 0 rfl ?_
              refine g_getR (pc := 179) (a := 0) (b := 4) dX11_hall_179 rfl fX11_23 rfl (rm_17 ((rXX11_wrong 1 (wi w 0 4) w).trans hR)) ?_
              refine g_iconst (pc := 182) dX11_hall_182 c_0 ?_
              refine g_aload_n (pc := 183) dX11_hall_183 rfl 0 rfl ?_
              refine g_getR (pc := 184) (a := 0) (b := 3) dX11_hall_184 rfl fX11_20 rfl (rm_16 ((rXX11_wrong 1 (wi w 0 4) w).trans hR)) ?_
              refine g_iconst (pc := 187) dX11_hall_187 c_0 ?_
              refine g_sipush (pc := 188) (v := 146) dX11_hall_188 (by decide) ?_
              refine g_callS (pc := 191) (M' := mX11_copy) (n := 5) (as := [.ref 4, .int 0, .ref 3, .int 0, .int 146]) (st := []) dX11_hall_191 rfl kX11_159 sX11_copy (Nat.le_of_ble_eq_true rfl) rfl rfl (Nat.le_of_ble_eq_true rfl) ?_
              refine cl_mono (fun r w21 hr => ?_) h
              obtain ⟨rfl, hw21, h⟩ := hr
              show Go SR mX11_hall 194 [(0, .ref 0), (1, .int l1), (2, .int l2)] [] w21 Q
              refine g_aload_n (pc := 194) dX11_hall_194 rfl 0 rfl ?_
              refine g_iconst (pc := 195) dX11_hall_195 c_1 ?_
              refine g_putZ (pc := 196) dX11_hall_196 rfl fX11_163 pX11_15 rfl (Or.inr rfl) ?_
              refine g_iconst (pc := 199) dX11_hall_199 c_0 ?_
              refine g_istore_n (pc := 200) (lv2 := [(0, .ref 0), (1, .int l1), (2, .int 0)]) dX11_hall_200 rfl (Nat.le_of_ble_eq_true rfl) rfl ?_
              exact h
            · have h := h.2 q
              refine g_aload_n (pc := 172) dX11_hall_172 rfl 0 rfl ?_
              refine g_iconst (pc := 173) dX11_hall_173 c_4 ?_
              refine g_callV (pc := 174) (M' := mX11_no) (n := 1) (a := 0) (as := [.int 4]) (st := []) dX11_hall_174 rfl kX11_150 vX11_no (Nat.le_of_ble_eq_true rfl) rfl qX11 rfl rfl (Nat.le_of_ble_eq_true rfl) ?_
              refine zX11_no (a1 := 4) (w := wXX11_wrong 1 (wi w 0 4) w) (hR := ((rXX11_wrong 1 (wi w 0 4) w).trans hR)) ?_
              show Go SR mX11_hall 177 [(0, .ref 0), (1, .int l1), (2, .int l2)] [.int (vXX11_no 4)] (wXX11_no 4 (wXX11_wrong 1 (wi w 0 4) w)) Q
              exact g_iret (pc := 177) dX11_hall_177 rfl h
          · have h := h.1 q
            refine g_aload_n (pc := 139) dX11_hall_139 rfl 0 rfl ?_
            refine g_getZ (pc := 140) (a := 0) dX11_hall_140 rfl fX11_153 rfl ?_
            refine g_if_eq (pc := 143) (tgt := 155) dX11_hall_143 (by decide) (fun q => ?_) (fun q => ?_)
            · have h := h.1 q
              refine g_aload_n (pc := 155) dX11_hall_155 rfl 0 rfl ?_
              refine g_bipush (pc := 156) (v := 6) dX11_hall_156 (by decide) ?_
              refine g_aload_n (pc := 158) dX11_hall_158 rfl 0 rfl ?_
              refine g_getI (pc := 159) (a := 0) dX11_hall_159 rfl fX11_76 rfl ?_
              refine g_callV (pc := 162) (M' := mX11_wrong) (n := 2) (a := 0) (as := [.int 6, .int (wi (wXX11_wrong 1 (wi w 0 4) w) 0 4)]) (st := []) dX11_hall_162 rfl kX11_122 vX11_wrong (Nat.le_of_ble_eq_true rfl) rfl qX11 rfl rfl (Nat.le_of_ble_eq_true rfl) ?_
              refine zX11_wrong (a1 := 6) (a2 := (wi (wXX11_wrong 1 (wi w 0 4) w) 0 4)) (w := wXX11_wrong 1 (wi w 0 4) w) (hR := ((rXX11_wrong 1 (wi w 0 4) w).trans hR)) ?_
              show Go SR mX11_hall 165 [(0, .ref 0), (1, .int l1), (2, .int l2)] [] (wXX11_wrong 6 (wi (wXX11_wrong 1 (wi w 0 4) w) 0 4) (wXX11_wrong 1 (wi w 0 4) w)) Q
              refine g_aload_n (pc := 165) dX11_hall_165 rfl 0 rfl ?_
              refine g_getZ (pc := 166) (a := 0) dX11_hall_166 rfl fX11_95 rfl ?_
              refine g_if_eq (pc := 169) (tgt := 178) dX11_hall_169 (by decide) (fun q => ?_) (fun q => ?_)
              · have h := h.1 q
                refine g_aload_n (pc := 178) dX11_hall_178 rfl 0 rfl ?_
                refine g_getR (pc := 179) (a := 0) (b := 4) dX11_hall_179 rfl fX11_23 rfl (rm_17 ((rXX11_wrong 6 (wi (wXX11_wrong 1 (wi w 0 4) w) 0 4) (wXX11_wrong 1 (wi w 0 4) w)).trans ((rXX11_wrong 1 (wi w 0 4) w).trans hR))) ?_
                refine g_iconst (pc := 182) dX11_hall_182 c_0 ?_
                refine g_aload_n (pc := 183) dX11_hall_183 rfl 0 rfl ?_
                refine g_getR (pc := 184) (a := 0) (b := 3) dX11_hall_184 rfl fX11_20 rfl (rm_16 ((rXX11_wrong 6 (wi (wXX11_wrong 1 (wi w 0 4) w) 0 4) (wXX11_wrong 1 (wi w 0 4) w)).trans ((rXX11_wrong 1 (wi w 0 4) w).trans hR))) ?_
                refine g_iconst (pc := 187) dX11_hall_187 c_0 ?_
                refine g_sipush (pc := 188) (v := 146) dX11_hall_188 (by decide) ?_
                refine g_callS (pc := 191) (M' := mX11_copy) (n := 5) (as := [.ref 4, .int 0, .ref 3, .int 0, .int 146]) (st := []) dX11_hall_191 rfl kX11_159 sX11_copy (Nat.le_of_ble_eq_true rfl) rfl rfl (Nat.le_of_ble_eq_true rfl) ?_
                refine cl_mono (fun r w22 hr => ?_) h
                obtain ⟨rfl, hw22, h⟩ := hr
                show Go SR mX11_hall 194 [(0, .ref 0), (1, .int l1), (2, .int l2)] [] w22 Q
                refine g_aload_n (pc := 194) dX11_hall_194 rfl 0 rfl ?_
                refine g_iconst (pc := 195) dX11_hall_195 c_1 ?_
                refine g_putZ (pc := 196) dX11_hall_196 rfl fX11_163 pX11_15 rfl (Or.inr rfl) ?_
                refine g_iconst (pc := 199) dX11_hall_199 c_0 ?_
                refine g_istore_n (pc := 200) (lv2 := [(0, .ref 0), (1, .int l1), (2, .int 0)]) dX11_hall_200 rfl (Nat.le_of_ble_eq_true rfl) rfl ?_
                exact h
              · have h := h.2 q
                refine g_aload_n (pc := 172) dX11_hall_172 rfl 0 rfl ?_
                refine g_iconst (pc := 173) dX11_hall_173 c_4 ?_
                refine g_callV (pc := 174) (M' := mX11_no) (n := 1) (a := 0) (as := [.int 4]) (st := []) dX11_hall_174 rfl kX11_150 vX11_no (Nat.le_of_ble_eq_true rfl) rfl qX11 rfl rfl (Nat.le_of_ble_eq_true rfl) ?_
                refine zX11_no (a1 := 4) (w := wXX11_wrong 6 (wi (wXX11_wrong 1 (wi w 0 4) w) 0 4) (wXX11_wrong 1 (wi w 0 4) w)) (hR := ((rXX11_wrong 6 (wi (wXX11_wrong 1 (wi w 0 4) w) 0 4) (wXX11_wrong 1 (wi w 0 4) w)).trans ((rXX11_wrong 1 (wi w 0 4) w).trans hR))) ?_
                show Go SR mX11_hall 177 [(0, .ref 0), (1, .int l1), (2, .int l2)] [.int (vXX11_no 4)] (wXX11_no 4 (wXX11_wrong 6 (wi (wXX11_wrong 1 (wi w 0 4) w) 0 4) (wXX11_wrong 1 (wi w 0 4) w))) Q
                exact g_iret (pc := 177) dX11_hall_177 rfl h
            · have h := h.2 q
              refine g_aload_n (pc := 146) dX11_hall_146 rfl 0 rfl ?_
              refine g_getR (pc := 147) (a := 0) (b := 4) dX11_hall_147 rfl fX11_23 rfl (rm_17 ((rXX11_wrong 1 (wi w 0 4) w).trans hR)) ?_
              refine g_iconst (pc := 150) dX11_hall_150 c_1 ?_
              refine g_iald (pc := 151) (a := 4) (j := 1) dX11_hall_151 rfl (vin (by decide) (by decide)) (by decide) ?_
              refine g_if_ne (pc := 152) (tgt := 165) dX11_hall_152 (by decide) (fun q => ?_) (fun q => ?_)
              · have h := h.2 q
                refine g_aload_n (pc := 165) dX11_hall_165 rfl 0 rfl ?_
                refine g_getZ (pc := 166) (a := 0) dX11_hall_166 rfl fX11_95 rfl ?_
                refine g_if_eq (pc := 169) (tgt := 178) dX11_hall_169 (by decide) (fun q => ?_) (fun q => ?_)
                · have h := h.1 q
                  refine g_aload_n (pc := 178) dX11_hall_178 rfl 0 rfl ?_
                  refine g_getR (pc := 179) (a := 0) (b := 4) dX11_hall_179 rfl fX11_23 rfl (rm_17 ((rXX11_wrong 1 (wi w 0 4) w).trans hR)) ?_
                  refine g_iconst (pc := 182) dX11_hall_182 c_0 ?_
                  refine g_aload_n (pc := 183) dX11_hall_183 rfl 0 rfl ?_
                  refine g_getR (pc := 184) (a := 0) (b := 3) dX11_hall_184 rfl fX11_20 rfl (rm_16 ((rXX11_wrong 1 (wi w 0 4) w).trans hR)) ?_
                  refine g_iconst (pc := 187) dX11_hall_187 c_0 ?_
                  refine g_sipush (pc := 188) (v := 146) dX11_hall_188 (by decide) ?_
                  refine g_callS (pc := 191) (M' := mX11_copy) (n := 5) (as := [.ref 4, .int 0, .ref 3, .int 0, .int 146]) (st := []) dX11_hall_191 rfl kX11_159 sX11_copy (Nat.le_of_ble_eq_true rfl) rfl rfl (Nat.le_of_ble_eq_true rfl) ?_
                  refine cl_mono (fun r w23 hr => ?_) h
                  obtain ⟨rfl, hw23, h⟩ := hr
                  show Go SR mX11_hall 194 [(0, .ref 0), (1, .int l1), (2, .int l2)] [] w23 Q
                  refine g_aload_n (pc := 194) dX11_hall_194 rfl 0 rfl ?_
                  refine g_iconst (pc := 195) dX11_hall_195 c_1 ?_
                  refine g_putZ (pc := 196) dX11_hall_196 rfl fX11_163 pX11_15 rfl (Or.inr rfl) ?_
                  refine g_iconst (pc := 199) dX11_hall_199 c_0 ?_
                  refine g_istore_n (pc := 200) (lv2 := [(0, .ref 0), (1, .int l1), (2, .int 0)]) dX11_hall_200 rfl (Nat.le_of_ble_eq_true rfl) rfl ?_
                  exact h
                · have h := h.2 q
                  refine g_aload_n (pc := 172) dX11_hall_172 rfl 0 rfl ?_
                  refine g_iconst (pc := 173) dX11_hall_173 c_4 ?_
                  refine g_callV (pc := 174) (M' := mX11_no) (n := 1) (a := 0) (as := [.int 4]) (st := []) dX11_hall_174 rfl kX11_150 vX11_no (Nat.le_of_ble_eq_true rfl) rfl qX11 rfl rfl (Nat.le_of_ble_eq_true rfl) ?_
                  refine zX11_no (a1 := 4) (w := wXX11_wrong 1 (wi w 0 4) w) (hR := ((rXX11_wrong 1 (wi w 0 4) w).trans hR)) ?_
                  show Go SR mX11_hall 177 [(0, .ref 0), (1, .int l1), (2, .int l2)] [.int (vXX11_no 4)] (wXX11_no 4 (wXX11_wrong 1 (wi w 0 4) w)) Q
                  exact g_iret (pc := 177) dX11_hall_177 rfl h
              · have h := h.1 q
                refine g_aload_n (pc := 155) dX11_hall_155 rfl 0 rfl ?_
                refine g_bipush (pc := 156) (v := 6) dX11_hall_156 (by decide) ?_
                refine g_aload_n (pc := 158) dX11_hall_158 rfl 0 rfl ?_
                refine g_getI (pc := 159) (a := 0) dX11_hall_159 rfl fX11_76 rfl ?_
                refine g_callV (pc := 162) (M' := mX11_wrong) (n := 2) (a := 0) (as := [.int 6, .int (wi (wXX11_wrong 1 (wi w 0 4) w) 0 4)]) (st := []) dX11_hall_162 rfl kX11_122 vX11_wrong (Nat.le_of_ble_eq_true rfl) rfl qX11 rfl rfl (Nat.le_of_ble_eq_true rfl) ?_
                refine zX11_wrong (a1 := 6) (a2 := (wi (wXX11_wrong 1 (wi w 0 4) w) 0 4)) (w := wXX11_wrong 1 (wi w 0 4) w) (hR := ((rXX11_wrong 1 (wi w 0 4) w).trans hR)) ?_
                show Go SR mX11_hall 165 [(0, .ref 0), (1, .int l1), (2, .int l2)] [] (wXX11_wrong 6 (wi (wXX11_wrong 1 (wi w 0 4) w) 0 4) (wXX11_wrong 1 (wi w 0 4) w)) Q
                refine g_aload_n (pc := 165) dX11_hall_165 rfl 0 rfl ?_
                refine g_getZ (pc := 166) (a := 0) dX11_hall_166 rfl fX11_95 rfl ?_
                refine g_if_eq (pc := 169) (tgt := 178) dX11_hall_169 (by decide) (fun q => ?_) (fun q => ?_)
                · have h := h.1 q
                  refine g_aload_n (pc := 178) dX11_hall_178 rfl 0 rfl ?_
                  refine g_getR (pc := 179) (a := 0) (b := 4) dX11_hall_179 rfl fX11_23 rfl (rm_17 ((rXX11_wrong 6 (wi (wXX11_wrong 1 (wi w 0 4) w) 0 4) (wXX11_wrong 1 (wi w 0 4) w)).trans ((rXX11_wrong 1 (wi w 0 4) w).trans hR))) ?_
                  refine g_iconst (pc := 182) dX11_hall_182 c_0 ?_
                  refine g_aload_n (pc := 183) dX11_hall_183 rfl 0 rfl ?_
                  refine g_getR (pc := 184) (a := 0) (b := 3) dX11_hall_184 rfl fX11_20 rfl (rm_16 ((rXX11_wrong 6 (wi (wXX11_wrong 1 (wi w 0 4) w) 0 4) (wXX11_wrong 1 (wi w 0 4) w)).trans ((rXX11_wrong 1 (wi w 0 4) w).trans hR))) ?_
                  refine g_iconst (pc := 187) dX11_hall_187 c_0 ?_
                  refine g_sipush (pc := 188) (v := 146) dX11_hall_188 (by decide) ?_
                  refine g_callS (pc := 191) (M' := mX11_copy) (n := 5) (as := [.ref 4, .int 0, .ref 3, .int 0, .int 146]) (st := []) dX11_hall_191 rfl kX11_159 sX11_copy (Nat.le_of_ble_eq_true rfl) rfl rfl (Nat.le_of_ble_eq_true rfl) ?_
                  refine cl_mono (fun r w24 hr => ?_) h
                  obtain ⟨rfl, hw24, h⟩ := hr
                  show Go SR mX11_hall 194 [(0, .ref 0), (1, .int l1), (2, .int l2)] [] w24 Q
                  refine g_aload_n (pc := 194) dX11_hall_194 rfl 0 rfl ?_
                  refine g_iconst (pc := 195) dX11_hall_195 c_1 ?_
                  refine g_putZ (pc := 196) dX11_hall_196 rfl fX11_163 pX11_15 rfl (Or.inr rfl) ?_
                  refine g_iconst (pc := 199) dX11_hall_199 c_0 ?_
                  refine g_istore_n (pc := 200) (lv2 := [(0, .ref 0), (1, .int l1), (2, .int 0)]) dX11_hall_200 rfl (Nat.le_of_ble_eq_true rfl) rfl ?_
                  exact h
                · have h := h.2 q
                  refine g_aload_n (pc := 172) dX11_hall_172 rfl 0 rfl ?_
                  refine g_iconst (pc := 173) dX11_hall_173 c_4 ?_
                  refine g_callV (pc := 174) (M' := mX11_no) (n := 1) (a := 0) (as := [.int 4]) (st := []) dX11_hall_174 rfl kX11_150 vX11_no (Nat.le_of_ble_eq_true rfl) rfl qX11 rfl rfl (Nat.le_of_ble_eq_true rfl) ?_
                  refine zX11_no (a1 := 4) (w := wXX11_wrong 6 (wi (wXX11_wrong 1 (wi w 0 4) w) 0 4) (wXX11_wrong 1 (wi w 0 4) w)) (hR := ((rXX11_wrong 6 (wi (wXX11_wrong 1 (wi w 0 4) w) 0 4) (wXX11_wrong 1 (wi w 0 4) w)).trans ((rXX11_wrong 1 (wi w 0 4) w).trans hR))) ?_
                  show Go SR mX11_hall 177 [(0, .ref 0), (1, .int l1), (2, .int l2)] [.int (vXX11_no 4)] (wXX11_no 4 (wXX11_wrong 6 (wi (wXX11_wrong 1 (wi w 0 4) w) 0 4) (wXX11_wrong 1 (wi w 0 4) w))) Q
                  exact g_iret (pc := 177) dX11_hall_177 rfl h
    · have h := h.1 q
      refine g_aload_n (pc := 98) dX11_hall_98 rfl 0 rfl ?_
      refine g_callV (pc := 99) (M' := mX11_next) (n := 0) (a := 0) (as := []) (st := []) dX11_hall_99 rfl kX11_116 vX11_next (Nat.le_of_ble_eq_true rfl) rfl qX11 rfl rfl (Nat.le_of_ble_eq_true rfl) ?_
      refine cl_mono (fun r w25 hr => ?_) h
      obtain ⟨rfl, hw25, h⟩ := hr
      show Go SR mX11_hall 102 [(0, .ref 0), (1, .int l1), (2, .int l2)] [] w25 Q
      refine g_aload_n (pc := 102) dX11_hall_102 rfl 0 rfl ?_
      refine g_callV (pc := 103) (M' := mX11_readLine) (n := 0) (a := 0) (as := []) (st := []) dX11_hall_103 rfl kX11_156 vX11_readLine (Nat.le_of_ble_eq_true rfl) rfl qX11 rfl rfl (Nat.le_of_ble_eq_true rfl) ?_
      refine cl_mono (fun r w26 hr => ?_) h
      obtain ⟨rfl, hw26, h⟩ := hr
      show Go SR mX11_hall 106 [(0, .ref 0), (1, .int l1), (2, .int l2)] [] w26 Q
      refine g_goto (pc := 106) (tgt := 82) dX11_hall_106 (by decide) ?_
      exact h
set_option maxHeartbeats 4000000 in
set_option maxRecDepth 100000 in
theorem BX11_hall_201  (l1 : Int32) (l2 : Int32) (w : Wd) (hR : w.2.2 = RM) (Q : Option Value → Wd → Prop) (h : (((wi w 3 1) ≤ l2 → Q (some (.int (wi (si (si w 0 21 0) 0 22 0) 3 1))) (si (si w 0 21 0) 0 22 0)) ∧ (¬ ((wi w 3 1) ≤ l2) → vp_in (4 + l2) 146 ∧ ClV SR mX11_dance [.ref 0, .int l2, .int (wi w 3 ((4 + l2).toNatClampNeg)), .int 0, .int 0] w (fun w2 => w2.2.2 = RM ∧ vp_in l2 10 ∧ vp_in (5 + l2) 10 ∧ Go SR mX11_hall 201 [(0, .ref 0), (1, .int l1), (2, .int (l2 + 1))] [] (si (si w2 5 l2.toNatClampNeg (wi w2 0 23)) 5 ((5 + l2).toNatClampNeg) (wi (si w2 5 l2.toNatClampNeg (wi w2 0 23)) 0 24)) Q)))) : Go SR mX11_hall 201 [(0, .ref 0), (1, .int l1), (2, .int l2)] [] w Q := by
  refine g_iload_n (pc := 201) dX11_hall_201 rfl 2 rfl ?_
  refine g_aload_n (pc := 202) dX11_hall_202 rfl 0 rfl ?_
  refine g_getR (pc := 203) (a := 0) (b := 3) dX11_hall_203 rfl fX11_20 rfl (rm_16 hR) ?_
  refine g_iconst (pc := 206) dX11_hall_206 c_1 ?_
  refine g_iald (pc := 207) (a := 3) (j := 1) dX11_hall_207 rfl (vin (by decide) (by decide)) (by decide) ?_
  refine g_icmp_ge (pc := 208) (tgt := 254) dX11_hall_208 (by decide) (fun q => ?_) (fun q => ?_)
  · have h := h.1 q
    refine g_aload_n (pc := 254) dX11_hall_254 rfl 0 rfl ?_
    refine g_iconst (pc := 255) dX11_hall_255 c_0 ?_
    refine g_putI (pc := 256) dX11_hall_256 rfl fX11_175 pX11_21 rfl ?_
    refine g_aload_n (pc := 259) dX11_hall_259 rfl 0 rfl ?_
    refine g_iconst (pc := 260) dX11_hall_260 c_0 ?_
    refine g_putI (pc := 261) dX11_hall_261 rfl fX11_178 pX11_22 rfl ?_
    refine g_aload_n (pc := 264) dX11_hall_264 rfl 0 rfl ?_
    refine g_getR (pc := 265) (a := 0) (b := 3) dX11_hall_265 rfl fX11_20 rfl (rm_16 hR) ?_
    refine g_iconst (pc := 268) dX11_hall_268 c_1 ?_
    refine g_iald (pc := 269) (a := 3) (j := 1) dX11_hall_269 rfl (vin (by decide) (by decide)) (by decide) ?_
    exact g_iret (pc := 270) dX11_hall_270 rfl h
  · have h := h.2 q
    refine g_aload_n (pc := 211) dX11_hall_211 rfl 0 rfl ?_
    refine g_iload_n (pc := 212) dX11_hall_212 rfl 2 rfl ?_
    refine g_aload_n (pc := 213) dX11_hall_213 rfl 0 rfl ?_
    refine g_getR (pc := 214) (a := 0) (b := 3) dX11_hall_214 rfl fX11_20 rfl (rm_16 hR) ?_
    refine g_iconst (pc := 217) dX11_hall_217 c_4 ?_
    refine g_iload_n (pc := 218) dX11_hall_218 rfl 2 rfl ?_
    refine g_iadd (pc := 219) dX11_hall_219 ?_
    obtain ⟨hi1, h⟩ := h
    refine g_iald (pc := 220) (a := 3) (j := (4 + l2).toNatClampNeg) dX11_hall_220 rfl hi1 rfl ?_
    refine g_iconst (pc := 221) dX11_hall_221 c_0 ?_
    refine g_iconst (pc := 222) dX11_hall_222 c_0 ?_
    refine g_callV (pc := 223) (M' := mX11_dance) (n := 4) (a := 0) (as := [.int l2, .int (wi w 3 ((4 + l2).toNatClampNeg)), .int 0, .int 0]) (st := []) dX11_hall_223 rfl kX11_166 vX11_dance (Nat.le_of_ble_eq_true rfl) rfl qX11 rfl rfl (Nat.le_of_ble_eq_true rfl) ?_
    refine cl_mono (fun r w2 hr => ?_) h
    obtain ⟨rfl, hw2, h⟩ := hr
    show Go SR mX11_hall 226 [(0, .ref 0), (1, .int l1), (2, .int l2)] [] w2 Q
    refine g_aload_n (pc := 226) dX11_hall_226 rfl 0 rfl ?_
    refine g_getR (pc := 227) (a := 0) (b := 5) dX11_hall_227 rfl fX11_26 rfl (rm_18 hw2) ?_
    refine g_iload_n (pc := 230) dX11_hall_230 rfl 2 rfl ?_
    refine g_aload_n (pc := 231) dX11_hall_231 rfl 0 rfl ?_
    refine g_getI (pc := 232) (a := 0) dX11_hall_232 rfl fX11_169 rfl ?_
    obtain ⟨hi3, h⟩ := h
    refine g_iast (pc := 235) (a := 5) (j := l2.toNatClampNeg) dX11_hall_235 rfl hi3 rfl ?_
    refine g_aload_n (pc := 236) dX11_hall_236 rfl 0 rfl ?_
    refine g_getR (pc := 237) (a := 0) (b := 5) dX11_hall_237 rfl fX11_26 rfl (rm_18 hw2) ?_
    refine g_iconst (pc := 240) dX11_hall_240 c_5 ?_
    refine g_iload_n (pc := 241) dX11_hall_241 rfl 2 rfl ?_
    refine g_iadd (pc := 242) dX11_hall_242 ?_
    refine g_aload_n (pc := 243) dX11_hall_243 rfl 0 rfl ?_
    refine g_getI (pc := 244) (a := 0) dX11_hall_244 rfl fX11_172 rfl ?_
    obtain ⟨hi4, h⟩ := h
    refine g_iast (pc := 247) (a := 5) (j := (5 + l2).toNatClampNeg) dX11_hall_247 rfl hi4 rfl ?_
    refine g_iinc (pc := 248) (v := l2 + 1) (lv2 := [(0, .ref 0), (1, .int l1), (2, .int (l2 + 1))]) dX11_hall_248 2 rfl (Nat.le_of_ble_eq_true rfl) rfl rfl ?_
    refine g_goto (pc := 251) (tgt := 201) dX11_hall_251 (by decide) ?_
    exact h
