set_option maxHeartbeats 4000000 in
set_option maxRecDepth 100000 in
theorem TX10_shared (a1 : Int64) (a2 : Int64) (w : Wd) (b : Bool) (hR : w.2.2 = RTab b) (Q : Option Value → Wd → Prop) (h : Go SC mX10_shared 15 [(0, .long a1), (2, .long a2), (4, .long (vXJ9_abs_067f4 a1)), (6, .long (vXJ9_abs_067f4 a2)), (8, .int 0)] [] w Q) : Cl SC mX10_shared [.long a1, .long a2] w Q := by
  refine cl_of (by decide) (Nat.le_of_ble_eq_true rfl) ?_
  show Go SC mX10_shared 0 [(0, .long a1), (2, .long a2)] [] w Q
  refine g_lload_n (pc := 0) dX10_shared_0 rfl 0 rfl ?_
  refine g_callS (pc := 1) (M' := mJ9_abs_067f4) (n := 1) (as := [.long a1]) (st := []) dX10_shared_1 rfl kX10_390 sJ9_abs_067f4 (Nat.le_of_ble_eq_true rfl) rfl rfl (Nat.le_of_ble_eq_true rfl) ?_
  refine zJ9_abs_067f4 (a1 := a1) (w := w) (b := b) (hR := hR) ?_
  show Go SC mX10_shared 4 [(0, .long a1), (2, .long a2)] [.long (vXJ9_abs_067f4 a1)] w Q
  refine g_lstore (pc := 4) (lv2 := [(0, .long a1), (2, .long a2), (4, .long (vXJ9_abs_067f4 a1))]) dX10_shared_4 (Nat.le_of_ble_eq_true rfl) rfl ?_
  refine g_lload_n (pc := 6) dX10_shared_6 rfl 1 rfl ?_
  refine g_callS (pc := 7) (M' := mJ9_abs_067f4) (n := 1) (as := [.long a2]) (st := []) dX10_shared_7 rfl kX10_390 sJ9_abs_067f4 (Nat.le_of_ble_eq_true rfl) rfl rfl (Nat.le_of_ble_eq_true rfl) ?_
  refine zJ9_abs_067f4 (a1 := a2) (w := w) (b := b) (hR := hR) ?_
  show Go SC mX10_shared 10 [(0, .long a1), (2, .long a2), (4, .long (vXJ9_abs_067f4 a1))] [.long (vXJ9_abs_067f4 a2)] w Q
  refine g_lstore (pc := 10) (lv2 := [(0, .long a1), (2, .long a2), (4, .long (vXJ9_abs_067f4 a1)), (6, .long (vXJ9_abs_067f4 a2))]) dX10_shared_10 (Nat.le_of_ble_eq_true rfl) rfl ?_
  refine g_iconst (pc := 12) dX10_shared_12 c_0 ?_
  refine g_istore (pc := 13) (lv2 := [(0, .long a1), (2, .long a2), (4, .long (vXJ9_abs_067f4 a1)), (6, .long (vXJ9_abs_067f4 a2)), (8, .int 0)]) dX10_shared_13 (Nat.le_of_ble_eq_true rfl) rfl ?_
  exact h
set_option maxHeartbeats 4000000 in
set_option maxRecDepth 100000 in
theorem BX10_shared_15  (l0 : Int64) (l2 : Int64) (l4 : Int64) (l6 : Int64) (l8 : Int32) (w : Wd) (b : Bool) (hR : w.2.2 = RTab b) (Q : Option Value → Wd → Prop) (h : ((1000000 ≤ l8 → Q (some (.long l4)) w) ∧ (¬ (1000000 ≤ l8) → (((lg_cmp l6 0) = 0 → Q (some (.long l4)) w) ∧ (¬ ((lg_cmp l6 0) = 0) → ¬ l6 = 0 ∧ Go SC mX10_shared 15 [(0, .long l0), (2, .long l2), (4, .long l6), (6, .long (l4 % l6)), (8, .int (l8 + 1))] [] w Q))))) : Go SC mX10_shared 15 [(0, .long l0), (2, .long l2), (4, .long l4), (6, .long l6), (8, .int l8)] [] w Q := by
  refine g_iload (pc := 15) dX10_shared_15 4 rfl ?_
  refine g_ldc (pc := 17) dX10_shared_17 rfl nX10_193 ?_
  refine g_icmp_ge (pc := 19) (tgt := 50) dX10_shared_19 (by decide) (fun q => ?_) (fun q => ?_)
  · have h := h.1 q
    refine g_lload (pc := 50) dX10_shared_50 2 rfl ?_
    exact g_lret (pc := 52) dX10_shared_52 rfl h
  · have h := h.2 q
    refine g_lload (pc := 22) dX10_shared_22 3 rfl ?_
    refine g_lconst (pc := 24) (v := 0) dX10_shared_24 (by decide) ?_
    refine g_lcmp (pc := 25) dX10_shared_25 ?_
    refine g_if_eq (pc := 26) (tgt := 50) dX10_shared_26 (by decide) (fun q => ?_) (fun q => ?_)
    · have h := h.1 q
      refine g_lload (pc := 50) dX10_shared_50 2 rfl ?_
      exact g_lret (pc := 52) dX10_shared_52 rfl h
    · have h := h.2 q
      refine g_lload (pc := 29) dX10_shared_29 2 rfl ?_
      refine g_lload (pc := 31) dX10_shared_31 3 rfl ?_
      obtain ⟨hz1, h⟩ := h
      refine g_lrem (pc := 33) dX10_shared_33 hz1 ?_
      refine g_lstore (pc := 34) (lv2 := [(0, .long l0), (2, .long l2), (4, .long l4), (6, .long l6), (8, .int l8), (9, .long (l4 % l6))]) dX10_shared_34 (Nat.le_of_ble_eq_true rfl) rfl ?_
      refine g_lload (pc := 36) dX10_shared_36 3 rfl ?_
      refine g_lstore (pc := 38) (lv2 := [(0, .long l0), (2, .long l2), (4, .long l6), (6, .long l6), (8, .int l8), (9, .long (l4 % l6))]) dX10_shared_38 (Nat.le_of_ble_eq_true rfl) rfl ?_
      refine g_lload (pc := 40) dX10_shared_40 5 rfl ?_
      refine g_lstore (pc := 42) (lv2 := [(0, .long l0), (2, .long l2), (4, .long l6), (6, .long (l4 % l6)), (8, .int l8), (9, .long (l4 % l6))]) dX10_shared_42 (Nat.le_of_ble_eq_true rfl) rfl ?_
      refine g_iinc (pc := 44) (v := l8 + 1) (lv2 := [(0, .long l0), (2, .long l2), (4, .long l6), (6, .long (l4 % l6)), (8, .int (l8 + 1)), (9, .long (l4 % l6))]) dX10_shared_44 4 rfl (Nat.le_of_ble_eq_true rfl) rfl rfl ?_
      refine g_goto (pc := 47) (tgt := 15) dX10_shared_47 (by decide) ?_
      refine g_sub (lv2 := [(0, .long l0), (2, .long l2), (4, .long l6), (6, .long (l4 % l6)), (8, .int (l8 + 1))]) [0, 1, 2, 3, 4] rfl ?_
      exact h
set_option maxHeartbeats 4000000 in
set_option maxRecDepth 100000 in
theorem TX7_crossed (t : Nat) (ht : SC[t]? = some (.inl 6)) (w : Wd) (b : Bool) (hR : w.2.2 = RTab b) (Q : Option Value → Wd → Prop) (h : Go SC mX7_crossed 18 [(0, .ref t), (1, .int (vXJ9_abs_0f7a4 (wi w t 0))), (2, .int (wi w t 1)), (3, .int 0), (4, .int 0)] [] w Q) : Cl SC mX7_crossed [.ref t] w Q := by
  refine cl_of (by decide) (Nat.le_of_ble_eq_true rfl) ?_
  show Go SC mX7_crossed 0 [(0, .ref t)] [] w Q
  refine g_aload_n (pc := 0) dX7_crossed_0 rfl 0 rfl ?_
  refine g_getI (pc := 1) (a := t) dX7_crossed_1 rfl fX7_9 ht ?_
  refine g_callS (pc := 4) (M' := mJ9_abs_0f7a4) (n := 1) (as := [.int (wi w t 0)]) (st := []) dX7_crossed_4 rfl kX7_29 sJ9_abs_0f7a4 (Nat.le_of_ble_eq_true rfl) rfl rfl (Nat.le_of_ble_eq_true rfl) ?_
  refine zJ9_abs_0f7a4 (a1 := (wi w t 0)) (w := w) (b := b) (hR := hR) ?_
  show Go SC mX7_crossed 7 [(0, .ref t)] [.int (vXJ9_abs_0f7a4 (wi w t 0))] w Q
  refine g_istore_n (pc := 7) (lv2 := [(0, .ref t), (1, .int (vXJ9_abs_0f7a4 (wi w t 0)))]) dX7_crossed_7 rfl (Nat.le_of_ble_eq_true rfl) rfl ?_
  refine g_aload_n (pc := 8) dX7_crossed_8 rfl 0 rfl ?_
  refine g_getI (pc := 9) (a := t) dX7_crossed_9 rfl fX7_15 ht ?_
  refine g_istore_n (pc := 12) (lv2 := [(0, .ref t), (1, .int (vXJ9_abs_0f7a4 (wi w t 0))), (2, .int (wi w t 1))]) dX7_crossed_12 rfl (Nat.le_of_ble_eq_true rfl) rfl ?_
  refine g_iconst (pc := 13) dX7_crossed_13 c_0 ?_
  refine g_istore_n (pc := 14) (lv2 := [(0, .ref t), (1, .int (vXJ9_abs_0f7a4 (wi w t 0))), (2, .int (wi w t 1)), (3, .int 0)]) dX7_crossed_14 rfl (Nat.le_of_ble_eq_true rfl) rfl ?_
  refine g_iconst (pc := 15) dX7_crossed_15 c_0 ?_
  refine g_istore (pc := 16) (lv2 := [(0, .ref t), (1, .int (vXJ9_abs_0f7a4 (wi w t 0))), (2, .int (wi w t 1)), (3, .int 0), (4, .int 0)]) dX7_crossed_16 (Nat.le_of_ble_eq_true rfl) rfl ?_
  exact h
set_option maxHeartbeats 4000000 in
set_option maxRecDepth 100000 in
theorem BX7_crossed_18 (t : Nat) (ht : SC[t]? = some (.inl 6)) (l1 : Int32) (l2 : Int32) (l3 : Int32) (l4 : Int32) (w : Wd) (b : Bool) (hR : w.2.2 = RTab b) (Q : Option Value → Wd → Prop) (h : ((1000000 ≤ l4 → Q (some (.int l3)) w) ∧ (¬ (1000000 ≤ l4) → ((l2 ≤ 0 → Q (some (.int l3)) w) ∧ (¬ (l2 ≤ 0) → ¬ l2 = 0 ∧ ¬ l2 = 0 ∧ Go SC mX7_crossed 18 [(0, .ref t), (1, .int l2), (2, .int (l1 % l2)), (3, .int (l3 + (l1 / l2))), (4, .int (l4 + 1))] [] w Q))))) : Go SC mX7_crossed 18 [(0, .ref t), (1, .int l1), (2, .int l2), (3, .int l3), (4, .int l4)] [] w Q := by
  refine g_iload (pc := 18) dX7_crossed_18 4 rfl ?_
  refine g_ldc (pc := 20) dX7_crossed_20 rfl nX7_35 ?_
  refine g_icmp_ge (pc := 22) (tgt := 51) dX7_crossed_22 (by decide) (fun q => ?_) (fun q => ?_)
  · have h := h.1 q
    refine g_iload_n (pc := 51) dX7_crossed_51 rfl 3 rfl ?_
    exact g_iret (pc := 52) dX7_crossed_52 rfl h
  · have h := h.2 q
    refine g_iload_n (pc := 25) dX7_crossed_25 rfl 2 rfl ?_
    refine g_if_le (pc := 26) (tgt := 51) dX7_crossed_26 (by decide) (fun q => ?_) (fun q => ?_)
    · have h := h.1 q
      refine g_iload_n (pc := 51) dX7_crossed_51 rfl 3 rfl ?_
      exact g_iret (pc := 52) dX7_crossed_52 rfl h
    · have h := h.2 q
      refine g_iload_n (pc := 29) dX7_crossed_29 rfl 1 rfl ?_
      refine g_iload_n (pc := 30) dX7_crossed_30 rfl 2 rfl ?_
      obtain ⟨hz1, h⟩ := h
      refine g_irem (pc := 31) dX7_crossed_31 hz1 ?_
      refine g_istore (pc := 32) (lv2 := [(0, .ref t), (1, .int l1), (2, .int l2), (3, .int l3), (4, .int l4), (5, .int (l1 % l2))]) dX7_crossed_32 (Nat.le_of_ble_eq_true rfl) rfl ?_
      refine g_iload_n (pc := 34) dX7_crossed_34 rfl 3 rfl ?_
      refine g_iload_n (pc := 35) dX7_crossed_35 rfl 1 rfl ?_
      refine g_iload_n (pc := 36) dX7_crossed_36 rfl 2 rfl ?_
      obtain ⟨hz2, h⟩ := h
      refine g_idiv (pc := 37) dX7_crossed_37 hz2 ?_
      refine g_iadd (pc := 38) dX7_crossed_38 ?_
      refine g_istore_n (pc := 39) (lv2 := [(0, .ref t), (1, .int l1), (2, .int l2), (3, .int (l3 + (l1 / l2))), (4, .int l4), (5, .int (l1 % l2))]) dX7_crossed_39 rfl (Nat.le_of_ble_eq_true rfl) rfl ?_
      refine g_iload_n (pc := 40) dX7_crossed_40 rfl 2 rfl ?_
      refine g_istore_n (pc := 41) (lv2 := [(0, .ref t), (1, .int l2), (2, .int l2), (3, .int (l3 + (l1 / l2))), (4, .int l4), (5, .int (l1 % l2))]) dX7_crossed_41 rfl (Nat.le_of_ble_eq_true rfl) rfl ?_
      refine g_iload (pc := 42) dX7_crossed_42 5 rfl ?_
      refine g_istore_n (pc := 44) (lv2 := [(0, .ref t), (1, .int l2), (2, .int (l1 % l2)), (3, .int (l3 + (l1 / l2))), (4, .int l4), (5, .int (l1 % l2))]) dX7_crossed_44 rfl (Nat.le_of_ble_eq_true rfl) rfl ?_
      refine g_iinc (pc := 45) (v := l4 + 1) (lv2 := [(0, .ref t), (1, .int l2), (2, .int (l1 % l2)), (3, .int (l3 + (l1 / l2))), (4, .int (l4 + 1)), (5, .int (l1 % l2))]) dX7_crossed_45 4 rfl (Nat.le_of_ble_eq_true rfl) rfl rfl ?_
      refine g_goto (pc := 48) (tgt := 18) dX7_crossed_48 (by decide) ?_
      refine g_sub (lv2 := [(0, .ref t), (1, .int l2), (2, .int (l1 % l2)), (3, .int (l3 + (l1 / l2))), (4, .int (l4 + 1))]) [0, 1, 2, 3, 4] rfl ?_
      exact h
set_option maxHeartbeats 4000000 in
set_option maxRecDepth 100000 in
theorem TX0_measured  (w : Wd) (b : Bool) (hR : w.2.2 = RTab b) (Q : Option Value → Wd → Prop) (h : (((wi w 62 1) = 0 → Q (some (.int (if (vXX7_goalOf 63 (wi w 62 2) w) = (wi w 62 3) then 1 else 0 : Int32))) w) ∧ (¬ ((wi w 62 1) = 0) → (((wi w 62 1) = 1 → Q (some (.int (if (vXX7_isUntied 63 w) = 0 then 0 else 1 : Int32))) w) ∧ (¬ ((wi w 62 1) = 1) → ClI SC mX7_crossed [.ref 63] w (fun x2 w1 => w1.2.2 = RTab b ∧ Q (some (.int x2)) w1)))))) : Cl SC mX0_measured [.ref 62] w Q := by
  refine cl_of (by decide) (Nat.le_of_ble_eq_true rfl) ?_
  show Go SC mX0_measured 0 [(0, .ref 62)] [] w Q
  refine g_aload_n (pc := 0) dX0_measured_0 rfl 0 rfl ?_
  refine g_getI (pc := 1) (a := 62) dX0_measured_1 rfl fX0_16 rfl ?_
  refine g_if_ne (pc := 4) (tgt := 31) dX0_measured_4 (by decide) (fun q => ?_) (fun q => ?_)
  · have h := h.2 q
    refine g_aload_n (pc := 31) dX0_measured_31 rfl 0 rfl ?_
    refine g_getI (pc := 32) (a := 62) dX0_measured_32 rfl fX0_16 rfl ?_
    refine g_iconst (pc := 35) dX0_measured_35 c_1 ?_
    refine g_icmp_ne (pc := 36) (tgt := 55) dX0_measured_36 (by decide) (fun q => ?_) (fun q => ?_)
    · have h := h.2 q
      refine g_aload_n (pc := 55) dX0_measured_55 rfl 0 rfl ?_
      refine g_getR (pc := 56) (a := 62) (b := 63) dX0_measured_56 rfl fX0_10 rfl (rc_62_0 hR) ?_
      refine g_callV (pc := 59) (M' := mX7_crossed) (n := 0) (a := 63) (as := []) (st := []) dX0_measured_59 rfl kX0_59 vX7_crossed (Nat.le_of_ble_eq_true rfl) rfl qX7 rfl rfl (Nat.le_of_ble_eq_true rfl) ?_
      refine cl_mono (fun r w1 hr => ?_) h
      obtain ⟨x2, rfl, hw1, h⟩ := hr
      show Go SC mX0_measured 62 [(0, .ref 62)] [.int x2] w1 Q
      exact g_iret (pc := 62) dX0_measured_62 rfl h
    · have h := h.1 q
      refine g_aload_n (pc := 39) dX0_measured_39 rfl 0 rfl ?_
      refine g_getR (pc := 40) (a := 62) (b := 63) dX0_measured_40 rfl fX0_10 rfl (rc_62_0 hR) ?_
      refine g_callV (pc := 43) (M' := mX7_isUntied) (n := 0) (a := 63) (as := []) (st := []) dX0_measured_43 rfl kX0_55 vX7_isUntied (Nat.le_of_ble_eq_true rfl) rfl qX7 rfl rfl (Nat.le_of_ble_eq_true rfl) ?_
      refine zX7_isUntied (t := 63) (w := w) (b := b) (hR := hR) (ht := rfl) ?_
      show Go SC mX0_measured 46 [(0, .ref 62)] [.int (vXX7_isUntied 63 w)] w Q
      have hJ : Go SC mX0_measured 54 [(0, .ref 62)] [.int (if (vXX7_isUntied 63 w) = 0 then 0 else 1 : Int32)] w Q := by
        exact g_iret (pc := 54) dX0_measured_54 rfl h
      refine g_if_eq (pc := 46) (tgt := 53) dX0_measured_46 (by decide) (fun q46 => ?_) (fun q46 => ?_)
      · refine g_iconst (pc := 53) dX0_measured_53 c_0 ?_
        first | (exfalso; contradiction) | exact cast (by simp only [if_pos q46]) hJ
      · refine g_iconst (pc := 49) dX0_measured_49 c_1 ?_
        refine g_goto (pc := 50) (tgt := 54) dX0_measured_50 (by decide) ?_
        first | (exfalso; contradiction) | exact cast (by simp only [if_neg q46]) hJ
  · have h := h.1 q
    refine g_aload_n (pc := 7) dX0_measured_7 rfl 0 rfl ?_
    refine g_getR (pc := 8) (a := 62) (b := 63) dX0_measured_8 rfl fX0_10 rfl (rc_62_0 hR) ?_
    refine g_aload_n (pc := 11) dX0_measured_11 rfl 0 rfl ?_
    refine g_getI (pc := 12) (a := 62) dX0_measured_12 rfl fX0_20 rfl ?_
    refine g_callV (pc := 15) (M' := mX7_goalOf) (n := 1) (a := 63) (as := [.int (wi w 62 2)]) (st := []) dX0_measured_15 rfl kX0_52 vX7_goalOf (Nat.le_of_ble_eq_true rfl) rfl qX7 rfl rfl (Nat.le_of_ble_eq_true rfl) ?_
    refine zX7_goalOf (t := 63) (a1 := (wi w 62 2)) (w := w) (b := b) (hR := hR) (ht := rfl) ?_
    show Go SC mX0_measured 18 [(0, .ref 62)] [.int (vXX7_goalOf 63 (wi w 62 2) w)] w Q
    refine g_aload_n (pc := 18) dX0_measured_18 rfl 0 rfl ?_
    refine g_getI (pc := 19) (a := 62) dX0_measured_19 rfl fX0_23 rfl ?_
    have hJ : Go SC mX0_measured 30 [(0, .ref 62)] [.int (if (vXX7_goalOf 63 (wi w 62 2) w) = (wi w 62 3) then 1 else 0 : Int32)] w Q := by
      exact g_iret (pc := 30) dX0_measured_30 rfl h
    refine g_icmp_ne (pc := 22) (tgt := 29) dX0_measured_22 (by decide) (fun q22 => ?_) (fun q22 => ?_)
    · refine g_iconst (pc := 29) dX0_measured_29 c_0 ?_
      first | (exfalso; contradiction) | exact cast (by simp only [if_neg q22]) hJ
    · refine g_iconst (pc := 25) dX0_measured_25 c_1 ?_
      refine g_goto (pc := 26) (tgt := 30) dX0_measured_26 (by decide) ?_
      first | (exfalso; contradiction) | exact cast (by simp only [if_pos q22]) hJ
set_option maxHeartbeats 4000000 in
set_option maxRecDepth 100000 in
theorem TX0_power (a1 : Int32) (a2 : Int32) (w : Wd) (b : Bool) (hR : w.2.2 = RTab b) (Q : Option Value → Wd → Prop) (h : Go SC mX0_power 5 [(0, .int a1), (1, .int a2), (2, .long 1), (4, .int 0)] [] w Q) : Cl SC mX0_power [.int a1, .int a2] w Q := by
  refine cl_of (by decide) (Nat.le_of_ble_eq_true rfl) ?_
  show Go SC mX0_power 0 [(0, .int a1), (1, .int a2)] [] w Q
  refine g_lconst (pc := 0) (v := 1) dX0_power_0 (by decide) ?_
  refine g_lstore_n (pc := 1) (lv2 := [(0, .int a1), (1, .int a2), (2, .long 1)]) dX0_power_1 rfl (Nat.le_of_ble_eq_true rfl) rfl ?_
  refine g_iconst (pc := 2) dX0_power_2 c_0 ?_
  refine g_istore (pc := 3) (lv2 := [(0, .int a1), (1, .int a2), (2, .long 1), (4, .int 0)]) dX0_power_3 (Nat.le_of_ble_eq_true rfl) rfl ?_
  exact h
set_option maxHeartbeats 4000000 in
set_option maxRecDepth 100000 in
theorem BX0_power_5  (l0 : Int32) (l1 : Int32) (l2 : Int64) (l4 : Int32) (w : Wd) (b : Bool) (hR : w.2.2 = RTab b) (Q : Option Value → Wd → Prop) (h : ((l1 ≤ l4 → Q (some (.long l2)) w) ∧ (¬ (l1 ≤ l4) → Go SC mX0_power 5 [(0, .int l0), (1, .int l1), (2, .long (l2 * l0.toInt64)), (4, .int (l4 + 1))] [] w Q))) : Go SC mX0_power 5 [(0, .int l0), (1, .int l1), (2, .long l2), (4, .int l4)] [] w Q := by
  refine g_iload (pc := 5) dX0_power_5 3 rfl ?_
  refine g_iload_n (pc := 7) dX0_power_7 rfl 1 rfl ?_
  refine g_icmp_ge (pc := 8) (tgt := 22) dX0_power_8 (by decide) (fun q => ?_) (fun q => ?_)
  · have h := h.1 q
    refine g_lload_n (pc := 22) dX0_power_22 rfl 2 rfl ?_
    exact g_lret (pc := 23) dX0_power_23 rfl h
  · have h := h.2 q
    refine g_lload_n (pc := 11) dX0_power_11 rfl 2 rfl ?_
    refine g_iload_n (pc := 12) dX0_power_12 rfl 0 rfl ?_
    refine g_i2l (pc := 13) dX0_power_13 ?_
    refine g_lmul (pc := 14) dX0_power_14 ?_
    refine g_lstore_n (pc := 15) (lv2 := [(0, .int l0), (1, .int l1), (2, .long (l2 * l0.toInt64)), (4, .int l4)]) dX0_power_15 rfl (Nat.le_of_ble_eq_true rfl) rfl ?_
    refine g_iinc (pc := 16) (v := l4 + 1) (lv2 := [(0, .int l0), (1, .int l1), (2, .long (l2 * l0.toInt64)), (4, .int (l4 + 1))]) dX0_power_16 3 rfl (Nat.le_of_ble_eq_true rfl) rfl rfl ?_
    refine g_goto (pc := 19) (tgt := 5) dX0_power_19 (by decide) ?_
    exact h
set_option maxHeartbeats 4000000 in
set_option maxRecDepth 100000 in
theorem TX1_walk (c : Bool) (k : Nat) (hk : k < 5) (a1 : Int32) (a2 : Int32) (a3 : Nat) (ha3 : SC[a3]? = some (.inl 6)) (w : Wd) (b : Bool) (hR : w.2.2 = RTab b) (Q : Option Value → Wd → Prop) (h : Go SC mX1_walk 9 [(0, .ref (dA (hA c) k)), (1, .int a1), (2, .int a2), (3, .ref a3), (4, .int 0)] [] (wXX7_put a3 0 1 w) Q) : Cl SC mX1_walk [.ref (dA (hA c) k), .int a1, .int a2, .ref a3] w Q := by
  refine cl_of (by decide) (Nat.le_of_ble_eq_true rfl) ?_
  show Go SC mX1_walk 0 [(0, .ref (dA (hA c) k)), (1, .int a1), (2, .int a2), (3, .ref a3)] [] w Q
  refine g_aload_n (pc := 0) dX1_walk_0 rfl 3 rfl ?_
  refine g_iconst (pc := 1) dX1_walk_1 c_0 ?_
  refine g_iconst (pc := 2) dX1_walk_2 c_1 ?_
  refine g_callV (pc := 3) (M' := mX7_put) (n := 2) (a := a3) (as := [.int 0, .int 1]) (st := []) dX1_walk_3 rfl kX1_36 vX7_put (Nat.le_of_ble_eq_true rfl) ha3 qX7 rfl rfl (Nat.le_of_ble_eq_true rfl) ?_
  refine zX7_put (t := a3) (a1 := 0) (a2 := 1) (w := w) (b := b) (hR := hR) (ht := ha3) ?_
  show Go SC mX1_walk 6 [(0, .ref (dA (hA c) k)), (1, .int a1), (2, .int a2), (3, .ref a3)] [] (wXX7_put a3 0 1 w) Q
  refine g_iconst (pc := 6) dX1_walk_6 c_0 ?_
  refine g_istore (pc := 7) (lv2 := [(0, .ref (dA (hA c) k)), (1, .int a1), (2, .int a2), (3, .ref a3), (4, .int 0)]) dX1_walk_7 (Nat.le_of_ble_eq_true rfl) rfl ?_
  exact h
set_option maxHeartbeats 4000000 in
set_option maxRecDepth 100000 in
theorem BX1_walk_9 (c : Bool) (k : Nat) (hk : k < 5) (a3 : Nat) (ha3 : SC[a3]? = some (.inl 6)) (l1 : Int32) (l2 : Int32) (l4 : Int32) (w : Wd) (b : Bool) (hR : w.2.2 = RTab b) (Q : Option Value → Wd → Prop) (h : ((l1 ≤ l4 → Q none w) ∧ (¬ (l1 ≤ l4) → (((wi w (dA (hA c) k) 1) ≤ l4 → Q none w) ∧ (¬ ((wi w (dA (hA c) k) 1) ≤ l4) → (((vXX10_isIn l2 l4) = 0 → Go SC mX1_walk 9 [(0, .ref (dA (hA c) k)), (1, .int l1), (2, .int l2), (3, .ref a3), (4, .int (l4 + 1))] [] (wXX7_step a3 (gf w (dA (hA c) k + 1) 12 l4) w) Q) ∧ (¬ ((vXX10_isIn l2 l4) = 0) → Go SC mX1_walk 9 [(0, .ref (dA (hA c) k)), (1, .int l1), (2, .int l2), (3, .ref a3), (4, .int (l4 + 1))] [] w Q))))))) : Go SC mX1_walk 9 [(0, .ref (dA (hA c) k)), (1, .int l1), (2, .int l2), (3, .ref a3), (4, .int l4)] [] w Q := by
  refine g_iload (pc := 9) dX1_walk_9 4 rfl ?_
  refine g_iload_n (pc := 11) dX1_walk_11 rfl 1 rfl ?_
  refine g_icmp_ge (pc := 12) (tgt := 52) dX1_walk_12 (by decide) (fun q => ?_) (fun q => ?_)
  · have h := h.1 q
    exact g_vret (pc := 52) dX1_walk_52 rfl h
  · have h := h.2 q
    refine g_iload (pc := 15) dX1_walk_15 4 rfl ?_
    refine g_aload_n (pc := 17) dX1_walk_17 rfl 0 rfl ?_
    refine g_getI (pc := 18) (a := (dA (hA c) k)) dX1_walk_18 rfl fX1_22 (sh_d c hk) ?_
    refine g_icmp_ge (pc := 21) (tgt := 52) dX1_walk_21 (by decide) (fun q => ?_) (fun q => ?_)
    · have h := h.1 q
      exact g_vret (pc := 52) dX1_walk_52 rfl h
    · have h := h.2 q
      refine g_iload_n (pc := 24) dX1_walk_24 rfl 2 rfl ?_
      refine g_iload (pc := 25) dX1_walk_25 4 rfl ?_
      refine g_callS (pc := 27) (M' := mX10_isIn) (n := 2) (as := [.int l2, .int l4]) (st := []) dX1_walk_27 rfl kX1_40 sX10_isIn (Nat.le_of_ble_eq_true rfl) rfl rfl (Nat.le_of_ble_eq_true rfl) ?_
      refine zX10_isIn (a1 := l2) (a2 := l4) (w := w) (b := b) (hR := hR) ?_
      show Go SC mX1_walk 30 [(0, .ref (dA (hA c) k)), (1, .int l1), (2, .int l2), (3, .ref a3), (4, .int l4)] [.int (vXX10_isIn l2 l4)] w Q
      refine g_if_ne (pc := 30) (tgt := 46) dX1_walk_30 (by decide) (fun q => ?_) (fun q => ?_)
      · have h := h.2 q
        refine g_iinc (pc := 46) (v := l4 + 1) (lv2 := [(0, .ref (dA (hA c) k)), (1, .int l1), (2, .int l2), (3, .ref a3), (4, .int (l4 + 1))]) dX1_walk_46 4 rfl (Nat.le_of_ble_eq_true rfl) rfl rfl ?_
        refine g_goto (pc := 49) (tgt := 9) dX1_walk_49 (by decide) ?_
        exact h
      · have h := h.1 q
        refine g_aload_n (pc := 33) dX1_walk_33 rfl 3 rfl ?_
        refine g_aload_n (pc := 34) dX1_walk_34 rfl 0 rfl ?_
        refine g_getR (pc := 35) (a := (dA (hA c) k)) (b := (dA (hA c) k + 1)) dX1_walk_35 rfl fX1_9 (sh_d c hk) (rd_0 hR c hk) ?_
        refine g_iload (pc := 38) dX1_walk_38 4 rfl ?_
        refine g_callS (pc := 40) (M' := mX10_at) (n := 2) (as := [.ref (dA (hA c) k + 1), .int l4]) (st := [.ref a3]) dX1_walk_40 rfl kX1_32 sX10_at (Nat.le_of_ble_eq_true rfl) rfl rfl (Nat.le_of_ble_eq_true rfl) ?_
        refine h_at (a := (dA (hA c) k + 1)) (n := 12) (i := l4) (w := w) (sh_dr c hk) (Nat.le_of_ble_eq_true rfl) ?_
        show Go SC mX1_walk 43 [(0, .ref (dA (hA c) k)), (1, .int l1), (2, .int l2), (3, .ref a3), (4, .int l4)] [.int (gf w (dA (hA c) k + 1) 12 l4), .ref a3] w Q
        refine g_callV (pc := 43) (M' := mX7_step) (n := 1) (a := a3) (as := [.int (gf w (dA (hA c) k + 1) 12 l4)]) (st := []) dX1_walk_43 rfl kX1_44 vX7_step (Nat.le_of_ble_eq_true rfl) ha3 qX7 rfl rfl (Nat.le_of_ble_eq_true rfl) ?_
        refine zX7_step (t := a3) (a1 := (gf w (dA (hA c) k + 1) 12 l4)) (w := w) (b := b) (hR := hR) (ht := ha3) ?_
        show Go SC mX1_walk 46 [(0, .ref (dA (hA c) k)), (1, .int l1), (2, .int l2), (3, .ref a3), (4, .int l4)] [] (wXX7_step a3 (gf w (dA (hA c) k + 1) 12 l4) w) Q
        refine g_iinc (pc := 46) (v := l4 + 1) (lv2 := [(0, .ref (dA (hA c) k)), (1, .int l1), (2, .int l2), (3, .ref a3), (4, .int (l4 + 1))]) dX1_walk_46 4 rfl (Nat.le_of_ble_eq_true rfl) rfl rfl ?_
        refine g_goto (pc := 49) (tgt := 9) dX1_walk_49 (by decide) ?_
        exact h
set_option maxHeartbeats 4000000 in
set_option maxRecDepth 100000 in
theorem TX0_answer (ca1 : Bool) (ka1 : Nat) (hka1 : ka1 < 5) (a2 : Int32) (a3 : Int32) (a4 : Int32) (w : Wd) (b : Bool) (hR : w.2.2 = RTab b) (Q : Option Value → Wd → Prop) (h : Go SC mX0_answer 6 [(0, .ref 62), (1, .ref (dA (hA ca1) ka1)), (2, .int a2), (3, .int a3), (4, .int a4), (5, .long 0), (7, .int 0)] [] w Q) : Cl SC mX0_answer [.ref 62, .ref (dA (hA ca1) ka1), .int a2, .int a3, .int a4] w Q := by
  refine cl_of (by decide) (Nat.le_of_ble_eq_true rfl) ?_
  show Go SC mX0_answer 0 [(0, .ref 62), (1, .ref (dA (hA ca1) ka1)), (2, .int a2), (3, .int a3), (4, .int a4)] [] w Q
  refine g_lconst (pc := 0) (v := 0) dX0_answer_0 (by decide) ?_
  refine g_lstore (pc := 1) (lv2 := [(0, .ref 62), (1, .ref (dA (hA ca1) ka1)), (2, .int a2), (3, .int a3), (4, .int a4), (5, .long 0)]) dX0_answer_1 (Nat.le_of_ble_eq_true rfl) rfl ?_
  refine g_iconst (pc := 3) dX0_answer_3 c_0 ?_
  refine g_istore (pc := 4) (lv2 := [(0, .ref 62), (1, .ref (dA (hA ca1) ka1)), (2, .int a2), (3, .int a3), (4, .int a4), (5, .long 0), (7, .int 0)]) dX0_answer_4 (Nat.le_of_ble_eq_true rfl) rfl ?_
  exact h
set_option maxHeartbeats 4000000 in
set_option maxRecDepth 100000 in
theorem BX0_answer_6 (ca1 : Bool) (ka1 : Nat) (hka1 : ka1 < 5) (l2 : Int32) (l3 : Int32) (l4 : Int32) (l5 : Int64) (l7 : Int32) (w : Wd) (b : Bool) (hR : w.2.2 = RTab b) (Q : Option Value → Wd → Prop) (h : (((1 <<< (l2 &&& 31)) ≤ l7 → ClL SC mX0_power [.int 100, .int l2] w (fun x2 w1 => w1.2.2 = RTab b ∧ ClL SC mX10_shared [.long l5, .long x2] w1 (fun x4 w3 => w3.2.2 = RTab b ∧ (((lg_cmp x4 0) = 0 → Q (some (.long 0)) w3) ∧ (¬ ((lg_cmp x4 0) = 0) → ((l4 = 0 → ¬ x4 = 0 ∧ Q (some (.long (l5 / x4))) w3) ∧ (¬ (l4 = 0) → ¬ x4 = 0 ∧ Q (some (.long (x2 / x4))) w3))))))) ∧ (¬ ((1 <<< (l2 &&& 31)) ≤ l7) → ClV SC mX1_walk [.ref (dA (hA ca1) ka1), .int l2, .int l7, .ref 63] w (fun w7 => w7.2.2 = RTab b ∧ ClL SC mX0_power [.int l3, .int (vXJ6_bitCount_0f7a4 l7)] w7 (fun x9 w8 => w8.2.2 = RTab b ∧ ClL SC mX0_power [.int (100 - l3), .int (l2 - (vXJ6_bitCount_0f7a4 l7))] w8 (fun x11 w10 => w10.2.2 = RTab b ∧ ClI SC mX0_measured [.ref 62] w10 (fun x13 w12 => w12.2.2 = RTab b ∧ Go SC mX0_answer 6 [(0, .ref 62), (1, .ref (dA (hA ca1) ka1)), (2, .int l2), (3, .int l3), (4, .int l4), (5, .long (l5 + ((x9 * x11) * x13.toInt64))), (7, .int (l7 + 1))] [] w12 Q))))))) : Go SC mX0_answer 6 [(0, .ref 62), (1, .ref (dA (hA ca1) ka1)), (2, .int l2), (3, .int l3), (4, .int l4), (5, .long l5), (7, .int l7)] [] w Q := by
  refine g_iload (pc := 6) dX0_answer_6 6 rfl ?_
  refine g_iconst (pc := 8) dX0_answer_8 c_1 ?_
  refine g_iload_n (pc := 9) dX0_answer_9 rfl 2 rfl ?_
  refine g_ishl (pc := 10) dX0_answer_10 ?_
  refine g_icmp_ge (pc := 11) (tgt := 67) dX0_answer_11 (by decide) (fun q => ?_) (fun q => ?_)
  · have h := h.1 q
    refine g_bipush (pc := 67) (v := 100) dX0_answer_67 (by decide) ?_
    refine g_iload_n (pc := 69) dX0_answer_69 rfl 2 rfl ?_
    refine g_callS (pc := 70) (M' := mX0_power) (n := 2) (as := [.int 100, .int l2]) (st := []) dX0_answer_70 rfl kX0_38 sX0_power (Nat.le_of_ble_eq_true rfl) rfl rfl (Nat.le_of_ble_eq_true rfl) ?_
    refine cl_mono (fun r w1 hr => ?_) h
    obtain ⟨x2, rfl, hw1, h⟩ := hr
    show Go SC mX0_answer 73 [(0, .ref 62), (1, .ref (dA (hA ca1) ka1)), (2, .int l2), (3, .int l3), (4, .int l4), (5, .long l5), (7, .int l7)] [.long x2] w1 Q
    refine g_lstore (pc := 73) (lv2 := [(0, .ref 62), (1, .ref (dA (hA ca1) ka1)), (2, .int l2), (3, .int l3), (4, .int l4), (5, .long l5), (7, .long x2)]) dX0_answer_73 (Nat.le_of_ble_eq_true rfl) rfl ?_
    refine g_lload (pc := 75) dX0_answer_75 5 rfl ?_
    refine g_lload (pc := 77) dX0_answer_77 6 rfl ?_
    refine g_callS (pc := 79) (M' := mX10_shared) (n := 2) (as := [.long l5, .long x2]) (st := []) dX0_answer_79 rfl kX0_46 sX10_shared (Nat.le_of_ble_eq_true rfl) rfl rfl (Nat.le_of_ble_eq_true rfl) ?_
    refine cl_mono (fun r w3 hr => ?_) h
    obtain ⟨x4, rfl, hw3, h⟩ := hr
    show Go SC mX0_answer 82 [(0, .ref 62), (1, .ref (dA (hA ca1) ka1)), (2, .int l2), (3, .int l3), (4, .int l4), (5, .long l5), (7, .long x2)] [.long x4] w3 Q
    refine g_lstore (pc := 82) (lv2 := [(0, .ref 62), (1, .ref (dA (hA ca1) ka1)), (2, .int l2), (3, .int l3), (4, .int l4), (5, .long l5), (7, .long x2), (9, .long x4)]) dX0_answer_82 (Nat.le_of_ble_eq_true rfl) rfl ?_
    refine g_lload (pc := 84) dX0_answer_84 7 rfl ?_
    refine g_lconst (pc := 86) (v := 0) dX0_answer_86 (by decide) ?_
    refine g_lcmp (pc := 87) dX0_answer_87 ?_
    refine g_if_ne (pc := 88) (tgt := 93) dX0_answer_88 (by decide) (fun q => ?_) (fun q => ?_)
    · have h := h.2 q
      refine g_iload (pc := 93) dX0_answer_93 4 rfl ?_
      refine g_if_eq (pc := 95) (tgt := 106) dX0_answer_95 (by decide) (fun q => ?_) (fun q => ?_)
      · have h := h.1 q
        refine g_lload (pc := 106) dX0_answer_106 5 rfl ?_
        refine g_lload (pc := 108) dX0_answer_108 7 rfl ?_
        obtain ⟨hz5, h⟩ := h
        refine g_ldiv (pc := 110) dX0_answer_110 hz5 ?_
        exact g_lret (pc := 111) dX0_answer_111 rfl h
      · have h := h.2 q
        refine g_lload (pc := 98) dX0_answer_98 6 rfl ?_
        refine g_lload (pc := 100) dX0_answer_100 7 rfl ?_
        obtain ⟨hz6, h⟩ := h
        refine g_ldiv (pc := 102) dX0_answer_102 hz6 ?_
        refine g_goto (pc := 103) (tgt := 111) dX0_answer_103 (by decide) ?_
        exact g_lret (pc := 111) dX0_answer_111 rfl h
    · have h := h.1 q
      refine g_lconst (pc := 91) (v := 0) dX0_answer_91 (by decide) ?_
      exact g_lret (pc := 92) dX0_answer_92 rfl h
  · have h := h.2 q
    refine g_aload_n (pc := 14) dX0_answer_14 rfl 1 rfl ?_
    refine g_iload_n (pc := 15) dX0_answer_15 rfl 2 rfl ?_
    refine g_iload (pc := 16) dX0_answer_16 6 rfl ?_
    refine g_aload_n (pc := 18) dX0_answer_18 rfl 0 rfl ?_
    refine g_getR (pc := 19) (a := 62) (b := 63) dX0_answer_19 rfl fX0_10 rfl (rc_62_0 hR) ?_
    refine g_callV (pc := 22) (M' := mX1_walk) (n := 3) (a := (dA (hA ca1) ka1)) (as := [.int l2, .int l7, .ref 63]) (st := []) dX0_answer_22 rfl kX0_26 vX1_walk (Nat.le_of_ble_eq_true rfl) (sh_d ca1 hka1) qX1 rfl rfl (Nat.le_of_ble_eq_true rfl) ?_
    refine cl_mono (fun r w7 hr => ?_) h
    obtain ⟨rfl, hw7, h⟩ := hr
    show Go SC mX0_answer 25 [(0, .ref 62), (1, .ref (dA (hA ca1) ka1)), (2, .int l2), (3, .int l3), (4, .int l4), (5, .long l5), (7, .int l7)] [] w7 Q
    refine g_iload (pc := 25) dX0_answer_25 6 rfl ?_
    refine g_callS (pc := 27) (M' := mJ6_bitCount_0f7a4) (n := 1) (as := [.int l7]) (st := []) dX0_answer_27 rfl kX0_32 sJ6_bitCount_0f7a4 (Nat.le_of_ble_eq_true rfl) rfl rfl (Nat.le_of_ble_eq_true rfl) ?_
    refine zJ6_bitCount_0f7a4 (a1 := l7) (w := w7) (b := b) (hR := hw7) ?_
    show Go SC mX0_answer 30 [(0, .ref 62), (1, .ref (dA (hA ca1) ka1)), (2, .int l2), (3, .int l3), (4, .int l4), (5, .long l5), (7, .int l7)] [.int (vXJ6_bitCount_0f7a4 l7)] w7 Q
    refine g_istore (pc := 30) (lv2 := [(0, .ref 62), (1, .ref (dA (hA ca1) ka1)), (2, .int l2), (3, .int l3), (4, .int l4), (5, .long l5), (7, .int l7), (8, .int (vXJ6_bitCount_0f7a4 l7))]) dX0_answer_30 (Nat.le_of_ble_eq_true rfl) rfl ?_
    refine g_lload (pc := 32) dX0_answer_32 5 rfl ?_
    refine g_iload_n (pc := 34) dX0_answer_34 rfl 3 rfl ?_
    refine g_iload (pc := 35) dX0_answer_35 7 rfl ?_
    refine g_callS (pc := 37) (M' := mX0_power) (n := 2) (as := [.int l3, .int (vXJ6_bitCount_0f7a4 l7)]) (st := [.long l5]) dX0_answer_37 rfl kX0_38 sX0_power (Nat.le_of_ble_eq_true rfl) rfl rfl (Nat.le_of_ble_eq_true rfl) ?_
    refine cl_mono (fun r w8 hr => ?_) h
    obtain ⟨x9, rfl, hw8, h⟩ := hr
    show Go SC mX0_answer 40 [(0, .ref 62), (1, .ref (dA (hA ca1) ka1)), (2, .int l2), (3, .int l3), (4, .int l4), (5, .long l5), (7, .int l7), (8, .int (vXJ6_bitCount_0f7a4 l7))] [.long x9, .long l5] w8 Q
    refine g_bipush (pc := 40) (v := 100) dX0_answer_40 (by decide) ?_
    refine g_iload_n (pc := 42) dX0_answer_42 rfl 3 rfl ?_
    refine g_isub (pc := 43) dX0_answer_43 ?_
    refine g_iload_n (pc := 44) dX0_answer_44 rfl 2 rfl ?_
    refine g_iload (pc := 45) dX0_answer_45 7 rfl ?_
    refine g_isub (pc := 47) dX0_answer_47 ?_
    refine g_callS (pc := 48) (M' := mX0_power) (n := 2) (as := [.int (100 - l3), .int (l2 - (vXJ6_bitCount_0f7a4 l7))]) (st := [.long x9, .long l5]) dX0_answer_48 rfl kX0_38 sX0_power (Nat.le_of_ble_eq_true rfl) rfl rfl (Nat.le_of_ble_eq_true rfl) ?_
    refine cl_mono (fun r w10 hr => ?_) h
    obtain ⟨x11, rfl, hw10, h⟩ := hr
    show Go SC mX0_answer 51 [(0, .ref 62), (1, .ref (dA (hA ca1) ka1)), (2, .int l2), (3, .int l3), (4, .int l4), (5, .long l5), (7, .int l7), (8, .int (vXJ6_bitCount_0f7a4 l7))] [.long x11, .long x9, .long l5] w10 Q
    refine g_lmul (pc := 51) dX0_answer_51 ?_
    refine g_aload_n (pc := 52) dX0_answer_52 rfl 0 rfl ?_
    refine g_callV (pc := 53) (M' := mX0_measured) (n := 0) (a := 62) (as := []) (st := [.long (x9 * x11), .long l5]) dX0_answer_53 rfl kX0_42 vX0_measured (Nat.le_of_ble_eq_true rfl) rfl qX0 rfl rfl (Nat.le_of_ble_eq_true rfl) ?_
    refine cl_mono (fun r w12 hr => ?_) h
    obtain ⟨x13, rfl, hw12, h⟩ := hr
    show Go SC mX0_answer 56 [(0, .ref 62), (1, .ref (dA (hA ca1) ka1)), (2, .int l2), (3, .int l3), (4, .int l4), (5, .long l5), (7, .int l7), (8, .int (vXJ6_bitCount_0f7a4 l7))] [.int x13, .long (x9 * x11), .long l5] w12 Q
    refine g_i2l (pc := 56) dX0_answer_56 ?_
    refine g_lmul (pc := 57) dX0_answer_57 ?_
    refine g_ladd (pc := 58) dX0_answer_58 ?_
    refine g_lstore (pc := 59) (lv2 := [(0, .ref 62), (1, .ref (dA (hA ca1) ka1)), (2, .int l2), (3, .int l3), (4, .int l4), (5, .long (l5 + ((x9 * x11) * x13.toInt64))), (7, .int l7), (8, .int (vXJ6_bitCount_0f7a4 l7))]) dX0_answer_59 (Nat.le_of_ble_eq_true rfl) rfl ?_
    refine g_iinc (pc := 61) (v := l7 + 1) (lv2 := [(0, .ref 62), (1, .ref (dA (hA ca1) ka1)), (2, .int l2), (3, .int l3), (4, .int l4), (5, .long (l5 + ((x9 * x11) * x13.toInt64))), (7, .int (l7 + 1)), (8, .int (vXJ6_bitCount_0f7a4 l7))]) dX0_answer_61 6 rfl (Nat.le_of_ble_eq_true rfl) rfl rfl ?_
    refine g_goto (pc := 64) (tgt := 6) dX0_answer_64 (by decide) ?_
    refine g_sub (lv2 := [(0, .ref 62), (1, .ref (dA (hA ca1) ka1)), (2, .int l2), (3, .int l3), (4, .int l4), (5, .long (l5 + ((x9 * x11) * x13.toInt64))), (7, .int (l7 + 1))]) [0, 1, 2, 3, 4, 5, 6] rfl ?_
    exact h
set_option maxHeartbeats 4000000 in
set_option maxRecDepth 100000 in
theorem TX0_drawn (a1 : Int32) (a2 : Int32) (a3 : Int32) (w : Wd) (b : Bool) (hR : w.2.2 = RTab b) (Q : Option Value → Wd → Prop) (h : Go SC mX0_drawn 8 [(0, .int a1), (1, .int a2), (2, .int a3), (3, .int 0), (4, .int a1), (5, .int 0)] [] w Q) : Cl SC mX0_drawn [.int a1, .int a2, .int a3] w Q := by
  refine cl_of (by decide) (Nat.le_of_ble_eq_true rfl) ?_
  show Go SC mX0_drawn 0 [(0, .int a1), (1, .int a2), (2, .int a3)] [] w Q
  refine g_iconst (pc := 0) dX0_drawn_0 c_0 ?_
  refine g_istore_n (pc := 1) (lv2 := [(0, .int a1), (1, .int a2), (2, .int a3), (3, .int 0)]) dX0_drawn_1 rfl (Nat.le_of_ble_eq_true rfl) rfl ?_
  refine g_iload_n (pc := 2) dX0_drawn_2 rfl 0 rfl ?_
  refine g_istore (pc := 3) (lv2 := [(0, .int a1), (1, .int a2), (2, .int a3), (3, .int 0), (4, .int a1)]) dX0_drawn_3 (Nat.le_of_ble_eq_true rfl) rfl ?_
  refine g_iconst (pc := 5) dX0_drawn_5 c_0 ?_
  refine g_istore (pc := 6) (lv2 := [(0, .int a1), (1, .int a2), (2, .int a3), (3, .int 0), (4, .int a1), (5, .int 0)]) dX0_drawn_6 (Nat.le_of_ble_eq_true rfl) rfl ?_
  exact h
set_option maxHeartbeats 4000000 in
set_option maxRecDepth 100000 in
theorem BX0_drawn_8  (l0 : Int32) (l1 : Int32) (l2 : Int32) (l3 : Int32) (l4 : Int32) (l5 : Int32) (w : Wd) (b : Bool) (hR : w.2.2 = RTab b) (Q : Option Value → Wd → Prop) (h : ((l1 ≤ l5 → Q (some (.int l3)) w) ∧ (¬ (l1 ≤ l5) → Go SC mX0_drawn 8 [(0, .int l0), (1, .int l1), (2, .int l2), (3, .int (if l2 ≤ ((((75 * l4) + 74) % 65537) % 100) then l3 else l3 ||| (1 <<< (l5 &&& 31)) : Int32)), (4, .int (((75 * l4) + 74) % 65537)), (5, .int (l5 + 1))] [] w Q))) : Go SC mX0_drawn 8 [(0, .int l0), (1, .int l1), (2, .int l2), (3, .int l3), (4, .int l4), (5, .int l5)] [] w Q := by
  refine g_iload (pc := 8) dX0_drawn_8 5 rfl ?_
  refine g_iload_n (pc := 10) dX0_drawn_10 rfl 1 rfl ?_
  refine g_icmp_ge (pc := 11) (tgt := 49) dX0_drawn_11 (by decide) (fun q => ?_) (fun q => ?_)
  · have h := h.1 q
    refine g_iload_n (pc := 49) dX0_drawn_49 rfl 3 rfl ?_
    exact g_iret (pc := 50) dX0_drawn_50 rfl h
  · have h := h.2 q
    refine g_bipush (pc := 14) (v := 75) dX0_drawn_14 (by decide) ?_
    refine g_iload (pc := 16) dX0_drawn_16 4 rfl ?_
    refine g_imul (pc := 18) dX0_drawn_18 ?_
    refine g_bipush (pc := 19) (v := 74) dX0_drawn_19 (by decide) ?_
    refine g_iadd (pc := 21) dX0_drawn_21 ?_
    refine g_ldc (pc := 22) dX0_drawn_22 rfl nX0_62 ?_
    refine g_irem (pc := 24) dX0_drawn_24 (by decide) ?_
    refine g_istore (pc := 25) (lv2 := [(0, .int l0), (1, .int l1), (2, .int l2), (3, .int l3), (4, .int (((75 * l4) + 74) % 65537)), (5, .int l5)]) dX0_drawn_25 (Nat.le_of_ble_eq_true rfl) rfl ?_
    refine g_iload (pc := 27) dX0_drawn_27 4 rfl ?_
    refine g_bipush (pc := 29) (v := 100) dX0_drawn_29 (by decide) ?_
    refine g_irem (pc := 31) dX0_drawn_31 (by decide) ?_
    refine g_iload_n (pc := 32) dX0_drawn_32 rfl 2 rfl ?_
    have hJ : Go SC mX0_drawn 43 [(0, .int l0), (1, .int l1), (2, .int l2), (3, .int (if l2 ≤ ((((75 * l4) + 74) % 65537) % 100) then l3 else l3 ||| (1 <<< (l5 &&& 31)) : Int32)), (4, .int (((75 * l4) + 74) % 65537)), (5, .int l5)] [] w Q := by
      refine g_iinc (pc := 43) (v := l5 + 1) (lv2 := [(0, .int l0), (1, .int l1), (2, .int l2), (3, .int (if l2 ≤ ((((75 * l4) + 74) % 65537) % 100) then l3 else l3 ||| (1 <<< (l5 &&& 31)) : Int32)), (4, .int (((75 * l4) + 74) % 65537)), (5, .int (l5 + 1))]) dX0_drawn_43 5 rfl (Nat.le_of_ble_eq_true rfl) rfl rfl ?_
      refine g_goto (pc := 46) (tgt := 8) dX0_drawn_46 (by decide) ?_
      exact h
    refine g_icmp_ge (pc := 33) (tgt := 43) dX0_drawn_33 (by decide) (fun q33 => ?_) (fun q33 => ?_)
    · first | (exfalso; contradiction) | exact cast (by simp only [if_pos q33]) hJ
    · refine g_iload_n (pc := 36) dX0_drawn_36 rfl 3 rfl ?_
      refine g_iconst (pc := 37) dX0_drawn_37 c_1 ?_
      refine g_iload (pc := 38) dX0_drawn_38 5 rfl ?_
      refine g_ishl (pc := 40) dX0_drawn_40 ?_
      refine g_ior (pc := 41) dX0_drawn_41 ?_
      refine g_istore_n (pc := 42) (lv2 := [(0, .int l0), (1, .int l1), (2, .int l2), (3, .int (l3 ||| (1 <<< (l5 &&& 31)))), (4, .int (((75 * l4) + 74) % 65537)), (5, .int l5)]) dX0_drawn_42 rfl (Nat.le_of_ble_eq_true rfl) rfl ?_
      first | (exfalso; contradiction) | exact cast (by simp only [if_neg q33]) hJ
set_option maxHeartbeats 4000000 in
set_option maxRecDepth 100000 in
theorem TX1_danceWithin (c : Bool) (k : Nat) (hk : k < 5) (a1 : Nat) (ha1 : SC[a1]? = some (.inl 6)) (w : Wd) (b : Bool) (hR : w.2.2 = RTab b) (Q : Option Value → Wd → Prop) (h : Go SC mX1_danceWithin 2 [(0, .ref (dA (hA c) k)), (1, .ref a1), (2, .int 0)] [] w Q) : Cl SC mX1_danceWithin [.ref (dA (hA c) k), .ref a1] w Q := by
  refine cl_of (by decide) (Nat.le_of_ble_eq_true rfl) ?_
  show Go SC mX1_danceWithin 0 [(0, .ref (dA (hA c) k)), (1, .ref a1)] [] w Q
  refine g_iconst (pc := 0) dX1_danceWithin_0 c_0 ?_
  refine g_istore_n (pc := 1) (lv2 := [(0, .ref (dA (hA c) k)), (1, .ref a1), (2, .int 0)]) dX1_danceWithin_1 rfl (Nat.le_of_ble_eq_true rfl) rfl ?_
  exact h
set_option maxHeartbeats 4000000 in
set_option maxRecDepth 100000 in
theorem BX1_danceWithin_2 (c : Bool) (k : Nat) (hk : k < 5) (a1 : Nat) (ha1 : SC[a1]? = some (.inl 6)) (l2 : Int32) (w : Wd) (b : Bool) (hR : w.2.2 = RTab b) (Q : Option Value → Wd → Prop) (h : (((wi w (dA (hA c) k) 1) ≤ l2 → Q (some (.int 1)) w) ∧ (¬ ((wi w (dA (hA c) k) 1) ≤ l2) → (((vXX7_isTooGreat (wi (wXX7_step a1 (gf w (dA (hA c) k + 1) 12 l2) w) a1 0) (wi (wXX7_step a1 (gf w (dA (hA c) k + 1) 12 l2) w) a1 1)) = 0 → Go SC mX1_danceWithin 2 [(0, .ref (dA (hA c) k)), (1, .ref a1), (2, .int (l2 + 1))] [] (wXX7_step a1 (gf w (dA (hA c) k + 1) 12 l2) w) Q) ∧ (¬ ((vXX7_isTooGreat (wi (wXX7_step a1 (gf w (dA (hA c) k + 1) 12 l2) w) a1 0) (wi (wXX7_step a1 (gf w (dA (hA c) k + 1) 12 l2) w) a1 1)) = 0) → Q (some (.int 0)) (wXX7_step a1 (gf w (dA (hA c) k + 1) 12 l2) w)))))) : Go SC mX1_danceWithin 2 [(0, .ref (dA (hA c) k)), (1, .ref a1), (2, .int l2)] [] w Q := by
  refine g_iload_n (pc := 2) dX1_danceWithin_2 rfl 2 rfl ?_
  refine g_aload_n (pc := 3) dX1_danceWithin_3 rfl 0 rfl ?_
  refine g_getI (pc := 4) (a := (dA (hA c) k)) dX1_danceWithin_4 rfl fX1_22 (sh_d c hk) ?_
  refine g_icmp_ge (pc := 7) (tgt := 44) dX1_danceWithin_7 (by decide) (fun q => ?_) (fun q => ?_)
  · have h := h.1 q
    refine g_iconst (pc := 44) dX1_danceWithin_44 c_1 ?_
    exact g_bret (pc := 45) dX1_danceWithin_45 rfl (Or.inr rfl) h
  · have h := h.2 q
    refine g_aload_n (pc := 10) dX1_danceWithin_10 rfl 1 rfl ?_
    refine g_aload_n (pc := 11) dX1_danceWithin_11 rfl 0 rfl ?_
    refine g_getR (pc := 12) (a := (dA (hA c) k)) (b := (dA (hA c) k + 1)) dX1_danceWithin_12 rfl fX1_9 (sh_d c hk) (rd_0 hR c hk) ?_
    refine g_iload_n (pc := 15) dX1_danceWithin_15 rfl 2 rfl ?_
    refine g_callS (pc := 16) (M' := mX10_at) (n := 2) (as := [.ref (dA (hA c) k + 1), .int l2]) (st := [.ref a1]) dX1_danceWithin_16 rfl kX1_32 sX10_at (Nat.le_of_ble_eq_true rfl) rfl rfl (Nat.le_of_ble_eq_true rfl) ?_
    refine h_at (a := (dA (hA c) k + 1)) (n := 12) (i := l2) (w := w) (sh_dr c hk) (Nat.le_of_ble_eq_true rfl) ?_
    show Go SC mX1_danceWithin 19 [(0, .ref (dA (hA c) k)), (1, .ref a1), (2, .int l2)] [.int (gf w (dA (hA c) k + 1) 12 l2), .ref a1] w Q
    refine g_callV (pc := 19) (M' := mX7_step) (n := 1) (a := a1) (as := [.int (gf w (dA (hA c) k + 1) 12 l2)]) (st := []) dX1_danceWithin_19 rfl kX1_44 vX7_step (Nat.le_of_ble_eq_true rfl) ha1 qX7 rfl rfl (Nat.le_of_ble_eq_true rfl) ?_
    refine zX7_step (t := a1) (a1 := (gf w (dA (hA c) k + 1) 12 l2)) (w := w) (b := b) (hR := hR) (ht := ha1) ?_
    show Go SC mX1_danceWithin 22 [(0, .ref (dA (hA c) k)), (1, .ref a1), (2, .int l2)] [] (wXX7_step a1 (gf w (dA (hA c) k + 1) 12 l2) w) Q
    refine g_aload_n (pc := 22) dX1_danceWithin_22 rfl 1 rfl ?_
    refine g_getI (pc := 23) (a := a1) dX1_danceWithin_23 rfl fX1_48 ha1 ?_
    refine g_aload_n (pc := 26) dX1_danceWithin_26 rfl 1 rfl ?_
    refine g_getI (pc := 27) (a := a1) dX1_danceWithin_27 rfl fX1_51 ha1 ?_
    refine g_callS (pc := 30) (M' := mX7_isTooGreat) (n := 2) (as := [.int (wi (wXX7_step a1 (gf w (dA (hA c) k + 1) 12 l2) w) a1 0), .int (wi (wXX7_step a1 (gf w (dA (hA c) k + 1) 12 l2) w) a1 1)]) (st := []) dX1_danceWithin_30 rfl kX1_54 sX7_isTooGreat (Nat.le_of_ble_eq_true rfl) rfl rfl (Nat.le_of_ble_eq_true rfl) ?_
    refine zX7_isTooGreat (a1 := (wi (wXX7_step a1 (gf w (dA (hA c) k + 1) 12 l2) w) a1 0)) (a2 := (wi (wXX7_step a1 (gf w (dA (hA c) k + 1) 12 l2) w) a1 1)) (w := wXX7_step a1 (gf w (dA (hA c) k + 1) 12 l2) w) (b := b) (hR := hR) ?_
    show Go SC mX1_danceWithin 33 [(0, .ref (dA (hA c) k)), (1, .ref a1), (2, .int l2)] [.int (vXX7_isTooGreat (wi (wXX7_step a1 (gf w (dA (hA c) k + 1) 12 l2) w) a1 0) (wi (wXX7_step a1 (gf w (dA (hA c) k + 1) 12 l2) w) a1 1))] (wXX7_step a1 (gf w (dA (hA c) k + 1) 12 l2) w) Q
    refine g_if_eq (pc := 33) (tgt := 38) dX1_danceWithin_33 (by decide) (fun q => ?_) (fun q => ?_)
    · have h := h.1 q
      refine g_iinc (pc := 38) (v := l2 + 1) (lv2 := [(0, .ref (dA (hA c) k)), (1, .ref a1), (2, .int (l2 + 1))]) dX1_danceWithin_38 2 rfl (Nat.le_of_ble_eq_true rfl) rfl rfl ?_
      refine g_goto (pc := 41) (tgt := 2) dX1_danceWithin_41 (by decide) ?_
      exact h
    · have h := h.2 q
      refine g_iconst (pc := 36) dX1_danceWithin_36 c_0 ?_
      exact g_bret (pc := 37) dX1_danceWithin_37 rfl (Or.inl rfl) h
set_option maxHeartbeats 4000000 in
set_option maxRecDepth 100000 in
theorem TX2_begin (c : Bool) (w : Wd) (b : Bool) (hR : w.2.2 = RTab b) (Q : Option Value → Wd → Prop) (h : Go SC mX2_begin 2 [(0, .ref (hA c)), (1, .int 0)] [] w Q) : Cl SC mX2_begin [.ref (hA c)] w Q := by
  refine cl_of (by decide) (Nat.le_of_ble_eq_true rfl) ?_
  show Go SC mX2_begin 0 [(0, .ref (hA c))] [] w Q
  refine g_iconst (pc := 0) dX2_begin_0 c_0 ?_
  refine g_istore_n (pc := 1) (lv2 := [(0, .ref (hA c)), (1, .int 0)]) dX2_begin_1 rfl (Nat.le_of_ble_eq_true rfl) rfl ?_
  exact h
set_option maxHeartbeats 4000000 in
set_option maxRecDepth 100000 in
theorem BX2_begin_2 (c : Bool) (l1 : Int32) (w : Wd) (b : Bool) (hR : w.2.2 = RTab b) (Q : Option Value → Wd → Prop) (h : (((wi w (hA c) 2) ≤ l1 → Q none w) ∧ (¬ ((wi w (hA c) 2) ≤ l1) → ((0 ≤ l1 ∧ l1 < wi w (hA c) 2 ∧ l1 < 5 → ClV SC mX1_walk [.ref (dA (hA c) l1.toNatClampNeg), .int (wi w (dA (hA c) l1.toNatClampNeg) 1), .int 0, .ref (dA (hA c) l1.toNatClampNeg + 2)] w (fun w2 => w2.2.2 = RTab b ∧ Go SC mX2_begin 2 [(0, .ref (hA c)), (1, .int (l1 + 1))] [] w2 Q)) ∧ (¬ (0 ≤ l1 ∧ l1 < wi w (hA c) 2 ∧ l1 < 5) → Go SC mX2_begin 2 [(0, .ref (hA c)), (1, .int (l1 + 1))] [] w Q))))) : Go SC mX2_begin 2 [(0, .ref (hA c)), (1, .int l1)] [] w Q := by
  refine g_iload_n (pc := 2) dX2_begin_2 rfl 1 rfl ?_
  refine g_aload_n (pc := 3) dX2_begin_3 rfl 0 rfl ?_
  refine g_getI (pc := 4) (a := (hA c)) dX2_begin_4 rfl fX2_41 (sh_h c) ?_
  refine g_icmp_ge (pc := 7) (tgt := 39) dX2_begin_7 (by decide) (fun q => ?_) (fun q => ?_)
  · have h := h.1 q
    exact g_vret (pc := 39) dX2_begin_39 rfl h
  · have h := h.2 q
    refine g_aload_n (pc := 10) dX2_begin_10 rfl 0 rfl ?_
    refine g_iload_n (pc := 11) dX2_begin_11 rfl 1 rfl ?_
    refine g_callV (pc := 12) (M' := mX2_danceAt) (n := 1) (a := (hA c)) (as := [.int l1]) (st := []) dX2_begin_12 rfl kX2_50 vX2_danceAt (Nat.le_of_ble_eq_true rfl) (sh_h c) qX2 rfl rfl (Nat.le_of_ble_eq_true rfl) ?_
    refine h_danceAt (c := c) (d := l1) (w := w) (hR := hR) (fun qd1 => ?_) (fun qd1 => ?_)
    · have h := h.1 qd1
      show Go SC mX2_begin 15 [(0, .ref (hA c)), (1, .int l1)] [.ref (dA (hA c) l1.toNatClampNeg)] w Q
      refine g_astore_n (pc := 15) (lv2 := [(0, .ref (hA c)), (1, .int l1), (2, .ref (dA (hA c) l1.toNatClampNeg))]) dX2_begin_15 rfl (Nat.le_of_ble_eq_true rfl) rfl ?_
      refine g_aload_n (pc := 16) dX2_begin_16 rfl 2 rfl ?_
      refine g_ifnullR (pc := 17) dX2_begin_17 ?_
      refine g_aload_n (pc := 20) dX2_begin_20 rfl 2 rfl ?_
      refine g_aload_n (pc := 21) dX2_begin_21 rfl 2 rfl ?_
      refine g_getI (pc := 22) (a := (dA (hA c) l1.toNatClampNeg)) dX2_begin_22 rfl fX2_54 (sh_d c (lt5 qd1.1 qd1.2.2)) ?_
      refine g_iconst (pc := 25) dX2_begin_25 c_0 ?_
      refine g_aload_n (pc := 26) dX2_begin_26 rfl 2 rfl ?_
      refine g_getR (pc := 27) (a := (dA (hA c) l1.toNatClampNeg)) (b := (dA (hA c) l1.toNatClampNeg + 2)) dX2_begin_27 rfl fX2_57 (sh_d c (lt5 qd1.1 qd1.2.2)) (rd_4 hR c (lt5 qd1.1 qd1.2.2)) ?_
      refine g_callV (pc := 30) (M' := mX1_walk) (n := 3) (a := (dA (hA c) l1.toNatClampNeg)) (as := [.int (wi w (dA (hA c) l1.toNatClampNeg) 1), .int 0, .ref (dA (hA c) l1.toNatClampNeg + 2)]) (st := []) dX2_begin_30 rfl kX2_61 vX1_walk (Nat.le_of_ble_eq_true rfl) (sh_d c (lt5 qd1.1 qd1.2.2)) qX1 rfl rfl (Nat.le_of_ble_eq_true rfl) ?_
      refine cl_mono (fun r w2 hr => ?_) h
      obtain ⟨rfl, hw2, h⟩ := hr
      show Go SC mX2_begin 33 [(0, .ref (hA c)), (1, .int l1), (2, .ref (dA (hA c) l1.toNatClampNeg))] [] w2 Q
      refine g_iinc (pc := 33) (v := l1 + 1) (lv2 := [(0, .ref (hA c)), (1, .int (l1 + 1)), (2, .ref (dA (hA c) l1.toNatClampNeg))]) dX2_begin_33 1 rfl (Nat.le_of_ble_eq_true rfl) rfl rfl ?_
      refine g_goto (pc := 36) (tgt := 2) dX2_begin_36 (by decide) ?_
      refine g_sub (lv2 := [(0, .ref (hA c)), (1, .int (l1 + 1))]) [0, 1] rfl ?_
      exact h
    · have h := h.2 qd1
      show Go SC mX2_begin 15 [(0, .ref (hA c)), (1, .int l1)] [.null] w Q
      refine g_astore_nN (pc := 15) (lv2 := [(0, .ref (hA c)), (1, .int l1), (2, .null)]) dX2_begin_15 rfl (Nat.le_of_ble_eq_true rfl) rfl ?_
      refine g_aload_nN (pc := 16) dX2_begin_16 rfl 2 rfl ?_
      refine g_ifnullN (pc := 17) (tgt := 33) dX2_begin_17 (by decide) ?_
      refine g_iinc (pc := 33) (v := l1 + 1) (lv2 := [(0, .ref (hA c)), (1, .int (l1 + 1)), (2, .null)]) dX2_begin_33 1 rfl (Nat.le_of_ble_eq_true rfl) rfl rfl ?_
      refine g_goto (pc := 36) (tgt := 2) dX2_begin_36 (by decide) ?_
      refine g_sub (lv2 := [(0, .ref (hA c)), (1, .int (l1 + 1))]) [0, 1] rfl ?_
      exact h
set_option maxHeartbeats 4000000 in
set_option maxRecDepth 100000 in
theorem TX2_isUnsure (c : Bool) (a1 : Int32) (a2 : Int32) (w : Wd) (b : Bool) (hR : w.2.2 = RTab b) (Q : Option Value → Wd → Prop) (h : Go SC mX2_isUnsure 2 [(0, .ref (hA c)), (1, .int a1), (2, .int a2), (3, .int 0)] [] w Q) : Cl SC mX2_isUnsure [.ref (hA c), .int a1, .int a2] w Q := by
  refine cl_of (by decide) (Nat.le_of_ble_eq_true rfl) ?_
  show Go SC mX2_isUnsure 0 [(0, .ref (hA c)), (1, .int a1), (2, .int a2)] [] w Q
  refine g_iconst (pc := 0) dX2_isUnsure_0 c_0 ?_
  refine g_istore_n (pc := 1) (lv2 := [(0, .ref (hA c)), (1, .int a1), (2, .int a2), (3, .int 0)]) dX2_isUnsure_1 rfl (Nat.le_of_ble_eq_true rfl) rfl ?_
  exact h
set_option maxHeartbeats 4000000 in
set_option maxRecDepth 100000 in
theorem BX2_isUnsure_2 (c : Bool) (l1 : Int32) (l2 : Int32) (l3 : Int32) (w : Wd) (b : Bool) (hR : w.2.2 = RTab b) (Q : Option Value → Wd → Prop) (h : (((wi w (hA c) 5) ≤ l3 → Q (some (.int 0)) w) ∧ (¬ ((wi w (hA c) 5) ≤ l3) → (((gf w (hA c + 17) 4 l3) = l1 → (((gf w (hA c + 18) 4 l3) = l2 → Q (some (.int 1)) w) ∧ (¬ ((gf w (hA c + 18) 4 l3) = l2) → Go SC mX2_isUnsure 2 [(0, .ref (hA c)), (1, .int l1), (2, .int l2), (3, .int (l3 + 1))] [] w Q))) ∧ (¬ ((gf w (hA c + 17) 4 l3) = l1) → Go SC mX2_isUnsure 2 [(0, .ref (hA c)), (1, .int l1), (2, .int l2), (3, .int (l3 + 1))] [] w Q))))) : Go SC mX2_isUnsure 2 [(0, .ref (hA c)), (1, .int l1), (2, .int l2), (3, .int l3)] [] w Q := by
  refine g_iload_n (pc := 2) dX2_isUnsure_2 rfl 3 rfl ?_
  refine g_aload_n (pc := 3) dX2_isUnsure_3 rfl 0 rfl ?_
  refine g_getI (pc := 4) (a := (hA c)) dX2_isUnsure_4 rfl fX2_44 (sh_h c) ?_
  refine g_icmp_ge (pc := 7) (tgt := 42) dX2_isUnsure_7 (by decide) (fun q => ?_) (fun q => ?_)
  · have h := h.1 q
    refine g_iconst (pc := 42) dX2_isUnsure_42 c_0 ?_
    exact g_bret (pc := 43) dX2_isUnsure_43 rfl (Or.inl rfl) h
  · have h := h.2 q
    refine g_aload_n (pc := 10) dX2_isUnsure_10 rfl 0 rfl ?_
    refine g_getR (pc := 11) (a := (hA c)) (b := (hA c + 17)) dX2_isUnsure_11 rfl fX2_18 (sh_h c) (rh_3 hR c) ?_
    refine g_iload_n (pc := 14) dX2_isUnsure_14 rfl 3 rfl ?_
    refine g_callS (pc := 15) (M' := mX10_at) (n := 2) (as := [.ref (hA c + 17), .int l3]) (st := []) dX2_isUnsure_15 rfl kX2_65 sX10_at (Nat.le_of_ble_eq_true rfl) rfl rfl (Nat.le_of_ble_eq_true rfl) ?_
    refine h_at (a := (hA c + 17)) (n := 4) (i := l3) (w := w) (sh_h17 c) (Nat.le_of_ble_eq_true rfl) ?_
    show Go SC mX2_isUnsure 18 [(0, .ref (hA c)), (1, .int l1), (2, .int l2), (3, .int l3)] [.int (gf w (hA c + 17) 4 l3)] w Q
    refine g_iload_n (pc := 18) dX2_isUnsure_18 rfl 1 rfl ?_
    refine g_icmp_ne (pc := 19) (tgt := 36) dX2_isUnsure_19 (by decide) (fun q => ?_) (fun q => ?_)
    · have h := h.2 q
      refine g_iinc (pc := 36) (v := l3 + 1) (lv2 := [(0, .ref (hA c)), (1, .int l1), (2, .int l2), (3, .int (l3 + 1))]) dX2_isUnsure_36 3 rfl (Nat.le_of_ble_eq_true rfl) rfl rfl ?_
      refine g_goto (pc := 39) (tgt := 2) dX2_isUnsure_39 (by decide) ?_
      exact h
    · have h := h.1 q
      refine g_aload_n (pc := 22) dX2_isUnsure_22 rfl 0 rfl ?_
      refine g_getR (pc := 23) (a := (hA c)) (b := (hA c + 18)) dX2_isUnsure_23 rfl fX2_22 (sh_h c) (rh_4 hR c) ?_
      refine g_iload_n (pc := 26) dX2_isUnsure_26 rfl 3 rfl ?_
      refine g_callS (pc := 27) (M' := mX10_at) (n := 2) (as := [.ref (hA c + 18), .int l3]) (st := []) dX2_isUnsure_27 rfl kX2_65 sX10_at (Nat.le_of_ble_eq_true rfl) rfl rfl (Nat.le_of_ble_eq_true rfl) ?_
      refine h_at (a := (hA c + 18)) (n := 4) (i := l3) (w := w) (sh_h18 c) (Nat.le_of_ble_eq_true rfl) ?_
      show Go SC mX2_isUnsure 30 [(0, .ref (hA c)), (1, .int l1), (2, .int l2), (3, .int l3)] [.int (gf w (hA c + 18) 4 l3)] w Q
      refine g_iload_n (pc := 30) dX2_isUnsure_30 rfl 2 rfl ?_
      refine g_icmp_ne (pc := 31) (tgt := 36) dX2_isUnsure_31 (by decide) (fun q => ?_) (fun q => ?_)
      · have h := h.2 q
        refine g_iinc (pc := 36) (v := l3 + 1) (lv2 := [(0, .ref (hA c)), (1, .int l1), (2, .int l2), (3, .int (l3 + 1))]) dX2_isUnsure_36 3 rfl (Nat.le_of_ble_eq_true rfl) rfl rfl ?_
        refine g_goto (pc := 39) (tgt := 2) dX2_isUnsure_39 (by decide) ?_
        exact h
      · have h := h.1 q
        refine g_iconst (pc := 34) dX2_isUnsure_34 c_1 ?_
        exact g_bret (pc := 35) dX2_isUnsure_35 rfl (Or.inr rfl) h
set_option maxHeartbeats 4000000 in
set_option maxRecDepth 100000 in
theorem TX2_isSeen (c : Bool) (a1 : Int32) (a2 : Int32) (w : Wd) (b : Bool) (hR : w.2.2 = RTab b) (Q : Option Value → Wd → Prop) (h : Go SC mX2_isSeen 2 [(0, .ref (hA c)), (1, .int a1), (2, .int a2), (3, .int 0)] [] w Q) : Cl SC mX2_isSeen [.ref (hA c), .int a1, .int a2] w Q := by
  refine cl_of (by decide) (Nat.le_of_ble_eq_true rfl) ?_
  show Go SC mX2_isSeen 0 [(0, .ref (hA c)), (1, .int a1), (2, .int a2)] [] w Q
  refine g_iconst (pc := 0) dX2_isSeen_0 c_0 ?_
  refine g_istore_n (pc := 1) (lv2 := [(0, .ref (hA c)), (1, .int a1), (2, .int a2), (3, .int 0)]) dX2_isSeen_1 rfl (Nat.le_of_ble_eq_true rfl) rfl ?_
  exact h
set_option maxHeartbeats 4000000 in
set_option maxRecDepth 100000 in
theorem BX2_isSeen_2 (c : Bool) (l1 : Int32) (l2 : Int32) (l3 : Int32) (w : Wd) (b : Bool) (hR : w.2.2 = RTab b) (Q : Option Value → Wd → Prop) (h : (((wi w (hA c) 10) ≤ l3 → Q (some (.int 0)) w) ∧ (¬ ((wi w (hA c) 10) ≤ l3) → (((gf w (hA c + 19) 6 l3) = l1 → (((gf w (hA c + 20) 6 l3) = l2 → Q (some (.int 1)) w) ∧ (¬ ((gf w (hA c + 20) 6 l3) = l2) → Go SC mX2_isSeen 2 [(0, .ref (hA c)), (1, .int l1), (2, .int l2), (3, .int (l3 + 1))] [] w Q))) ∧ (¬ ((gf w (hA c + 19) 6 l3) = l1) → Go SC mX2_isSeen 2 [(0, .ref (hA c)), (1, .int l1), (2, .int l2), (3, .int (l3 + 1))] [] w Q))))) : Go SC mX2_isSeen 2 [(0, .ref (hA c)), (1, .int l1), (2, .int l2), (3, .int l3)] [] w Q := by
  refine g_iload_n (pc := 2) dX2_isSeen_2 rfl 3 rfl ?_
  refine g_aload_n (pc := 3) dX2_isSeen_3 rfl 0 rfl ?_
  refine g_getI (pc := 4) (a := (hA c)) dX2_isSeen_4 rfl fX2_47 (sh_h c) ?_
  refine g_icmp_ge (pc := 7) (tgt := 42) dX2_isSeen_7 (by decide) (fun q => ?_) (fun q => ?_)
  · have h := h.1 q
    refine g_iconst (pc := 42) dX2_isSeen_42 c_0 ?_
    exact g_bret (pc := 43) dX2_isSeen_43 rfl (Or.inl rfl) h
  · have h := h.2 q
    refine g_aload_n (pc := 10) dX2_isSeen_10 rfl 0 rfl ?_
    refine g_getR (pc := 11) (a := (hA c)) (b := (hA c + 19)) dX2_isSeen_11 rfl fX2_25 (sh_h c) (rh_6 hR c) ?_
    refine g_iload_n (pc := 14) dX2_isSeen_14 rfl 3 rfl ?_
    refine g_callS (pc := 15) (M' := mX10_at) (n := 2) (as := [.ref (hA c + 19), .int l3]) (st := []) dX2_isSeen_15 rfl kX2_65 sX10_at (Nat.le_of_ble_eq_true rfl) rfl rfl (Nat.le_of_ble_eq_true rfl) ?_
    refine h_at (a := (hA c + 19)) (n := 6) (i := l3) (w := w) (sh_h19 c) (Nat.le_of_ble_eq_true rfl) ?_
    show Go SC mX2_isSeen 18 [(0, .ref (hA c)), (1, .int l1), (2, .int l2), (3, .int l3)] [.int (gf w (hA c + 19) 6 l3)] w Q
    refine g_iload_n (pc := 18) dX2_isSeen_18 rfl 1 rfl ?_
    refine g_icmp_ne (pc := 19) (tgt := 36) dX2_isSeen_19 (by decide) (fun q => ?_) (fun q => ?_)
    · have h := h.2 q
      refine g_iinc (pc := 36) (v := l3 + 1) (lv2 := [(0, .ref (hA c)), (1, .int l1), (2, .int l2), (3, .int (l3 + 1))]) dX2_isSeen_36 3 rfl (Nat.le_of_ble_eq_true rfl) rfl rfl ?_
      refine g_goto (pc := 39) (tgt := 2) dX2_isSeen_39 (by decide) ?_
      exact h
    · have h := h.1 q
      refine g_aload_n (pc := 22) dX2_isSeen_22 rfl 0 rfl ?_
      refine g_getR (pc := 23) (a := (hA c)) (b := (hA c + 20)) dX2_isSeen_23 rfl fX2_28 (sh_h c) (rh_7 hR c) ?_
      refine g_iload_n (pc := 26) dX2_isSeen_26 rfl 3 rfl ?_
      refine g_callS (pc := 27) (M' := mX10_at) (n := 2) (as := [.ref (hA c + 20), .int l3]) (st := []) dX2_isSeen_27 rfl kX2_65 sX10_at (Nat.le_of_ble_eq_true rfl) rfl rfl (Nat.le_of_ble_eq_true rfl) ?_
      refine h_at (a := (hA c + 20)) (n := 6) (i := l3) (w := w) (sh_h20 c) (Nat.le_of_ble_eq_true rfl) ?_
      show Go SC mX2_isSeen 30 [(0, .ref (hA c)), (1, .int l1), (2, .int l2), (3, .int l3)] [.int (gf w (hA c + 20) 6 l3)] w Q
      refine g_iload_n (pc := 30) dX2_isSeen_30 rfl 2 rfl ?_
      refine g_icmp_ne (pc := 31) (tgt := 36) dX2_isSeen_31 (by decide) (fun q => ?_) (fun q => ?_)
      · have h := h.2 q
        refine g_iinc (pc := 36) (v := l3 + 1) (lv2 := [(0, .ref (hA c)), (1, .int l1), (2, .int l2), (3, .int (l3 + 1))]) dX2_isSeen_36 3 rfl (Nat.le_of_ble_eq_true rfl) rfl rfl ?_
        refine g_goto (pc := 39) (tgt := 2) dX2_isSeen_39 (by decide) ?_
        exact h
      · have h := h.1 q
        refine g_iconst (pc := 34) dX2_isSeen_34 c_1 ?_
        exact g_bret (pc := 35) dX2_isSeen_35 rfl (Or.inr rfl) h
set_option maxHeartbeats 4000000 in
set_option maxRecDepth 100000 in
theorem TX2_leftOut (c : Bool) (a1 : Int32) (a2 : Int32) (w : Wd) (b : Bool) (hR : w.2.2 = RTab b) (Q : Option Value → Wd → Prop) (h : Go SC mX2_leftOut 5 [(0, .ref (hA c)), (1, .int a1), (2, .int a2), (3, .int 0), (4, .int 0)] [] w Q) : Cl SC mX2_leftOut [.ref (hA c), .int a1, .int a2] w Q := by
  refine cl_of (by decide) (Nat.le_of_ble_eq_true rfl) ?_
  show Go SC mX2_leftOut 0 [(0, .ref (hA c)), (1, .int a1), (2, .int a2)] [] w Q
  refine g_iconst (pc := 0) dX2_leftOut_0 c_0 ?_
  refine g_istore_n (pc := 1) (lv2 := [(0, .ref (hA c)), (1, .int a1), (2, .int a2), (3, .int 0)]) dX2_leftOut_1 rfl (Nat.le_of_ble_eq_true rfl) rfl ?_
  refine g_iconst (pc := 2) dX2_leftOut_2 c_0 ?_
  refine g_istore (pc := 3) (lv2 := [(0, .ref (hA c)), (1, .int a1), (2, .int a2), (3, .int 0), (4, .int 0)]) dX2_leftOut_3 (Nat.le_of_ble_eq_true rfl) rfl ?_
  exact h
set_option maxHeartbeats 4000000 in
set_option maxRecDepth 100000 in
theorem BX2_leftOut_5 (c : Bool) (l1 : Int32) (l2 : Int32) (l3 : Int32) (l4 : Int32) (w : Wd) (b : Bool) (hR : w.2.2 = RTab b) (Q : Option Value → Wd → Prop) (h : (((wi w (hA c) 5) ≤ l4 → Q (some (.int l3)) w) ∧ (¬ ((wi w (hA c) 5) ≤ l4) → Go SC mX2_leftOut 5 [(0, .ref (hA c)), (1, .int l1), (2, .int l2), (3, .int (if (vXX10_isIn l2 l4) = 0 then l3 else (if (gf w (hA c + 17) 4 l4) = l1 then l3 ||| (1 <<< ((gf w (hA c + 18) 4 l4) &&& 31)) else l3 : Int32) : Int32)), (4, .int (l4 + 1))] [] w Q))) : Go SC mX2_leftOut 5 [(0, .ref (hA c)), (1, .int l1), (2, .int l2), (3, .int l3), (4, .int l4)] [] w Q := by
  refine g_iload (pc := 5) dX2_leftOut_5 4 rfl ?_
  refine g_aload_n (pc := 7) dX2_leftOut_7 rfl 0 rfl ?_
  refine g_getI (pc := 8) (a := (hA c)) dX2_leftOut_8 rfl fX2_44 (sh_h c) ?_
  refine g_icmp_ge (pc := 11) (tgt := 56) dX2_leftOut_11 (by decide) (fun q => ?_) (fun q => ?_)
  · have h := h.1 q
    refine g_iload_n (pc := 56) dX2_leftOut_56 rfl 3 rfl ?_
    exact g_iret (pc := 57) dX2_leftOut_57 rfl h
  · have h := h.2 q
    refine g_iload_n (pc := 14) dX2_leftOut_14 rfl 2 rfl ?_
    refine g_iload (pc := 15) dX2_leftOut_15 4 rfl ?_
    refine g_callS (pc := 17) (M' := mX10_isIn) (n := 2) (as := [.int l2, .int l4]) (st := []) dX2_leftOut_17 rfl kX2_95 sX10_isIn (Nat.le_of_ble_eq_true rfl) rfl rfl (Nat.le_of_ble_eq_true rfl) ?_
    refine zX10_isIn (a1 := l2) (a2 := l4) (w := w) (b := b) (hR := hR) ?_
    show Go SC mX2_leftOut 20 [(0, .ref (hA c)), (1, .int l1), (2, .int l2), (3, .int l3), (4, .int l4)] [.int (vXX10_isIn l2 l4)] w Q
    have hJ : Go SC mX2_leftOut 50 [(0, .ref (hA c)), (1, .int l1), (2, .int l2), (3, .int (if (vXX10_isIn l2 l4) = 0 then l3 else (if (gf w (hA c + 17) 4 l4) = l1 then l3 ||| (1 <<< ((gf w (hA c + 18) 4 l4) &&& 31)) else l3 : Int32) : Int32)), (4, .int l4)] [] w Q := by
      refine g_iinc (pc := 50) (v := l4 + 1) (lv2 := [(0, .ref (hA c)), (1, .int l1), (2, .int l2), (3, .int (if (vXX10_isIn l2 l4) = 0 then l3 else (if (gf w (hA c + 17) 4 l4) = l1 then l3 ||| (1 <<< ((gf w (hA c + 18) 4 l4) &&& 31)) else l3 : Int32) : Int32)), (4, .int (l4 + 1))]) dX2_leftOut_50 4 rfl (Nat.le_of_ble_eq_true rfl) rfl rfl ?_
      refine g_goto (pc := 53) (tgt := 5) dX2_leftOut_53 (by decide) ?_
      exact h
    refine g_if_eq (pc := 20) (tgt := 50) dX2_leftOut_20 (by decide) (fun q20 => ?_) (fun q20 => ?_)
    · first | (exfalso; contradiction) | exact cast (by simp only [if_pos q20]) hJ
    · refine g_aload_n (pc := 23) dX2_leftOut_23 rfl 0 rfl ?_
      refine g_getR (pc := 24) (a := (hA c)) (b := (hA c + 17)) dX2_leftOut_24 rfl fX2_18 (sh_h c) (rh_3 hR c) ?_
      refine g_iload (pc := 27) dX2_leftOut_27 4 rfl ?_
      refine g_callS (pc := 29) (M' := mX10_at) (n := 2) (as := [.ref (hA c + 17), .int l4]) (st := []) dX2_leftOut_29 rfl kX2_65 sX10_at (Nat.le_of_ble_eq_true rfl) rfl rfl (Nat.le_of_ble_eq_true rfl) ?_
      refine h_at (a := (hA c + 17)) (n := 4) (i := l4) (w := w) (sh_h17 c) (Nat.le_of_ble_eq_true rfl) ?_
      show Go SC mX2_leftOut 32 [(0, .ref (hA c)), (1, .int l1), (2, .int l2), (3, .int l3), (4, .int l4)] [.int (gf w (hA c + 17) 4 l4)] w Q
      refine g_iload_n (pc := 32) dX2_leftOut_32 rfl 1 rfl ?_
      refine g_icmp_ne (pc := 33) (tgt := 50) dX2_leftOut_33 (by decide) (fun q33 => ?_) (fun q33 => ?_)
      · first | (exfalso; contradiction) | exact cast (by simp only [if_neg q20, if_neg q33]) hJ
      · refine g_iload_n (pc := 36) dX2_leftOut_36 rfl 3 rfl ?_
        refine g_iconst (pc := 37) dX2_leftOut_37 c_1 ?_
        refine g_aload_n (pc := 38) dX2_leftOut_38 rfl 0 rfl ?_
        refine g_getR (pc := 39) (a := (hA c)) (b := (hA c + 18)) dX2_leftOut_39 rfl fX2_22 (sh_h c) (rh_4 hR c) ?_
        refine g_iload (pc := 42) dX2_leftOut_42 4 rfl ?_
        refine g_callS (pc := 44) (M' := mX10_at) (n := 2) (as := [.ref (hA c + 18), .int l4]) (st := [.int 1, .int l3]) dX2_leftOut_44 rfl kX2_65 sX10_at (Nat.le_of_ble_eq_true rfl) rfl rfl (Nat.le_of_ble_eq_true rfl) ?_
        refine h_at (a := (hA c + 18)) (n := 4) (i := l4) (w := w) (sh_h18 c) (Nat.le_of_ble_eq_true rfl) ?_
        show Go SC mX2_leftOut 47 [(0, .ref (hA c)), (1, .int l1), (2, .int l2), (3, .int l3), (4, .int l4)] [.int (gf w (hA c + 18) 4 l4), .int 1, .int l3] w Q
        refine g_ishl (pc := 47) dX2_leftOut_47 ?_
        refine g_ior (pc := 48) dX2_leftOut_48 ?_
        refine g_istore_n (pc := 49) (lv2 := [(0, .ref (hA c)), (1, .int l1), (2, .int l2), (3, .int (l3 ||| (1 <<< ((gf w (hA c + 18) 4 l4) &&& 31)))), (4, .int l4)]) dX2_leftOut_49 rfl (Nat.le_of_ble_eq_true rfl) rfl ?_
        first | (exfalso; contradiction) | exact cast (by simp only [if_neg q20, if_pos q33]) hJ
set_option maxHeartbeats 4000000 in
set_option maxRecDepth 100000 in
theorem TX2_wentSo (c : Bool) (a1 : Int32) (a2 : Int32) (a3 : Nat) (ha3 : SC[a3]? = some (.inl 6)) (w : Wd) (b : Bool) (hR : w.2.2 = RTab b) (Q : Option Value → Wd → Prop) (h : ((0 ≤ (gf w (hA c + 19) 6 a1) ∧ (gf w (hA c + 19) 6 a1) < wi w (hA c) 2 ∧ (gf w (hA c + 19) 6 a1) < 5 → ClI SC mX2_leftOut [.ref (hA c), .int (gf w (hA c + 19) 6 a1), .int a2] w (fun x3 w2 => w2.2.2 = RTab b ∧ ClV SC mX1_walk [.ref (dA (hA c) (gf w (hA c + 19) 6 a1).toNatClampNeg), .int (gf w (hA c + 20) 6 a1), .int x3, .ref a3] w2 (fun w4 => w4.2.2 = RTab b ∧ Q (some (.int (if (vXX7_goalOf a3 (gf w4 (hA c + 21) 6 a1) w4) = (gf w4 (hA c + 22) 6 a1) then 1 else 0 : Int32))) w4))) ∧ (¬ (0 ≤ (gf w (hA c + 19) 6 a1) ∧ (gf w (hA c + 19) 6 a1) < wi w (hA c) 2 ∧ (gf w (hA c + 19) 6 a1) < 5) → Q (some (.int 0)) w))) : Cl SC mX2_wentSo [.ref (hA c), .int a1, .int a2, .ref a3] w Q := by
  refine cl_of (by decide) (Nat.le_of_ble_eq_true rfl) ?_
  show Go SC mX2_wentSo 0 [(0, .ref (hA c)), (1, .int a1), (2, .int a2), (3, .ref a3)] [] w Q
  refine g_aload_n (pc := 0) dX2_wentSo_0 rfl 0 rfl ?_
  refine g_getR (pc := 1) (a := (hA c)) (b := (hA c + 19)) dX2_wentSo_1 rfl fX2_25 (sh_h c) (rh_6 hR c) ?_
  refine g_iload_n (pc := 4) dX2_wentSo_4 rfl 1 rfl ?_
  refine g_callS (pc := 5) (M' := mX10_at) (n := 2) (as := [.ref (hA c + 19), .int a1]) (st := []) dX2_wentSo_5 rfl kX2_65 sX10_at (Nat.le_of_ble_eq_true rfl) rfl rfl (Nat.le_of_ble_eq_true rfl) ?_
  refine h_at (a := (hA c + 19)) (n := 6) (i := a1) (w := w) (sh_h19 c) (Nat.le_of_ble_eq_true rfl) ?_
  show Go SC mX2_wentSo 8 [(0, .ref (hA c)), (1, .int a1), (2, .int a2), (3, .ref a3)] [.int (gf w (hA c + 19) 6 a1)] w Q
  refine g_istore (pc := 8) (lv2 := [(0, .ref (hA c)), (1, .int a1), (2, .int a2), (3, .ref a3), (4, .int (gf w (hA c + 19) 6 a1))]) dX2_wentSo_8 (Nat.le_of_ble_eq_true rfl) rfl ?_
  refine g_aload_n (pc := 10) dX2_wentSo_10 rfl 0 rfl ?_
  refine g_iload (pc := 11) dX2_wentSo_11 4 rfl ?_
  refine g_callV (pc := 13) (M' := mX2_danceAt) (n := 1) (a := (hA c)) (as := [.int (gf w (hA c + 19) 6 a1)]) (st := []) dX2_wentSo_13 rfl kX2_50 vX2_danceAt (Nat.le_of_ble_eq_true rfl) (sh_h c) qX2 rfl rfl (Nat.le_of_ble_eq_true rfl) ?_
  refine h_danceAt (c := c) (d := (gf w (hA c + 19) 6 a1)) (w := w) (hR := hR) (fun qd1 => ?_) (fun qd1 => ?_)
  · have h := h.1 qd1
    show Go SC mX2_wentSo 16 [(0, .ref (hA c)), (1, .int a1), (2, .int a2), (3, .ref a3), (4, .int (gf w (hA c + 19) 6 a1))] [.ref (dA (hA c) (gf w (hA c + 19) 6 a1).toNatClampNeg)] w Q
    refine g_astore (pc := 16) (lv2 := [(0, .ref (hA c)), (1, .int a1), (2, .int a2), (3, .ref a3), (4, .int (gf w (hA c + 19) 6 a1)), (5, .ref (dA (hA c) (gf w (hA c + 19) 6 a1).toNatClampNeg))]) dX2_wentSo_16 (Nat.le_of_ble_eq_true rfl) rfl ?_
    refine g_aload (pc := 18) dX2_wentSo_18 5 rfl ?_
    refine g_ifnonnullR (pc := 20) (tgt := 25) dX2_wentSo_20 (by decide) ?_
    refine g_aload (pc := 25) dX2_wentSo_25 5 rfl ?_
    refine g_aload_n (pc := 27) dX2_wentSo_27 rfl 0 rfl ?_
    refine g_getR (pc := 28) (a := (hA c)) (b := (hA c + 20)) dX2_wentSo_28 rfl fX2_28 (sh_h c) (rh_7 hR c) ?_
    refine g_iload_n (pc := 31) dX2_wentSo_31 rfl 1 rfl ?_
    refine g_callS (pc := 32) (M' := mX10_at) (n := 2) (as := [.ref (hA c + 20), .int a1]) (st := [.ref (dA (hA c) (gf w (hA c + 19) 6 a1).toNatClampNeg)]) dX2_wentSo_32 rfl kX2_65 sX10_at (Nat.le_of_ble_eq_true rfl) rfl rfl (Nat.le_of_ble_eq_true rfl) ?_
    refine h_at (a := (hA c + 20)) (n := 6) (i := a1) (w := w) (sh_h20 c) (Nat.le_of_ble_eq_true rfl) ?_
    show Go SC mX2_wentSo 35 [(0, .ref (hA c)), (1, .int a1), (2, .int a2), (3, .ref a3), (4, .int (gf w (hA c + 19) 6 a1)), (5, .ref (dA (hA c) (gf w (hA c + 19) 6 a1).toNatClampNeg))] [.int (gf w (hA c + 20) 6 a1), .ref (dA (hA c) (gf w (hA c + 19) 6 a1).toNatClampNeg)] w Q
    refine g_aload_n (pc := 35) dX2_wentSo_35 rfl 0 rfl ?_
    refine g_iload (pc := 36) dX2_wentSo_36 4 rfl ?_
    refine g_iload_n (pc := 38) dX2_wentSo_38 rfl 2 rfl ?_
    refine g_callV (pc := 39) (M' := mX2_leftOut) (n := 2) (a := (hA c)) (as := [.int (gf w (hA c + 19) 6 a1), .int a2]) (st := [.int (gf w (hA c + 20) 6 a1), .ref (dA (hA c) (gf w (hA c + 19) 6 a1).toNatClampNeg)]) dX2_wentSo_39 rfl kX2_85 vX2_leftOut (Nat.le_of_ble_eq_true rfl) (sh_h c) qX2 rfl rfl (Nat.le_of_ble_eq_true rfl) ?_
    refine cl_mono (fun r w2 hr => ?_) h
    obtain ⟨x3, rfl, hw2, h⟩ := hr
    show Go SC mX2_wentSo 42 [(0, .ref (hA c)), (1, .int a1), (2, .int a2), (3, .ref a3), (4, .int (gf w (hA c + 19) 6 a1)), (5, .ref (dA (hA c) (gf w (hA c + 19) 6 a1).toNatClampNeg))] [.int x3, .int (gf w (hA c + 20) 6 a1), .ref (dA (hA c) (gf w (hA c + 19) 6 a1).toNatClampNeg)] w2 Q
    refine g_aload_n (pc := 42) dX2_wentSo_42 rfl 3 rfl ?_
    refine g_callV (pc := 43) (M' := mX1_walk) (n := 3) (a := (dA (hA c) (gf w (hA c + 19) 6 a1).toNatClampNeg)) (as := [.int (gf w (hA c + 20) 6 a1), .int x3, .ref a3]) (st := []) dX2_wentSo_43 rfl kX2_61 vX1_walk (Nat.le_of_ble_eq_true rfl) (sh_d c (lt5 qd1.1 qd1.2.2)) qX1 rfl rfl (Nat.le_of_ble_eq_true rfl) ?_
    refine cl_mono (fun r w4 hr => ?_) h
    obtain ⟨rfl, hw4, h⟩ := hr
    show Go SC mX2_wentSo 46 [(0, .ref (hA c)), (1, .int a1), (2, .int a2), (3, .ref a3), (4, .int (gf w (hA c + 19) 6 a1)), (5, .ref (dA (hA c) (gf w (hA c + 19) 6 a1).toNatClampNeg))] [] w4 Q
    refine g_aload_n (pc := 46) dX2_wentSo_46 rfl 3 rfl ?_
    refine g_aload_n (pc := 47) dX2_wentSo_47 rfl 0 rfl ?_
    refine g_getR (pc := 48) (a := (hA c)) (b := (hA c + 21)) dX2_wentSo_48 rfl fX2_31 (sh_h c) (rh_8 hw4 c) ?_
    refine g_iload_n (pc := 51) dX2_wentSo_51 rfl 1 rfl ?_
    refine g_callS (pc := 52) (M' := mX10_at) (n := 2) (as := [.ref (hA c + 21), .int a1]) (st := [.ref a3]) dX2_wentSo_52 rfl kX2_65 sX10_at (Nat.le_of_ble_eq_true rfl) rfl rfl (Nat.le_of_ble_eq_true rfl) ?_
    refine h_at (a := (hA c + 21)) (n := 6) (i := a1) (w := w4) (sh_h21 c) (Nat.le_of_ble_eq_true rfl) ?_
    show Go SC mX2_wentSo 55 [(0, .ref (hA c)), (1, .int a1), (2, .int a2), (3, .ref a3), (4, .int (gf w (hA c + 19) 6 a1)), (5, .ref (dA (hA c) (gf w (hA c + 19) 6 a1).toNatClampNeg))] [.int (gf w4 (hA c + 21) 6 a1), .ref a3] w4 Q
    refine g_callV (pc := 55) (M' := mX7_goalOf) (n := 1) (a := a3) (as := [.int (gf w4 (hA c + 21) 6 a1)]) (st := []) dX2_wentSo_55 rfl kX2_89 vX7_goalOf (Nat.le_of_ble_eq_true rfl) ha3 qX7 rfl rfl (Nat.le_of_ble_eq_true rfl) ?_
    refine zX7_goalOf (t := a3) (a1 := (gf w4 (hA c + 21) 6 a1)) (w := w4) (b := b) (hR := hw4) (ht := ha3) ?_
    show Go SC mX2_wentSo 58 [(0, .ref (hA c)), (1, .int a1), (2, .int a2), (3, .ref a3), (4, .int (gf w (hA c + 19) 6 a1)), (5, .ref (dA (hA c) (gf w (hA c + 19) 6 a1).toNatClampNeg))] [.int (vXX7_goalOf a3 (gf w4 (hA c + 21) 6 a1) w4)] w4 Q
    refine g_aload_n (pc := 58) dX2_wentSo_58 rfl 0 rfl ?_
    refine g_getR (pc := 59) (a := (hA c)) (b := (hA c + 22)) dX2_wentSo_59 rfl fX2_34 (sh_h c) (rh_9 hw4 c) ?_
    refine g_iload_n (pc := 62) dX2_wentSo_62 rfl 1 rfl ?_
    refine g_callS (pc := 63) (M' := mX10_at) (n := 2) (as := [.ref (hA c + 22), .int a1]) (st := [.int (vXX7_goalOf a3 (gf w4 (hA c + 21) 6 a1) w4)]) dX2_wentSo_63 rfl kX2_65 sX10_at (Nat.le_of_ble_eq_true rfl) rfl rfl (Nat.le_of_ble_eq_true rfl) ?_
    refine h_at (a := (hA c + 22)) (n := 6) (i := a1) (w := w4) (sh_h22 c) (Nat.le_of_ble_eq_true rfl) ?_
    show Go SC mX2_wentSo 66 [(0, .ref (hA c)), (1, .int a1), (2, .int a2), (3, .ref a3), (4, .int (gf w (hA c + 19) 6 a1)), (5, .ref (dA (hA c) (gf w (hA c + 19) 6 a1).toNatClampNeg))] [.int (gf w4 (hA c + 22) 6 a1), .int (vXX7_goalOf a3 (gf w4 (hA c + 21) 6 a1) w4)] w4 Q
    have hJ : Go SC mX2_wentSo 74 [(0, .ref (hA c)), (1, .int a1), (2, .int a2), (3, .ref a3), (4, .int (gf w (hA c + 19) 6 a1)), (5, .ref (dA (hA c) (gf w (hA c + 19) 6 a1).toNatClampNeg))] [.int (if (vXX7_goalOf a3 (gf w4 (hA c + 21) 6 a1) w4) = (gf w4 (hA c + 22) 6 a1) then 1 else 0 : Int32)] w4 Q := by
      exact g_bret (pc := 74) dX2_wentSo_74 rfl (z_ite (Or.inr rfl) (Or.inl rfl)) h
    refine g_icmp_ne (pc := 66) (tgt := 73) dX2_wentSo_66 (by decide) (fun q66 => ?_) (fun q66 => ?_)
    · refine g_iconst (pc := 73) dX2_wentSo_73 c_0 ?_
      first | (exfalso; contradiction) | exact cast (by simp only [if_neg q66]) hJ
    · refine g_iconst (pc := 69) dX2_wentSo_69 c_1 ?_
      refine g_goto (pc := 70) (tgt := 74) dX2_wentSo_70 (by decide) ?_
      first | (exfalso; contradiction) | exact cast (by simp only [if_pos q66]) hJ
  · have h := h.2 qd1
    show Go SC mX2_wentSo 16 [(0, .ref (hA c)), (1, .int a1), (2, .int a2), (3, .ref a3), (4, .int (gf w (hA c + 19) 6 a1))] [.null] w Q
    refine g_astoreN (pc := 16) (lv2 := [(0, .ref (hA c)), (1, .int a1), (2, .int a2), (3, .ref a3), (4, .int (gf w (hA c + 19) 6 a1)), (5, .null)]) dX2_wentSo_16 (Nat.le_of_ble_eq_true rfl) rfl ?_
    refine g_aloadN (pc := 18) dX2_wentSo_18 5 rfl ?_
    refine g_ifnonnullN (pc := 20) dX2_wentSo_20 ?_
    refine g_iconst (pc := 23) dX2_wentSo_23 c_0 ?_
    exact g_bret (pc := 24) dX2_wentSo_24 rfl (Or.inl rfl) h
set_option maxHeartbeats 4000000 in
set_option maxRecDepth 100000 in
theorem TX2_isFitting (c : Bool) (a1 : Int32) (a2 : Nat) (ha2 : SC[a2]? = some (.inl 6)) (w : Wd) (b : Bool) (hR : w.2.2 = RTab b) (Q : Option Value → Wd → Prop) (h : Go SC mX2_isFitting 2 [(0, .ref (hA c)), (1, .int a1), (2, .ref a2), (3, .int 0)] [] w Q) : Cl SC mX2_isFitting [.ref (hA c), .int a1, .ref a2] w Q := by
  refine cl_of (by decide) (Nat.le_of_ble_eq_true rfl) ?_
  show Go SC mX2_isFitting 0 [(0, .ref (hA c)), (1, .int a1), (2, .ref a2)] [] w Q
  refine g_iconst (pc := 0) dX2_isFitting_0 c_0 ?_
  refine g_istore_n (pc := 1) (lv2 := [(0, .ref (hA c)), (1, .int a1), (2, .ref a2), (3, .int 0)]) dX2_isFitting_1 rfl (Nat.le_of_ble_eq_true rfl) rfl ?_
  exact h
set_option maxHeartbeats 4000000 in
set_option maxRecDepth 100000 in
theorem BX2_isFitting_2 (c : Bool) (a2 : Nat) (ha2 : SC[a2]? = some (.inl 6)) (l1 : Int32) (l3 : Int32) (w : Wd) (b : Bool) (hR : w.2.2 = RTab b) (Q : Option Value → Wd → Prop) (h : (((wi w (hA c) 10) ≤ l3 → Q (some (.int 1)) w) ∧ (¬ ((wi w (hA c) 10) ≤ l3) → ClI SC mX2_wentSo [.ref (hA c), .int l3, .int l1, .ref a2] w (fun x2 w1 => w1.2.2 = RTab b ∧ ((x2 = 0 → Q (some (.int 0)) w1) ∧ (¬ (x2 = 0) → Go SC mX2_isFitting 2 [(0, .ref (hA c)), (1, .int l1), (2, .ref a2), (3, .int (l3 + 1))] [] w1 Q)))))) : Go SC mX2_isFitting 2 [(0, .ref (hA c)), (1, .int l1), (2, .ref a2), (3, .int l3)] [] w Q := by
  refine g_iload_n (pc := 2) dX2_isFitting_2 rfl 3 rfl ?_
  refine g_aload_n (pc := 3) dX2_isFitting_3 rfl 0 rfl ?_
  refine g_getI (pc := 4) (a := (hA c)) dX2_isFitting_4 rfl fX2_47 (sh_h c) ?_
  refine g_icmp_ge (pc := 7) (tgt := 28) dX2_isFitting_7 (by decide) (fun q => ?_) (fun q => ?_)
  · have h := h.1 q
    refine g_iconst (pc := 28) dX2_isFitting_28 c_1 ?_
    exact g_bret (pc := 29) dX2_isFitting_29 rfl (Or.inr rfl) h
  · have h := h.2 q
    refine g_aload_n (pc := 10) dX2_isFitting_10 rfl 0 rfl ?_
    refine g_iload_n (pc := 11) dX2_isFitting_11 rfl 3 rfl ?_
    refine g_iload_n (pc := 12) dX2_isFitting_12 rfl 1 rfl ?_
    refine g_aload_n (pc := 13) dX2_isFitting_13 rfl 2 rfl ?_
    refine g_callV (pc := 14) (M' := mX2_wentSo) (n := 3) (a := (hA c)) (as := [.int l3, .int l1, .ref a2]) (st := []) dX2_isFitting_14 rfl kX2_81 vX2_wentSo (Nat.le_of_ble_eq_true rfl) (sh_h c) qX2 rfl rfl (Nat.le_of_ble_eq_true rfl) ?_
    refine cl_mono (fun r w1 hr => ?_) h
    obtain ⟨x2, rfl, hw1, h⟩ := hr
    show Go SC mX2_isFitting 17 [(0, .ref (hA c)), (1, .int l1), (2, .ref a2), (3, .int l3)] [.int x2] w1 Q
    refine g_if_ne (pc := 17) (tgt := 22) dX2_isFitting_17 (by decide) (fun q => ?_) (fun q => ?_)
    · have h := h.2 q
      refine g_iinc (pc := 22) (v := l3 + 1) (lv2 := [(0, .ref (hA c)), (1, .int l1), (2, .ref a2), (3, .int (l3 + 1))]) dX2_isFitting_22 3 rfl (Nat.le_of_ble_eq_true rfl) rfl rfl ?_
      refine g_goto (pc := 25) (tgt := 2) dX2_isFitting_25 (by decide) ?_
      exact h
    · have h := h.1 q
      refine g_iconst (pc := 20) dX2_isFitting_20 c_0 ?_
      exact g_bret (pc := 21) dX2_isFitting_21 rfl (Or.inl rfl) h
set_option maxHeartbeats 4000000 in
set_option maxRecDepth 100000 in
theorem TX2_fitting (c : Bool) (a1 : Nat) (ha1 : SC[a1]? = some (.inl 6)) (w : Wd) (b : Bool) (hR : w.2.2 = RTab b) (Q : Option Value → Wd → Prop) (h : Go SC mX2_fitting 4 [(0, .ref (hA c)), (1, .ref a1), (2, .int 0), (3, .int 0)] [] w Q) : Cl SC mX2_fitting [.ref (hA c), .ref a1] w Q := by
  refine cl_of (by decide) (Nat.le_of_ble_eq_true rfl) ?_
  show Go SC mX2_fitting 0 [(0, .ref (hA c)), (1, .ref a1)] [] w Q
  refine g_iconst (pc := 0) dX2_fitting_0 c_0 ?_
  refine g_istore_n (pc := 1) (lv2 := [(0, .ref (hA c)), (1, .ref a1), (2, .int 0)]) dX2_fitting_1 rfl (Nat.le_of_ble_eq_true rfl) rfl ?_
  refine g_iconst (pc := 2) dX2_fitting_2 c_0 ?_
  refine g_istore_n (pc := 3) (lv2 := [(0, .ref (hA c)), (1, .ref a1), (2, .int 0), (3, .int 0)]) dX2_fitting_3 rfl (Nat.le_of_ble_eq_true rfl) rfl ?_
  exact h
set_option maxHeartbeats 4000000 in
set_option maxRecDepth 100000 in
theorem BX2_fitting_4 (c : Bool) (a1 : Nat) (ha1 : SC[a1]? = some (.inl 6)) (l2 : Int32) (l3 : Int32) (w : Wd) (b : Bool) (hR : w.2.2 = RTab b) (Q : Option Value → Wd → Prop) (h : (((vXX2_sets c w) ≤ l3 → Q (some (.int l2)) w) ∧ (¬ ((vXX2_sets c w) ≤ l3) → ClI SC mX2_isFitting [.ref (hA c), .int l3, .ref a1] w (fun x2 w1 => w1.2.2 = RTab b ∧ Go SC mX2_fitting 4 [(0, .ref (hA c)), (1, .ref a1), (2, .int (if x2 = 0 then l2 else l2 ||| (1 <<< (l3 &&& 31)) : Int32)), (3, .int (l3 + 1))] [] w1 Q)))) : Go SC mX2_fitting 4 [(0, .ref (hA c)), (1, .ref a1), (2, .int l2), (3, .int l3)] [] w Q := by
  refine g_iload_n (pc := 4) dX2_fitting_4 rfl 3 rfl ?_
  refine g_aload_n (pc := 5) dX2_fitting_5 rfl 0 rfl ?_
  refine g_callV (pc := 6) (M' := mX2_sets) (n := 0) (a := (hA c)) (as := []) (st := [.int l3]) dX2_fitting_6 rfl kX2_73 vX2_sets (Nat.le_of_ble_eq_true rfl) (sh_h c) qX2 rfl rfl (Nat.le_of_ble_eq_true rfl) ?_
  refine zX2_sets (c := c) (w := w) (b := b) (hR := hR) ?_
  show Go SC mX2_fitting 9 [(0, .ref (hA c)), (1, .ref a1), (2, .int l2), (3, .int l3)] [.int (vXX2_sets c w), .int l3] w Q
  refine g_icmp_ge (pc := 9) (tgt := 33) dX2_fitting_9 (by decide) (fun q => ?_) (fun q => ?_)
  · have h := h.1 q
    refine g_iload_n (pc := 33) dX2_fitting_33 rfl 2 rfl ?_
    exact g_iret (pc := 34) dX2_fitting_34 rfl h
  · have h := h.2 q
    refine g_aload_n (pc := 12) dX2_fitting_12 rfl 0 rfl ?_
    refine g_iload_n (pc := 13) dX2_fitting_13 rfl 3 rfl ?_
    refine g_aload_n (pc := 14) dX2_fitting_14 rfl 1 rfl ?_
    refine g_callV (pc := 15) (M' := mX2_isFitting) (n := 2) (a := (hA c)) (as := [.int l3, .ref a1]) (st := []) dX2_fitting_15 rfl kX2_77 vX2_isFitting (Nat.le_of_ble_eq_true rfl) (sh_h c) qX2 rfl rfl (Nat.le_of_ble_eq_true rfl) ?_
    refine cl_mono (fun r w1 hr => ?_) h
    obtain ⟨x2, rfl, hw1, h⟩ := hr
    show Go SC mX2_fitting 18 [(0, .ref (hA c)), (1, .ref a1), (2, .int l2), (3, .int l3)] [.int x2] w1 Q
    have hJ : Go SC mX2_fitting 27 [(0, .ref (hA c)), (1, .ref a1), (2, .int (if x2 = 0 then l2 else l2 ||| (1 <<< (l3 &&& 31)) : Int32)), (3, .int l3)] [] w1 Q := by
      refine g_iinc (pc := 27) (v := l3 + 1) (lv2 := [(0, .ref (hA c)), (1, .ref a1), (2, .int (if x2 = 0 then l2 else l2 ||| (1 <<< (l3 &&& 31)) : Int32)), (3, .int (l3 + 1))]) dX2_fitting_27 3 rfl (Nat.le_of_ble_eq_true rfl) rfl rfl ?_
      refine g_goto (pc := 30) (tgt := 4) dX2_fitting_30 (by decide) ?_
      exact h
    refine g_if_eq (pc := 18) (tgt := 27) dX2_fitting_18 (by decide) (fun q18 => ?_) (fun q18 => ?_)
    · first | (exfalso; contradiction) | exact cast (by simp only [if_pos q18]) hJ
    · refine g_iload_n (pc := 21) dX2_fitting_21 rfl 2 rfl ?_
      refine g_iconst (pc := 22) dX2_fitting_22 c_1 ?_
      refine g_iload_n (pc := 23) dX2_fitting_23 rfl 3 rfl ?_
      refine g_ishl (pc := 24) dX2_fitting_24 ?_
      refine g_ior (pc := 25) dX2_fitting_25 ?_
      refine g_istore_n (pc := 26) (lv2 := [(0, .ref (hA c)), (1, .ref a1), (2, .int (l2 ||| (1 <<< (l3 &&& 31)))), (3, .int l3)]) dX2_fitting_26 rfl (Nat.le_of_ble_eq_true rfl) rfl ?_
      first | (exfalso; contradiction) | exact cast (by simp only [if_neg q18]) hJ
set_option maxHeartbeats 4000000 in
set_option maxRecDepth 100000 in
theorem TX2_leftBy (c : Bool) (a1 : Int32) (a2 : Int32) (w : Wd) (b : Bool) (hR : w.2.2 = RTab b) (Q : Option Value → Wd → Prop) (h : Go SC mX2_leftBy 5 [(0, .ref (hA c)), (1, .int a1), (2, .int a2), (3, .int 0), (4, .int 0)] [] w Q) : Cl SC mX2_leftBy [.ref (hA c), .int a1, .int a2] w Q := by
  refine cl_of (by decide) (Nat.le_of_ble_eq_true rfl) ?_
  show Go SC mX2_leftBy 0 [(0, .ref (hA c)), (1, .int a1), (2, .int a2)] [] w Q
  refine g_iconst (pc := 0) dX2_leftBy_0 c_0 ?_
  refine g_istore_n (pc := 1) (lv2 := [(0, .ref (hA c)), (1, .int a1), (2, .int a2), (3, .int 0)]) dX2_leftBy_1 rfl (Nat.le_of_ble_eq_true rfl) rfl ?_
  refine g_iconst (pc := 2) dX2_leftBy_2 c_0 ?_
  refine g_istore (pc := 3) (lv2 := [(0, .ref (hA c)), (1, .int a1), (2, .int a2), (3, .int 0), (4, .int 0)]) dX2_leftBy_3 (Nat.le_of_ble_eq_true rfl) rfl ?_
  exact h
set_option maxHeartbeats 4000000 in
set_option maxRecDepth 100000 in
theorem BX2_leftBy_5 (c : Bool) (l1 : Int32) (l2 : Int32) (l3 : Int32) (l4 : Int32) (w : Wd) (b : Bool) (hR : w.2.2 = RTab b) (Q : Option Value → Wd → Prop) (h : (((vXX2_sets c w) ≤ l4 → Q (some (.int (vXJ9_max_7cf53 l3 ((vXJ6_bitCount_0f7a4 l1) - l3)))) w) ∧ (¬ ((vXX2_sets c w) ≤ l4) → Go SC mX2_leftBy 5 [(0, .ref (hA c)), (1, .int l1), (2, .int l2), (3, .int (if (vXX10_isIn l1 l4) = 0 then l3 else (if (vXX10_isIn l4 l2) = 0 then l3 else l3 + 1 : Int32) : Int32)), (4, .int (l4 + 1))] [] w Q))) : Go SC mX2_leftBy 5 [(0, .ref (hA c)), (1, .int l1), (2, .int l2), (3, .int l3), (4, .int l4)] [] w Q := by
  refine g_iload (pc := 5) dX2_leftBy_5 4 rfl ?_
  refine g_aload_n (pc := 7) dX2_leftBy_7 rfl 0 rfl ?_
  refine g_callV (pc := 8) (M' := mX2_sets) (n := 0) (a := (hA c)) (as := []) (st := [.int l4]) dX2_leftBy_8 rfl kX2_73 vX2_sets (Nat.le_of_ble_eq_true rfl) (sh_h c) qX2 rfl rfl (Nat.le_of_ble_eq_true rfl) ?_
  refine zX2_sets (c := c) (w := w) (b := b) (hR := hR) ?_
  show Go SC mX2_leftBy 11 [(0, .ref (hA c)), (1, .int l1), (2, .int l2), (3, .int l3), (4, .int l4)] [.int (vXX2_sets c w), .int l4] w Q
  refine g_icmp_ge (pc := 11) (tgt := 41) dX2_leftBy_11 (by decide) (fun q => ?_) (fun q => ?_)
  · have h := h.1 q
    refine g_iload_n (pc := 41) dX2_leftBy_41 rfl 3 rfl ?_
    refine g_iload_n (pc := 42) dX2_leftBy_42 rfl 1 rfl ?_
    refine g_callS (pc := 43) (M' := mJ6_bitCount_0f7a4) (n := 1) (as := [.int l1]) (st := [.int l3]) dX2_leftBy_43 rfl kX2_103 sJ6_bitCount_0f7a4 (Nat.le_of_ble_eq_true rfl) rfl rfl (Nat.le_of_ble_eq_true rfl) ?_
    refine zJ6_bitCount_0f7a4 (a1 := l1) (w := w) (b := b) (hR := hR) ?_
    show Go SC mX2_leftBy 46 [(0, .ref (hA c)), (1, .int l1), (2, .int l2), (3, .int l3), (4, .int l4)] [.int (vXJ6_bitCount_0f7a4 l1), .int l3] w Q
    refine g_iload_n (pc := 46) dX2_leftBy_46 rfl 3 rfl ?_
    refine g_isub (pc := 47) dX2_leftBy_47 ?_
    refine g_callS (pc := 48) (M' := mJ9_max_7cf53) (n := 2) (as := [.int l3, .int ((vXJ6_bitCount_0f7a4 l1) - l3)]) (st := []) dX2_leftBy_48 rfl kX2_108 sJ9_max_7cf53 (Nat.le_of_ble_eq_true rfl) rfl rfl (Nat.le_of_ble_eq_true rfl) ?_
    refine zJ9_max_7cf53 (a1 := l3) (a2 := ((vXJ6_bitCount_0f7a4 l1) - l3)) (w := w) (b := b) (hR := hR) ?_
    show Go SC mX2_leftBy 51 [(0, .ref (hA c)), (1, .int l1), (2, .int l2), (3, .int l3), (4, .int l4)] [.int (vXJ9_max_7cf53 l3 ((vXJ6_bitCount_0f7a4 l1) - l3))] w Q
    exact g_iret (pc := 51) dX2_leftBy_51 rfl h
  · have h := h.2 q
    refine g_iload_n (pc := 14) dX2_leftBy_14 rfl 1 rfl ?_
    refine g_iload (pc := 15) dX2_leftBy_15 4 rfl ?_
    refine g_callS (pc := 17) (M' := mX10_isIn) (n := 2) (as := [.int l1, .int l4]) (st := []) dX2_leftBy_17 rfl kX2_95 sX10_isIn (Nat.le_of_ble_eq_true rfl) rfl rfl (Nat.le_of_ble_eq_true rfl) ?_
    refine zX10_isIn (a1 := l1) (a2 := l4) (w := w) (b := b) (hR := hR) ?_
    show Go SC mX2_leftBy 20 [(0, .ref (hA c)), (1, .int l1), (2, .int l2), (3, .int l3), (4, .int l4)] [.int (vXX10_isIn l1 l4)] w Q
    have hJ : Go SC mX2_leftBy 35 [(0, .ref (hA c)), (1, .int l1), (2, .int l2), (3, .int (if (vXX10_isIn l1 l4) = 0 then l3 else (if (vXX10_isIn l4 l2) = 0 then l3 else l3 + 1 : Int32) : Int32)), (4, .int l4)] [] w Q := by
      refine g_iinc (pc := 35) (v := l4 + 1) (lv2 := [(0, .ref (hA c)), (1, .int l1), (2, .int l2), (3, .int (if (vXX10_isIn l1 l4) = 0 then l3 else (if (vXX10_isIn l4 l2) = 0 then l3 else l3 + 1 : Int32) : Int32)), (4, .int (l4 + 1))]) dX2_leftBy_35 4 rfl (Nat.le_of_ble_eq_true rfl) rfl rfl ?_
      refine g_goto (pc := 38) (tgt := 5) dX2_leftBy_38 (by decide) ?_
      exact h
    refine g_if_eq (pc := 20) (tgt := 35) dX2_leftBy_20 (by decide) (fun q20 => ?_) (fun q20 => ?_)
    · first | (exfalso; contradiction) | exact cast (by simp only [if_pos q20]) hJ
    · refine g_iload (pc := 23) dX2_leftBy_23 4 rfl ?_
      refine g_iload_n (pc := 25) dX2_leftBy_25 rfl 2 rfl ?_
      refine g_callS (pc := 26) (M' := mX10_isIn) (n := 2) (as := [.int l4, .int l2]) (st := []) dX2_leftBy_26 rfl kX2_95 sX10_isIn (Nat.le_of_ble_eq_true rfl) rfl rfl (Nat.le_of_ble_eq_true rfl) ?_
      refine zX10_isIn (a1 := l4) (a2 := l2) (w := w) (b := b) (hR := hR) ?_
      show Go SC mX2_leftBy 29 [(0, .ref (hA c)), (1, .int l1), (2, .int l2), (3, .int l3), (4, .int l4)] [.int (vXX10_isIn l4 l2)] w Q
      refine g_if_eq (pc := 29) (tgt := 35) dX2_leftBy_29 (by decide) (fun q29 => ?_) (fun q29 => ?_)
      · first | (exfalso; contradiction) | exact cast (by simp only [if_neg q20, if_pos q29]) hJ
      · refine g_iinc (pc := 32) (v := l3 + 1) (lv2 := [(0, .ref (hA c)), (1, .int l1), (2, .int l2), (3, .int (l3 + 1)), (4, .int l4)]) dX2_leftBy_32 3 rfl (Nat.le_of_ble_eq_true rfl) rfl rfl ?_
        first | (exfalso; contradiction) | exact cast (by simp only [if_neg q20, if_neg q29]) hJ
set_option maxHeartbeats 4000000 in
set_option maxRecDepth 100000 in
theorem TX2_bestAsked (c : Bool) (a1 : Int32) (w : Wd) (b : Bool) (hR : w.2.2 = RTab b) (Q : Option Value → Wd → Prop) (h : ((a1 = 0 → Q (some (.int (-2))) w) ∧ (¬ (a1 = 0) → Go SC mX2_bestAsked 16 [(0, .ref (hA c)), (1, .int a1), (2, .int (-2)), (3, .int 1000000), (4, .int 0)] [] w Q))) : Cl SC mX2_bestAsked [.ref (hA c), .int a1] w Q := by
  refine cl_of (by decide) (Nat.le_of_ble_eq_true rfl) ?_
  show Go SC mX2_bestAsked 0 [(0, .ref (hA c)), (1, .int a1)] [] w Q
  refine g_iload_n (pc := 0) dX2_bestAsked_0 rfl 1 rfl ?_
  refine g_if_ne (pc := 1) (tgt := 7) dX2_bestAsked_1 (by decide) (fun q => ?_) (fun q => ?_)
  · have h := h.2 q
    refine g_bipush (pc := 7) (v := (-2)) dX2_bestAsked_7 (by decide) ?_
    refine g_istore_n (pc := 9) (lv2 := [(0, .ref (hA c)), (1, .int a1), (2, .int (-2))]) dX2_bestAsked_9 rfl (Nat.le_of_ble_eq_true rfl) rfl ?_
    refine g_ldc (pc := 10) dX2_bestAsked_10 rfl nX2_99 ?_
    refine g_istore_n (pc := 12) (lv2 := [(0, .ref (hA c)), (1, .int a1), (2, .int (-2)), (3, .int 1000000)]) dX2_bestAsked_12 rfl (Nat.le_of_ble_eq_true rfl) rfl ?_
    refine g_iconst (pc := 13) dX2_bestAsked_13 c_0 ?_
    refine g_istore (pc := 14) (lv2 := [(0, .ref (hA c)), (1, .int a1), (2, .int (-2)), (3, .int 1000000), (4, .int 0)]) dX2_bestAsked_14 (Nat.le_of_ble_eq_true rfl) rfl ?_
    exact h
  · have h := h.1 q
    refine g_bipush (pc := 4) (v := (-2)) dX2_bestAsked_4 (by decide) ?_
    exact g_iret (pc := 6) dX2_bestAsked_6 rfl h
set_option maxHeartbeats 4000000 in
set_option maxRecDepth 100000 in
theorem BX2_bestAsked_16 (c : Bool) (l1 : Int32) (l2 : Int32) (l3 : Int32) (l4 : Int32) (w : Wd) (b : Bool) (hR : w.2.2 = RTab b) (Q : Option Value → Wd → Prop) (h : (((wi w (hA c) 5) ≤ l4 → Q (some (.int l2)) w) ∧ (¬ ((wi w (hA c) 5) ≤ l4) → ClI SC mX2_leftBy [.ref (hA c), .int l1, .int l4] w (fun x2 w1 => w1.2.2 = RTab b ∧ Go SC mX2_bestAsked 16 [(0, .ref (hA c)), (1, .int l1), (2, .int (if l3 ≤ x2 then l2 else l4 : Int32)), (3, .int (if l3 ≤ x2 then l3 else x2 : Int32)), (4, .int (l4 + 1))] [] w1 Q)))) : Go SC mX2_bestAsked 16 [(0, .ref (hA c)), (1, .int l1), (2, .int l2), (3, .int l3), (4, .int l4)] [] w Q := by
  refine g_iload (pc := 16) dX2_bestAsked_16 4 rfl ?_
  refine g_aload_n (pc := 18) dX2_bestAsked_18 rfl 0 rfl ?_
  refine g_getI (pc := 19) (a := (hA c)) dX2_bestAsked_19 rfl fX2_44 (sh_h c) ?_
  refine g_icmp_ge (pc := 22) (tgt := 52) dX2_bestAsked_22 (by decide) (fun q => ?_) (fun q => ?_)
  · have h := h.1 q
    refine g_iload_n (pc := 52) dX2_bestAsked_52 rfl 2 rfl ?_
    exact g_iret (pc := 53) dX2_bestAsked_53 rfl h
  · have h := h.2 q
    refine g_aload_n (pc := 25) dX2_bestAsked_25 rfl 0 rfl ?_
    refine g_iload_n (pc := 26) dX2_bestAsked_26 rfl 1 rfl ?_
    refine g_iload (pc := 27) dX2_bestAsked_27 4 rfl ?_
    refine g_callV (pc := 29) (M' := mX2_leftBy) (n := 2) (a := (hA c)) (as := [.int l1, .int l4]) (st := []) dX2_bestAsked_29 rfl kX2_100 vX2_leftBy (Nat.le_of_ble_eq_true rfl) (sh_h c) qX2 rfl rfl (Nat.le_of_ble_eq_true rfl) ?_
    refine cl_mono (fun r w1 hr => ?_) h
    obtain ⟨x2, rfl, hw1, h⟩ := hr
    show Go SC mX2_bestAsked 32 [(0, .ref (hA c)), (1, .int l1), (2, .int l2), (3, .int l3), (4, .int l4)] [.int x2] w1 Q
    refine g_istore (pc := 32) (lv2 := [(0, .ref (hA c)), (1, .int l1), (2, .int l2), (3, .int l3), (4, .int l4), (5, .int x2)]) dX2_bestAsked_32 (Nat.le_of_ble_eq_true rfl) rfl ?_
    refine g_iload (pc := 34) dX2_bestAsked_34 5 rfl ?_
    refine g_iload_n (pc := 36) dX2_bestAsked_36 rfl 3 rfl ?_
    have hJ : Go SC mX2_bestAsked 46 [(0, .ref (hA c)), (1, .int l1), (2, .int (if l3 ≤ x2 then l2 else l4 : Int32)), (3, .int (if l3 ≤ x2 then l3 else x2 : Int32)), (4, .int l4), (5, .int x2)] [] w1 Q := by
      refine g_iinc (pc := 46) (v := l4 + 1) (lv2 := [(0, .ref (hA c)), (1, .int l1), (2, .int (if l3 ≤ x2 then l2 else l4 : Int32)), (3, .int (if l3 ≤ x2 then l3 else x2 : Int32)), (4, .int (l4 + 1)), (5, .int x2)]) dX2_bestAsked_46 4 rfl (Nat.le_of_ble_eq_true rfl) rfl rfl ?_
      refine g_goto (pc := 49) (tgt := 16) dX2_bestAsked_49 (by decide) ?_
      refine g_sub (lv2 := [(0, .ref (hA c)), (1, .int l1), (2, .int (if l3 ≤ x2 then l2 else l4 : Int32)), (3, .int (if l3 ≤ x2 then l3 else x2 : Int32)), (4, .int (l4 + 1))]) [0, 1, 2, 3, 4] rfl ?_
      exact h
    refine g_icmp_ge (pc := 37) (tgt := 46) dX2_bestAsked_37 (by decide) (fun q37 => ?_) (fun q37 => ?_)
    · first | (exfalso; contradiction) | exact cast (by simp only [if_pos q37]) hJ
    · refine g_iload (pc := 40) dX2_bestAsked_40 5 rfl ?_
      refine g_istore_n (pc := 42) (lv2 := [(0, .ref (hA c)), (1, .int l1), (2, .int l2), (3, .int x2), (4, .int l4), (5, .int x2)]) dX2_bestAsked_42 rfl (Nat.le_of_ble_eq_true rfl) rfl ?_
      refine g_iload (pc := 43) dX2_bestAsked_43 4 rfl ?_
      refine g_istore_n (pc := 45) (lv2 := [(0, .ref (hA c)), (1, .int l1), (2, .int l4), (3, .int x2), (4, .int l4), (5, .int x2)]) dX2_bestAsked_45 rfl (Nat.le_of_ble_eq_true rfl) rfl ?_
      first | (exfalso; contradiction) | exact cast (by simp only [if_neg q37]) hJ
set_option maxHeartbeats 4000000 in
set_option maxRecDepth 100000 in
theorem TX3_climb (a1 : Int32) (a2 : Int32) (w : Wd) (b : Bool) (hR : w.2.2 = RTab b) (Q : Option Value → Wd → Prop) (h : Go SC mX3_climb 18 [(0, .ref 61), (1, .int a1), (2, .int a2), (3, .int 1), (4, .int a1), (5, .int 0)] [] (si (si w 61 0 0) 61 1 1) Q) : Cl SC mX3_climb [.ref 61, .int a1, .int a2] w Q := by
  refine cl_of (by decide) (Nat.le_of_ble_eq_true rfl) ?_
  show Go SC mX3_climb 0 [(0, .ref 61), (1, .int a1), (2, .int a2)] [] w Q
  refine g_aload_n (pc := 0) dX3_climb_0 rfl 0 rfl ?_
  refine g_iconst (pc := 1) dX3_climb_1 c_0 ?_
  refine g_putI (pc := 2) dX3_climb_2 rfl fX3_9 pX3_0 rfl ?_
  refine g_aload_n (pc := 5) dX3_climb_5 rfl 0 rfl ?_
  refine g_iconst (pc := 6) dX3_climb_6 c_1 ?_
  refine g_putI (pc := 7) dX3_climb_7 rfl fX3_15 pX3_1 rfl ?_
  refine g_iconst (pc := 10) dX3_climb_10 c_1 ?_
  refine g_istore_n (pc := 11) (lv2 := [(0, .ref 61), (1, .int a1), (2, .int a2), (3, .int 1)]) dX3_climb_11 rfl (Nat.le_of_ble_eq_true rfl) rfl ?_
  refine g_iload_n (pc := 12) dX3_climb_12 rfl 1 rfl ?_
  refine g_istore (pc := 13) (lv2 := [(0, .ref 61), (1, .int a1), (2, .int a2), (3, .int 1), (4, .int a1)]) dX3_climb_13 (Nat.le_of_ble_eq_true rfl) rfl ?_
  refine g_iconst (pc := 15) dX3_climb_15 c_0 ?_
  refine g_istore (pc := 16) (lv2 := [(0, .ref 61), (1, .int a1), (2, .int a2), (3, .int 1), (4, .int a1), (5, .int 0)]) dX3_climb_16 (Nat.le_of_ble_eq_true rfl) rfl ?_
  exact h
set_option maxHeartbeats 4000000 in
set_option maxRecDepth 100000 in
theorem BX3_climb_18  (l1 : Int32) (l2 : Int32) (l3 : Int32) (l4 : Int32) (l5 : Int32) (w : Wd) (b : Bool) (hR : w.2.2 = RTab b) (Q : Option Value → Wd → Prop) (h : ((1000000 ≤ l5 → Q (some (.int l5)) w) ∧ (¬ (1000000 ≤ l5) → ((l2 ≤ l5 → Q (some (.int l5)) w) ∧ (¬ (l2 ≤ l5) → (((wi w 61 1) ≤ (wi w 61 0) → Q (some (.int l5)) w) ∧ (¬ ((wi w 61 1) ≤ (wi w 61 0)) → ((l4 ≤ 0 → Q (some (.int l5)) w) ∧ (¬ (l4 ≤ 0) → ¬ l4 = 0 ∧ Go SC mX3_climb 18 [(0, .ref 61), (1, .int l1), (2, .int l2), (3, .int ((((l1 + (wi w 61 1)) / l4) * l3) - (wi w 61 0))), (4, .int ((((l1 + (wi w 61 1)) / l4) * l4) - (wi w 61 1))), (5, .int (l5 + 1))] [] (si (si w 61 0 l3) 61 1 l4) Q))))))))) : Go SC mX3_climb 18 [(0, .ref 61), (1, .int l1), (2, .int l2), (3, .int l3), (4, .int l4), (5, .int l5)] [] w Q := by
  refine g_iload (pc := 18) dX3_climb_18 5 rfl ?_
  refine g_ldc (pc := 20) dX3_climb_20 rfl nX3_18 ?_
  refine g_icmp_ge (pc := 22) (tgt := 105) dX3_climb_22 (by decide) (fun q => ?_) (fun q => ?_)
  · have h := h.1 q
    refine g_iload (pc := 105) dX3_climb_105 5 rfl ?_
    exact g_iret (pc := 107) dX3_climb_107 rfl h
  · have h := h.2 q
    refine g_iload (pc := 25) dX3_climb_25 5 rfl ?_
    refine g_iload_n (pc := 27) dX3_climb_27 rfl 2 rfl ?_
    refine g_icmp_ge (pc := 28) (tgt := 105) dX3_climb_28 (by decide) (fun q => ?_) (fun q => ?_)
    · have h := h.1 q
      refine g_iload (pc := 105) dX3_climb_105 5 rfl ?_
      exact g_iret (pc := 107) dX3_climb_107 rfl h
    · have h := h.2 q
      refine g_aload_n (pc := 31) dX3_climb_31 rfl 0 rfl ?_
      refine g_getI (pc := 32) (a := 61) dX3_climb_32 rfl fX3_9 rfl ?_
      refine g_aload_n (pc := 35) dX3_climb_35 rfl 0 rfl ?_
      refine g_getI (pc := 36) (a := 61) dX3_climb_36 rfl fX3_15 rfl ?_
      refine g_icmp_ge (pc := 39) (tgt := 105) dX3_climb_39 (by decide) (fun q => ?_) (fun q => ?_)
      · have h := h.1 q
        refine g_iload (pc := 105) dX3_climb_105 5 rfl ?_
        exact g_iret (pc := 107) dX3_climb_107 rfl h
      · have h := h.2 q
        refine g_iload (pc := 42) dX3_climb_42 4 rfl ?_
        refine g_if_le (pc := 44) (tgt := 105) dX3_climb_44 (by decide) (fun q => ?_) (fun q => ?_)
        · have h := h.1 q
          refine g_iload (pc := 105) dX3_climb_105 5 rfl ?_
          exact g_iret (pc := 107) dX3_climb_107 rfl h
        · have h := h.2 q
          refine g_iload_n (pc := 47) dX3_climb_47 rfl 1 rfl ?_
          refine g_aload_n (pc := 48) dX3_climb_48 rfl 0 rfl ?_
          refine g_getI (pc := 49) (a := 61) dX3_climb_49 rfl fX3_15 rfl ?_
          refine g_iadd (pc := 52) dX3_climb_52 ?_
          refine g_iload (pc := 53) dX3_climb_53 4 rfl ?_
          obtain ⟨hz1, h⟩ := h
          refine g_idiv (pc := 55) dX3_climb_55 hz1 ?_
          refine g_istore (pc := 56) (lv2 := [(0, .ref 61), (1, .int l1), (2, .int l2), (3, .int l3), (4, .int l4), (5, .int l5), (6, .int ((l1 + (wi w 61 1)) / l4))]) dX3_climb_56 (Nat.le_of_ble_eq_true rfl) rfl ?_
          refine g_iload (pc := 58) dX3_climb_58 6 rfl ?_
          refine g_iload_n (pc := 60) dX3_climb_60 rfl 3 rfl ?_
          refine g_imul (pc := 61) dX3_climb_61 ?_
          refine g_aload_n (pc := 62) dX3_climb_62 rfl 0 rfl ?_
          refine g_getI (pc := 63) (a := 61) dX3_climb_63 rfl fX3_9 rfl ?_
          refine g_isub (pc := 66) dX3_climb_66 ?_
          refine g_istore (pc := 67) (lv2 := [(0, .ref 61), (1, .int l1), (2, .int l2), (3, .int l3), (4, .int l4), (5, .int l5), (6, .int ((l1 + (wi w 61 1)) / l4)), (7, .int ((((l1 + (wi w 61 1)) / l4) * l3) - (wi w 61 0)))]) dX3_climb_67 (Nat.le_of_ble_eq_true rfl) rfl ?_
          refine g_iload (pc := 69) dX3_climb_69 6 rfl ?_
          refine g_iload (pc := 71) dX3_climb_71 4 rfl ?_
          refine g_imul (pc := 73) dX3_climb_73 ?_
          refine g_aload_n (pc := 74) dX3_climb_74 rfl 0 rfl ?_
          refine g_getI (pc := 75) (a := 61) dX3_climb_75 rfl fX3_15 rfl ?_
          refine g_isub (pc := 78) dX3_climb_78 ?_
          refine g_istore (pc := 79) (lv2 := [(0, .ref 61), (1, .int l1), (2, .int l2), (3, .int l3), (4, .int l4), (5, .int l5), (6, .int ((l1 + (wi w 61 1)) / l4)), (7, .int ((((l1 + (wi w 61 1)) / l4) * l3) - (wi w 61 0))), (8, .int ((((l1 + (wi w 61 1)) / l4) * l4) - (wi w 61 1)))]) dX3_climb_79 (Nat.le_of_ble_eq_true rfl) rfl ?_
          refine g_aload_n (pc := 81) dX3_climb_81 rfl 0 rfl ?_
          refine g_iload_n (pc := 82) dX3_climb_82 rfl 3 rfl ?_
          refine g_putI (pc := 83) dX3_climb_83 rfl fX3_9 pX3_0 rfl ?_
          refine g_aload_n (pc := 86) dX3_climb_86 rfl 0 rfl ?_
          refine g_iload (pc := 87) dX3_climb_87 4 rfl ?_
          refine g_putI (pc := 89) dX3_climb_89 rfl fX3_15 pX3_1 rfl ?_
          refine g_iload (pc := 92) dX3_climb_92 7 rfl ?_
          refine g_istore_n (pc := 94) (lv2 := [(0, .ref 61), (1, .int l1), (2, .int l2), (3, .int ((((l1 + (wi w 61 1)) / l4) * l3) - (wi w 61 0))), (4, .int l4), (5, .int l5), (6, .int ((l1 + (wi w 61 1)) / l4)), (7, .int ((((l1 + (wi w 61 1)) / l4) * l3) - (wi w 61 0))), (8, .int ((((l1 + (wi w 61 1)) / l4) * l4) - (wi w 61 1)))]) dX3_climb_94 rfl (Nat.le_of_ble_eq_true rfl) rfl ?_
          refine g_iload (pc := 95) dX3_climb_95 8 rfl ?_
          refine g_istore (pc := 97) (lv2 := [(0, .ref 61), (1, .int l1), (2, .int l2), (3, .int ((((l1 + (wi w 61 1)) / l4) * l3) - (wi w 61 0))), (4, .int ((((l1 + (wi w 61 1)) / l4) * l4) - (wi w 61 1))), (5, .int l5), (6, .int ((l1 + (wi w 61 1)) / l4)), (7, .int ((((l1 + (wi w 61 1)) / l4) * l3) - (wi w 61 0))), (8, .int ((((l1 + (wi w 61 1)) / l4) * l4) - (wi w 61 1)))]) dX3_climb_97 (Nat.le_of_ble_eq_true rfl) rfl ?_
          refine g_iinc (pc := 99) (v := l5 + 1) (lv2 := [(0, .ref 61), (1, .int l1), (2, .int l2), (3, .int ((((l1 + (wi w 61 1)) / l4) * l3) - (wi w 61 0))), (4, .int ((((l1 + (wi w 61 1)) / l4) * l4) - (wi w 61 1))), (5, .int (l5 + 1)), (6, .int ((l1 + (wi w 61 1)) / l4)), (7, .int ((((l1 + (wi w 61 1)) / l4) * l3) - (wi w 61 0))), (8, .int ((((l1 + (wi w 61 1)) / l4) * l4) - (wi w 61 1)))]) dX3_climb_99 5 rfl (Nat.le_of_ble_eq_true rfl) rfl rfl ?_
          refine g_goto (pc := 102) (tgt := 18) dX3_climb_102 (by decide) ?_
          refine g_sub (lv2 := [(0, .ref 61), (1, .int l1), (2, .int l2), (3, .int ((((l1 + (wi w 61 1)) / l4) * l3) - (wi w 61 0))), (4, .int ((((l1 + (wi w 61 1)) / l4) * l4) - (wi w 61 1))), (5, .int (l5 + 1))]) [0, 1, 2, 3, 4, 5] rfl ?_
          exact h
set_option maxHeartbeats 4000000 in
set_option maxRecDepth 100000 in
theorem TJ9_floorDiv_7cf53 (a1 : Int32) (a2 : Int32) (w : Wd) (b : Bool) (hR : w.2.2 = RTab b) (Q : Option Value → Wd → Prop) (h : ¬ a2 = 0 ∧ ((0 ≤ (a1 ^^^ a2) → Q (some (.int (a1 / a2))) w) ∧ (¬ (0 ≤ (a1 ^^^ a2)) → ((((a1 / a2) * a2) = a1 → Q (some (.int (a1 / a2))) w) ∧ (¬ (((a1 / a2) * a2) = a1) → Q (some (.int ((a1 / a2) - 1))) w))))) : Cl SC mJ9_floorDiv_7cf53 [.int a1, .int a2] w Q := by
  refine cl_ofF (by decide +kernel) (Nat.le_of_ble_eq_true rfl) ?_
  show Go SC mJ9_floorDiv_7cf53 0 [(0, .int a1), (1, .int a2)] [] w Q
  refine g_iload_n (pc := 0) dJ9_floorDiv_7cf53_0 rfl 0 rfl ?_
  refine g_iload_n (pc := 1) dJ9_floorDiv_7cf53_1 rfl 1 rfl ?_
  obtain ⟨hz1, h⟩ := h
  refine g_idiv (pc := 2) dJ9_floorDiv_7cf53_2 hz1 ?_
  refine g_istore_n (pc := 3) (lv2 := [(0, .int a1), (1, .int a2), (2, .int (a1 / a2))]) dJ9_floorDiv_7cf53_3 rfl (Nat.le_of_ble_eq_true rfl) rfl ?_
  refine g_iload_n (pc := 4) dJ9_floorDiv_7cf53_4 rfl 0 rfl ?_
  refine g_iload_n (pc := 5) dJ9_floorDiv_7cf53_5 rfl 1 rfl ?_
  refine g_ixor (pc := 6) dJ9_floorDiv_7cf53_6 ?_
  refine g_if_ge (pc := 7) (tgt := 21) dJ9_floorDiv_7cf53_7 (by decide) (fun q => ?_) (fun q => ?_)
  · have h := h.1 q
    refine g_iload_n (pc := 21) dJ9_floorDiv_7cf53_21 rfl 2 rfl ?_
    exact g_iret (pc := 22) dJ9_floorDiv_7cf53_22 rfl h
  · have h := h.2 q
    refine g_iload_n (pc := 10) dJ9_floorDiv_7cf53_10 rfl 2 rfl ?_
    refine g_iload_n (pc := 11) dJ9_floorDiv_7cf53_11 rfl 1 rfl ?_
    refine g_imul (pc := 12) dJ9_floorDiv_7cf53_12 ?_
    refine g_iload_n (pc := 13) dJ9_floorDiv_7cf53_13 rfl 0 rfl ?_
    refine g_icmp_eq (pc := 14) (tgt := 21) dJ9_floorDiv_7cf53_14 (by decide) (fun q => ?_) (fun q => ?_)
    · have h := h.1 q
      refine g_iload_n (pc := 21) dJ9_floorDiv_7cf53_21 rfl 2 rfl ?_
      exact g_iret (pc := 22) dJ9_floorDiv_7cf53_22 rfl h
    · have h := h.2 q
      refine g_iload_n (pc := 17) dJ9_floorDiv_7cf53_17 rfl 2 rfl ?_
      refine g_iconst (pc := 18) dJ9_floorDiv_7cf53_18 c_1 ?_
      refine g_isub (pc := 19) dJ9_floorDiv_7cf53_19 ?_
      exact g_iret (pc := 20) dJ9_floorDiv_7cf53_20 rfl h
set_option maxHeartbeats 4000000 in
set_option maxRecDepth 100000 in
theorem TX3_between (a1 : Nat) (ha1 : SC[a1]? = some (.inl 6)) (a2 : Nat) (ha2 : SC[a2]? = some (.inl 6)) (a3 : Nat) (ha3 : SC[a3]? = some (.inl 6)) (w : Wd) (b : Bool) (hR : w.2.2 = RTab b) (Q : Option Value → Wd → Prop) (h : (((wi w a1 1) < 1 → Q none w) ∧ (¬ ((wi w a1 1) < 1) → ((1 ≤ (wi w a2 1) → Go SC mX3_between 19 [(0, .ref a1), (1, .ref a2), (2, .ref a3), (3, .int 1)] [] w Q) ∧ (¬ (1 ≤ (wi w a2 1)) → Q none w))))) : Cl SC mX3_between [.ref a1, .ref a2, .ref a3] w Q := by
  refine cl_of (by decide) (Nat.le_of_ble_eq_true rfl) ?_
  show Go SC mX3_between 0 [(0, .ref a1), (1, .ref a2), (2, .ref a3)] [] w Q
  refine g_aload_n (pc := 0) dX3_between_0 rfl 0 rfl ?_
  refine g_getI (pc := 1) (a := a1) dX3_between_1 rfl fX3_19 ha1 ?_
  refine g_iconst (pc := 4) dX3_between_4 c_1 ?_
  refine g_icmp_lt (pc := 5) (tgt := 16) dX3_between_5 (by decide) (fun q => ?_) (fun q => ?_)
  · have h := h.1 q
    exact g_vret (pc := 16) dX3_between_16 rfl h
  · have h := h.2 q
    refine g_aload_n (pc := 8) dX3_between_8 rfl 1 rfl ?_
    refine g_getI (pc := 9) (a := a2) dX3_between_9 rfl fX3_19 ha2 ?_
    refine g_iconst (pc := 12) dX3_between_12 c_1 ?_
    refine g_icmp_ge (pc := 13) (tgt := 17) dX3_between_13 (by decide) (fun q => ?_) (fun q => ?_)
    · have h := h.1 q
      refine g_iconst (pc := 17) dX3_between_17 c_1 ?_
      refine g_istore_n (pc := 18) (lv2 := [(0, .ref a1), (1, .ref a2), (2, .ref a3), (3, .int 1)]) dX3_between_18 rfl (Nat.le_of_ble_eq_true rfl) rfl ?_
      exact h
    · have h := h.2 q
      exact g_vret (pc := 16) dX3_between_16 rfl h
set_option maxHeartbeats 4000000 in
set_option maxRecDepth 100000 in
theorem BX3_between_19 (a1 : Nat) (ha1 : SC[a1]? = some (.inl 6)) (a2 : Nat) (ha2 : SC[a2]? = some (.inl 6)) (a3 : Nat) (ha3 : SC[a3]? = some (.inl 6)) (l3 : Int32) (w : Wd) (b : Bool) (hR : w.2.2 = RTab b) (Q : Option Value → Wd → Prop) (h : ((((wi w a1 1) + (wi w a2 1)) < l3 → Q none w) ∧ (¬ (((wi w a1 1) + (wi w a2 1)) < l3) → ClI SC mJ9_floorDiv_7cf53 [.int ((wi w a1 0) * l3), .int (wi w a1 1)] w (fun x2 w1 => w1.2.2 = RTab b ∧ ClI SC mJ9_floorDiv_7cf53 [.int ((-(wi w1 a2 0)) * l3), .int (wi w1 a2 1)] w1 (fun x4 w3 => w3.2.2 = RTab b ∧ ((((-x4) - 1) < (x2 + 1) → Go SC mX3_between 19 [(0, .ref a1), (1, .ref a2), (2, .ref a3), (3, .int (l3 + 1))] [] w3 Q) ∧ (¬ (((-x4) - 1) < (x2 + 1)) → Q none (wXX7_put a3 (vXX3_nearestToZero (x2 + 1) ((-x4) - 1)) l3 w3)))))))) : Go SC mX3_between 19 [(0, .ref a1), (1, .ref a2), (2, .ref a3), (3, .int l3)] [] w Q := by
  refine g_iload_n (pc := 19) dX3_between_19 rfl 3 rfl ?_
  refine g_aload_n (pc := 20) dX3_between_20 rfl 0 rfl ?_
  refine g_getI (pc := 21) (a := a1) dX3_between_21 rfl fX3_19 ha1 ?_
  refine g_aload_n (pc := 24) dX3_between_24 rfl 1 rfl ?_
  refine g_getI (pc := 25) (a := a2) dX3_between_25 rfl fX3_19 ha2 ?_
  refine g_iadd (pc := 28) dX3_between_28 ?_
  refine g_icmp_gt (pc := 29) (tgt := 94) dX3_between_29 (by decide) (fun q => ?_) (fun q => ?_)
  · have h := h.1 q
    exact g_vret (pc := 94) dX3_between_94 rfl h
  · have h := h.2 q
    refine g_aload_n (pc := 32) dX3_between_32 rfl 0 rfl ?_
    refine g_getI (pc := 33) (a := a1) dX3_between_33 rfl fX3_22 ha1 ?_
    refine g_iload_n (pc := 36) dX3_between_36 rfl 3 rfl ?_
    refine g_imul (pc := 37) dX3_between_37 ?_
    refine g_aload_n (pc := 38) dX3_between_38 rfl 0 rfl ?_
    refine g_getI (pc := 39) (a := a1) dX3_between_39 rfl fX3_19 ha1 ?_
    refine g_callS (pc := 42) (M' := mJ9_floorDiv_7cf53) (n := 2) (as := [.int ((wi w a1 0) * l3), .int (wi w a1 1)]) (st := []) dX3_between_42 rfl kX3_23 sJ9_floorDiv_7cf53 (Nat.le_of_ble_eq_true rfl) rfl rfl (Nat.le_of_ble_eq_true rfl) ?_
    refine cl_mono (fun r w1 hr => ?_) h
    obtain ⟨x2, rfl, hw1, h⟩ := hr
    show Go SC mX3_between 45 [(0, .ref a1), (1, .ref a2), (2, .ref a3), (3, .int l3)] [.int x2] w1 Q
    refine g_iconst (pc := 45) dX3_between_45 c_1 ?_
    refine g_iadd (pc := 46) dX3_between_46 ?_
    refine g_istore (pc := 47) (lv2 := [(0, .ref a1), (1, .ref a2), (2, .ref a3), (3, .int l3), (4, .int (x2 + 1))]) dX3_between_47 (Nat.le_of_ble_eq_true rfl) rfl ?_
    refine g_aload_n (pc := 49) dX3_between_49 rfl 1 rfl ?_
    refine g_getI (pc := 50) (a := a2) dX3_between_50 rfl fX3_22 ha2 ?_
    refine g_ineg (pc := 53) dX3_between_53 ?_
    refine g_iload_n (pc := 54) dX3_between_54 rfl 3 rfl ?_
    refine g_imul (pc := 55) dX3_between_55 ?_
    refine g_aload_n (pc := 56) dX3_between_56 rfl 1 rfl ?_
    refine g_getI (pc := 57) (a := a2) dX3_between_57 rfl fX3_19 ha2 ?_
    refine g_callS (pc := 60) (M' := mJ9_floorDiv_7cf53) (n := 2) (as := [.int ((-(wi w1 a2 0)) * l3), .int (wi w1 a2 1)]) (st := []) dX3_between_60 rfl kX3_23 sJ9_floorDiv_7cf53 (Nat.le_of_ble_eq_true rfl) rfl rfl (Nat.le_of_ble_eq_true rfl) ?_
    refine cl_mono (fun r w3 hr => ?_) h
    obtain ⟨x4, rfl, hw3, h⟩ := hr
    show Go SC mX3_between 63 [(0, .ref a1), (1, .ref a2), (2, .ref a3), (3, .int l3), (4, .int (x2 + 1))] [.int x4] w3 Q
    refine g_ineg (pc := 63) dX3_between_63 ?_
    refine g_iconst (pc := 64) dX3_between_64 c_1 ?_
    refine g_isub (pc := 65) dX3_between_65 ?_
    refine g_istore (pc := 66) (lv2 := [(0, .ref a1), (1, .ref a2), (2, .ref a3), (3, .int l3), (4, .int (x2 + 1)), (5, .int ((-x4) - 1))]) dX3_between_66 (Nat.le_of_ble_eq_true rfl) rfl ?_
    refine g_iload (pc := 68) dX3_between_68 4 rfl ?_
    refine g_iload (pc := 70) dX3_between_70 5 rfl ?_
    refine g_icmp_gt (pc := 72) (tgt := 88) dX3_between_72 (by decide) (fun q => ?_) (fun q => ?_)
    · have h := h.1 q
      refine g_iinc (pc := 88) (v := l3 + 1) (lv2 := [(0, .ref a1), (1, .ref a2), (2, .ref a3), (3, .int (l3 + 1)), (4, .int (x2 + 1)), (5, .int ((-x4) - 1))]) dX3_between_88 3 rfl (Nat.le_of_ble_eq_true rfl) rfl rfl ?_
      refine g_goto (pc := 91) (tgt := 19) dX3_between_91 (by decide) ?_
      refine g_sub (lv2 := [(0, .ref a1), (1, .ref a2), (2, .ref a3), (3, .int (l3 + 1))]) [0, 1, 2, 3] rfl ?_
      exact h
    · have h := h.2 q
      refine g_aload_n (pc := 75) dX3_between_75 rfl 2 rfl ?_
      refine g_iload (pc := 76) dX3_between_76 4 rfl ?_
      refine g_iload (pc := 78) dX3_between_78 5 rfl ?_
      refine g_callS (pc := 80) (M' := mX3_nearestToZero) (n := 2) (as := [.int (x2 + 1), .int ((-x4) - 1)]) (st := [.ref a3]) dX3_between_80 rfl kX3_29 sX3_nearestToZero (Nat.le_of_ble_eq_true rfl) rfl rfl (Nat.le_of_ble_eq_true rfl) ?_
      refine zX3_nearestToZero (a1 := (x2 + 1)) (a2 := ((-x4) - 1)) (w := w3) (b := b) (hR := hw3) ?_
      show Go SC mX3_between 83 [(0, .ref a1), (1, .ref a2), (2, .ref a3), (3, .int l3), (4, .int (x2 + 1)), (5, .int ((-x4) - 1))] [.int (vXX3_nearestToZero (x2 + 1) ((-x4) - 1)), .ref a3] w3 Q
      refine g_iload_n (pc := 83) dX3_between_83 rfl 3 rfl ?_
      refine g_callV (pc := 84) (M' := mX7_put) (n := 2) (a := a3) (as := [.int (vXX3_nearestToZero (x2 + 1) ((-x4) - 1)), .int l3]) (st := []) dX3_between_84 rfl kX3_32 vX7_put (Nat.le_of_ble_eq_true rfl) ha3 qX7 rfl rfl (Nat.le_of_ble_eq_true rfl) ?_
      refine zX7_put (t := a3) (a1 := (vXX3_nearestToZero (x2 + 1) ((-x4) - 1))) (a2 := l3) (w := w3) (b := b) (hR := hw3) (ht := ha3) ?_
      show Go SC mX3_between 87 [(0, .ref a1), (1, .ref a2), (2, .ref a3), (3, .int l3), (4, .int (x2 + 1)), (5, .int ((-x4) - 1))] [] (wXX7_put a3 (vXX3_nearestToZero (x2 + 1) ((-x4) - 1)) l3 w3) Q
      exact g_vret (pc := 87) dX3_between_87 rfl h
set_option maxHeartbeats 4000000 in
set_option maxRecDepth 100000 in
theorem TX4_forgetEldest  (w : Wd) (b : Bool) (hR : w.2.2 = RTab b) (Q : Option Value → Wd → Prop) (h : Go SC mX4_forgetEldest 2 [(0, .ref 49), (1, .int 1)] [] w Q) : Cl SC mX4_forgetEldest [.ref 49] w Q := by
  refine cl_of (by decide) (Nat.le_of_ble_eq_true rfl) ?_
  show Go SC mX4_forgetEldest 0 [(0, .ref 49)] [] w Q
  refine g_iconst (pc := 0) dX4_forgetEldest_0 c_1 ?_
  refine g_istore_n (pc := 1) (lv2 := [(0, .ref 49), (1, .int 1)]) dX4_forgetEldest_1 rfl (Nat.le_of_ble_eq_true rfl) rfl ?_
  exact h
set_option maxHeartbeats 4000000 in
set_option maxRecDepth 100000 in
theorem BX4_forgetEldest_2  (l1 : Int32) (w : Wd) (b : Bool) (hR : w.2.2 = RTab b) (Q : Option Value → Wd → Prop) (h : (((wi w 49 3) ≤ l1 → Q none (si w 49 3 ((wi w 49 3) - 1))) ∧ (¬ ((wi w 49 3) ≤ l1) → Go SC mX4_forgetEldest 2 [(0, .ref 49), (1, .int (l1 + 1))] [] (pf (pf (pf w 50 16 (l1 - 1) (gf w 50 16 l1)) 51 16 (l1 - 1) (gf (pf w 50 16 (l1 - 1) (gf w 50 16 l1)) 51 16 l1)) 52 16 (l1 - 1) (gf (pf (pf w 50 16 (l1 - 1) (gf w 50 16 l1)) 51 16 (l1 - 1) (gf (pf w 50 16 (l1 - 1) (gf w 50 16 l1)) 51 16 l1)) 52 16 l1)) Q))) : Go SC mX4_forgetEldest 2 [(0, .ref 49), (1, .int l1)] [] w Q := by
  refine g_iload_n (pc := 2) dX4_forgetEldest_2 rfl 1 rfl ?_
  refine g_aload_n (pc := 3) dX4_forgetEldest_3 rfl 0 rfl ?_
  refine g_getI (pc := 4) (a := 49) dX4_forgetEldest_4 rfl fX4_27 rfl ?_
  refine g_icmp_ge (pc := 7) (tgt := 70) dX4_forgetEldest_7 (by decide) (fun q => ?_) (fun q => ?_)
  · have h := h.1 q
    refine g_aload_n (pc := 70) dX4_forgetEldest_70 rfl 0 rfl ?_
    refine g_dup (pc := 71) dX4_forgetEldest_71 rfl ?_
    refine g_getI (pc := 72) (a := 49) dX4_forgetEldest_72 rfl fX4_27 rfl ?_
    refine g_iconst (pc := 75) dX4_forgetEldest_75 c_1 ?_
    refine g_isub (pc := 76) dX4_forgetEldest_76 ?_
    refine g_putI (pc := 77) dX4_forgetEldest_77 rfl fX4_27 pX4_3 rfl ?_
    exact g_vret (pc := 80) dX4_forgetEldest_80 rfl h
  · have h := h.2 q
    refine g_aload_n (pc := 10) dX4_forgetEldest_10 rfl 0 rfl ?_
    refine g_getR (pc := 11) (a := 49) (b := 50) dX4_forgetEldest_11 rfl fX4_11 rfl (rc_49_0 hR) ?_
    refine g_iload_n (pc := 14) dX4_forgetEldest_14 rfl 1 rfl ?_
    refine g_iconst (pc := 15) dX4_forgetEldest_15 c_1 ?_
    refine g_isub (pc := 16) dX4_forgetEldest_16 ?_
    refine g_aload_n (pc := 17) dX4_forgetEldest_17 rfl 0 rfl ?_
    refine g_getR (pc := 18) (a := 49) (b := 50) dX4_forgetEldest_18 rfl fX4_11 rfl (rc_49_0 hR) ?_
    refine g_iload_n (pc := 21) dX4_forgetEldest_21 rfl 1 rfl ?_
    refine g_callS (pc := 22) (M' := mX10_at) (n := 2) (as := [.ref 50, .int l1]) (st := [.int (l1 - 1), .ref 50]) dX4_forgetEldest_22 rfl kX4_49 sX10_at (Nat.le_of_ble_eq_true rfl) rfl rfl (Nat.le_of_ble_eq_true rfl) ?_
    refine h_at (a := 50) (n := 16) (i := l1) (w := w) rfl (Nat.le_of_ble_eq_true rfl) ?_
    show Go SC mX4_forgetEldest 25 [(0, .ref 49), (1, .int l1)] [.int (gf w 50 16 l1), .int (l1 - 1), .ref 50] w Q
    refine g_callS (pc := 25) (M' := mX10_putAt) (n := 3) (as := [.ref 50, .int (l1 - 1), .int (gf w 50 16 l1)]) (st := []) dX4_forgetEldest_25 rfl kX4_37 sX10_putAt (Nat.le_of_ble_eq_true rfl) rfl rfl (Nat.le_of_ble_eq_true rfl) ?_
    refine h_putAt (a := 50) (n := 16) (i := l1 - 1) (v := gf w 50 16 l1) (w := w) rfl (Nat.le_of_ble_eq_true rfl) ?_
    show Go SC mX4_forgetEldest 28 [(0, .ref 49), (1, .int l1)] [] (pf w 50 16 (l1 - 1) (gf w 50 16 l1)) Q
    refine g_aload_n (pc := 28) dX4_forgetEldest_28 rfl 0 rfl ?_
    refine g_getR (pc := 29) (a := 49) (b := 51) dX4_forgetEldest_29 rfl fX4_15 rfl (rc_49_1 ((pf_R _ _ _ _ _).trans hR)) ?_
    refine g_iload_n (pc := 32) dX4_forgetEldest_32 rfl 1 rfl ?_
    refine g_iconst (pc := 33) dX4_forgetEldest_33 c_1 ?_
    refine g_isub (pc := 34) dX4_forgetEldest_34 ?_
    refine g_aload_n (pc := 35) dX4_forgetEldest_35 rfl 0 rfl ?_
    refine g_getR (pc := 36) (a := 49) (b := 51) dX4_forgetEldest_36 rfl fX4_15 rfl (rc_49_1 ((pf_R _ _ _ _ _).trans hR)) ?_
    refine g_iload_n (pc := 39) dX4_forgetEldest_39 rfl 1 rfl ?_
    refine g_callS (pc := 40) (M' := mX10_at) (n := 2) (as := [.ref 51, .int l1]) (st := [.int (l1 - 1), .ref 51]) dX4_forgetEldest_40 rfl kX4_49 sX10_at (Nat.le_of_ble_eq_true rfl) rfl rfl (Nat.le_of_ble_eq_true rfl) ?_
    refine h_at (a := 51) (n := 16) (i := l1) (w := pf w 50 16 (l1 - 1) (gf w 50 16 l1)) rfl (Nat.le_of_ble_eq_true rfl) ?_
    show Go SC mX4_forgetEldest 43 [(0, .ref 49), (1, .int l1)] [.int (gf (pf w 50 16 (l1 - 1) (gf w 50 16 l1)) 51 16 l1), .int (l1 - 1), .ref 51] (pf w 50 16 (l1 - 1) (gf w 50 16 l1)) Q
    refine g_callS (pc := 43) (M' := mX10_putAt) (n := 3) (as := [.ref 51, .int (l1 - 1), .int (gf (pf w 50 16 (l1 - 1) (gf w 50 16 l1)) 51 16 l1)]) (st := []) dX4_forgetEldest_43 rfl kX4_37 sX10_putAt (Nat.le_of_ble_eq_true rfl) rfl rfl (Nat.le_of_ble_eq_true rfl) ?_
    refine h_putAt (a := 51) (n := 16) (i := l1 - 1) (v := gf (pf w 50 16 (l1 - 1) (gf w 50 16 l1)) 51 16 l1) (w := pf w 50 16 (l1 - 1) (gf w 50 16 l1)) rfl (Nat.le_of_ble_eq_true rfl) ?_
    show Go SC mX4_forgetEldest 46 [(0, .ref 49), (1, .int l1)] [] (pf (pf w 50 16 (l1 - 1) (gf w 50 16 l1)) 51 16 (l1 - 1) (gf (pf w 50 16 (l1 - 1) (gf w 50 16 l1)) 51 16 l1)) Q
    refine g_aload_n (pc := 46) dX4_forgetEldest_46 rfl 0 rfl ?_
    refine g_getR (pc := 47) (a := 49) (b := 52) dX4_forgetEldest_47 rfl fX4_18 rfl (rc_49_2 ((pf_R _ _ _ _ _).trans ((pf_R _ _ _ _ _).trans hR))) ?_
    refine g_iload_n (pc := 50) dX4_forgetEldest_50 rfl 1 rfl ?_
    refine g_iconst (pc := 51) dX4_forgetEldest_51 c_1 ?_
    refine g_isub (pc := 52) dX4_forgetEldest_52 ?_
    refine g_aload_n (pc := 53) dX4_forgetEldest_53 rfl 0 rfl ?_
    refine g_getR (pc := 54) (a := 49) (b := 52) dX4_forgetEldest_54 rfl fX4_18 rfl (rc_49_2 ((pf_R _ _ _ _ _).trans ((pf_R _ _ _ _ _).trans hR))) ?_
    refine g_iload_n (pc := 57) dX4_forgetEldest_57 rfl 1 rfl ?_
    refine g_callS (pc := 58) (M' := mX10_at) (n := 2) (as := [.ref 52, .int l1]) (st := [.int (l1 - 1), .ref 52]) dX4_forgetEldest_58 rfl kX4_49 sX10_at (Nat.le_of_ble_eq_true rfl) rfl rfl (Nat.le_of_ble_eq_true rfl) ?_
    refine h_at (a := 52) (n := 16) (i := l1) (w := pf (pf w 50 16 (l1 - 1) (gf w 50 16 l1)) 51 16 (l1 - 1) (gf (pf w 50 16 (l1 - 1) (gf w 50 16 l1)) 51 16 l1)) rfl (Nat.le_of_ble_eq_true rfl) ?_
    show Go SC mX4_forgetEldest 61 [(0, .ref 49), (1, .int l1)] [.int (gf (pf (pf w 50 16 (l1 - 1) (gf w 50 16 l1)) 51 16 (l1 - 1) (gf (pf w 50 16 (l1 - 1) (gf w 50 16 l1)) 51 16 l1)) 52 16 l1), .int (l1 - 1), .ref 52] (pf (pf w 50 16 (l1 - 1) (gf w 50 16 l1)) 51 16 (l1 - 1) (gf (pf w 50 16 (l1 - 1) (gf w 50 16 l1)) 51 16 l1)) Q
    refine g_callS (pc := 61) (M' := mX10_putAt) (n := 3) (as := [.ref 52, .int (l1 - 1), .int (gf (pf (pf w 50 16 (l1 - 1) (gf w 50 16 l1)) 51 16 (l1 - 1) (gf (pf w 50 16 (l1 - 1) (gf w 50 16 l1)) 51 16 l1)) 52 16 l1)]) (st := []) dX4_forgetEldest_61 rfl kX4_37 sX10_putAt (Nat.le_of_ble_eq_true rfl) rfl rfl (Nat.le_of_ble_eq_true rfl) ?_
    refine h_putAt (a := 52) (n := 16) (i := l1 - 1) (v := gf (pf (pf w 50 16 (l1 - 1) (gf w 50 16 l1)) 51 16 (l1 - 1) (gf (pf w 50 16 (l1 - 1) (gf w 50 16 l1)) 51 16 l1)) 52 16 l1) (w := pf (pf w 50 16 (l1 - 1) (gf w 50 16 l1)) 51 16 (l1 - 1) (gf (pf w 50 16 (l1 - 1) (gf w 50 16 l1)) 51 16 l1)) rfl (Nat.le_of_ble_eq_true rfl) ?_
    show Go SC mX4_forgetEldest 64 [(0, .ref 49), (1, .int l1)] [] (pf (pf (pf w 50 16 (l1 - 1) (gf w 50 16 l1)) 51 16 (l1 - 1) (gf (pf w 50 16 (l1 - 1) (gf w 50 16 l1)) 51 16 l1)) 52 16 (l1 - 1) (gf (pf (pf w 50 16 (l1 - 1) (gf w 50 16 l1)) 51 16 (l1 - 1) (gf (pf w 50 16 (l1 - 1) (gf w 50 16 l1)) 51 16 l1)) 52 16 l1)) Q
    refine g_iinc (pc := 64) (v := l1 + 1) (lv2 := [(0, .ref 49), (1, .int (l1 + 1))]) dX4_forgetEldest_64 1 rfl (Nat.le_of_ble_eq_true rfl) rfl rfl ?_
    refine g_goto (pc := 67) (tgt := 2) dX4_forgetEldest_67 (by decide) ?_
    exact h
set_option maxHeartbeats 4000000 in
set_option maxRecDepth 100000 in
theorem TX4_keep (a1 : Int32) (a2 : Nat) (ha2 : SC[a2]? = some (.inl 6)) (w : Wd) (b : Bool) (hR : w.2.2 = RTab b) (Q : Option Value → Wd → Prop) (h : (((wi w 49 3) < 16 → Q none (si (pf (pf (pf w 50 16 (wi w 49 3) a1) 51 16 (wi (pf w 50 16 (wi w 49 3) a1) 49 3) (wi (pf w 50 16 (wi w 49 3) a1) a2 0)) 52 16 (wi (pf (pf w 50 16 (wi w 49 3) a1) 51 16 (wi (pf w 50 16 (wi w 49 3) a1) 49 3) (wi (pf w 50 16 (wi w 49 3) a1) a2 0)) 49 3) (wi (pf (pf w 50 16 (wi w 49 3) a1) 51 16 (wi (pf w 50 16 (wi w 49 3) a1) 49 3) (wi (pf w 50 16 (wi w 49 3) a1) a2 0)) a2 1)) 49 3 ((wi (pf (pf (pf w 50 16 (wi w 49 3) a1) 51 16 (wi (pf w 50 16 (wi w 49 3) a1) 49 3) (wi (pf w 50 16 (wi w 49 3) a1) a2 0)) 52 16 (wi (pf (pf w 50 16 (wi w 49 3) a1) 51 16 (wi (pf w 50 16 (wi w 49 3) a1) 49 3) (wi (pf w 50 16 (wi w 49 3) a1) a2 0)) 49 3) (wi (pf (pf w 50 16 (wi w 49 3) a1) 51 16 (wi (pf w 50 16 (wi w 49 3) a1) 49 3) (wi (pf w 50 16 (wi w 49 3) a1) a2 0)) a2 1)) 49 3) + 1))) ∧ (¬ ((wi w 49 3) < 16) → ClV SC mX4_forgetEldest [.ref 49] w (fun w1 => w1.2.2 = RTab b ∧ Q none (si (pf (pf (pf w1 50 16 (wi w1 49 3) a1) 51 16 (wi (pf w1 50 16 (wi w1 49 3) a1) 49 3) (wi (pf w1 50 16 (wi w1 49 3) a1) a2 0)) 52 16 (wi (pf (pf w1 50 16 (wi w1 49 3) a1) 51 16 (wi (pf w1 50 16 (wi w1 49 3) a1) 49 3) (wi (pf w1 50 16 (wi w1 49 3) a1) a2 0)) 49 3) (wi (pf (pf w1 50 16 (wi w1 49 3) a1) 51 16 (wi (pf w1 50 16 (wi w1 49 3) a1) 49 3) (wi (pf w1 50 16 (wi w1 49 3) a1) a2 0)) a2 1)) 49 3 ((wi (pf (pf (pf w1 50 16 (wi w1 49 3) a1) 51 16 (wi (pf w1 50 16 (wi w1 49 3) a1) 49 3) (wi (pf w1 50 16 (wi w1 49 3) a1) a2 0)) 52 16 (wi (pf (pf w1 50 16 (wi w1 49 3) a1) 51 16 (wi (pf w1 50 16 (wi w1 49 3) a1) 49 3) (wi (pf w1 50 16 (wi w1 49 3) a1) a2 0)) 49 3) (wi (pf (pf w1 50 16 (wi w1 49 3) a1) 51 16 (wi (pf w1 50 16 (wi w1 49 3) a1) 49 3) (wi (pf w1 50 16 (wi w1 49 3) a1) a2 0)) a2 1)) 49 3) + 1)))))) : Cl SC mX4_keep [.ref 49, .int a1, .ref a2] w Q := by
  refine cl_of (by decide) (Nat.le_of_ble_eq_true rfl) ?_
  show Go SC mX4_keep 0 [(0, .ref 49), (1, .int a1), (2, .ref a2)] [] w Q
  refine g_aload_n (pc := 0) dX4_keep_0 rfl 0 rfl ?_
  refine g_getI (pc := 1) (a := 49) dX4_keep_1 rfl fX4_27 rfl ?_
  refine g_bipush (pc := 4) (v := 16) dX4_keep_4 (by decide) ?_
  refine g_icmp_lt (pc := 6) (tgt := 13) dX4_keep_6 (by decide) (fun q => ?_) (fun q => ?_)
  · have h := h.1 q
    refine g_aload_n (pc := 13) dX4_keep_13 rfl 0 rfl ?_
    refine g_getR (pc := 14) (a := 49) (b := 50) dX4_keep_14 rfl fX4_11 rfl (rc_49_0 hR) ?_
    refine g_aload_n (pc := 17) dX4_keep_17 rfl 0 rfl ?_
    refine g_getI (pc := 18) (a := 49) dX4_keep_18 rfl fX4_27 rfl ?_
    refine g_iload_n (pc := 21) dX4_keep_21 rfl 1 rfl ?_
    refine g_callS (pc := 22) (M' := mX10_putAt) (n := 3) (as := [.ref 50, .int (wi w 49 3), .int a1]) (st := []) dX4_keep_22 rfl kX4_37 sX10_putAt (Nat.le_of_ble_eq_true rfl) rfl rfl (Nat.le_of_ble_eq_true rfl) ?_
    refine h_putAt (a := 50) (n := 16) (i := wi w 49 3) (v := a1) (w := w) rfl (Nat.le_of_ble_eq_true rfl) ?_
    show Go SC mX4_keep 25 [(0, .ref 49), (1, .int a1), (2, .ref a2)] [] (pf w 50 16 (wi w 49 3) a1) Q
    refine g_aload_n (pc := 25) dX4_keep_25 rfl 0 rfl ?_
    refine g_getR (pc := 26) (a := 49) (b := 51) dX4_keep_26 rfl fX4_15 rfl (rc_49_1 ((pf_R _ _ _ _ _).trans hR)) ?_
    refine g_aload_n (pc := 29) dX4_keep_29 rfl 0 rfl ?_
    refine g_getI (pc := 30) (a := 49) dX4_keep_30 rfl fX4_27 rfl ?_
    refine g_aload_n (pc := 33) dX4_keep_33 rfl 2 rfl ?_
    refine g_getI (pc := 34) (a := a2) dX4_keep_34 rfl fX4_41 ha2 ?_
    refine g_callS (pc := 37) (M' := mX10_putAt) (n := 3) (as := [.ref 51, .int (wi (pf w 50 16 (wi w 49 3) a1) 49 3), .int (wi (pf w 50 16 (wi w 49 3) a1) a2 0)]) (st := []) dX4_keep_37 rfl kX4_37 sX10_putAt (Nat.le_of_ble_eq_true rfl) rfl rfl (Nat.le_of_ble_eq_true rfl) ?_
    refine h_putAt (a := 51) (n := 16) (i := wi (pf w 50 16 (wi w 49 3) a1) 49 3) (v := wi (pf w 50 16 (wi w 49 3) a1) a2 0) (w := pf w 50 16 (wi w 49 3) a1) rfl (Nat.le_of_ble_eq_true rfl) ?_
    show Go SC mX4_keep 40 [(0, .ref 49), (1, .int a1), (2, .ref a2)] [] (pf (pf w 50 16 (wi w 49 3) a1) 51 16 (wi (pf w 50 16 (wi w 49 3) a1) 49 3) (wi (pf w 50 16 (wi w 49 3) a1) a2 0)) Q
    refine g_aload_n (pc := 40) dX4_keep_40 rfl 0 rfl ?_
    refine g_getR (pc := 41) (a := 49) (b := 52) dX4_keep_41 rfl fX4_18 rfl (rc_49_2 ((pf_R _ _ _ _ _).trans ((pf_R _ _ _ _ _).trans hR))) ?_
    refine g_aload_n (pc := 44) dX4_keep_44 rfl 0 rfl ?_
    refine g_getI (pc := 45) (a := 49) dX4_keep_45 rfl fX4_27 rfl ?_
    refine g_aload_n (pc := 48) dX4_keep_48 rfl 2 rfl ?_
    refine g_getI (pc := 49) (a := a2) dX4_keep_49 rfl fX4_46 ha2 ?_
    refine g_callS (pc := 52) (M' := mX10_putAt) (n := 3) (as := [.ref 52, .int (wi (pf (pf w 50 16 (wi w 49 3) a1) 51 16 (wi (pf w 50 16 (wi w 49 3) a1) 49 3) (wi (pf w 50 16 (wi w 49 3) a1) a2 0)) 49 3), .int (wi (pf (pf w 50 16 (wi w 49 3) a1) 51 16 (wi (pf w 50 16 (wi w 49 3) a1) 49 3) (wi (pf w 50 16 (wi w 49 3) a1) a2 0)) a2 1)]) (st := []) dX4_keep_52 rfl kX4_37 sX10_putAt (Nat.le_of_ble_eq_true rfl) rfl rfl (Nat.le_of_ble_eq_true rfl) ?_
    refine h_putAt (a := 52) (n := 16) (i := wi (pf (pf w 50 16 (wi w 49 3) a1) 51 16 (wi (pf w 50 16 (wi w 49 3) a1) 49 3) (wi (pf w 50 16 (wi w 49 3) a1) a2 0)) 49 3) (v := wi (pf (pf w 50 16 (wi w 49 3) a1) 51 16 (wi (pf w 50 16 (wi w 49 3) a1) 49 3) (wi (pf w 50 16 (wi w 49 3) a1) a2 0)) a2 1) (w := pf (pf w 50 16 (wi w 49 3) a1) 51 16 (wi (pf w 50 16 (wi w 49 3) a1) 49 3) (wi (pf w 50 16 (wi w 49 3) a1) a2 0)) rfl (Nat.le_of_ble_eq_true rfl) ?_
    show Go SC mX4_keep 55 [(0, .ref 49), (1, .int a1), (2, .ref a2)] [] (pf (pf (pf w 50 16 (wi w 49 3) a1) 51 16 (wi (pf w 50 16 (wi w 49 3) a1) 49 3) (wi (pf w 50 16 (wi w 49 3) a1) a2 0)) 52 16 (wi (pf (pf w 50 16 (wi w 49 3) a1) 51 16 (wi (pf w 50 16 (wi w 49 3) a1) 49 3) (wi (pf w 50 16 (wi w 49 3) a1) a2 0)) 49 3) (wi (pf (pf w 50 16 (wi w 49 3) a1) 51 16 (wi (pf w 50 16 (wi w 49 3) a1) 49 3) (wi (pf w 50 16 (wi w 49 3) a1) a2 0)) a2 1)) Q
    refine g_aload_n (pc := 55) dX4_keep_55 rfl 0 rfl ?_
    refine g_dup (pc := 56) dX4_keep_56 rfl ?_
    refine g_getI (pc := 57) (a := 49) dX4_keep_57 rfl fX4_27 rfl ?_
    refine g_iconst (pc := 60) dX4_keep_60 c_1 ?_
    refine g_iadd (pc := 61) dX4_keep_61 ?_
    refine g_putI (pc := 62) dX4_keep_62 rfl fX4_27 pX4_3 rfl ?_
    exact g_vret (pc := 65) dX4_keep_65 rfl h
  · have h := h.2 q
    refine g_aload_n (pc := 9) dX4_keep_9 rfl 0 rfl ?_
    refine g_callV (pc := 10) (M' := mX4_forgetEldest) (n := 0) (a := 49) (as := []) (st := []) dX4_keep_10 rfl kX4_34 vX4_forgetEldest (Nat.le_of_ble_eq_true rfl) rfl qX4 rfl rfl (Nat.le_of_ble_eq_true rfl) ?_
    refine cl_mono (fun r w1 hr => ?_) h
    obtain ⟨rfl, hw1, h⟩ := hr
    show Go SC mX4_keep 13 [(0, .ref 49), (1, .int a1), (2, .ref a2)] [] w1 Q
    refine g_aload_n (pc := 13) dX4_keep_13 rfl 0 rfl ?_
    refine g_getR (pc := 14) (a := 49) (b := 50) dX4_keep_14 rfl fX4_11 rfl (rc_49_0 hw1) ?_
    refine g_aload_n (pc := 17) dX4_keep_17 rfl 0 rfl ?_
    refine g_getI (pc := 18) (a := 49) dX4_keep_18 rfl fX4_27 rfl ?_
    refine g_iload_n (pc := 21) dX4_keep_21 rfl 1 rfl ?_
    refine g_callS (pc := 22) (M' := mX10_putAt) (n := 3) (as := [.ref 50, .int (wi w1 49 3), .int a1]) (st := []) dX4_keep_22 rfl kX4_37 sX10_putAt (Nat.le_of_ble_eq_true rfl) rfl rfl (Nat.le_of_ble_eq_true rfl) ?_
    refine h_putAt (a := 50) (n := 16) (i := wi w1 49 3) (v := a1) (w := w1) rfl (Nat.le_of_ble_eq_true rfl) ?_
    show Go SC mX4_keep 25 [(0, .ref 49), (1, .int a1), (2, .ref a2)] [] (pf w1 50 16 (wi w1 49 3) a1) Q
    refine g_aload_n (pc := 25) dX4_keep_25 rfl 0 rfl ?_
    refine g_getR (pc := 26) (a := 49) (b := 51) dX4_keep_26 rfl fX4_15 rfl (rc_49_1 ((pf_R _ _ _ _ _).trans hw1)) ?_
    refine g_aload_n (pc := 29) dX4_keep_29 rfl 0 rfl ?_
    refine g_getI (pc := 30) (a := 49) dX4_keep_30 rfl fX4_27 rfl ?_
    refine g_aload_n (pc := 33) dX4_keep_33 rfl 2 rfl ?_
    refine g_getI (pc := 34) (a := a2) dX4_keep_34 rfl fX4_41 ha2 ?_
    refine g_callS (pc := 37) (M' := mX10_putAt) (n := 3) (as := [.ref 51, .int (wi (pf w1 50 16 (wi w1 49 3) a1) 49 3), .int (wi (pf w1 50 16 (wi w1 49 3) a1) a2 0)]) (st := []) dX4_keep_37 rfl kX4_37 sX10_putAt (Nat.le_of_ble_eq_true rfl) rfl rfl (Nat.le_of_ble_eq_true rfl) ?_
    refine h_putAt (a := 51) (n := 16) (i := wi (pf w1 50 16 (wi w1 49 3) a1) 49 3) (v := wi (pf w1 50 16 (wi w1 49 3) a1) a2 0) (w := pf w1 50 16 (wi w1 49 3) a1) rfl (Nat.le_of_ble_eq_true rfl) ?_
    show Go SC mX4_keep 40 [(0, .ref 49), (1, .int a1), (2, .ref a2)] [] (pf (pf w1 50 16 (wi w1 49 3) a1) 51 16 (wi (pf w1 50 16 (wi w1 49 3) a1) 49 3) (wi (pf w1 50 16 (wi w1 49 3) a1) a2 0)) Q
    refine g_aload_n (pc := 40) dX4_keep_40 rfl 0 rfl ?_
    refine g_getR (pc := 41) (a := 49) (b := 52) dX4_keep_41 rfl fX4_18 rfl (rc_49_2 ((pf_R _ _ _ _ _).trans ((pf_R _ _ _ _ _).trans hw1))) ?_
    refine g_aload_n (pc := 44) dX4_keep_44 rfl 0 rfl ?_
    refine g_getI (pc := 45) (a := 49) dX4_keep_45 rfl fX4_27 rfl ?_
    refine g_aload_n (pc := 48) dX4_keep_48 rfl 2 rfl ?_
    refine g_getI (pc := 49) (a := a2) dX4_keep_49 rfl fX4_46 ha2 ?_
    refine g_callS (pc := 52) (M' := mX10_putAt) (n := 3) (as := [.ref 52, .int (wi (pf (pf w1 50 16 (wi w1 49 3) a1) 51 16 (wi (pf w1 50 16 (wi w1 49 3) a1) 49 3) (wi (pf w1 50 16 (wi w1 49 3) a1) a2 0)) 49 3), .int (wi (pf (pf w1 50 16 (wi w1 49 3) a1) 51 16 (wi (pf w1 50 16 (wi w1 49 3) a1) 49 3) (wi (pf w1 50 16 (wi w1 49 3) a1) a2 0)) a2 1)]) (st := []) dX4_keep_52 rfl kX4_37 sX10_putAt (Nat.le_of_ble_eq_true rfl) rfl rfl (Nat.le_of_ble_eq_true rfl) ?_
    refine h_putAt (a := 52) (n := 16) (i := wi (pf (pf w1 50 16 (wi w1 49 3) a1) 51 16 (wi (pf w1 50 16 (wi w1 49 3) a1) 49 3) (wi (pf w1 50 16 (wi w1 49 3) a1) a2 0)) 49 3) (v := wi (pf (pf w1 50 16 (wi w1 49 3) a1) 51 16 (wi (pf w1 50 16 (wi w1 49 3) a1) 49 3) (wi (pf w1 50 16 (wi w1 49 3) a1) a2 0)) a2 1) (w := pf (pf w1 50 16 (wi w1 49 3) a1) 51 16 (wi (pf w1 50 16 (wi w1 49 3) a1) 49 3) (wi (pf w1 50 16 (wi w1 49 3) a1) a2 0)) rfl (Nat.le_of_ble_eq_true rfl) ?_
    show Go SC mX4_keep 55 [(0, .ref 49), (1, .int a1), (2, .ref a2)] [] (pf (pf (pf w1 50 16 (wi w1 49 3) a1) 51 16 (wi (pf w1 50 16 (wi w1 49 3) a1) 49 3) (wi (pf w1 50 16 (wi w1 49 3) a1) a2 0)) 52 16 (wi (pf (pf w1 50 16 (wi w1 49 3) a1) 51 16 (wi (pf w1 50 16 (wi w1 49 3) a1) 49 3) (wi (pf w1 50 16 (wi w1 49 3) a1) a2 0)) 49 3) (wi (pf (pf w1 50 16 (wi w1 49 3) a1) 51 16 (wi (pf w1 50 16 (wi w1 49 3) a1) 49 3) (wi (pf w1 50 16 (wi w1 49 3) a1) a2 0)) a2 1)) Q
    refine g_aload_n (pc := 55) dX4_keep_55 rfl 0 rfl ?_
    refine g_dup (pc := 56) dX4_keep_56 rfl ?_
    refine g_getI (pc := 57) (a := 49) dX4_keep_57 rfl fX4_27 rfl ?_
    refine g_iconst (pc := 60) dX4_keep_60 c_1 ?_
    refine g_iadd (pc := 61) dX4_keep_61 ?_
    refine g_putI (pc := 62) dX4_keep_62 rfl fX4_27 pX4_3 rfl ?_
    exact g_vret (pc := 65) dX4_keep_65 rfl h
set_option maxHeartbeats 4000000 in
set_option maxRecDepth 100000 in
theorem TX4_takeBack (ca1 : Bool) (w : Wd) (b : Bool) (hR : w.2.2 = RTab b) (Q : Option Value → Wd → Prop) (h : ((0 ≤ (gf (si w 49 3 ((wi w 49 3) - 1)) 50 16 (wi (si w 49 3 ((wi w 49 3) - 1)) 49 3)) ∧ (gf (si w 49 3 ((wi w 49 3) - 1)) 50 16 (wi (si w 49 3 ((wi w 49 3) - 1)) 49 3)) < wi (si w 49 3 ((wi w 49 3) - 1)) (hA ca1) 2 ∧ (gf (si w 49 3 ((wi w 49 3) - 1)) 50 16 (wi (si w 49 3 ((wi w 49 3) - 1)) 49 3)) < 5 → Q none (wXX7_put (dA (hA ca1) (gf (si w 49 3 ((wi w 49 3) - 1)) 50 16 (wi (si w 49 3 ((wi w 49 3) - 1)) 49 3)).toNatClampNeg + 2) (gf (si w 49 3 ((wi w 49 3) - 1)) 51 16 (wi (si w 49 3 ((wi w 49 3) - 1)) 49 3)) (gf (si w 49 3 ((wi w 49 3) - 1)) 52 16 (wi (si w 49 3 ((wi w 49 3) - 1)) 49 3)) (si w 49 3 ((wi w 49 3) - 1)))) ∧ (¬ (0 ≤ (gf (si w 49 3 ((wi w 49 3) - 1)) 50 16 (wi (si w 49 3 ((wi w 49 3) - 1)) 49 3)) ∧ (gf (si w 49 3 ((wi w 49 3) - 1)) 50 16 (wi (si w 49 3 ((wi w 49 3) - 1)) 49 3)) < wi (si w 49 3 ((wi w 49 3) - 1)) (hA ca1) 2 ∧ (gf (si w 49 3 ((wi w 49 3) - 1)) 50 16 (wi (si w 49 3 ((wi w 49 3) - 1)) 49 3)) < 5) → Q none (si w 49 3 ((wi w 49 3) - 1))))) : Cl SC mX4_takeBack [.ref 49, .ref (hA ca1)] w Q := by
  refine cl_of (by decide) (Nat.le_of_ble_eq_true rfl) ?_
  show Go SC mX4_takeBack 0 [(0, .ref 49), (1, .ref (hA ca1))] [] w Q
  refine g_aload_n (pc := 0) dX4_takeBack_0 rfl 0 rfl ?_
  refine g_dup (pc := 1) dX4_takeBack_1 rfl ?_
  refine g_getI (pc := 2) (a := 49) dX4_takeBack_2 rfl fX4_27 rfl ?_
  refine g_iconst (pc := 5) dX4_takeBack_5 c_1 ?_
  refine g_isub (pc := 6) dX4_takeBack_6 ?_
  refine g_putI (pc := 7) dX4_takeBack_7 rfl fX4_27 pX4_3 rfl ?_
  refine g_aload_n (pc := 10) dX4_takeBack_10 rfl 1 rfl ?_
  refine g_aload_n (pc := 11) dX4_takeBack_11 rfl 0 rfl ?_
  refine g_getR (pc := 12) (a := 49) (b := 50) dX4_takeBack_12 rfl fX4_11 rfl (rc_49_0 hR) ?_
  refine g_aload_n (pc := 15) dX4_takeBack_15 rfl 0 rfl ?_
  refine g_getI (pc := 16) (a := 49) dX4_takeBack_16 rfl fX4_27 rfl ?_
  refine g_callS (pc := 19) (M' := mX10_at) (n := 2) (as := [.ref 50, .int (wi (si w 49 3 ((wi w 49 3) - 1)) 49 3)]) (st := [.ref (hA ca1)]) dX4_takeBack_19 rfl kX4_49 sX10_at (Nat.le_of_ble_eq_true rfl) rfl rfl (Nat.le_of_ble_eq_true rfl) ?_
  refine h_at (a := 50) (n := 16) (i := wi (si w 49 3 ((wi w 49 3) - 1)) 49 3) (w := si w 49 3 ((wi w 49 3) - 1)) rfl (Nat.le_of_ble_eq_true rfl) ?_
  show Go SC mX4_takeBack 22 [(0, .ref 49), (1, .ref (hA ca1))] [.int (gf (si w 49 3 ((wi w 49 3) - 1)) 50 16 (wi (si w 49 3 ((wi w 49 3) - 1)) 49 3)), .ref (hA ca1)] (si w 49 3 ((wi w 49 3) - 1)) Q
  refine g_callV (pc := 22) (M' := mX2_danceAt) (n := 1) (a := (hA ca1)) (as := [.int (gf (si w 49 3 ((wi w 49 3) - 1)) 50 16 (wi (si w 49 3 ((wi w 49 3) - 1)) 49 3))]) (st := []) dX4_takeBack_22 rfl kX4_53 vX2_danceAt (Nat.le_of_ble_eq_true rfl) (sh_h ca1) qX2 rfl rfl (Nat.le_of_ble_eq_true rfl) ?_
  refine h_danceAt (c := ca1) (d := (gf (si w 49 3 ((wi w 49 3) - 1)) 50 16 (wi (si w 49 3 ((wi w 49 3) - 1)) 49 3))) (w := si w 49 3 ((wi w 49 3) - 1)) (hR := hR) (fun qd1 => ?_) (fun qd1 => ?_)
  · have h := h.1 qd1
    show Go SC mX4_takeBack 25 [(0, .ref 49), (1, .ref (hA ca1))] [.ref (dA (hA ca1) (gf (si w 49 3 ((wi w 49 3) - 1)) 50 16 (wi (si w 49 3 ((wi w 49 3) - 1)) 49 3)).toNatClampNeg)] (si w 49 3 ((wi w 49 3) - 1)) Q
    refine g_astore_n (pc := 25) (lv2 := [(0, .ref 49), (1, .ref (hA ca1)), (2, .ref (dA (hA ca1) (gf (si w 49 3 ((wi w 49 3) - 1)) 50 16 (wi (si w 49 3 ((wi w 49 3) - 1)) 49 3)).toNatClampNeg))]) dX4_takeBack_25 rfl (Nat.le_of_ble_eq_true rfl) rfl ?_
    refine g_aload_n (pc := 26) dX4_takeBack_26 rfl 2 rfl ?_
    refine g_ifnullR (pc := 27) dX4_takeBack_27 ?_
    refine g_aload_n (pc := 30) dX4_takeBack_30 rfl 2 rfl ?_
    refine g_getR (pc := 31) (a := (dA (hA ca1) (gf (si w 49 3 ((wi w 49 3) - 1)) 50 16 (wi (si w 49 3 ((wi w 49 3) - 1)) 49 3)).toNatClampNeg)) (b := (dA (hA ca1) (gf (si w 49 3 ((wi w 49 3) - 1)) 50 16 (wi (si w 49 3 ((wi w 49 3) - 1)) 49 3)).toNatClampNeg + 2)) dX4_takeBack_31 rfl fX4_59 (sh_d ca1 (lt5 qd1.1 qd1.2.2)) (rd_4 hR ca1 (lt5 qd1.1 qd1.2.2)) ?_
    refine g_aload_n (pc := 34) dX4_takeBack_34 rfl 0 rfl ?_
    refine g_getR (pc := 35) (a := 49) (b := 51) dX4_takeBack_35 rfl fX4_15 rfl (rc_49_1 hR) ?_
    refine g_aload_n (pc := 38) dX4_takeBack_38 rfl 0 rfl ?_
    refine g_getI (pc := 39) (a := 49) dX4_takeBack_39 rfl fX4_27 rfl ?_
    refine g_callS (pc := 42) (M' := mX10_at) (n := 2) (as := [.ref 51, .int (wi (si w 49 3 ((wi w 49 3) - 1)) 49 3)]) (st := [.ref (dA (hA ca1) (gf (si w 49 3 ((wi w 49 3) - 1)) 50 16 (wi (si w 49 3 ((wi w 49 3) - 1)) 49 3)).toNatClampNeg + 2)]) dX4_takeBack_42 rfl kX4_49 sX10_at (Nat.le_of_ble_eq_true rfl) rfl rfl (Nat.le_of_ble_eq_true rfl) ?_
    refine h_at (a := 51) (n := 16) (i := wi (si w 49 3 ((wi w 49 3) - 1)) 49 3) (w := si w 49 3 ((wi w 49 3) - 1)) rfl (Nat.le_of_ble_eq_true rfl) ?_
    show Go SC mX4_takeBack 45 [(0, .ref 49), (1, .ref (hA ca1)), (2, .ref (dA (hA ca1) (gf (si w 49 3 ((wi w 49 3) - 1)) 50 16 (wi (si w 49 3 ((wi w 49 3) - 1)) 49 3)).toNatClampNeg))] [.int (gf (si w 49 3 ((wi w 49 3) - 1)) 51 16 (wi (si w 49 3 ((wi w 49 3) - 1)) 49 3)), .ref (dA (hA ca1) (gf (si w 49 3 ((wi w 49 3) - 1)) 50 16 (wi (si w 49 3 ((wi w 49 3) - 1)) 49 3)).toNatClampNeg + 2)] (si w 49 3 ((wi w 49 3) - 1)) Q
    refine g_aload_n (pc := 45) dX4_takeBack_45 rfl 0 rfl ?_
    refine g_getR (pc := 46) (a := 49) (b := 52) dX4_takeBack_46 rfl fX4_18 rfl (rc_49_2 hR) ?_
    refine g_aload_n (pc := 49) dX4_takeBack_49 rfl 0 rfl ?_
    refine g_getI (pc := 50) (a := 49) dX4_takeBack_50 rfl fX4_27 rfl ?_
    refine g_callS (pc := 53) (M' := mX10_at) (n := 2) (as := [.ref 52, .int (wi (si w 49 3 ((wi w 49 3) - 1)) 49 3)]) (st := [.int (gf (si w 49 3 ((wi w 49 3) - 1)) 51 16 (wi (si w 49 3 ((wi w 49 3) - 1)) 49 3)), .ref (dA (hA ca1) (gf (si w 49 3 ((wi w 49 3) - 1)) 50 16 (wi (si w 49 3 ((wi w 49 3) - 1)) 49 3)).toNatClampNeg + 2)]) dX4_takeBack_53 rfl kX4_49 sX10_at (Nat.le_of_ble_eq_true rfl) rfl rfl (Nat.le_of_ble_eq_true rfl) ?_
    refine h_at (a := 52) (n := 16) (i := wi (si w 49 3 ((wi w 49 3) - 1)) 49 3) (w := si w 49 3 ((wi w 49 3) - 1)) rfl (Nat.le_of_ble_eq_true rfl) ?_
    show Go SC mX4_takeBack 56 [(0, .ref 49), (1, .ref (hA ca1)), (2, .ref (dA (hA ca1) (gf (si w 49 3 ((wi w 49 3) - 1)) 50 16 (wi (si w 49 3 ((wi w 49 3) - 1)) 49 3)).toNatClampNeg))] [.int (gf (si w 49 3 ((wi w 49 3) - 1)) 52 16 (wi (si w 49 3 ((wi w 49 3) - 1)) 49 3)), .int (gf (si w 49 3 ((wi w 49 3) - 1)) 51 16 (wi (si w 49 3 ((wi w 49 3) - 1)) 49 3)), .ref (dA (hA ca1) (gf (si w 49 3 ((wi w 49 3) - 1)) 50 16 (wi (si w 49 3 ((wi w 49 3) - 1)) 49 3)).toNatClampNeg + 2)] (si w 49 3 ((wi w 49 3) - 1)) Q
    refine g_callV (pc := 56) (M' := mX7_put) (n := 2) (a := (dA (hA ca1) (gf (si w 49 3 ((wi w 49 3) - 1)) 50 16 (wi (si w 49 3 ((wi w 49 3) - 1)) 49 3)).toNatClampNeg + 2)) (as := [.int (gf (si w 49 3 ((wi w 49 3) - 1)) 51 16 (wi (si w 49 3 ((wi w 49 3) - 1)) 49 3)), .int (gf (si w 49 3 ((wi w 49 3) - 1)) 52 16 (wi (si w 49 3 ((wi w 49 3) - 1)) 49 3))]) (st := []) dX4_takeBack_56 rfl kX4_65 vX7_put (Nat.le_of_ble_eq_true rfl) (sh_dn ca1 (lt5 qd1.1 qd1.2.2)) qX7 rfl rfl (Nat.le_of_ble_eq_true rfl) ?_
    refine zX7_put (t := (dA (hA ca1) (gf (si w 49 3 ((wi w 49 3) - 1)) 50 16 (wi (si w 49 3 ((wi w 49 3) - 1)) 49 3)).toNatClampNeg + 2)) (a1 := (gf (si w 49 3 ((wi w 49 3) - 1)) 51 16 (wi (si w 49 3 ((wi w 49 3) - 1)) 49 3))) (a2 := (gf (si w 49 3 ((wi w 49 3) - 1)) 52 16 (wi (si w 49 3 ((wi w 49 3) - 1)) 49 3))) (w := si w 49 3 ((wi w 49 3) - 1)) (b := b) (hR := hR) (ht := (sh_dn ca1 (lt5 qd1.1 qd1.2.2))) ?_
    show Go SC mX4_takeBack 59 [(0, .ref 49), (1, .ref (hA ca1)), (2, .ref (dA (hA ca1) (gf (si w 49 3 ((wi w 49 3) - 1)) 50 16 (wi (si w 49 3 ((wi w 49 3) - 1)) 49 3)).toNatClampNeg))] [] (wXX7_put (dA (hA ca1) (gf (si w 49 3 ((wi w 49 3) - 1)) 50 16 (wi (si w 49 3 ((wi w 49 3) - 1)) 49 3)).toNatClampNeg + 2) (gf (si w 49 3 ((wi w 49 3) - 1)) 51 16 (wi (si w 49 3 ((wi w 49 3) - 1)) 49 3)) (gf (si w 49 3 ((wi w 49 3) - 1)) 52 16 (wi (si w 49 3 ((wi w 49 3) - 1)) 49 3)) (si w 49 3 ((wi w 49 3) - 1))) Q
    exact g_vret (pc := 59) dX4_takeBack_59 rfl h
  · have h := h.2 qd1
    show Go SC mX4_takeBack 25 [(0, .ref 49), (1, .ref (hA ca1))] [.null] (si w 49 3 ((wi w 49 3) - 1)) Q
    refine g_astore_nN (pc := 25) (lv2 := [(0, .ref 49), (1, .ref (hA ca1)), (2, .null)]) dX4_takeBack_25 rfl (Nat.le_of_ble_eq_true rfl) rfl ?_
    refine g_aload_nN (pc := 26) dX4_takeBack_26 rfl 2 rfl ?_
    refine g_ifnullN (pc := 27) (tgt := 59) dX4_takeBack_27 (by decide) ?_
    exact g_vret (pc := 59) dX4_takeBack_59 rfl h
set_option maxHeartbeats 4000000 in
set_option maxRecDepth 100000 in
theorem TX4_draw (ca1 : Bool) (w : Wd) (b : Bool) (hR : w.2.2 = RTab b) (Q : Option Value → Wd → Prop) (h : Go SC mX4_draw 2 [(0, .ref 49), (1, .ref (hA ca1)), (2, .int 0)] [] w Q) : Cl SC mX4_draw [.ref 49, .ref (hA ca1)] w Q := by
  refine cl_of (by decide) (Nat.le_of_ble_eq_true rfl) ?_
  show Go SC mX4_draw 0 [(0, .ref 49), (1, .ref (hA ca1))] [] w Q
  refine g_iconst (pc := 0) dX4_draw_0 c_0 ?_
  refine g_istore_n (pc := 1) (lv2 := [(0, .ref 49), (1, .ref (hA ca1)), (2, .int 0)]) dX4_draw_1 rfl (Nat.le_of_ble_eq_true rfl) rfl ?_
  exact h
set_option maxHeartbeats 4000000 in
set_option maxRecDepth 100000 in
theorem BX4_draw_2 (ca1 : Bool) (l2 : Int32) (w : Wd) (b : Bool) (hR : w.2.2 = RTab b) (Q : Option Value → Wd → Prop) (h : (((wi w (hA ca1) 2) ≤ l2 → Q none (si w 49 6 ((wi w 49 6) + 1))) ∧ (¬ ((wi w (hA ca1) 2) ≤ l2) → ((0 ≤ l2 ∧ l2 < wi w (hA ca1) 2 ∧ l2 < 5 → Go SC mX4_draw 2 [(0, .ref 49), (1, .ref (hA ca1)), (2, .int (l2 + 1))] [] (pf (pf w 53 15 (((wi w 49 6) * 5) + l2) (wi w (dA (hA ca1) l2.toNatClampNeg + 2) 0)) 54 15 (((wi (pf w 53 15 (((wi w 49 6) * 5) + l2) (wi w (dA (hA ca1) l2.toNatClampNeg + 2) 0)) 49 6) * 5) + l2) (wi (pf w 53 15 (((wi w 49 6) * 5) + l2) (wi w (dA (hA ca1) l2.toNatClampNeg + 2) 0)) (dA (hA ca1) l2.toNatClampNeg + 2) 1)) Q) ∧ (¬ (0 ≤ l2 ∧ l2 < wi w (hA ca1) 2 ∧ l2 < 5) → Go SC mX4_draw 2 [(0, .ref 49), (1, .ref (hA ca1)), (2, .int (l2 + 1))] [] w Q))))) : Go SC mX4_draw 2 [(0, .ref 49), (1, .ref (hA ca1)), (2, .int l2)] [] w Q := by
  refine g_iload_n (pc := 2) dX4_draw_2 rfl 2 rfl ?_
  refine g_aload_n (pc := 3) dX4_draw_3 rfl 1 rfl ?_
  refine g_getI (pc := 4) (a := (hA ca1)) dX4_draw_4 rfl fX4_69 (sh_h ca1) ?_
  refine g_icmp_ge (pc := 7) (tgt := 70) dX4_draw_7 (by decide) (fun q => ?_) (fun q => ?_)
  · have h := h.1 q
    refine g_aload_n (pc := 70) dX4_draw_70 rfl 0 rfl ?_
    refine g_dup (pc := 71) dX4_draw_71 rfl ?_
    refine g_getI (pc := 72) (a := 49) dX4_draw_72 rfl fX4_31 rfl ?_
    refine g_iconst (pc := 75) dX4_draw_75 c_1 ?_
    refine g_iadd (pc := 76) dX4_draw_76 ?_
    refine g_putI (pc := 77) dX4_draw_77 rfl fX4_31 pX4_6 rfl ?_
    exact g_vret (pc := 80) dX4_draw_80 rfl h
  · have h := h.2 q
    refine g_aload_n (pc := 10) dX4_draw_10 rfl 1 rfl ?_
    refine g_iload_n (pc := 11) dX4_draw_11 rfl 2 rfl ?_
    refine g_callV (pc := 12) (M' := mX2_danceAt) (n := 1) (a := (hA ca1)) (as := [.int l2]) (st := []) dX4_draw_12 rfl kX4_53 vX2_danceAt (Nat.le_of_ble_eq_true rfl) (sh_h ca1) qX2 rfl rfl (Nat.le_of_ble_eq_true rfl) ?_
    refine h_danceAt (c := ca1) (d := l2) (w := w) (hR := hR) (fun qd1 => ?_) (fun qd1 => ?_)
    · have h := h.1 qd1
      show Go SC mX4_draw 15 [(0, .ref 49), (1, .ref (hA ca1)), (2, .int l2)] [.ref (dA (hA ca1) l2.toNatClampNeg)] w Q
      refine g_astore_n (pc := 15) (lv2 := [(0, .ref 49), (1, .ref (hA ca1)), (2, .int l2), (3, .ref (dA (hA ca1) l2.toNatClampNeg))]) dX4_draw_15 rfl (Nat.le_of_ble_eq_true rfl) rfl ?_
      refine g_aload_n (pc := 16) dX4_draw_16 rfl 3 rfl ?_
      refine g_ifnullR (pc := 17) dX4_draw_17 ?_
      refine g_aload_n (pc := 20) dX4_draw_20 rfl 0 rfl ?_
      refine g_getR (pc := 21) (a := 49) (b := 53) dX4_draw_21 rfl fX4_21 rfl (rc_49_4 hR) ?_
      refine g_aload_n (pc := 24) dX4_draw_24 rfl 0 rfl ?_
      refine g_getI (pc := 25) (a := 49) dX4_draw_25 rfl fX4_31 rfl ?_
      refine g_iconst (pc := 28) dX4_draw_28 c_5 ?_
      refine g_imul (pc := 29) dX4_draw_29 ?_
      refine g_iload_n (pc := 30) dX4_draw_30 rfl 2 rfl ?_
      refine g_iadd (pc := 31) dX4_draw_31 ?_
      refine g_aload_n (pc := 32) dX4_draw_32 rfl 3 rfl ?_
      refine g_getR (pc := 33) (a := (dA (hA ca1) l2.toNatClampNeg)) (b := (dA (hA ca1) l2.toNatClampNeg + 2)) dX4_draw_33 rfl fX4_59 (sh_d ca1 (lt5 qd1.1 qd1.2.2)) (rd_4 hR ca1 (lt5 qd1.1 qd1.2.2)) ?_
      refine g_getI (pc := 36) (a := (dA (hA ca1) l2.toNatClampNeg + 2)) dX4_draw_36 rfl fX4_41 (sh_dn ca1 (lt5 qd1.1 qd1.2.2)) ?_
      refine g_callS (pc := 39) (M' := mX10_putAt) (n := 3) (as := [.ref 53, .int (((wi w 49 6) * 5) + l2), .int (wi w (dA (hA ca1) l2.toNatClampNeg + 2) 0)]) (st := []) dX4_draw_39 rfl kX4_37 sX10_putAt (Nat.le_of_ble_eq_true rfl) rfl rfl (Nat.le_of_ble_eq_true rfl) ?_
      refine h_putAt (a := 53) (n := 15) (i := ((wi w 49 6) * 5) + l2) (v := wi w (dA (hA ca1) l2.toNatClampNeg + 2) 0) (w := w) rfl (Nat.le_of_ble_eq_true rfl) ?_
      show Go SC mX4_draw 42 [(0, .ref 49), (1, .ref (hA ca1)), (2, .int l2), (3, .ref (dA (hA ca1) l2.toNatClampNeg))] [] (pf w 53 15 (((wi w 49 6) * 5) + l2) (wi w (dA (hA ca1) l2.toNatClampNeg + 2) 0)) Q
      refine g_aload_n (pc := 42) dX4_draw_42 rfl 0 rfl ?_
      refine g_getR (pc := 43) (a := 49) (b := 54) dX4_draw_43 rfl fX4_24 rfl (rc_49_5 ((pf_R _ _ _ _ _).trans hR)) ?_
      refine g_aload_n (pc := 46) dX4_draw_46 rfl 0 rfl ?_
      refine g_getI (pc := 47) (a := 49) dX4_draw_47 rfl fX4_31 rfl ?_
      refine g_iconst (pc := 50) dX4_draw_50 c_5 ?_
      refine g_imul (pc := 51) dX4_draw_51 ?_
      refine g_iload_n (pc := 52) dX4_draw_52 rfl 2 rfl ?_
      refine g_iadd (pc := 53) dX4_draw_53 ?_
      refine g_aload_n (pc := 54) dX4_draw_54 rfl 3 rfl ?_
      refine g_getR (pc := 55) (a := (dA (hA ca1) l2.toNatClampNeg)) (b := (dA (hA ca1) l2.toNatClampNeg + 2)) dX4_draw_55 rfl fX4_59 (sh_d ca1 (lt5 qd1.1 qd1.2.2)) (rd_4 ((pf_R _ _ _ _ _).trans hR) ca1 (lt5 qd1.1 qd1.2.2)) ?_
      refine g_getI (pc := 58) (a := (dA (hA ca1) l2.toNatClampNeg + 2)) dX4_draw_58 rfl fX4_46 (sh_dn ca1 (lt5 qd1.1 qd1.2.2)) ?_
      refine g_callS (pc := 61) (M' := mX10_putAt) (n := 3) (as := [.ref 54, .int (((wi (pf w 53 15 (((wi w 49 6) * 5) + l2) (wi w (dA (hA ca1) l2.toNatClampNeg + 2) 0)) 49 6) * 5) + l2), .int (wi (pf w 53 15 (((wi w 49 6) * 5) + l2) (wi w (dA (hA ca1) l2.toNatClampNeg + 2) 0)) (dA (hA ca1) l2.toNatClampNeg + 2) 1)]) (st := []) dX4_draw_61 rfl kX4_37 sX10_putAt (Nat.le_of_ble_eq_true rfl) rfl rfl (Nat.le_of_ble_eq_true rfl) ?_
      refine h_putAt (a := 54) (n := 15) (i := ((wi (pf w 53 15 (((wi w 49 6) * 5) + l2) (wi w (dA (hA ca1) l2.toNatClampNeg + 2) 0)) 49 6) * 5) + l2) (v := wi (pf w 53 15 (((wi w 49 6) * 5) + l2) (wi w (dA (hA ca1) l2.toNatClampNeg + 2) 0)) (dA (hA ca1) l2.toNatClampNeg + 2) 1) (w := pf w 53 15 (((wi w 49 6) * 5) + l2) (wi w (dA (hA ca1) l2.toNatClampNeg + 2) 0)) rfl (Nat.le_of_ble_eq_true rfl) ?_
      show Go SC mX4_draw 64 [(0, .ref 49), (1, .ref (hA ca1)), (2, .int l2), (3, .ref (dA (hA ca1) l2.toNatClampNeg))] [] (pf (pf w 53 15 (((wi w 49 6) * 5) + l2) (wi w (dA (hA ca1) l2.toNatClampNeg + 2) 0)) 54 15 (((wi (pf w 53 15 (((wi w 49 6) * 5) + l2) (wi w (dA (hA ca1) l2.toNatClampNeg + 2) 0)) 49 6) * 5) + l2) (wi (pf w 53 15 (((wi w 49 6) * 5) + l2) (wi w (dA (hA ca1) l2.toNatClampNeg + 2) 0)) (dA (hA ca1) l2.toNatClampNeg + 2) 1)) Q
      refine g_iinc (pc := 64) (v := l2 + 1) (lv2 := [(0, .ref 49), (1, .ref (hA ca1)), (2, .int (l2 + 1)), (3, .ref (dA (hA ca1) l2.toNatClampNeg))]) dX4_draw_64 2 rfl (Nat.le_of_ble_eq_true rfl) rfl rfl ?_
      refine g_goto (pc := 67) (tgt := 2) dX4_draw_67 (by decide) ?_
      refine g_sub (lv2 := [(0, .ref 49), (1, .ref (hA ca1)), (2, .int (l2 + 1))]) [0, 1, 2] rfl ?_
      exact h
    · have h := h.2 qd1
      show Go SC mX4_draw 15 [(0, .ref 49), (1, .ref (hA ca1)), (2, .int l2)] [.null] w Q
      refine g_astore_nN (pc := 15) (lv2 := [(0, .ref 49), (1, .ref (hA ca1)), (2, .int l2), (3, .null)]) dX4_draw_15 rfl (Nat.le_of_ble_eq_true rfl) rfl ?_
      refine g_aload_nN (pc := 16) dX4_draw_16 rfl 3 rfl ?_
      refine g_ifnullN (pc := 17) (tgt := 64) dX4_draw_17 (by decide) ?_
      refine g_iinc (pc := 64) (v := l2 + 1) (lv2 := [(0, .ref 49), (1, .ref (hA ca1)), (2, .int (l2 + 1)), (3, .null)]) dX4_draw_64 2 rfl (Nat.le_of_ble_eq_true rfl) rfl rfl ?_
      refine g_goto (pc := 67) (tgt := 2) dX4_draw_67 (by decide) ?_
      refine g_sub (lv2 := [(0, .ref 49), (1, .ref (hA ca1)), (2, .int (l2 + 1))]) [0, 1, 2] rfl ?_
      exact h
set_option maxHeartbeats 4000000 in
set_option maxRecDepth 100000 in
theorem TX4_goBack (a1 : Int32) (ca2 : Bool) (w : Wd) (b : Bool) (hR : w.2.2 = RTab b) (Q : Option Value → Wd → Prop) (h : Go SC mX4_goBack 2 [(0, .ref 49), (1, .int a1), (2, .ref (hA ca2)), (3, .int 0)] [] w Q) : Cl SC mX4_goBack [.ref 49, .int a1, .ref (hA ca2)] w Q := by
  refine cl_of (by decide) (Nat.le_of_ble_eq_true rfl) ?_
  show Go SC mX4_goBack 0 [(0, .ref 49), (1, .int a1), (2, .ref (hA ca2))] [] w Q
  refine g_iconst (pc := 0) dX4_goBack_0 c_0 ?_
  refine g_istore_n (pc := 1) (lv2 := [(0, .ref 49), (1, .int a1), (2, .ref (hA ca2)), (3, .int 0)]) dX4_goBack_1 rfl (Nat.le_of_ble_eq_true rfl) rfl ?_
  exact h
set_option maxHeartbeats 4000000 in
set_option maxRecDepth 100000 in
theorem BX4_goBack_2 (ca2 : Bool) (l1 : Int32) (l3 : Int32) (w : Wd) (b : Bool) (hR : w.2.2 = RTab b) (Q : Option Value → Wd → Prop) (h : (((wi w (hA ca2) 2) ≤ l3 → Q none (si w 49 3 0)) ∧ (¬ ((wi w (hA ca2) 2) ≤ l3) → ((0 ≤ l3 ∧ l3 < wi w (hA ca2) 2 ∧ l3 < 5 → Go SC mX4_goBack 2 [(0, .ref 49), (1, .int l1), (2, .ref (hA ca2)), (3, .int (l3 + 1))] [] (wXX7_put (dA (hA ca2) l3.toNatClampNeg + 2) (gf w 53 15 ((l1 * 5) + l3)) (gf w 54 15 ((l1 * 5) + l3)) w) Q) ∧ (¬ (0 ≤ l3 ∧ l3 < wi w (hA ca2) 2 ∧ l3 < 5) → Go SC mX4_goBack 2 [(0, .ref 49), (1, .int l1), (2, .ref (hA ca2)), (3, .int (l3 + 1))] [] w Q))))) : Go SC mX4_goBack 2 [(0, .ref 49), (1, .int l1), (2, .ref (hA ca2)), (3, .int l3)] [] w Q := by
  refine g_iload_n (pc := 2) dX4_goBack_2 rfl 3 rfl ?_
  refine g_aload_n (pc := 3) dX4_goBack_3 rfl 2 rfl ?_
  refine g_getI (pc := 4) (a := (hA ca2)) dX4_goBack_4 rfl fX4_69 (sh_h ca2) ?_
  refine g_icmp_ge (pc := 7) (tgt := 61) dX4_goBack_7 (by decide) (fun q => ?_) (fun q => ?_)
  · have h := h.1 q
    refine g_aload_n (pc := 61) dX4_goBack_61 rfl 0 rfl ?_
    refine g_iconst (pc := 62) dX4_goBack_62 c_0 ?_
    refine g_putI (pc := 63) dX4_goBack_63 rfl fX4_27 pX4_3 rfl ?_
    exact g_vret (pc := 66) dX4_goBack_66 rfl h
  · have h := h.2 q
    refine g_aload_n (pc := 10) dX4_goBack_10 rfl 2 rfl ?_
    refine g_iload_n (pc := 11) dX4_goBack_11 rfl 3 rfl ?_
    refine g_callV (pc := 12) (M' := mX2_danceAt) (n := 1) (a := (hA ca2)) (as := [.int l3]) (st := []) dX4_goBack_12 rfl kX4_53 vX2_danceAt (Nat.le_of_ble_eq_true rfl) (sh_h ca2) qX2 rfl rfl (Nat.le_of_ble_eq_true rfl) ?_
    refine h_danceAt (c := ca2) (d := l3) (w := w) (hR := hR) (fun qd1 => ?_) (fun qd1 => ?_)
    · have h := h.1 qd1
      show Go SC mX4_goBack 15 [(0, .ref 49), (1, .int l1), (2, .ref (hA ca2)), (3, .int l3)] [.ref (dA (hA ca2) l3.toNatClampNeg)] w Q
      refine g_astore (pc := 15) (lv2 := [(0, .ref 49), (1, .int l1), (2, .ref (hA ca2)), (3, .int l3), (4, .ref (dA (hA ca2) l3.toNatClampNeg))]) dX4_goBack_15 (Nat.le_of_ble_eq_true rfl) rfl ?_
      refine g_aload (pc := 17) dX4_goBack_17 4 rfl ?_
      refine g_ifnullR (pc := 19) dX4_goBack_19 ?_
      refine g_iload_n (pc := 22) dX4_goBack_22 rfl 1 rfl ?_
      refine g_iconst (pc := 23) dX4_goBack_23 c_5 ?_
      refine g_imul (pc := 24) dX4_goBack_24 ?_
      refine g_iload_n (pc := 25) dX4_goBack_25 rfl 3 rfl ?_
      refine g_iadd (pc := 26) dX4_goBack_26 ?_
      refine g_istore (pc := 27) (lv2 := [(0, .ref 49), (1, .int l1), (2, .ref (hA ca2)), (3, .int l3), (4, .ref (dA (hA ca2) l3.toNatClampNeg)), (5, .int ((l1 * 5) + l3))]) dX4_goBack_27 (Nat.le_of_ble_eq_true rfl) rfl ?_
      refine g_aload (pc := 29) dX4_goBack_29 4 rfl ?_
      refine g_getR (pc := 31) (a := (dA (hA ca2) l3.toNatClampNeg)) (b := (dA (hA ca2) l3.toNatClampNeg + 2)) dX4_goBack_31 rfl fX4_59 (sh_d ca2 (lt5 qd1.1 qd1.2.2)) (rd_4 hR ca2 (lt5 qd1.1 qd1.2.2)) ?_
      refine g_aload_n (pc := 34) dX4_goBack_34 rfl 0 rfl ?_
      refine g_getR (pc := 35) (a := 49) (b := 53) dX4_goBack_35 rfl fX4_21 rfl (rc_49_4 hR) ?_
      refine g_iload (pc := 38) dX4_goBack_38 5 rfl ?_
      refine g_callS (pc := 40) (M' := mX10_at) (n := 2) (as := [.ref 53, .int ((l1 * 5) + l3)]) (st := [.ref (dA (hA ca2) l3.toNatClampNeg + 2)]) dX4_goBack_40 rfl kX4_49 sX10_at (Nat.le_of_ble_eq_true rfl) rfl rfl (Nat.le_of_ble_eq_true rfl) ?_
      refine h_at (a := 53) (n := 15) (i := (l1 * 5) + l3) (w := w) rfl (Nat.le_of_ble_eq_true rfl) ?_
      show Go SC mX4_goBack 43 [(0, .ref 49), (1, .int l1), (2, .ref (hA ca2)), (3, .int l3), (4, .ref (dA (hA ca2) l3.toNatClampNeg)), (5, .int ((l1 * 5) + l3))] [.int (gf w 53 15 ((l1 * 5) + l3)), .ref (dA (hA ca2) l3.toNatClampNeg + 2)] w Q
      refine g_aload_n (pc := 43) dX4_goBack_43 rfl 0 rfl ?_
      refine g_getR (pc := 44) (a := 49) (b := 54) dX4_goBack_44 rfl fX4_24 rfl (rc_49_5 hR) ?_
      refine g_iload (pc := 47) dX4_goBack_47 5 rfl ?_
      refine g_callS (pc := 49) (M' := mX10_at) (n := 2) (as := [.ref 54, .int ((l1 * 5) + l3)]) (st := [.int (gf w 53 15 ((l1 * 5) + l3)), .ref (dA (hA ca2) l3.toNatClampNeg + 2)]) dX4_goBack_49 rfl kX4_49 sX10_at (Nat.le_of_ble_eq_true rfl) rfl rfl (Nat.le_of_ble_eq_true rfl) ?_
      refine h_at (a := 54) (n := 15) (i := (l1 * 5) + l3) (w := w) rfl (Nat.le_of_ble_eq_true rfl) ?_
      show Go SC mX4_goBack 52 [(0, .ref 49), (1, .int l1), (2, .ref (hA ca2)), (3, .int l3), (4, .ref (dA (hA ca2) l3.toNatClampNeg)), (5, .int ((l1 * 5) + l3))] [.int (gf w 54 15 ((l1 * 5) + l3)), .int (gf w 53 15 ((l1 * 5) + l3)), .ref (dA (hA ca2) l3.toNatClampNeg + 2)] w Q
      refine g_callV (pc := 52) (M' := mX7_put) (n := 2) (a := (dA (hA ca2) l3.toNatClampNeg + 2)) (as := [.int (gf w 53 15 ((l1 * 5) + l3)), .int (gf w 54 15 ((l1 * 5) + l3))]) (st := []) dX4_goBack_52 rfl kX4_65 vX7_put (Nat.le_of_ble_eq_true rfl) (sh_dn ca2 (lt5 qd1.1 qd1.2.2)) qX7 rfl rfl (Nat.le_of_ble_eq_true rfl) ?_
      refine zX7_put (t := (dA (hA ca2) l3.toNatClampNeg + 2)) (a1 := (gf w 53 15 ((l1 * 5) + l3))) (a2 := (gf w 54 15 ((l1 * 5) + l3))) (w := w) (b := b) (hR := hR) (ht := (sh_dn ca2 (lt5 qd1.1 qd1.2.2))) ?_
      show Go SC mX4_goBack 55 [(0, .ref 49), (1, .int l1), (2, .ref (hA ca2)), (3, .int l3), (4, .ref (dA (hA ca2) l3.toNatClampNeg)), (5, .int ((l1 * 5) + l3))] [] (wXX7_put (dA (hA ca2) l3.toNatClampNeg + 2) (gf w 53 15 ((l1 * 5) + l3)) (gf w 54 15 ((l1 * 5) + l3)) w) Q
      refine g_iinc (pc := 55) (v := l3 + 1) (lv2 := [(0, .ref 49), (1, .int l1), (2, .ref (hA ca2)), (3, .int (l3 + 1)), (4, .ref (dA (hA ca2) l3.toNatClampNeg)), (5, .int ((l1 * 5) + l3))]) dX4_goBack_55 3 rfl (Nat.le_of_ble_eq_true rfl) rfl rfl ?_
      refine g_goto (pc := 58) (tgt := 2) dX4_goBack_58 (by decide) ?_
      refine g_sub (lv2 := [(0, .ref 49), (1, .int l1), (2, .ref (hA ca2)), (3, .int (l3 + 1))]) [0, 1, 2, 3] rfl ?_
      exact h
    · have h := h.2 qd1
      show Go SC mX4_goBack 15 [(0, .ref 49), (1, .int l1), (2, .ref (hA ca2)), (3, .int l3)] [.null] w Q
      refine g_astoreN (pc := 15) (lv2 := [(0, .ref 49), (1, .int l1), (2, .ref (hA ca2)), (3, .int l3), (4, .null)]) dX4_goBack_15 (Nat.le_of_ble_eq_true rfl) rfl ?_
      refine g_aloadN (pc := 17) dX4_goBack_17 4 rfl ?_
      refine g_ifnullN (pc := 19) (tgt := 55) dX4_goBack_19 (by decide) ?_
      refine g_iinc (pc := 55) (v := l3 + 1) (lv2 := [(0, .ref 49), (1, .int l1), (2, .ref (hA ca2)), (3, .int (l3 + 1)), (4, .null)]) dX4_goBack_55 3 rfl (Nat.le_of_ble_eq_true rfl) rfl rfl ?_
      refine g_goto (pc := 58) (tgt := 2) dX4_goBack_58 (by decide) ?_
      refine g_sub (lv2 := [(0, .ref 49), (1, .int l1), (2, .ref (hA ca2)), (3, .int (l3 + 1))]) [0, 1, 2, 3] rfl ?_
      exact h
set_option maxHeartbeats 4000000 in
set_option maxRecDepth 100000 in
theorem TX5_take (t : Nat) (ht : SC[t]? = some (.inl 5)) (a1 : Int32) (w : Wd) (b : Bool) (hR : w.2.2 = RTab b) (Q : Option Value → Wd → Prop) (h : ((a1 = 0 → Q none (si (si w t 0 ((wi w t 0) + (wi w t 2))) t 1 ((wi (si w t 0 ((wi w t 0) + (wi w t 2))) t 1) + (wi (si w t 0 ((wi w t 0) + (wi w t 2))) t 3)))) ∧ (¬ (a1 = 0) → ((a1 = 1 → Q none (si (si w t 0 ((wi w t 0) - (wi w t 2))) t 1 ((wi (si w t 0 ((wi w t 0) - (wi w t 2))) t 1) - (wi (si w t 0 ((wi w t 0) - (wi w t 2))) t 3)))) ∧ (¬ (a1 = 1) → Q none (si (si (si (si w t 0 (-(wi w t 2))) t 1 (-(wi (si w t 0 (-(wi w t 2))) t 3))) t 2 (wi w t 0)) t 3 (wi w t 1))))))) : Cl SC mX5_take [.ref t, .int a1] w Q := by
  refine cl_of (by decide) (Nat.le_of_ble_eq_true rfl) ?_
  show Go SC mX5_take 0 [(0, .ref t), (1, .int a1)] [] w Q
  refine g_iload_n (pc := 0) dX5_take_0 rfl 1 rfl ?_
  refine g_if_ne (pc := 1) (tgt := 33) dX5_take_1 (by decide) (fun q => ?_) (fun q => ?_)
  · have h := h.2 q
    refine g_iload_n (pc := 33) dX5_take_33 rfl 1 rfl ?_
    refine g_iconst (pc := 34) dX5_take_34 c_1 ?_
    refine g_icmp_ne (pc := 35) (tgt := 67) dX5_take_35 (by decide) (fun q => ?_) (fun q => ?_)
    · have h := h.2 q
      refine g_aload_n (pc := 67) dX5_take_67 rfl 0 rfl ?_
      refine g_getI (pc := 68) (a := t) dX5_take_68 rfl fX5_9 ht ?_
      refine g_istore_n (pc := 71) (lv2 := [(0, .ref t), (1, .int a1), (2, .int (wi w t 0))]) dX5_take_71 rfl (Nat.le_of_ble_eq_true rfl) rfl ?_
      refine g_aload_n (pc := 72) dX5_take_72 rfl 0 rfl ?_
      refine g_getI (pc := 73) (a := t) dX5_take_73 rfl fX5_15 ht ?_
      refine g_istore_n (pc := 76) (lv2 := [(0, .ref t), (1, .int a1), (2, .int (wi w t 0)), (3, .int (wi w t 1))]) dX5_take_76 rfl (Nat.le_of_ble_eq_true rfl) rfl ?_
      refine g_aload_n (pc := 77) dX5_take_77 rfl 0 rfl ?_
      refine g_aload_n (pc := 78) dX5_take_78 rfl 0 rfl ?_
      refine g_getI (pc := 79) (a := t) dX5_take_79 rfl fX5_18 ht ?_
      refine g_ineg (pc := 82) dX5_take_82 ?_
      refine g_putI (pc := 83) dX5_take_83 rfl fX5_9 pX5_0 ht ?_
      refine g_aload_n (pc := 86) dX5_take_86 rfl 0 rfl ?_
      refine g_aload_n (pc := 87) dX5_take_87 rfl 0 rfl ?_
      refine g_getI (pc := 88) (a := t) dX5_take_88 rfl fX5_21 ht ?_
      refine g_ineg (pc := 91) dX5_take_91 ?_
      refine g_putI (pc := 92) dX5_take_92 rfl fX5_15 pX5_1 ht ?_
      refine g_aload_n (pc := 95) dX5_take_95 rfl 0 rfl ?_
      refine g_iload_n (pc := 96) dX5_take_96 rfl 2 rfl ?_
      refine g_putI (pc := 97) dX5_take_97 rfl fX5_18 pX5_2 ht ?_
      refine g_aload_n (pc := 100) dX5_take_100 rfl 0 rfl ?_
      refine g_iload_n (pc := 101) dX5_take_101 rfl 3 rfl ?_
      refine g_putI (pc := 102) dX5_take_102 rfl fX5_21 pX5_3 ht ?_
      exact g_vret (pc := 105) dX5_take_105 rfl h
    · have h := h.1 q
      refine g_aload_n (pc := 38) dX5_take_38 rfl 0 rfl ?_
      refine g_dup (pc := 39) dX5_take_39 rfl ?_
      refine g_getI (pc := 40) (a := t) dX5_take_40 rfl fX5_9 ht ?_
      refine g_aload_n (pc := 43) dX5_take_43 rfl 0 rfl ?_
      refine g_getI (pc := 44) (a := t) dX5_take_44 rfl fX5_18 ht ?_
      refine g_isub (pc := 47) dX5_take_47 ?_
      refine g_putI (pc := 48) dX5_take_48 rfl fX5_9 pX5_0 ht ?_
      refine g_aload_n (pc := 51) dX5_take_51 rfl 0 rfl ?_
      refine g_dup (pc := 52) dX5_take_52 rfl ?_
      refine g_getI (pc := 53) (a := t) dX5_take_53 rfl fX5_15 ht ?_
      refine g_aload_n (pc := 56) dX5_take_56 rfl 0 rfl ?_
      refine g_getI (pc := 57) (a := t) dX5_take_57 rfl fX5_21 ht ?_
      refine g_isub (pc := 60) dX5_take_60 ?_
      refine g_putI (pc := 61) dX5_take_61 rfl fX5_15 pX5_1 ht ?_
      refine g_goto (pc := 64) (tgt := 105) dX5_take_64 (by decide) ?_
      exact g_vret (pc := 105) dX5_take_105 rfl h
  · have h := h.1 q
    refine g_aload_n (pc := 4) dX5_take_4 rfl 0 rfl ?_
    refine g_dup (pc := 5) dX5_take_5 rfl ?_
    refine g_getI (pc := 6) (a := t) dX5_take_6 rfl fX5_9 ht ?_
    refine g_aload_n (pc := 9) dX5_take_9 rfl 0 rfl ?_
    refine g_getI (pc := 10) (a := t) dX5_take_10 rfl fX5_18 ht ?_
    refine g_iadd (pc := 13) dX5_take_13 ?_
    refine g_putI (pc := 14) dX5_take_14 rfl fX5_9 pX5_0 ht ?_
    refine g_aload_n (pc := 17) dX5_take_17 rfl 0 rfl ?_
    refine g_dup (pc := 18) dX5_take_18 rfl ?_
    refine g_getI (pc := 19) (a := t) dX5_take_19 rfl fX5_15 ht ?_
    refine g_aload_n (pc := 22) dX5_take_22 rfl 0 rfl ?_
    refine g_getI (pc := 23) (a := t) dX5_take_23 rfl fX5_21 ht ?_
    refine g_iadd (pc := 26) dX5_take_26 ?_
    refine g_putI (pc := 27) dX5_take_27 rfl fX5_15 pX5_1 ht ?_
    refine g_goto (pc := 30) (tgt := 105) dX5_take_30 (by decide) ?_
    exact g_vret (pc := 105) dX5_take_105 rfl h
set_option maxHeartbeats 4000000 in
set_option maxRecDepth 100000 in
theorem TX5_follow (t : Nat) (ht : SC[t]? = some (.inl 5)) (ca1 : Bool) (ka1 : Nat) (hka1 : ka1 < 5) (w : Wd) (b : Bool) (hR : w.2.2 = RTab b) (Q : Option Value → Wd → Prop) (h : Go SC mX5_follow 22 [(0, .ref t), (1, .ref (dA (hA ca1) ka1)), (2, .int 0)] [] (si (si (si (si w t 0 1) t 1 0) t 2 0) t 3 1) Q) : Cl SC mX5_follow [.ref t, .ref (dA (hA ca1) ka1)] w Q := by
  refine cl_of (by decide) (Nat.le_of_ble_eq_true rfl) ?_
  show Go SC mX5_follow 0 [(0, .ref t), (1, .ref (dA (hA ca1) ka1))] [] w Q
  refine g_aload_n (pc := 0) dX5_follow_0 rfl 0 rfl ?_
  refine g_iconst (pc := 1) dX5_follow_1 c_1 ?_
  refine g_putI (pc := 2) dX5_follow_2 rfl fX5_9 pX5_0 ht ?_
  refine g_aload_n (pc := 5) dX5_follow_5 rfl 0 rfl ?_
  refine g_iconst (pc := 6) dX5_follow_6 c_0 ?_
  refine g_putI (pc := 7) dX5_follow_7 rfl fX5_15 pX5_1 ht ?_
  refine g_aload_n (pc := 10) dX5_follow_10 rfl 0 rfl ?_
  refine g_iconst (pc := 11) dX5_follow_11 c_0 ?_
  refine g_putI (pc := 12) dX5_follow_12 rfl fX5_18 pX5_2 ht ?_
  refine g_aload_n (pc := 15) dX5_follow_15 rfl 0 rfl ?_
  refine g_iconst (pc := 16) dX5_follow_16 c_1 ?_
  refine g_putI (pc := 17) dX5_follow_17 rfl fX5_21 pX5_3 ht ?_
  refine g_iconst (pc := 20) dX5_follow_20 c_0 ?_
  refine g_istore_n (pc := 21) (lv2 := [(0, .ref t), (1, .ref (dA (hA ca1) ka1)), (2, .int 0)]) dX5_follow_21 rfl (Nat.le_of_ble_eq_true rfl) rfl ?_
  exact h
set_option maxHeartbeats 4000000 in
set_option maxRecDepth 100000 in
theorem BX5_follow_22 (t : Nat) (ht : SC[t]? = some (.inl 5)) (ca1 : Bool) (ka1 : Nat) (hka1 : ka1 < 5) (l2 : Int32) (w : Wd) (b : Bool) (hR : w.2.2 = RTab b) (Q : Option Value → Wd → Prop) (h : (((wi w (dA (hA ca1) ka1) 1) ≤ l2 → Q none w) ∧ (¬ ((wi w (dA (hA ca1) ka1) 1) ≤ l2) → ClV SC mX5_take [.ref t, .int (vXX1_figureAt ca1 ka1 l2 w)] w (fun w1 => w1.2.2 = RTab b ∧ Go SC mX5_follow 22 [(0, .ref t), (1, .ref (dA (hA ca1) ka1)), (2, .int (l2 + 1))] [] w1 Q)))) : Go SC mX5_follow 22 [(0, .ref t), (1, .ref (dA (hA ca1) ka1)), (2, .int l2)] [] w Q := by
  refine g_iload_n (pc := 22) dX5_follow_22 rfl 2 rfl ?_
  refine g_aload_n (pc := 23) dX5_follow_23 rfl 1 rfl ?_
  refine g_getI (pc := 24) (a := (dA (hA ca1) ka1)) dX5_follow_24 rfl fX5_24 (sh_d ca1 hka1) ?_
  refine g_icmp_ge (pc := 27) (tgt := 45) dX5_follow_27 (by decide) (fun q => ?_) (fun q => ?_)
  · have h := h.1 q
    exact g_vret (pc := 45) dX5_follow_45 rfl h
  · have h := h.2 q
    refine g_aload_n (pc := 30) dX5_follow_30 rfl 0 rfl ?_
    refine g_aload_n (pc := 31) dX5_follow_31 rfl 1 rfl ?_
    refine g_iload_n (pc := 32) dX5_follow_32 rfl 2 rfl ?_
    refine g_callV (pc := 33) (M' := mX1_figureAt) (n := 1) (a := (dA (hA ca1) ka1)) (as := [.int l2]) (st := [.ref t]) dX5_follow_33 rfl kX5_29 vX1_figureAt (Nat.le_of_ble_eq_true rfl) (sh_d ca1 hka1) qX1 rfl rfl (Nat.le_of_ble_eq_true rfl) ?_
    refine zX1_figureAt (c := ca1) (k := ka1) (a1 := l2) (w := w) (b := b) (hR := hR) (hk := hka1) ?_
    show Go SC mX5_follow 36 [(0, .ref t), (1, .ref (dA (hA ca1) ka1)), (2, .int l2)] [.int (vXX1_figureAt ca1 ka1 l2 w), .ref t] w Q
    refine g_callV (pc := 36) (M' := mX5_take) (n := 1) (a := t) (as := [.int (vXX1_figureAt ca1 ka1 l2 w)]) (st := []) dX5_follow_36 rfl kX5_33 vX5_take (Nat.le_of_ble_eq_true rfl) ht qX5 rfl rfl (Nat.le_of_ble_eq_true rfl) ?_
    refine cl_mono (fun r w1 hr => ?_) h
    obtain ⟨rfl, hw1, h⟩ := hr
    show Go SC mX5_follow 39 [(0, .ref t), (1, .ref (dA (hA ca1) ka1)), (2, .int l2)] [] w1 Q
    refine g_iinc (pc := 39) (v := l2 + 1) (lv2 := [(0, .ref t), (1, .ref (dA (hA ca1) ka1)), (2, .int (l2 + 1))]) dX5_follow_39 2 rfl (Nat.le_of_ble_eq_true rfl) rfl rfl ?_
    refine g_goto (pc := 42) (tgt := 22) dX5_follow_42 (by decide) ?_
    exact h
set_option maxHeartbeats 4000000 in
set_option maxRecDepth 100000 in
theorem TX6_isAlikeBy (a1 : Int32) (a2 : Int32) (a3 : Int32) (w : Wd) (b : Bool) (hR : w.2.2 = RTab b) (Q : Option Value → Wd → Prop) (h : ((2 ≤ a1 → ¬ a1 = 0 ∧ ((((a2 - a3) % a1) = 0 → Q (some (.int 1)) w) ∧ (¬ (((a2 - a3) % a1) = 0) → ¬ a1 = 0 ∧ Q (some (.int (if (((a2 * a3) - 1) % a1) = 0 then 1 else 0 : Int32))) w))) ∧ (¬ (2 ≤ a1) → Q (some (.int 1)) w))) : Cl SC mX6_isAlikeBy [.int a1, .int a2, .int a3] w Q := by
  refine cl_of (by decide) (Nat.le_of_ble_eq_true rfl) ?_
  show Go SC mX6_isAlikeBy 0 [(0, .int a1), (1, .int a2), (2, .int a3)] [] w Q
  refine g_iload_n (pc := 0) dX6_isAlikeBy_0 rfl 0 rfl ?_
  refine g_iconst (pc := 1) dX6_isAlikeBy_1 c_2 ?_
  refine g_icmp_ge (pc := 2) (tgt := 7) dX6_isAlikeBy_2 (by decide) (fun q => ?_) (fun q => ?_)
  · have h := h.1 q
    refine g_iload_n (pc := 7) dX6_isAlikeBy_7 rfl 1 rfl ?_
    refine g_iload_n (pc := 8) dX6_isAlikeBy_8 rfl 2 rfl ?_
    refine g_isub (pc := 9) dX6_isAlikeBy_9 ?_
    refine g_iload_n (pc := 10) dX6_isAlikeBy_10 rfl 0 rfl ?_
    obtain ⟨hz1, h⟩ := h
    refine g_irem (pc := 11) dX6_isAlikeBy_11 hz1 ?_
    refine g_if_eq (pc := 12) (tgt := 25) dX6_isAlikeBy_12 (by decide) (fun q => ?_) (fun q => ?_)
    · have h := h.1 q
      refine g_iconst (pc := 25) dX6_isAlikeBy_25 c_1 ?_
      refine g_goto (pc := 26) (tgt := 30) dX6_isAlikeBy_26 (by decide) ?_
      exact g_bret (pc := 30) dX6_isAlikeBy_30 rfl (Or.inr rfl) h
    · have h := h.2 q
      refine g_iload_n (pc := 15) dX6_isAlikeBy_15 rfl 1 rfl ?_
      refine g_iload_n (pc := 16) dX6_isAlikeBy_16 rfl 2 rfl ?_
      refine g_imul (pc := 17) dX6_isAlikeBy_17 ?_
      refine g_iconst (pc := 18) dX6_isAlikeBy_18 c_1 ?_
      refine g_isub (pc := 19) dX6_isAlikeBy_19 ?_
      refine g_iload_n (pc := 20) dX6_isAlikeBy_20 rfl 0 rfl ?_
      obtain ⟨hz2, h⟩ := h
      refine g_irem (pc := 21) dX6_isAlikeBy_21 hz2 ?_
      have hJ : Go SC mX6_isAlikeBy 30 [(0, .int a1), (1, .int a2), (2, .int a3)] [.int (if (((a2 * a3) - 1) % a1) = 0 then 1 else 0 : Int32)] w Q := by
        exact g_bret (pc := 30) dX6_isAlikeBy_30 rfl (z_ite (Or.inr rfl) (Or.inl rfl)) h
      refine g_if_ne (pc := 22) (tgt := 29) dX6_isAlikeBy_22 (by decide) (fun q22 => ?_) (fun q22 => ?_)
      · refine g_iconst (pc := 29) dX6_isAlikeBy_29 c_0 ?_
        first | (exfalso; contradiction) | exact cast (by simp only [if_neg q22]) hJ
      · refine g_iconst (pc := 25) dX6_isAlikeBy_25 c_1 ?_
        refine g_goto (pc := 26) (tgt := 30) dX6_isAlikeBy_26 (by decide) ?_
        first | (exfalso; contradiction) | exact cast (by simp only [if_pos q22]) hJ
  · have h := h.2 q
    refine g_iconst (pc := 5) dX6_isAlikeBy_5 c_1 ?_
    exact g_bret (pc := 6) dX6_isAlikeBy_6 rfl (Or.inr rfl) h
set_option maxHeartbeats 4000000 in
set_option maxRecDepth 100000 in
theorem TX6_areAlike (a1 : Nat) (ha1 : SC[a1]? = some (.inl 6)) (a2 : Nat) (ha2 : SC[a2]? = some (.inl 6)) (a3 : Int32) (w : Wd) (b : Bool) (hR : w.2.2 = RTab b) (Q : Option Value → Wd → Prop) (h : (((vXJ9_abs_0f7a4 (wi w a1 0)) = (vXJ9_abs_0f7a4 (wi w a2 0)) → ClI SC mX6_isAlikeBy [.int (vXJ9_abs_0f7a4 (wi w a1 0)), .int (a3 * (vXX6_signed a1 w)), .int (vXX6_signed a2 w)] w (fun x2 w1 => w1.2.2 = RTab b ∧ (x2 = 0 ∨ x2 = 1) ∧ Q (some (.int x2)) w1)) ∧ (¬ ((vXJ9_abs_0f7a4 (wi w a1 0)) = (vXJ9_abs_0f7a4 (wi w a2 0))) → Q (some (.int 0)) w))) : Cl SC mX6_areAlike [.ref a1, .ref a2, .int a3] w Q := by
  refine cl_of (by decide) (Nat.le_of_ble_eq_true rfl) ?_
  show Go SC mX6_areAlike 0 [(0, .ref a1), (1, .ref a2), (2, .int a3)] [] w Q
  refine g_aload_n (pc := 0) dX6_areAlike_0 rfl 0 rfl ?_
  refine g_getI (pc := 1) (a := a1) dX6_areAlike_1 rfl fX6_13 ha1 ?_
  refine g_callS (pc := 4) (M' := mJ9_abs_0f7a4) (n := 1) (as := [.int (wi w a1 0)]) (st := []) dX6_areAlike_4 rfl kX6_16 sJ9_abs_0f7a4 (Nat.le_of_ble_eq_true rfl) rfl rfl (Nat.le_of_ble_eq_true rfl) ?_
  refine zJ9_abs_0f7a4 (a1 := (wi w a1 0)) (w := w) (b := b) (hR := hR) ?_
  show Go SC mX6_areAlike 7 [(0, .ref a1), (1, .ref a2), (2, .int a3)] [.int (vXJ9_abs_0f7a4 (wi w a1 0))] w Q
  refine g_istore_n (pc := 7) (lv2 := [(0, .ref a1), (1, .ref a2), (2, .int a3), (3, .int (vXJ9_abs_0f7a4 (wi w a1 0)))]) dX6_areAlike_7 rfl (Nat.le_of_ble_eq_true rfl) rfl ?_
  refine g_iload_n (pc := 8) dX6_areAlike_8 rfl 3 rfl ?_
  refine g_aload_n (pc := 9) dX6_areAlike_9 rfl 1 rfl ?_
  refine g_getI (pc := 10) (a := a2) dX6_areAlike_10 rfl fX6_13 ha2 ?_
  refine g_callS (pc := 13) (M' := mJ9_abs_0f7a4) (n := 1) (as := [.int (wi w a2 0)]) (st := [.int (vXJ9_abs_0f7a4 (wi w a1 0))]) dX6_areAlike_13 rfl kX6_16 sJ9_abs_0f7a4 (Nat.le_of_ble_eq_true rfl) rfl rfl (Nat.le_of_ble_eq_true rfl) ?_
  refine zJ9_abs_0f7a4 (a1 := (wi w a2 0)) (w := w) (b := b) (hR := hR) ?_
  show Go SC mX6_areAlike 16 [(0, .ref a1), (1, .ref a2), (2, .int a3), (3, .int (vXJ9_abs_0f7a4 (wi w a1 0)))] [.int (vXJ9_abs_0f7a4 (wi w a2 0)), .int (vXJ9_abs_0f7a4 (wi w a1 0))] w Q
  refine g_icmp_eq (pc := 16) (tgt := 21) dX6_areAlike_16 (by decide) (fun q => ?_) (fun q => ?_)
  · have h := h.1 q
    refine g_iload_n (pc := 21) dX6_areAlike_21 rfl 3 rfl ?_
    refine g_iload_n (pc := 22) dX6_areAlike_22 rfl 2 rfl ?_
    refine g_aload_n (pc := 23) dX6_areAlike_23 rfl 0 rfl ?_
    refine g_callS (pc := 24) (M' := mX6_signed) (n := 1) (as := [.ref a1]) (st := [.int a3, .int (vXJ9_abs_0f7a4 (wi w a1 0))]) dX6_areAlike_24 rfl kX6_22 sX6_signed (Nat.le_of_ble_eq_true rfl) rfl rfl (Nat.le_of_ble_eq_true rfl) ?_
    refine zX6_signed (a1 := a1) (w := w) (b := b) (hR := hR) (ha1 := ha1) ?_
    show Go SC mX6_areAlike 27 [(0, .ref a1), (1, .ref a2), (2, .int a3), (3, .int (vXJ9_abs_0f7a4 (wi w a1 0)))] [.int (vXX6_signed a1 w), .int a3, .int (vXJ9_abs_0f7a4 (wi w a1 0))] w Q
    refine g_imul (pc := 27) dX6_areAlike_27 ?_
    refine g_aload_n (pc := 28) dX6_areAlike_28 rfl 1 rfl ?_
    refine g_callS (pc := 29) (M' := mX6_signed) (n := 1) (as := [.ref a2]) (st := [.int (a3 * (vXX6_signed a1 w)), .int (vXJ9_abs_0f7a4 (wi w a1 0))]) dX6_areAlike_29 rfl kX6_22 sX6_signed (Nat.le_of_ble_eq_true rfl) rfl rfl (Nat.le_of_ble_eq_true rfl) ?_
    refine zX6_signed (a1 := a2) (w := w) (b := b) (hR := hR) (ha1 := ha2) ?_
    show Go SC mX6_areAlike 32 [(0, .ref a1), (1, .ref a2), (2, .int a3), (3, .int (vXJ9_abs_0f7a4 (wi w a1 0)))] [.int (vXX6_signed a2 w), .int (a3 * (vXX6_signed a1 w)), .int (vXJ9_abs_0f7a4 (wi w a1 0))] w Q
    refine g_callS (pc := 32) (M' := mX6_isAlikeBy) (n := 3) (as := [.int (vXJ9_abs_0f7a4 (wi w a1 0)), .int (a3 * (vXX6_signed a1 w)), .int (vXX6_signed a2 w)]) (st := []) dX6_areAlike_32 rfl kX6_28 sX6_isAlikeBy (Nat.le_of_ble_eq_true rfl) rfl rfl (Nat.le_of_ble_eq_true rfl) ?_
    refine cl_mono (fun r w1 hr => ?_) h
    obtain ⟨x2, rfl, hw1, h⟩ := hr
    show Go SC mX6_areAlike 35 [(0, .ref a1), (1, .ref a2), (2, .int a3), (3, .int (vXJ9_abs_0f7a4 (wi w a1 0)))] [.int x2] w1 Q
    exact g_bret (pc := 35) dX6_areAlike_35 rfl h.1 h.2
  · have h := h.2 q
    refine g_iconst (pc := 19) dX6_areAlike_19 c_0 ?_
    exact g_bret (pc := 20) dX6_areAlike_20 rfl (Or.inl rfl) h
set_option maxHeartbeats 4000000 in
set_option maxRecDepth 100000 in
theorem TX6_isLeast (a1 : Int32) (a2 : Int32) (a3 : Int32) (w : Wd) (b : Bool) (hR : w.2.2 = RTab b) (Q : Option Value → Wd → Prop) (h : Go SC mX6_isLeast 2 [(0, .int a1), (1, .int a2), (2, .int a3), (3, .int 1)] [] w Q) : Cl SC mX6_isLeast [.int a1, .int a2, .int a3] w Q := by
  refine cl_of (by decide) (Nat.le_of_ble_eq_true rfl) ?_
  show Go SC mX6_isLeast 0 [(0, .int a1), (1, .int a2), (2, .int a3)] [] w Q
  refine g_iconst (pc := 0) dX6_isLeast_0 c_1 ?_
  refine g_istore_n (pc := 1) (lv2 := [(0, .int a1), (1, .int a2), (2, .int a3), (3, .int 1)]) dX6_isLeast_1 rfl (Nat.le_of_ble_eq_true rfl) rfl ?_
  exact h
set_option maxHeartbeats 4000000 in
set_option maxRecDepth 100000 in
theorem BX6_isLeast_2  (l0 : Int32) (l1 : Int32) (l2 : Int32) (l3 : Int32) (w : Wd) (b : Bool) (hR : w.2.2 = RTab b) (Q : Option Value → Wd → Prop) (h : ((l0 ≤ l3 → Q (some (.int 1)) w) ∧ (¬ (l0 ≤ l3) → ClI SC mX6_isAlikeBy [.int l1, .int l3, .int l0] w (fun x2 w1 => w1.2.2 = RTab b ∧ ((x2 = 0 → ((l2 = 0 → Go SC mX6_isLeast 2 [(0, .int l0), (1, .int l1), (2, .int l2), (3, .int (l3 + 1))] [] w1 Q) ∧ (¬ (l2 = 0) → ClI SC mX6_isAlikeBy [.int l1, .int (-l3), .int l0] w1 (fun x4 w3 => w3.2.2 = RTab b ∧ ((x4 = 0 → Go SC mX6_isLeast 2 [(0, .int l0), (1, .int l1), (2, .int l2), (3, .int (l3 + 1))] [] w3 Q) ∧ (¬ (x4 = 0) → Q (some (.int 0)) w3)))))) ∧ (¬ (x2 = 0) → Q (some (.int 0)) w1)))))) : Go SC mX6_isLeast 2 [(0, .int l0), (1, .int l1), (2, .int l2), (3, .int l3)] [] w Q := by
  refine g_iload_n (pc := 2) dX6_isLeast_2 rfl 3 rfl ?_
  refine g_iload_n (pc := 3) dX6_isLeast_3 rfl 0 rfl ?_
  refine g_icmp_ge (pc := 4) (tgt := 38) dX6_isLeast_4 (by decide) (fun q => ?_) (fun q => ?_)
  · have h := h.1 q
    refine g_iconst (pc := 38) dX6_isLeast_38 c_1 ?_
    exact g_bret (pc := 39) dX6_isLeast_39 rfl (Or.inr rfl) h
  · have h := h.2 q
    refine g_iload_n (pc := 7) dX6_isLeast_7 rfl 1 rfl ?_
    refine g_iload_n (pc := 8) dX6_isLeast_8 rfl 3 rfl ?_
    refine g_iload_n (pc := 9) dX6_isLeast_9 rfl 0 rfl ?_
    refine g_callS (pc := 10) (M' := mX6_isAlikeBy) (n := 3) (as := [.int l1, .int l3, .int l0]) (st := []) dX6_isLeast_10 rfl kX6_28 sX6_isAlikeBy (Nat.le_of_ble_eq_true rfl) rfl rfl (Nat.le_of_ble_eq_true rfl) ?_
    refine cl_mono (fun r w1 hr => ?_) h
    obtain ⟨x2, rfl, hw1, h⟩ := hr
    show Go SC mX6_isLeast 13 [(0, .int l0), (1, .int l1), (2, .int l2), (3, .int l3)] [.int x2] w1 Q
    refine g_if_ne (pc := 13) (tgt := 30) dX6_isLeast_13 (by decide) (fun q => ?_) (fun q => ?_)
    · have h := h.2 q
      refine g_iconst (pc := 30) dX6_isLeast_30 c_0 ?_
      exact g_bret (pc := 31) dX6_isLeast_31 rfl (Or.inl rfl) h
    · have h := h.1 q
      refine g_iload_n (pc := 16) dX6_isLeast_16 rfl 2 rfl ?_
      refine g_if_eq (pc := 17) (tgt := 32) dX6_isLeast_17 (by decide) (fun q => ?_) (fun q => ?_)
      · have h := h.1 q
        refine g_iinc (pc := 32) (v := l3 + 1) (lv2 := [(0, .int l0), (1, .int l1), (2, .int l2), (3, .int (l3 + 1))]) dX6_isLeast_32 3 rfl (Nat.le_of_ble_eq_true rfl) rfl rfl ?_
        refine g_goto (pc := 35) (tgt := 2) dX6_isLeast_35 (by decide) ?_
        exact h
      · have h := h.2 q
        refine g_iload_n (pc := 20) dX6_isLeast_20 rfl 1 rfl ?_
        refine g_iload_n (pc := 21) dX6_isLeast_21 rfl 3 rfl ?_
        refine g_ineg (pc := 22) dX6_isLeast_22 ?_
        refine g_iload_n (pc := 23) dX6_isLeast_23 rfl 0 rfl ?_
        refine g_callS (pc := 24) (M' := mX6_isAlikeBy) (n := 3) (as := [.int l1, .int (-l3), .int l0]) (st := []) dX6_isLeast_24 rfl kX6_28 sX6_isAlikeBy (Nat.le_of_ble_eq_true rfl) rfl rfl (Nat.le_of_ble_eq_true rfl) ?_
        refine cl_mono (fun r w3 hr => ?_) h
        obtain ⟨x4, rfl, hw3, h⟩ := hr
        show Go SC mX6_isLeast 27 [(0, .int l0), (1, .int l1), (2, .int l2), (3, .int l3)] [.int x4] w3 Q
        refine g_if_eq (pc := 27) (tgt := 32) dX6_isLeast_27 (by decide) (fun q => ?_) (fun q => ?_)
        · have h := h.1 q
          refine g_iinc (pc := 32) (v := l3 + 1) (lv2 := [(0, .int l0), (1, .int l1), (2, .int l2), (3, .int (l3 + 1))]) dX6_isLeast_32 3 rfl (Nat.le_of_ble_eq_true rfl) rfl rfl ?_
          refine g_goto (pc := 35) (tgt := 2) dX6_isLeast_35 (by decide) ?_
          exact h
        · have h := h.2 q
          refine g_iconst (pc := 30) dX6_isLeast_30 c_0 ?_
          exact g_bret (pc := 31) dX6_isLeast_31 rfl (Or.inl rfl) h
set_option maxHeartbeats 4000000 in
set_option maxRecDepth 100000 in
theorem TX6_sorts (a1 : Int32) (a2 : Int32) (w : Wd) (b : Bool) (hR : w.2.2 = RTab b) (Q : Option Value → Wd → Prop) (h : Go SC mX6_sorts 4 [(0, .int a1), (1, .int a2), (2, .int 0), (3, .int 1)] [] w Q) : Cl SC mX6_sorts [.int a1, .int a2] w Q := by
  refine cl_of (by decide) (Nat.le_of_ble_eq_true rfl) ?_
  show Go SC mX6_sorts 0 [(0, .int a1), (1, .int a2)] [] w Q
  refine g_iconst (pc := 0) dX6_sorts_0 c_0 ?_
  refine g_istore_n (pc := 1) (lv2 := [(0, .int a1), (1, .int a2), (2, .int 0)]) dX6_sorts_1 rfl (Nat.le_of_ble_eq_true rfl) rfl ?_
  refine g_iconst (pc := 2) dX6_sorts_2 c_1 ?_
  refine g_istore_n (pc := 3) (lv2 := [(0, .int a1), (1, .int a2), (2, .int 0), (3, .int 1)]) dX6_sorts_3 rfl (Nat.le_of_ble_eq_true rfl) rfl ?_
  exact h
set_option maxHeartbeats 4000000 in
set_option maxRecDepth 100000 in
theorem BX6_sorts_4  (l0 : Int32) (l1 : Int32) (l2 : Int32) (l3 : Int32) (w : Wd) (b : Bool) (hR : w.2.2 = RTab b) (Q : Option Value → Wd → Prop) (h : ((l0 < l3 → Q (some (.int l2)) w) ∧ (¬ (l0 < l3) → ClL SC mX10_shared [.long l3.toInt64, .long l0.toInt64] w (fun x2 w1 => w1.2.2 = RTab b ∧ (((lg_cmp x2 1) = 0 → ClI SC mX6_isLeast [.int l3, .int l0, .int l1] w1 (fun x4 w3 => w3.2.2 = RTab b ∧ Go SC mX6_sorts 4 [(0, .int l0), (1, .int l1), (2, .int (if x4 = 0 then l2 else l2 + 1 : Int32)), (3, .int (l3 + 1))] [] w3 Q)) ∧ (¬ ((lg_cmp x2 1) = 0) → Go SC mX6_sorts 4 [(0, .int l0), (1, .int l1), (2, .int l2), (3, .int (l3 + 1))] [] w1 Q)))))) : Go SC mX6_sorts 4 [(0, .int l0), (1, .int l1), (2, .int l2), (3, .int l3)] [] w Q := by
  refine g_iload_n (pc := 4) dX6_sorts_4 rfl 3 rfl ?_
  refine g_iload_n (pc := 5) dX6_sorts_5 rfl 0 rfl ?_
  refine g_icmp_gt (pc := 6) (tgt := 39) dX6_sorts_6 (by decide) (fun q => ?_) (fun q => ?_)
  · have h := h.1 q
    refine g_iload_n (pc := 39) dX6_sorts_39 rfl 2 rfl ?_
    exact g_iret (pc := 40) dX6_sorts_40 rfl h
  · have h := h.2 q
    refine g_iload_n (pc := 9) dX6_sorts_9 rfl 3 rfl ?_
    refine g_i2l (pc := 10) dX6_sorts_10 ?_
    refine g_iload_n (pc := 11) dX6_sorts_11 rfl 0 rfl ?_
    refine g_i2l (pc := 12) dX6_sorts_12 ?_
    refine g_callS (pc := 13) (M' := mX10_shared) (n := 2) (as := [.long l3.toInt64, .long l0.toInt64]) (st := []) dX6_sorts_13 rfl kX6_32 sX10_shared (Nat.le_of_ble_eq_true rfl) rfl rfl (Nat.le_of_ble_eq_true rfl) ?_
    refine cl_mono (fun r w1 hr => ?_) h
    obtain ⟨x2, rfl, hw1, h⟩ := hr
    show Go SC mX6_sorts 16 [(0, .int l0), (1, .int l1), (2, .int l2), (3, .int l3)] [.long x2] w1 Q
    refine g_lconst (pc := 16) (v := 1) dX6_sorts_16 (by decide) ?_
    refine g_lcmp (pc := 17) dX6_sorts_17 ?_
    refine g_if_ne (pc := 18) (tgt := 33) dX6_sorts_18 (by decide) (fun q => ?_) (fun q => ?_)
    · have h := h.2 q
      refine g_iinc (pc := 33) (v := l3 + 1) (lv2 := [(0, .int l0), (1, .int l1), (2, .int l2), (3, .int (l3 + 1))]) dX6_sorts_33 3 rfl (Nat.le_of_ble_eq_true rfl) rfl rfl ?_
      refine g_goto (pc := 36) (tgt := 4) dX6_sorts_36 (by decide) ?_
      exact h
    · have h := h.1 q
      refine g_iload_n (pc := 21) dX6_sorts_21 rfl 3 rfl ?_
      refine g_iload_n (pc := 22) dX6_sorts_22 rfl 0 rfl ?_
      refine g_iload_n (pc := 23) dX6_sorts_23 rfl 1 rfl ?_
      refine g_callS (pc := 24) (M' := mX6_isLeast) (n := 3) (as := [.int l3, .int l0, .int l1]) (st := []) dX6_sorts_24 rfl kX6_38 sX6_isLeast (Nat.le_of_ble_eq_true rfl) rfl rfl (Nat.le_of_ble_eq_true rfl) ?_
      refine cl_mono (fun r w3 hr => ?_) h
      obtain ⟨x4, rfl, hw3, h⟩ := hr
      show Go SC mX6_sorts 27 [(0, .int l0), (1, .int l1), (2, .int l2), (3, .int l3)] [.int x4] w3 Q
      have hJ : Go SC mX6_sorts 33 [(0, .int l0), (1, .int l1), (2, .int (if x4 = 0 then l2 else l2 + 1 : Int32)), (3, .int l3)] [] w3 Q := by
        refine g_iinc (pc := 33) (v := l3 + 1) (lv2 := [(0, .int l0), (1, .int l1), (2, .int (if x4 = 0 then l2 else l2 + 1 : Int32)), (3, .int (l3 + 1))]) dX6_sorts_33 3 rfl (Nat.le_of_ble_eq_true rfl) rfl rfl ?_
        refine g_goto (pc := 36) (tgt := 4) dX6_sorts_36 (by decide) ?_
        exact h
      refine g_if_eq (pc := 27) (tgt := 33) dX6_sorts_27 (by decide) (fun q27 => ?_) (fun q27 => ?_)
      · first | (exfalso; contradiction) | exact cast (by simp only [if_pos q27]) hJ
      · refine g_iinc (pc := 30) (v := l2 + 1) (lv2 := [(0, .int l0), (1, .int l1), (2, .int (l2 + 1)), (3, .int l3)]) dX6_sorts_30 2 rfl (Nat.le_of_ble_eq_true rfl) rfl rfl ?_
        first | (exfalso; contradiction) | exact cast (by simp only [if_neg q27]) hJ
set_option maxHeartbeats 4000000 in
set_option maxRecDepth 100000 in
theorem TX7_wholeParts (t : Nat) (ht : SC[t]? = some (.inl 6)) (w : Wd) (b : Bool) (hR : w.2.2 = RTab b) (Q : Option Value → Wd → Prop) (h : Go SC mX7_wholeParts 15 [(0, .ref t), (1, .int (vXJ9_abs_0f7a4 (wi w t 0))), (2, .int (wi w t 1)), (3, .int 0)] [] w Q) : Cl SC mX7_wholeParts [.ref t] w Q := by
  refine cl_of (by decide) (Nat.le_of_ble_eq_true rfl) ?_
  show Go SC mX7_wholeParts 0 [(0, .ref t)] [] w Q
  refine g_aload_n (pc := 0) dX7_wholeParts_0 rfl 0 rfl ?_
  refine g_getI (pc := 1) (a := t) dX7_wholeParts_1 rfl fX7_9 ht ?_
  refine g_callS (pc := 4) (M' := mJ9_abs_0f7a4) (n := 1) (as := [.int (wi w t 0)]) (st := []) dX7_wholeParts_4 rfl kX7_29 sJ9_abs_0f7a4 (Nat.le_of_ble_eq_true rfl) rfl rfl (Nat.le_of_ble_eq_true rfl) ?_
  refine zJ9_abs_0f7a4 (a1 := (wi w t 0)) (w := w) (b := b) (hR := hR) ?_
  show Go SC mX7_wholeParts 7 [(0, .ref t)] [.int (vXJ9_abs_0f7a4 (wi w t 0))] w Q
  refine g_istore_n (pc := 7) (lv2 := [(0, .ref t), (1, .int (vXJ9_abs_0f7a4 (wi w t 0)))]) dX7_wholeParts_7 rfl (Nat.le_of_ble_eq_true rfl) rfl ?_
  refine g_aload_n (pc := 8) dX7_wholeParts_8 rfl 0 rfl ?_
  refine g_getI (pc := 9) (a := t) dX7_wholeParts_9 rfl fX7_15 ht ?_
  refine g_istore_n (pc := 12) (lv2 := [(0, .ref t), (1, .int (vXJ9_abs_0f7a4 (wi w t 0))), (2, .int (wi w t 1))]) dX7_wholeParts_12 rfl (Nat.le_of_ble_eq_true rfl) rfl ?_
  refine g_iconst (pc := 13) dX7_wholeParts_13 c_0 ?_
  refine g_istore_n (pc := 14) (lv2 := [(0, .ref t), (1, .int (vXJ9_abs_0f7a4 (wi w t 0))), (2, .int (wi w t 1)), (3, .int 0)]) dX7_wholeParts_14 rfl (Nat.le_of_ble_eq_true rfl) rfl ?_
  exact h
set_option maxHeartbeats 4000000 in
set_option maxRecDepth 100000 in
theorem BX7_wholeParts_15 (t : Nat) (ht : SC[t]? = some (.inl 6)) (l1 : Int32) (l2 : Int32) (l3 : Int32) (w : Wd) (b : Bool) (hR : w.2.2 = RTab b) (Q : Option Value → Wd → Prop) (h : ((1000000 ≤ l3 → Q (some (.int l3)) w) ∧ (¬ (1000000 ≤ l3) → ((l2 ≤ 0 → Q (some (.int l3)) w) ∧ (¬ (l2 ≤ 0) → ¬ l2 = 0 ∧ Go SC mX7_wholeParts 15 [(0, .ref t), (1, .int l2), (2, .int (l1 % l2)), (3, .int (l3 + 1))] [] w Q))))) : Go SC mX7_wholeParts 15 [(0, .ref t), (1, .int l1), (2, .int l2), (3, .int l3)] [] w Q := by
  refine g_iload_n (pc := 15) dX7_wholeParts_15 rfl 3 rfl ?_
  refine g_ldc (pc := 16) dX7_wholeParts_16 rfl nX7_35 ?_
  refine g_icmp_ge (pc := 18) (tgt := 41) dX7_wholeParts_18 (by decide) (fun q => ?_) (fun q => ?_)
  · have h := h.1 q
    refine g_iload_n (pc := 41) dX7_wholeParts_41 rfl 3 rfl ?_
    exact g_iret (pc := 42) dX7_wholeParts_42 rfl h
  · have h := h.2 q
    refine g_iload_n (pc := 21) dX7_wholeParts_21 rfl 2 rfl ?_
    refine g_if_le (pc := 22) (tgt := 41) dX7_wholeParts_22 (by decide) (fun q => ?_) (fun q => ?_)
    · have h := h.1 q
      refine g_iload_n (pc := 41) dX7_wholeParts_41 rfl 3 rfl ?_
      exact g_iret (pc := 42) dX7_wholeParts_42 rfl h
    · have h := h.2 q
      refine g_iload_n (pc := 25) dX7_wholeParts_25 rfl 1 rfl ?_
      refine g_iload_n (pc := 26) dX7_wholeParts_26 rfl 2 rfl ?_
      obtain ⟨hz1, h⟩ := h
      refine g_irem (pc := 27) dX7_wholeParts_27 hz1 ?_
      refine g_istore (pc := 28) (lv2 := [(0, .ref t), (1, .int l1), (2, .int l2), (3, .int l3), (4, .int (l1 % l2))]) dX7_wholeParts_28 (Nat.le_of_ble_eq_true rfl) rfl ?_
      refine g_iload_n (pc := 30) dX7_wholeParts_30 rfl 2 rfl ?_
      refine g_istore_n (pc := 31) (lv2 := [(0, .ref t), (1, .int l2), (2, .int l2), (3, .int l3), (4, .int (l1 % l2))]) dX7_wholeParts_31 rfl (Nat.le_of_ble_eq_true rfl) rfl ?_
      refine g_iload (pc := 32) dX7_wholeParts_32 4 rfl ?_
      refine g_istore_n (pc := 34) (lv2 := [(0, .ref t), (1, .int l2), (2, .int (l1 % l2)), (3, .int l3), (4, .int (l1 % l2))]) dX7_wholeParts_34 rfl (Nat.le_of_ble_eq_true rfl) rfl ?_
      refine g_iinc (pc := 35) (v := l3 + 1) (lv2 := [(0, .ref t), (1, .int l2), (2, .int (l1 % l2)), (3, .int (l3 + 1)), (4, .int (l1 % l2))]) dX7_wholeParts_35 3 rfl (Nat.le_of_ble_eq_true rfl) rfl rfl ?_
      refine g_goto (pc := 38) (tgt := 15) dX7_wholeParts_38 (by decide) ?_
      refine g_sub (lv2 := [(0, .ref t), (1, .int l2), (2, .int (l1 % l2)), (3, .int (l3 + 1))]) [0, 1, 2, 3] rfl ?_
      exact h
set_option maxHeartbeats 4000000 in
set_option maxRecDepth 100000 in
theorem TX7_wholePart (t : Nat) (ht : SC[t]? = some (.inl 6)) (a1 : Int32) (w : Wd) (b : Bool) (hR : w.2.2 = RTab b) (Q : Option Value → Wd → Prop) (h : Go SC mX7_wholePart 16 [(0, .ref t), (1, .int a1), (2, .int (vXJ9_abs_0f7a4 (wi w t 0))), (3, .int (wi w t 1)), (4, .int 0)] [] w Q) : Cl SC mX7_wholePart [.ref t, .int a1] w Q := by
  refine cl_of (by decide) (Nat.le_of_ble_eq_true rfl) ?_
  show Go SC mX7_wholePart 0 [(0, .ref t), (1, .int a1)] [] w Q
  refine g_aload_n (pc := 0) dX7_wholePart_0 rfl 0 rfl ?_
  refine g_getI (pc := 1) (a := t) dX7_wholePart_1 rfl fX7_9 ht ?_
  refine g_callS (pc := 4) (M' := mJ9_abs_0f7a4) (n := 1) (as := [.int (wi w t 0)]) (st := []) dX7_wholePart_4 rfl kX7_29 sJ9_abs_0f7a4 (Nat.le_of_ble_eq_true rfl) rfl rfl (Nat.le_of_ble_eq_true rfl) ?_
  refine zJ9_abs_0f7a4 (a1 := (wi w t 0)) (w := w) (b := b) (hR := hR) ?_
  show Go SC mX7_wholePart 7 [(0, .ref t), (1, .int a1)] [.int (vXJ9_abs_0f7a4 (wi w t 0))] w Q
  refine g_istore_n (pc := 7) (lv2 := [(0, .ref t), (1, .int a1), (2, .int (vXJ9_abs_0f7a4 (wi w t 0)))]) dX7_wholePart_7 rfl (Nat.le_of_ble_eq_true rfl) rfl ?_
  refine g_aload_n (pc := 8) dX7_wholePart_8 rfl 0 rfl ?_
  refine g_getI (pc := 9) (a := t) dX7_wholePart_9 rfl fX7_15 ht ?_
  refine g_istore_n (pc := 12) (lv2 := [(0, .ref t), (1, .int a1), (2, .int (vXJ9_abs_0f7a4 (wi w t 0))), (3, .int (wi w t 1))]) dX7_wholePart_12 rfl (Nat.le_of_ble_eq_true rfl) rfl ?_
  refine g_iconst (pc := 13) dX7_wholePart_13 c_0 ?_
  refine g_istore (pc := 14) (lv2 := [(0, .ref t), (1, .int a1), (2, .int (vXJ9_abs_0f7a4 (wi w t 0))), (3, .int (wi w t 1)), (4, .int 0)]) dX7_wholePart_14 (Nat.le_of_ble_eq_true rfl) rfl ?_
  exact h
set_option maxHeartbeats 4000000 in
set_option maxRecDepth 100000 in
theorem BX7_wholePart_16 (t : Nat) (ht : SC[t]? = some (.inl 6)) (l1 : Int32) (l2 : Int32) (l3 : Int32) (l4 : Int32) (w : Wd) (b : Bool) (hR : w.2.2 = RTab b) (Q : Option Value → Wd → Prop) (h : ((l1 ≤ l4 → ((l3 ≤ 0 → Q (some (.int 0)) w) ∧ (¬ (l3 ≤ 0) → ¬ l3 = 0 ∧ Q (some (.int (l2 / l3))) w))) ∧ (¬ (l1 ≤ l4) → ((l3 ≤ 0 → ((l3 ≤ 0 → Q (some (.int 0)) w) ∧ (¬ (l3 ≤ 0) → ¬ l3 = 0 ∧ Q (some (.int (l2 / l3))) w))) ∧ (¬ (l3 ≤ 0) → ¬ l3 = 0 ∧ Go SC mX7_wholePart 16 [(0, .ref t), (1, .int l1), (2, .int l3), (3, .int (l2 % l3)), (4, .int (l4 + 1))] [] w Q))))) : Go SC mX7_wholePart 16 [(0, .ref t), (1, .int l1), (2, .int l2), (3, .int l3), (4, .int l4)] [] w Q := by
  refine g_iload (pc := 16) dX7_wholePart_16 4 rfl ?_
  refine g_iload_n (pc := 18) dX7_wholePart_18 rfl 1 rfl ?_
  refine g_icmp_ge (pc := 19) (tgt := 42) dX7_wholePart_19 (by decide) (fun q => ?_) (fun q => ?_)
  · have h := h.1 q
    refine g_iload_n (pc := 42) dX7_wholePart_42 rfl 3 rfl ?_
    refine g_if_le (pc := 43) (tgt := 52) dX7_wholePart_43 (by decide) (fun q => ?_) (fun q => ?_)
    · have h := h.1 q
      refine g_iconst (pc := 52) dX7_wholePart_52 c_0 ?_
      exact g_iret (pc := 53) dX7_wholePart_53 rfl h
    · have h := h.2 q
      refine g_iload_n (pc := 46) dX7_wholePart_46 rfl 2 rfl ?_
      refine g_iload_n (pc := 47) dX7_wholePart_47 rfl 3 rfl ?_
      obtain ⟨hz1, h⟩ := h
      refine g_idiv (pc := 48) dX7_wholePart_48 hz1 ?_
      refine g_goto (pc := 49) (tgt := 53) dX7_wholePart_49 (by decide) ?_
      exact g_iret (pc := 53) dX7_wholePart_53 rfl h
  · have h := h.2 q
    refine g_iload_n (pc := 22) dX7_wholePart_22 rfl 3 rfl ?_
    refine g_if_le (pc := 23) (tgt := 42) dX7_wholePart_23 (by decide) (fun q => ?_) (fun q => ?_)
    · have h := h.1 q
      refine g_iload_n (pc := 42) dX7_wholePart_42 rfl 3 rfl ?_
      refine g_if_le (pc := 43) (tgt := 52) dX7_wholePart_43 (by decide) (fun q => ?_) (fun q => ?_)
      · have h := h.1 q
        refine g_iconst (pc := 52) dX7_wholePart_52 c_0 ?_
        exact g_iret (pc := 53) dX7_wholePart_53 rfl h
      · have h := h.2 q
        refine g_iload_n (pc := 46) dX7_wholePart_46 rfl 2 rfl ?_
        refine g_iload_n (pc := 47) dX7_wholePart_47 rfl 3 rfl ?_
        obtain ⟨hz2, h⟩ := h
        refine g_idiv (pc := 48) dX7_wholePart_48 hz2 ?_
        refine g_goto (pc := 49) (tgt := 53) dX7_wholePart_49 (by decide) ?_
        exact g_iret (pc := 53) dX7_wholePart_53 rfl h
    · have h := h.2 q
      refine g_iload_n (pc := 26) dX7_wholePart_26 rfl 2 rfl ?_
      refine g_iload_n (pc := 27) dX7_wholePart_27 rfl 3 rfl ?_
      obtain ⟨hz3, h⟩ := h
      refine g_irem (pc := 28) dX7_wholePart_28 hz3 ?_
      refine g_istore (pc := 29) (lv2 := [(0, .ref t), (1, .int l1), (2, .int l2), (3, .int l3), (4, .int l4), (5, .int (l2 % l3))]) dX7_wholePart_29 (Nat.le_of_ble_eq_true rfl) rfl ?_
      refine g_iload_n (pc := 31) dX7_wholePart_31 rfl 3 rfl ?_
      refine g_istore_n (pc := 32) (lv2 := [(0, .ref t), (1, .int l1), (2, .int l3), (3, .int l3), (4, .int l4), (5, .int (l2 % l3))]) dX7_wholePart_32 rfl (Nat.le_of_ble_eq_true rfl) rfl ?_
      refine g_iload (pc := 33) dX7_wholePart_33 5 rfl ?_
      refine g_istore_n (pc := 35) (lv2 := [(0, .ref t), (1, .int l1), (2, .int l3), (3, .int (l2 % l3)), (4, .int l4), (5, .int (l2 % l3))]) dX7_wholePart_35 rfl (Nat.le_of_ble_eq_true rfl) rfl ?_
      refine g_iinc (pc := 36) (v := l4 + 1) (lv2 := [(0, .ref t), (1, .int l1), (2, .int l3), (3, .int (l2 % l3)), (4, .int (l4 + 1)), (5, .int (l2 % l3))]) dX7_wholePart_36 4 rfl (Nat.le_of_ble_eq_true rfl) rfl rfl ?_
      refine g_goto (pc := 39) (tgt := 16) dX7_wholePart_39 (by decide) ?_
      refine g_sub (lv2 := [(0, .ref t), (1, .int l1), (2, .int l3), (3, .int (l2 % l3)), (4, .int (l4 + 1))]) [0, 1, 2, 3, 4] rfl ?_
      exact h
set_option maxHeartbeats 4000000 in
set_option maxRecDepth 100000 in
theorem TX8_take (a1 : Int32) (w : Wd) (b : Bool) (hR : w.2.2 = RTab b) (Q : Option Value → Wd → Prop) (h : Go SC mX8_take 3 [(0, .ref 1), (1, .int a1), (2, .int 24)] [] w Q) : Cl SC mX8_take [.ref 1, .int a1] w Q := by
  refine cl_of (by decide) (Nat.le_of_ble_eq_true rfl) ?_
  show Go SC mX8_take 0 [(0, .ref 1), (1, .int a1)] [] w Q
  refine g_bipush (pc := 0) (v := 24) dX8_take_0 (by decide) ?_
  refine g_istore_n (pc := 2) (lv2 := [(0, .ref 1), (1, .int a1), (2, .int 24)]) dX8_take_2 rfl (Nat.le_of_ble_eq_true rfl) rfl ?_
  exact h
set_option maxHeartbeats 4000000 in
set_option maxRecDepth 100000 in
theorem BX8_take_3  (l1 : Int32) (l2 : Int32) (w : Wd) (b : Bool) (hR : w.2.2 = RTab b) (Q : Option Value → Wd → Prop) (h : ((l2 < 0 → Q none w) ∧ (¬ (l2 < 0) → Go SC mX8_take 3 [(0, .ref 1), (1, .int l1), (2, .int (l2 + (-8)))] [] (si (pf w 2 600 (wi w 1 1) ((l1 >>> (l2 &&& 31)) &&& 255)) 1 1 ((wi (pf w 2 600 (wi w 1 1) ((l1 >>> (l2 &&& 31)) &&& 255)) 1 1) + 1)) Q))) : Go SC mX8_take 3 [(0, .ref 1), (1, .int l1), (2, .int l2)] [] w Q := by
  refine g_iload_n (pc := 3) dX8_take_3 rfl 2 rfl ?_
  refine g_if_lt (pc := 4) (tgt := 41) dX8_take_4 (by decide) (fun q => ?_) (fun q => ?_)
  · have h := h.1 q
    exact g_vret (pc := 41) dX8_take_41 rfl h
  · have h := h.2 q
    refine g_aload_n (pc := 7) dX8_take_7 rfl 0 rfl ?_
    refine g_getR (pc := 8) (a := 1) (b := 2) dX8_take_8 rfl fX8_11 rfl (rc_1_0 hR) ?_
    refine g_aload_n (pc := 11) dX8_take_11 rfl 0 rfl ?_
    refine g_getI (pc := 12) (a := 1) dX8_take_12 rfl fX8_15 rfl ?_
    refine g_iload_n (pc := 15) dX8_take_15 rfl 1 rfl ?_
    refine g_iload_n (pc := 16) dX8_take_16 rfl 2 rfl ?_
    refine g_ishr (pc := 17) dX8_take_17 ?_
    refine g_sipush (pc := 18) (v := 255) dX8_take_18 (by decide) ?_
    refine g_iand (pc := 21) dX8_take_21 ?_
    refine g_callS (pc := 22) (M' := mX10_putAt) (n := 3) (as := [.ref 2, .int (wi w 1 1), .int ((l1 >>> (l2 &&& 31)) &&& 255)]) (st := []) dX8_take_22 rfl kX8_19 sX10_putAt (Nat.le_of_ble_eq_true rfl) rfl rfl (Nat.le_of_ble_eq_true rfl) ?_
    refine h_putAt (a := 2) (n := 600) (i := wi w 1 1) (v := (l1 >>> (l2 &&& 31)) &&& 255) (w := w) rfl (Nat.le_of_ble_eq_true rfl) ?_
    show Go SC mX8_take 25 [(0, .ref 1), (1, .int l1), (2, .int l2)] [] (pf w 2 600 (wi w 1 1) ((l1 >>> (l2 &&& 31)) &&& 255)) Q
    refine g_aload_n (pc := 25) dX8_take_25 rfl 0 rfl ?_
    refine g_dup (pc := 26) dX8_take_26 rfl ?_
    refine g_getI (pc := 27) (a := 1) dX8_take_27 rfl fX8_15 rfl ?_
    refine g_iconst (pc := 30) dX8_take_30 c_1 ?_
    refine g_iadd (pc := 31) dX8_take_31 ?_
    refine g_putI (pc := 32) dX8_take_32 rfl fX8_15 pX8_1 rfl ?_
    refine g_iinc (pc := 35) (v := l2 + (-8)) (lv2 := [(0, .ref 1), (1, .int l1), (2, .int (l2 + (-8)))]) dX8_take_35 2 rfl (Nat.le_of_ble_eq_true rfl) rfl rfl ?_
    refine g_goto (pc := 38) (tgt := 3) dX8_take_38 (by decide) ?_
    exact h
set_option maxHeartbeats 4000000 in
set_option maxRecDepth 100000 in
theorem TX8_isWord (a1 : Nat) (ha1 : a1 < nST) (w : Wd) (b : Bool) (hR : w.2.2 = RTab b) (Q : Option Value → Wd → Prop) (h : (((wi w 1 4) = 1 → (((Int32.ofNat (lenST.getD a1 0)) = (wi w 1 6) → Go SC mX8_isWord 23 [(0, .ref 1), (1, .ref (1000 + a1)), (2, .int 0)] [] w Q) ∧ (¬ ((Int32.ofNat (lenST.getD a1 0)) = (wi w 1 6)) → Q (some (.int 0)) w))) ∧ (¬ ((wi w 1 4) = 1) → Q (some (.int 0)) w))) : Cl SC mX8_isWord [.ref 1, .ref (1000 + a1)] w Q := by
  refine cl_of (by decide) (Nat.le_of_ble_eq_true rfl) ?_
  show Go SC mX8_isWord 0 [(0, .ref 1), (1, .ref (1000 + a1))] [] w Q
  refine g_aload_n (pc := 0) dX8_isWord_0 rfl 0 rfl ?_
  refine g_getI (pc := 1) (a := 1) dX8_isWord_1 rfl fX8_52 rfl ?_
  refine g_iconst (pc := 4) dX8_isWord_4 c_1 ?_
  refine g_icmp_ne (pc := 5) (tgt := 19) dX8_isWord_5 (by decide) (fun q => ?_) (fun q => ?_)
  · have h := h.2 q
    refine g_iconst (pc := 19) dX8_isWord_19 c_0 ?_
    exact g_bret (pc := 20) dX8_isWord_20 rfl (Or.inl rfl) h
  · have h := h.1 q
    refine g_aload_n (pc := 8) dX8_isWord_8 rfl 1 rfl ?_
    refine g_callStr (pc := 9) (M' := mJ0_length_8abf5) (n := 0) (i := a1) (as := []) (st := []) ha1 dX8_isWord_9 rfl kX8_174 vJ0_length_8abf5 (Nat.le_of_ble_eq_true rfl) rfl rfl rfl (Nat.le_of_ble_eq_true rfl) ?_
    refine h_length (i := a1) ha1 ?_
    show Go SC mX8_isWord 12 [(0, .ref 1), (1, .ref (1000 + a1))] [.int (Int32.ofNat (lenST.getD a1 0))] w Q
    refine g_aload_n (pc := 12) dX8_isWord_12 rfl 0 rfl ?_
    refine g_getI (pc := 13) (a := 1) dX8_isWord_13 rfl fX8_116 rfl ?_
    refine g_icmp_eq (pc := 16) (tgt := 21) dX8_isWord_16 (by decide) (fun q => ?_) (fun q => ?_)
    · have h := h.1 q
      refine g_iconst (pc := 21) dX8_isWord_21 c_0 ?_
      refine g_istore_n (pc := 22) (lv2 := [(0, .ref 1), (1, .ref (1000 + a1)), (2, .int 0)]) dX8_isWord_22 rfl (Nat.le_of_ble_eq_true rfl) rfl ?_
      exact h
    · have h := h.2 q
      refine g_iconst (pc := 19) dX8_isWord_19 c_0 ?_
      exact g_bret (pc := 20) dX8_isWord_20 rfl (Or.inl rfl) h
set_option maxHeartbeats 4000000 in
set_option maxRecDepth 100000 in
theorem BX8_isWord_23 (a1 : Nat) (ha1 : a1 < nST) (l2 : Int32) (w : Wd) (b : Bool) (hR : w.2.2 = RTab b) (Q : Option Value → Wd → Prop) (h : (((Int32.ofNat (lenST.getD a1 0)) ≤ l2 → Q (some (.int 1)) w) ∧ (¬ ((Int32.ofNat (lenST.getD a1 0)) ≤ l2) → vp_in l2 (lenST.getD a1 0) ∧ (((chST a1 l2) = (gf w 2 600 ((wi w 1 5) + l2)) → Go SC mX8_isWord 23 [(0, .ref 1), (1, .ref (1000 + a1)), (2, .int (l2 + 1))] [] w Q) ∧ (¬ ((chST a1 l2) = (gf w 2 600 ((wi w 1 5) + l2))) → Q (some (.int 0)) w))))) : Go SC mX8_isWord 23 [(0, .ref 1), (1, .ref (1000 + a1)), (2, .int l2)] [] w Q := by
  refine g_iload_n (pc := 23) dX8_isWord_23 rfl 2 rfl ?_
  refine g_aload_n (pc := 24) dX8_isWord_24 rfl 1 rfl ?_
  refine g_callStr (pc := 25) (M' := mJ0_length_8abf5) (n := 0) (i := a1) (as := []) (st := [.int l2]) ha1 dX8_isWord_25 rfl kX8_174 vJ0_length_8abf5 (Nat.le_of_ble_eq_true rfl) rfl rfl rfl (Nat.le_of_ble_eq_true rfl) ?_
  refine h_length (i := a1) ha1 ?_
  show Go SC mX8_isWord 28 [(0, .ref 1), (1, .ref (1000 + a1)), (2, .int l2)] [.int (Int32.ofNat (lenST.getD a1 0)), .int l2] w Q
  refine g_icmp_ge (pc := 28) (tgt := 60) dX8_isWord_28 (by decide) (fun q => ?_) (fun q => ?_)
  · have h := h.1 q
    refine g_iconst (pc := 60) dX8_isWord_60 c_1 ?_
    exact g_bret (pc := 61) dX8_isWord_61 rfl (Or.inr rfl) h
  · have h := h.2 q
    refine g_aload_n (pc := 31) dX8_isWord_31 rfl 1 rfl ?_
    refine g_iload_n (pc := 32) dX8_isWord_32 rfl 2 rfl ?_
    refine g_callStr (pc := 33) (M' := mJ0_charAt_5068e) (n := 1) (i := a1) (as := [.int l2]) (st := []) ha1 dX8_isWord_33 rfl kX8_178 vJ0_charAt_5068e (Nat.le_of_ble_eq_true rfl) rfl rfl rfl (Nat.le_of_ble_eq_true rfl) ?_
    obtain ⟨hi1, h⟩ := h
    refine h_charAt (i := a1) (k := l2) ha1 hi1 ?_
    show Go SC mX8_isWord 36 [(0, .ref 1), (1, .ref (1000 + a1)), (2, .int l2)] [.int (chST a1 l2)] w Q
    refine g_aload_n (pc := 36) dX8_isWord_36 rfl 0 rfl ?_
    refine g_getR (pc := 37) (a := 1) (b := 2) dX8_isWord_37 rfl fX8_11 rfl (rc_1_0 hR) ?_
    refine g_aload_n (pc := 40) dX8_isWord_40 rfl 0 rfl ?_
    refine g_getI (pc := 41) (a := 1) dX8_isWord_41 rfl fX8_108 rfl ?_
    refine g_iload_n (pc := 44) dX8_isWord_44 rfl 2 rfl ?_
    refine g_iadd (pc := 45) dX8_isWord_45 ?_
    refine g_callS (pc := 46) (M' := mX10_at) (n := 2) (as := [.ref 2, .int ((wi w 1 5) + l2)]) (st := [.int (chST a1 l2)]) dX8_isWord_46 rfl kX8_127 sX10_at (Nat.le_of_ble_eq_true rfl) rfl rfl (Nat.le_of_ble_eq_true rfl) ?_
    refine h_at (a := 2) (n := 600) (i := (wi w 1 5) + l2) (w := w) rfl (Nat.le_of_ble_eq_true rfl) ?_
    show Go SC mX8_isWord 49 [(0, .ref 1), (1, .ref (1000 + a1)), (2, .int l2)] [.int (gf w 2 600 ((wi w 1 5) + l2)), .int (chST a1 l2)] w Q
    refine g_icmp_eq (pc := 49) (tgt := 54) dX8_isWord_49 (by decide) (fun q => ?_) (fun q => ?_)
    · have h := h.1 q
      refine g_iinc (pc := 54) (v := l2 + 1) (lv2 := [(0, .ref 1), (1, .ref (1000 + a1)), (2, .int (l2 + 1))]) dX8_isWord_54 2 rfl (Nat.le_of_ble_eq_true rfl) rfl rfl ?_
      refine g_goto (pc := 57) (tgt := 23) dX8_isWord_57 (by decide) ?_
      exact h
    · have h := h.2 q
      refine g_iconst (pc := 52) dX8_isWord_52 c_0 ?_
      exact g_bret (pc := 53) dX8_isWord_53 rfl (Or.inl rfl) h
set_option maxHeartbeats 4000000 in
set_option maxRecDepth 100000 in
theorem TX8_isName  (w : Wd) (b : Bool) (hR : w.2.2 = RTab b) (Q : Option Value → Wd → Prop) (h : (((wi w 1 4) = 1 → (((wi w 1 6) ≤ 8 → ClI SC mX8_isWord [.ref 1, .ref 1000] w (fun x2 w1 => w1.2.2 = RTab b ∧ ((x2 = 0 → ClI SC mX8_isWord [.ref 1, .ref 1001] w1 (fun x4 w3 => w3.2.2 = RTab b ∧ ((x4 = 0 → ClI SC mX8_isWord [.ref 1, .ref 1002] w3 (fun x6 w5 => w5.2.2 = RTab b ∧ ((x6 = 0 → ClI SC mX8_isWord [.ref 1, .ref 1003] w5 (fun x8 w7 => w7.2.2 = RTab b ∧ Q (some (.int (if x8 = 0 then 1 else 0 : Int32))) w7)) ∧ (¬ (x6 = 0) → Q (some (.int 0)) w5)))) ∧ (¬ (x4 = 0) → Q (some (.int 0)) w3)))) ∧ (¬ (x2 = 0) → Q (some (.int 0)) w1)))) ∧ (¬ ((wi w 1 6) ≤ 8) → Q (some (.int 0)) w))) ∧ (¬ ((wi w 1 4) = 1) → Q (some (.int 0)) w))) : Cl SC mX8_isName [.ref 1] w Q := by
  refine cl_of (by decide) (Nat.le_of_ble_eq_true rfl) ?_
  show Go SC mX8_isName 0 [(0, .ref 1)] [] w Q
  refine g_aload_n (pc := 0) dX8_isName_0 rfl 0 rfl ?_
  refine g_getI (pc := 1) (a := 1) dX8_isName_1 rfl fX8_52 rfl ?_
  refine g_iconst (pc := 4) dX8_isName_4 c_1 ?_
  refine g_icmp_ne (pc := 5) (tgt := 17) dX8_isName_5 (by decide) (fun q => ?_) (fun q => ?_)
  · have h := h.2 q
    refine g_iconst (pc := 17) dX8_isName_17 c_0 ?_
    exact g_bret (pc := 18) dX8_isName_18 rfl (Or.inl rfl) h
  · have h := h.1 q
    refine g_aload_n (pc := 8) dX8_isName_8 rfl 0 rfl ?_
    refine g_getI (pc := 9) (a := 1) dX8_isName_9 rfl fX8_116 rfl ?_
    refine g_bipush (pc := 12) (v := 8) dX8_isName_12 (by decide) ?_
    refine g_icmp_le (pc := 14) (tgt := 19) dX8_isName_14 (by decide) (fun q => ?_) (fun q => ?_)
    · have h := h.1 q
      refine g_aload_n (pc := 19) dX8_isName_19 rfl 0 rfl ?_
      refine g_ldcS (pc := 20) (i := 0) (tx := "hall") dX8_isName_20 rfl (by decide) ?_
      refine g_callV (pc := 22) (M' := mX8_isWord) (n := 1) (a := 1) (as := [.ref 1000]) (st := []) dX8_isName_22 rfl kX8_64 vX8_isWord (Nat.le_of_ble_eq_true rfl) rfl qX8 rfl rfl (Nat.le_of_ble_eq_true rfl) ?_
      refine cl_mono (fun r w1 hr => ?_) h
      obtain ⟨x2, rfl, hw1, h⟩ := hr
      show Go SC mX8_isName 25 [(0, .ref 1)] [.int x2] w1 Q
      refine g_if_ne (pc := 25) (tgt := 59) dX8_isName_25 (by decide) (fun q => ?_) (fun q => ?_)
      · have h := h.2 q
        refine g_iconst (pc := 59) dX8_isName_59 c_0 ?_
        exact g_bret (pc := 60) dX8_isName_60 rfl (Or.inl rfl) h
      · have h := h.1 q
        refine g_aload_n (pc := 28) dX8_isName_28 rfl 0 rfl ?_
        refine g_ldcS (pc := 29) (i := 1) (tx := "dance") dX8_isName_29 rfl (by decide) ?_
        refine g_callV (pc := 31) (M' := mX8_isWord) (n := 1) (a := 1) (as := [.ref 1001]) (st := []) dX8_isName_31 rfl kX8_64 vX8_isWord (Nat.le_of_ble_eq_true rfl) rfl qX8 rfl rfl (Nat.le_of_ble_eq_true rfl) ?_
        refine cl_mono (fun r w3 hr => ?_) h
        obtain ⟨x4, rfl, hw3, h⟩ := hr
        show Go SC mX8_isName 34 [(0, .ref 1)] [.int x4] w3 Q
        refine g_if_ne (pc := 34) (tgt := 59) dX8_isName_34 (by decide) (fun q => ?_) (fun q => ?_)
        · have h := h.2 q
          refine g_iconst (pc := 59) dX8_isName_59 c_0 ?_
          exact g_bret (pc := 60) dX8_isName_60 rfl (Or.inl rfl) h
        · have h := h.1 q
          refine g_aload_n (pc := 37) dX8_isName_37 rfl 0 rfl ?_
          refine g_ldcS (pc := 38) (i := 2) (tx := "unsure") dX8_isName_38 rfl (by decide) ?_
          refine g_callV (pc := 40) (M' := mX8_isWord) (n := 1) (a := 1) (as := [.ref 1002]) (st := []) dX8_isName_40 rfl kX8_64 vX8_isWord (Nat.le_of_ble_eq_true rfl) rfl qX8 rfl rfl (Nat.le_of_ble_eq_true rfl) ?_
          refine cl_mono (fun r w5 hr => ?_) h
          obtain ⟨x6, rfl, hw5, h⟩ := hr
          show Go SC mX8_isName 43 [(0, .ref 1)] [.int x6] w5 Q
          refine g_if_ne (pc := 43) (tgt := 59) dX8_isName_43 (by decide) (fun q => ?_) (fun q => ?_)
          · have h := h.2 q
            refine g_iconst (pc := 59) dX8_isName_59 c_0 ?_
            exact g_bret (pc := 60) dX8_isName_60 rfl (Or.inl rfl) h
          · have h := h.1 q
            refine g_aload_n (pc := 46) dX8_isName_46 rfl 0 rfl ?_
            refine g_ldcS (pc := 47) (i := 3) (tx := "seen") dX8_isName_47 rfl (by decide) ?_
            refine g_callV (pc := 49) (M' := mX8_isWord) (n := 1) (a := 1) (as := [.ref 1003]) (st := []) dX8_isName_49 rfl kX8_64 vX8_isWord (Nat.le_of_ble_eq_true rfl) rfl qX8 rfl rfl (Nat.le_of_ble_eq_true rfl) ?_
            refine cl_mono (fun r w7 hr => ?_) h
            obtain ⟨x8, rfl, hw7, h⟩ := hr
            show Go SC mX8_isName 52 [(0, .ref 1)] [.int x8] w7 Q
            have hJ : Go SC mX8_isName 60 [(0, .ref 1)] [.int (if x8 = 0 then 1 else 0 : Int32)] w7 Q := by
              exact g_bret (pc := 60) dX8_isName_60 rfl (z_ite (Or.inr rfl) (Or.inl rfl)) h
            refine g_if_ne (pc := 52) (tgt := 59) dX8_isName_52 (by decide) (fun q52 => ?_) (fun q52 => ?_)
            · refine g_iconst (pc := 59) dX8_isName_59 c_0 ?_
              first | (exfalso; contradiction) | exact cast (by simp only [if_neg q52]) hJ
            · refine g_iconst (pc := 55) dX8_isName_55 c_1 ?_
              refine g_goto (pc := 56) (tgt := 60) dX8_isName_56 (by decide) ?_
              first | (exfalso; contradiction) | exact cast (by simp only [if_pos q52]) hJ
    · have h := h.2 q
      refine g_iconst (pc := 17) dX8_isName_17 c_0 ?_
      exact g_bret (pc := 18) dX8_isName_18 rfl (Or.inl rfl) h
set_option maxHeartbeats 4000000 in
set_option maxRecDepth 100000 in
theorem TX8_readRow (ca1 : Bool) (ka1 : Nat) (hka1 : ka1 < 5) (w : Wd) (b : Bool) (hR : w.2.2 = RTab b) (Q : Option Value → Wd → Prop) (h : (((wi w 1 4) = 1 → Go SC mX8_readRow 21 [(0, .ref 1), (1, .ref (dA (hA ca1) ka1)), (2, .int 0)] [] (si w (dA (hA ca1) ka1) 1 0) Q) ∧ (¬ ((wi w 1 4) = 1) → Q (some (.int (vXX8_fail 1))) (wXX8_fail 1 w)))) : Cl SC mX8_readRow [.ref 1, .ref (dA (hA ca1) ka1)] w Q := by
  refine cl_of (by decide) (Nat.le_of_ble_eq_true rfl) ?_
  show Go SC mX8_readRow 0 [(0, .ref 1), (1, .ref (dA (hA ca1) ka1))] [] w Q
  refine g_aload_n (pc := 0) dX8_readRow_0 rfl 0 rfl ?_
  refine g_getI (pc := 1) (a := 1) dX8_readRow_1 rfl fX8_52 rfl ?_
  refine g_iconst (pc := 4) dX8_readRow_4 c_1 ?_
  refine g_icmp_eq (pc := 5) (tgt := 14) dX8_readRow_5 (by decide) (fun q => ?_) (fun q => ?_)
  · have h := h.1 q
    refine g_aload_n (pc := 14) dX8_readRow_14 rfl 1 rfl ?_
    refine g_iconst (pc := 15) dX8_readRow_15 c_0 ?_
    refine g_putI (pc := 16) dX8_readRow_16 rfl fX8_126 pX1_1 (sh_d ca1 hka1) ?_
    refine g_iconst (pc := 19) dX8_readRow_19 c_0 ?_
    refine g_istore_n (pc := 20) (lv2 := [(0, .ref 1), (1, .ref (dA (hA ca1) ka1)), (2, .int 0)]) dX8_readRow_20 rfl (Nat.le_of_ble_eq_true rfl) rfl ?_
    exact h
  · have h := h.2 q
    refine g_aload_n (pc := 8) dX8_readRow_8 rfl 0 rfl ?_
    refine g_iconst (pc := 9) dX8_readRow_9 c_1 ?_
    refine g_callV (pc := 10) (M' := mX8_fail) (n := 1) (a := 1) (as := [.int 1]) (st := []) dX8_readRow_10 rfl kX8_55 vX8_fail (Nat.le_of_ble_eq_true rfl) rfl qX8 rfl rfl (Nat.le_of_ble_eq_true rfl) ?_
    refine zX8_fail (a1 := 1) (w := w) (b := b) (hR := hR) ?_
    show Go SC mX8_readRow 13 [(0, .ref 1), (1, .ref (dA (hA ca1) ka1))] [.int (vXX8_fail 1)] (wXX8_fail 1 w) Q
    exact g_bret (pc := 13) dX8_readRow_13 rfl (zzX8_fail 1) h
set_option maxHeartbeats 4000000 in
set_option maxRecDepth 100000 in
theorem BX8_readRow_21 (ca1 : Bool) (ka1 : Nat) (hka1 : ka1 < 5) (l2 : Int32) (w : Wd) (b : Bool) (hR : w.2.2 = RTab b) (Q : Option Value → Wd → Prop) (h : (((wi w 1 6) ≤ l2 → Q (some (.int 1)) w) ∧ (¬ ((wi w 1 6) ≤ l2) → (((vXX8_figureOf (gf w 2 600 ((wi w 1 5) + l2))) = (-1) → Q (some (.int (vXX8_fail 7))) (wXX8_fail 7 w)) ∧ (¬ ((vXX8_figureOf (gf w 2 600 ((wi w 1 5) + l2))) = (-1)) → Go SC mX8_readRow 21 [(0, .ref 1), (1, .ref (dA (hA ca1) ka1)), (2, .int (l2 + 1))] [] (wXX1_add ca1 ka1 (vXX8_figureOf (gf w 2 600 ((wi w 1 5) + l2))) w) Q))))) : Go SC mX8_readRow 21 [(0, .ref 1), (1, .ref (dA (hA ca1) ka1)), (2, .int l2)] [] w Q := by
  refine g_iload_n (pc := 21) dX8_readRow_21 rfl 2 rfl ?_
  refine g_aload_n (pc := 22) dX8_readRow_22 rfl 0 rfl ?_
  refine g_getI (pc := 23) (a := 1) dX8_readRow_23 rfl fX8_116 rfl ?_
  refine g_icmp_ge (pc := 26) (tgt := 69) dX8_readRow_26 (by decide) (fun q => ?_) (fun q => ?_)
  · have h := h.1 q
    refine g_iconst (pc := 69) dX8_readRow_69 c_1 ?_
    exact g_bret (pc := 70) dX8_readRow_70 rfl (Or.inr rfl) h
  · have h := h.2 q
    refine g_aload_n (pc := 29) dX8_readRow_29 rfl 0 rfl ?_
    refine g_getR (pc := 30) (a := 1) (b := 2) dX8_readRow_30 rfl fX8_11 rfl (rc_1_0 hR) ?_
    refine g_aload_n (pc := 33) dX8_readRow_33 rfl 0 rfl ?_
    refine g_getI (pc := 34) (a := 1) dX8_readRow_34 rfl fX8_108 rfl ?_
    refine g_iload_n (pc := 37) dX8_readRow_37 rfl 2 rfl ?_
    refine g_iadd (pc := 38) dX8_readRow_38 ?_
    refine g_callS (pc := 39) (M' := mX10_at) (n := 2) (as := [.ref 2, .int ((wi w 1 5) + l2)]) (st := []) dX8_readRow_39 rfl kX8_127 sX10_at (Nat.le_of_ble_eq_true rfl) rfl rfl (Nat.le_of_ble_eq_true rfl) ?_
    refine h_at (a := 2) (n := 600) (i := (wi w 1 5) + l2) (w := w) rfl (Nat.le_of_ble_eq_true rfl) ?_
    show Go SC mX8_readRow 42 [(0, .ref 1), (1, .ref (dA (hA ca1) ka1)), (2, .int l2)] [.int (gf w 2 600 ((wi w 1 5) + l2))] w Q
    refine g_callS (pc := 42) (M' := mX8_figureOf) (n := 1) (as := [.int (gf w 2 600 ((wi w 1 5) + l2))]) (st := []) dX8_readRow_42 rfl kX8_131 sX8_figureOf (Nat.le_of_ble_eq_true rfl) rfl rfl (Nat.le_of_ble_eq_true rfl) ?_
    refine zX8_figureOf (a1 := (gf w 2 600 ((wi w 1 5) + l2))) (w := w) (b := b) (hR := hR) ?_
    show Go SC mX8_readRow 45 [(0, .ref 1), (1, .ref (dA (hA ca1) ka1)), (2, .int l2)] [.int (vXX8_figureOf (gf w 2 600 ((wi w 1 5) + l2)))] w Q
    refine g_istore_n (pc := 45) (lv2 := [(0, .ref 1), (1, .ref (dA (hA ca1) ka1)), (2, .int l2), (3, .int (vXX8_figureOf (gf w 2 600 ((wi w 1 5) + l2))))]) dX8_readRow_45 rfl (Nat.le_of_ble_eq_true rfl) rfl ?_
    refine g_iload_n (pc := 46) dX8_readRow_46 rfl 3 rfl ?_
    refine g_iconst (pc := 47) dX8_readRow_47 cN_1 ?_
    refine g_icmp_ne (pc := 48) (tgt := 58) dX8_readRow_48 (by decide) (fun q => ?_) (fun q => ?_)
    · have h := h.2 q
      refine g_aload_n (pc := 58) dX8_readRow_58 rfl 1 rfl ?_
      refine g_iload_n (pc := 59) dX8_readRow_59 rfl 3 rfl ?_
      refine g_callV (pc := 60) (M' := mX1_add) (n := 1) (a := (dA (hA ca1) ka1)) (as := [.int (vXX8_figureOf (gf w 2 600 ((wi w 1 5) + l2)))]) (st := []) dX8_readRow_60 rfl kX8_135 vX1_add (Nat.le_of_ble_eq_true rfl) (sh_d ca1 hka1) qX1 rfl rfl (Nat.le_of_ble_eq_true rfl) ?_
      refine zX1_add (c := ca1) (k := ka1) (a1 := (vXX8_figureOf (gf w 2 600 ((wi w 1 5) + l2)))) (w := w) (b := b) (hR := hR) (hk := hka1) ?_
      show Go SC mX8_readRow 63 [(0, .ref 1), (1, .ref (dA (hA ca1) ka1)), (2, .int l2), (3, .int (vXX8_figureOf (gf w 2 600 ((wi w 1 5) + l2))))] [] (wXX1_add ca1 ka1 (vXX8_figureOf (gf w 2 600 ((wi w 1 5) + l2))) w) Q
      refine g_iinc (pc := 63) (v := l2 + 1) (lv2 := [(0, .ref 1), (1, .ref (dA (hA ca1) ka1)), (2, .int (l2 + 1)), (3, .int (vXX8_figureOf (gf w 2 600 ((wi w 1 5) + l2))))]) dX8_readRow_63 2 rfl (Nat.le_of_ble_eq_true rfl) rfl rfl ?_
      refine g_goto (pc := 66) (tgt := 21) dX8_readRow_66 (by decide) ?_
      refine g_sub (lv2 := [(0, .ref 1), (1, .ref (dA (hA ca1) ka1)), (2, .int (l2 + 1))]) [0, 1, 2] rfl ?_
      exact h
    · have h := h.1 q
      refine g_aload_n (pc := 51) dX8_readRow_51 rfl 0 rfl ?_
      refine g_bipush (pc := 52) (v := 7) dX8_readRow_52 (by decide) ?_
      refine g_callV (pc := 54) (M' := mX8_fail) (n := 1) (a := 1) (as := [.int 7]) (st := []) dX8_readRow_54 rfl kX8_55 vX8_fail (Nat.le_of_ble_eq_true rfl) rfl qX8 rfl rfl (Nat.le_of_ble_eq_true rfl) ?_
      refine zX8_fail (a1 := 7) (w := w) (b := b) (hR := hR) ?_
      show Go SC mX8_readRow 57 [(0, .ref 1), (1, .ref (dA (hA ca1) ka1)), (2, .int l2), (3, .int (vXX8_figureOf (gf w 2 600 ((wi w 1 5) + l2))))] [.int (vXX8_fail 7)] (wXX8_fail 7 w) Q
      exact g_bret (pc := 57) dX8_readRow_57 rfl (zzX8_fail 7) h
