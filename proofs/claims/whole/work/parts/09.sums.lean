def wXX0_measure (a1 : Int32) (a2 : Int32) (a3 : Int32) (w : Wd) : Wd := si (si (si w 62 1 a1) 62 2 a2) 62 3 a3
set_option maxHeartbeats 4000000 in
set_option maxRecDepth 100000 in
theorem rXX0_measure (a1 : Int32) (a2 : Int32) (a3 : Int32) (w : Wd) : (wXX0_measure a1 a2 a3 w).2.2 = w.2.2 := rfl
set_option maxHeartbeats 4000000 in
set_option maxRecDepth 100000 in
theorem zX0_measure {a1 : Int32} {a2 : Int32} {a3 : Int32} {w : Wd} {b : Bool} (hR : w.2.2 = RTab b) {Q : Option Value → Wd → Prop} (h : Q none (wXX0_measure a1 a2 a3 w)) : Cl SC mX0_measure [.ref 62, .int a1, .int a2, .int a3] w Q := by
  refine cl_of (by decide) (Nat.le_of_ble_eq_true rfl) ?_
  show Go SC mX0_measure 0 [(0, .ref 62), (1, .int a1), (2, .int a2), (3, .int a3)] [] w Q
  refine g_aload_n (pc := 0) dX0_measure_0 rfl 0 rfl ?_
  refine g_iload_n (pc := 1) dX0_measure_1 rfl 1 rfl ?_
  refine g_putI (pc := 2) dX0_measure_2 rfl fX0_16 pX0_1 rfl ?_
  refine g_aload_n (pc := 5) dX0_measure_5 rfl 0 rfl ?_
  refine g_iload_n (pc := 6) dX0_measure_6 rfl 2 rfl ?_
  refine g_putI (pc := 7) dX0_measure_7 rfl fX0_20 pX0_2 rfl ?_
  refine g_aload_n (pc := 10) dX0_measure_10 rfl 0 rfl ?_
  refine g_iload_n (pc := 11) dX0_measure_11 rfl 3 rfl ?_
  refine g_putI (pc := 12) dX0_measure_12 rfl fX0_23 pX0_3 rfl ?_
  refine g_vret (pc := 15) dX0_measure_15 rfl ?_
  exact h
def vXJ9_abs_067f4 (a1 : Int64) : Int64 := (if 0 ≤ (lg_cmp a1 0) then a1 else -a1 : Int64)
set_option maxHeartbeats 4000000 in
set_option maxRecDepth 100000 in
theorem zJ9_abs_067f4 {a1 : Int64} {w : Wd} {b : Bool} (hR : w.2.2 = RTab b) {Q : Option Value → Wd → Prop} (h : Q (some (.long (vXJ9_abs_067f4 a1))) w) : Cl SC mJ9_abs_067f4 [.long a1] w Q := by
  refine cl_ofF (by decide +kernel) (Nat.le_of_ble_eq_true rfl) ?_
  show Go SC mJ9_abs_067f4 0 [(0, .long a1)] [] w Q
  refine g_lload_n (pc := 0) dJ9_abs_067f4_0 rfl 0 rfl ?_
  refine g_lconst (pc := 1) (v := 0) dJ9_abs_067f4_1 (by decide) ?_
  refine g_lcmp (pc := 2) dJ9_abs_067f4_2 ?_
  have hJ : Go SC mJ9_abs_067f4 12 [(0, .long a1)] [.long (if 0 ≤ (lg_cmp a1 0) then a1 else -a1 : Int64)] w Q := by
    refine g_lret (pc := 12) dJ9_abs_067f4_12 rfl ?_
    exact h
  refine g_if_ge (pc := 3) (tgt := 11) dJ9_abs_067f4_3 (by decide) (fun q3 => ?_) (fun q3 => ?_)
  · refine g_lload_n (pc := 11) dJ9_abs_067f4_11 rfl 0 rfl ?_
    first | (exfalso; contradiction) | exact cast (by simp only [if_pos q3]) hJ
  · refine g_lload_n (pc := 6) dJ9_abs_067f4_6 rfl 0 rfl ?_
    refine g_lneg (pc := 7) dJ9_abs_067f4_7 ?_
    refine g_goto (pc := 8) (tgt := 12) dJ9_abs_067f4_8 (by decide) ?_
    first | (exfalso; contradiction) | exact cast (by simp only [if_neg q3]) hJ
def vXJ9_abs_0f7a4 (a1 : Int32) : Int32 := (if 0 ≤ a1 then a1 else -a1 : Int32)
set_option maxHeartbeats 4000000 in
set_option maxRecDepth 100000 in
theorem zJ9_abs_0f7a4 {a1 : Int32} {w : Wd} {b : Bool} (hR : w.2.2 = RTab b) {Q : Option Value → Wd → Prop} (h : Q (some (.int (vXJ9_abs_0f7a4 a1))) w) : Cl SC mJ9_abs_0f7a4 [.int a1] w Q := by
  refine cl_ofF (by decide +kernel) (Nat.le_of_ble_eq_true rfl) ?_
  show Go SC mJ9_abs_0f7a4 0 [(0, .int a1)] [] w Q
  refine g_iload_n (pc := 0) dJ9_abs_0f7a4_0 rfl 0 rfl ?_
  have hJ : Go SC mJ9_abs_0f7a4 10 [(0, .int a1)] [.int (if 0 ≤ a1 then a1 else -a1 : Int32)] w Q := by
    refine g_iret (pc := 10) dJ9_abs_0f7a4_10 rfl ?_
    exact h
  refine g_if_ge (pc := 1) (tgt := 9) dJ9_abs_0f7a4_1 (by decide) (fun q1 => ?_) (fun q1 => ?_)
  · refine g_iload_n (pc := 9) dJ9_abs_0f7a4_9 rfl 0 rfl ?_
    first | (exfalso; contradiction) | exact cast (by simp only [if_pos q1]) hJ
  · refine g_iload_n (pc := 4) dJ9_abs_0f7a4_4 rfl 0 rfl ?_
    refine g_ineg (pc := 5) dJ9_abs_0f7a4_5 ?_
    refine g_goto (pc := 6) (tgt := 10) dJ9_abs_0f7a4_6 (by decide) ?_
    first | (exfalso; contradiction) | exact cast (by simp only [if_neg q1]) hJ
def vXX7_goalOf (t : Nat) (a1 : Int32) (w : Wd) : Int32 := if ((wi w t 0) % 2) = 0 then a1 ^^^ 1 else if ((wi w t 1) % 2) = 0 then a1 ^^^ 2 else a1 ^^^ 3
set_option maxHeartbeats 4000000 in
set_option maxRecDepth 100000 in
theorem zX7_goalOf {t : Nat} (ht : SC[t]? = some (.inl 6)) {a1 : Int32} {w : Wd} {b : Bool} (hR : w.2.2 = RTab b) {Q : Option Value → Wd → Prop} (h : Q (some (.int (vXX7_goalOf t a1 w))) w) : Cl SC mX7_goalOf [.ref t, .int a1] w Q := by
  refine cl_of (by decide) (Nat.le_of_ble_eq_true rfl) ?_
  show Go SC mX7_goalOf 0 [(0, .ref t), (1, .int a1)] [] w Q
  refine g_aload_n (pc := 0) dX7_goalOf_0 rfl 0 rfl ?_
  refine g_getI (pc := 1) (a := t) dX7_goalOf_1 rfl fX7_9 ht ?_
  refine g_iconst (pc := 4) dX7_goalOf_4 c_2 ?_
  refine g_irem (pc := 5) dX7_goalOf_5 (by decide) ?_
  refine g_if_ne (pc := 6) (tgt := 13) dX7_goalOf_6 (by decide) (fun q6 => ?_) (fun q6 => ?_)
  · refine g_aload_n (pc := 13) dX7_goalOf_13 rfl 0 rfl ?_
    refine g_getI (pc := 14) (a := t) dX7_goalOf_14 rfl fX7_15 ht ?_
    refine g_iconst (pc := 17) dX7_goalOf_17 c_2 ?_
    refine g_irem (pc := 18) dX7_goalOf_18 (by decide) ?_
    refine g_if_ne (pc := 19) (tgt := 28) dX7_goalOf_19 (by decide) (fun q19 => ?_) (fun q19 => ?_)
    · refine g_iload_n (pc := 28) dX7_goalOf_28 rfl 1 rfl ?_
      refine g_iconst (pc := 29) dX7_goalOf_29 c_3 ?_
      refine g_ixor (pc := 30) dX7_goalOf_30 ?_
      refine g_iret (pc := 31) dX7_goalOf_31 rfl ?_
      first | (exfalso; contradiction) | exact cast (by simp only [vXX7_goalOf, if_neg q6, if_neg q19]) h
    · refine g_iload_n (pc := 22) dX7_goalOf_22 rfl 1 rfl ?_
      refine g_iconst (pc := 23) dX7_goalOf_23 c_2 ?_
      refine g_ixor (pc := 24) dX7_goalOf_24 ?_
      refine g_goto (pc := 25) (tgt := 31) dX7_goalOf_25 (by decide) ?_
      refine g_iret (pc := 31) dX7_goalOf_31 rfl ?_
      first | (exfalso; contradiction) | exact cast (by simp only [vXX7_goalOf, if_neg q6, if_pos q19]) h
  · refine g_iload_n (pc := 9) dX7_goalOf_9 rfl 1 rfl ?_
    refine g_iconst (pc := 10) dX7_goalOf_10 c_1 ?_
    refine g_ixor (pc := 11) dX7_goalOf_11 ?_
    refine g_iret (pc := 12) dX7_goalOf_12 rfl ?_
    first | (exfalso; contradiction) | exact cast (by simp only [vXX7_goalOf, if_pos q6]) h
def vXX7_isUntied (t : Nat) (w : Wd) : Int32 := (if (wi w t 0) = 0 then 1 else 0 : Int32)
set_option maxHeartbeats 4000000 in
set_option maxRecDepth 100000 in
theorem zzX7_isUntied (t : Nat) (w : Wd) : vXX7_isUntied t w = 0 ∨ vXX7_isUntied t w = 1 := (z_ite (Or.inr rfl) (Or.inl rfl))
set_option maxHeartbeats 4000000 in
set_option maxRecDepth 100000 in
theorem zX7_isUntied {t : Nat} (ht : SC[t]? = some (.inl 6)) {w : Wd} {b : Bool} (hR : w.2.2 = RTab b) {Q : Option Value → Wd → Prop} (h : Q (some (.int (vXX7_isUntied t w))) w) : Cl SC mX7_isUntied [.ref t] w Q := by
  refine cl_of (by decide) (Nat.le_of_ble_eq_true rfl) ?_
  show Go SC mX7_isUntied 0 [(0, .ref t)] [] w Q
  refine g_aload_n (pc := 0) dX7_isUntied_0 rfl 0 rfl ?_
  refine g_getI (pc := 1) (a := t) dX7_isUntied_1 rfl fX7_9 ht ?_
  have hJ : Go SC mX7_isUntied 12 [(0, .ref t)] [.int (if (wi w t 0) = 0 then 1 else 0 : Int32)] w Q := by
    refine g_bret (pc := 12) dX7_isUntied_12 rfl (z_ite (Or.inr rfl) (Or.inl rfl)) ?_
    exact h
  refine g_if_ne (pc := 4) (tgt := 11) dX7_isUntied_4 (by decide) (fun q4 => ?_) (fun q4 => ?_)
  · refine g_iconst (pc := 11) dX7_isUntied_11 c_0 ?_
    first | (exfalso; contradiction) | exact cast (by simp only [if_neg q4]) hJ
  · refine g_iconst (pc := 7) dX7_isUntied_7 c_1 ?_
    refine g_goto (pc := 8) (tgt := 12) dX7_isUntied_8 (by decide) ?_
    first | (exfalso; contradiction) | exact cast (by simp only [if_pos q4]) hJ
def vXX10_isIn (a1 : Int32) (a2 : Int32) : Int32 := (if ((a1 >>> (a2 &&& 31)) &&& 1) = 1 then 1 else 0 : Int32)
set_option maxHeartbeats 4000000 in
set_option maxRecDepth 100000 in
theorem zzX10_isIn (a1 : Int32) (a2 : Int32) : vXX10_isIn a1 a2 = 0 ∨ vXX10_isIn a1 a2 = 1 := (z_ite (Or.inr rfl) (Or.inl rfl))
set_option maxHeartbeats 4000000 in
set_option maxRecDepth 100000 in
theorem zX10_isIn {a1 : Int32} {a2 : Int32} {w : Wd} {b : Bool} (hR : w.2.2 = RTab b) {Q : Option Value → Wd → Prop} (h : Q (some (.int (vXX10_isIn a1 a2))) w) : Cl SC mX10_isIn [.int a1, .int a2] w Q := by
  refine cl_of (by decide) (Nat.le_of_ble_eq_true rfl) ?_
  show Go SC mX10_isIn 0 [(0, .int a1), (1, .int a2)] [] w Q
  refine g_iload_n (pc := 0) dX10_isIn_0 rfl 0 rfl ?_
  refine g_iload_n (pc := 1) dX10_isIn_1 rfl 1 rfl ?_
  refine g_ishr (pc := 2) dX10_isIn_2 ?_
  refine g_iconst (pc := 3) dX10_isIn_3 c_1 ?_
  refine g_iand (pc := 4) dX10_isIn_4 ?_
  refine g_iconst (pc := 5) dX10_isIn_5 c_1 ?_
  have hJ : Go SC mX10_isIn 14 [(0, .int a1), (1, .int a2)] [.int (if ((a1 >>> (a2 &&& 31)) &&& 1) = 1 then 1 else 0 : Int32)] w Q := by
    refine g_bret (pc := 14) dX10_isIn_14 rfl (z_ite (Or.inr rfl) (Or.inl rfl)) ?_
    exact h
  refine g_icmp_ne (pc := 6) (tgt := 13) dX10_isIn_6 (by decide) (fun q6 => ?_) (fun q6 => ?_)
  · refine g_iconst (pc := 13) dX10_isIn_13 c_0 ?_
    first | (exfalso; contradiction) | exact cast (by simp only [if_neg q6]) hJ
  · refine g_iconst (pc := 9) dX10_isIn_9 c_1 ?_
    refine g_goto (pc := 10) (tgt := 14) dX10_isIn_10 (by decide) ?_
    first | (exfalso; contradiction) | exact cast (by simp only [if_pos q6]) hJ
def wXX7_put (t : Nat) (a1 : Int32) (a2 : Int32) (w : Wd) : Wd := si (si w t 0 a1) t 1 a2
set_option maxHeartbeats 4000000 in
set_option maxRecDepth 100000 in
theorem rXX7_put (t : Nat) (a1 : Int32) (a2 : Int32) (w : Wd) : (wXX7_put t a1 a2 w).2.2 = w.2.2 := rfl
set_option maxHeartbeats 4000000 in
set_option maxRecDepth 100000 in
theorem zX7_put {t : Nat} (ht : SC[t]? = some (.inl 6)) {a1 : Int32} {a2 : Int32} {w : Wd} {b : Bool} (hR : w.2.2 = RTab b) {Q : Option Value → Wd → Prop} (h : Q none (wXX7_put t a1 a2 w)) : Cl SC mX7_put [.ref t, .int a1, .int a2] w Q := by
  refine cl_of (by decide) (Nat.le_of_ble_eq_true rfl) ?_
  show Go SC mX7_put 0 [(0, .ref t), (1, .int a1), (2, .int a2)] [] w Q
  refine g_aload_n (pc := 0) dX7_put_0 rfl 0 rfl ?_
  refine g_iload_n (pc := 1) dX7_put_1 rfl 1 rfl ?_
  refine g_putI (pc := 2) dX7_put_2 rfl fX7_9 pX7_0 ht ?_
  refine g_aload_n (pc := 5) dX7_put_5 rfl 0 rfl ?_
  refine g_iload_n (pc := 6) dX7_put_6 rfl 2 rfl ?_
  refine g_putI (pc := 7) dX7_put_7 rfl fX7_15 pX7_1 ht ?_
  refine g_vret (pc := 10) dX7_put_10 rfl ?_
  exact h
def vXX7_overBy (a1 : Int32) (a2 : Int32) (a3 : Int32) : Int32 := if a1 = 0 then a2 + a3 else if a1 = 1 then a2 - a3 else if a2 = 0 then 1 else if a2 ≤ 0 then a3 else -a3
set_option maxHeartbeats 4000000 in
set_option maxRecDepth 100000 in
theorem zX7_overBy {a1 : Int32} {a2 : Int32} {a3 : Int32} {w : Wd} {b : Bool} (hR : w.2.2 = RTab b) {Q : Option Value → Wd → Prop} (h : Q (some (.int (vXX7_overBy a1 a2 a3))) w) : Cl SC mX7_overBy [.int a1, .int a2, .int a3] w Q := by
  refine cl_of (by decide) (Nat.le_of_ble_eq_true rfl) ?_
  show Go SC mX7_overBy 0 [(0, .int a1), (1, .int a2), (2, .int a3)] [] w Q
  refine g_iload_n (pc := 0) dX7_overBy_0 rfl 0 rfl ?_
  refine g_if_ne (pc := 1) (tgt := 8) dX7_overBy_1 (by decide) (fun q1 => ?_) (fun q1 => ?_)
  · refine g_iload_n (pc := 8) dX7_overBy_8 rfl 0 rfl ?_
    refine g_iconst (pc := 9) dX7_overBy_9 c_1 ?_
    refine g_icmp_ne (pc := 10) (tgt := 17) dX7_overBy_10 (by decide) (fun q10 => ?_) (fun q10 => ?_)
    · refine g_iload_n (pc := 17) dX7_overBy_17 rfl 1 rfl ?_
      refine g_if_ne (pc := 18) (tgt := 23) dX7_overBy_18 (by decide) (fun q18 => ?_) (fun q18 => ?_)
      · refine g_iload_n (pc := 23) dX7_overBy_23 rfl 1 rfl ?_
        refine g_if_le (pc := 24) (tgt := 32) dX7_overBy_24 (by decide) (fun q24 => ?_) (fun q24 => ?_)
        · refine g_iload_n (pc := 32) dX7_overBy_32 rfl 2 rfl ?_
          refine g_iret (pc := 33) dX7_overBy_33 rfl ?_
          first | (exfalso; contradiction) | exact cast (by simp only [vXX7_overBy, if_neg q1, if_neg q10, if_neg q18, if_pos q24]) h
        · refine g_iload_n (pc := 27) dX7_overBy_27 rfl 2 rfl ?_
          refine g_ineg (pc := 28) dX7_overBy_28 ?_
          refine g_goto (pc := 29) (tgt := 33) dX7_overBy_29 (by decide) ?_
          refine g_iret (pc := 33) dX7_overBy_33 rfl ?_
          first | (exfalso; contradiction) | exact cast (by simp only [vXX7_overBy, if_neg q1, if_neg q10, if_neg q18, if_neg q24]) h
      · refine g_iconst (pc := 21) dX7_overBy_21 c_1 ?_
        refine g_iret (pc := 22) dX7_overBy_22 rfl ?_
        first | (exfalso; contradiction) | exact cast (by simp only [vXX7_overBy, if_neg q1, if_neg q10, if_pos q18]) h
    · refine g_iload_n (pc := 13) dX7_overBy_13 rfl 1 rfl ?_
      refine g_iload_n (pc := 14) dX7_overBy_14 rfl 2 rfl ?_
      refine g_isub (pc := 15) dX7_overBy_15 ?_
      refine g_iret (pc := 16) dX7_overBy_16 rfl ?_
      first | (exfalso; contradiction) | exact cast (by simp only [vXX7_overBy, if_neg q1, if_pos q10]) h
  · refine g_iload_n (pc := 4) dX7_overBy_4 rfl 1 rfl ?_
    refine g_iload_n (pc := 5) dX7_overBy_5 rfl 2 rfl ?_
    refine g_iadd (pc := 6) dX7_overBy_6 ?_
    refine g_iret (pc := 7) dX7_overBy_7 rfl ?_
    first | (exfalso; contradiction) | exact cast (by simp only [vXX7_overBy, if_pos q1]) h
def vXX7_underBy (a1 : Int32) (a2 : Int32) (a3 : Int32) : Int32 := (if a1 = 2 then vXJ9_abs_0f7a4 a2 else a3 : Int32)
set_option maxHeartbeats 4000000 in
set_option maxRecDepth 100000 in
theorem zX7_underBy {a1 : Int32} {a2 : Int32} {a3 : Int32} {w : Wd} {b : Bool} (hR : w.2.2 = RTab b) {Q : Option Value → Wd → Prop} (h : Q (some (.int (vXX7_underBy a1 a2 a3))) w) : Cl SC mX7_underBy [.int a1, .int a2, .int a3] w Q := by
  refine cl_of (by decide) (Nat.le_of_ble_eq_true rfl) ?_
  show Go SC mX7_underBy 0 [(0, .int a1), (1, .int a2), (2, .int a3)] [] w Q
  refine g_iload_n (pc := 0) dX7_underBy_0 rfl 0 rfl ?_
  refine g_iconst (pc := 1) dX7_underBy_1 c_2 ?_
  have hJ : Go SC mX7_underBy 13 [(0, .int a1), (1, .int a2), (2, .int a3)] [.int (if a1 = 2 then vXJ9_abs_0f7a4 a2 else a3 : Int32)] w Q := by
    refine g_iret (pc := 13) dX7_underBy_13 rfl ?_
    exact h
  refine g_icmp_ne (pc := 2) (tgt := 12) dX7_underBy_2 (by decide) (fun q2 => ?_) (fun q2 => ?_)
  · refine g_iload_n (pc := 12) dX7_underBy_12 rfl 2 rfl ?_
    first | (exfalso; contradiction) | exact cast (by simp only [if_neg q2]) hJ
  · refine g_iload_n (pc := 5) dX7_underBy_5 rfl 1 rfl ?_
    refine g_callS (pc := 6) (M' := mJ9_abs_0f7a4) (n := 1) (as := [.int a2]) (st := []) dX7_underBy_6 rfl kX7_29 sJ9_abs_0f7a4 (Nat.le_of_ble_eq_true rfl) rfl rfl (Nat.le_of_ble_eq_true rfl) ?_
    refine zJ9_abs_0f7a4 (a1 := a2) (w := w) (b := b) (hR := hR) ?_
    show Go SC mX7_underBy 9 [(0, .int a1), (1, .int a2), (2, .int a3)] [.int (vXJ9_abs_0f7a4 a2)] w Q
    refine g_goto (pc := 9) (tgt := 13) dX7_underBy_9 (by decide) ?_
    first | (exfalso; contradiction) | exact cast (by simp only [if_pos q2]) hJ
def wXX7_step (t : Nat) (a1 : Int32) (w : Wd) : Wd := wXX7_put t (vXX7_overBy a1 (wi w t 0) (wi w t 1)) (vXX7_underBy a1 (wi w t 0) (wi w t 1)) w
set_option maxHeartbeats 4000000 in
set_option maxRecDepth 100000 in
theorem rXX7_step (t : Nat) (a1 : Int32) (w : Wd) : (wXX7_step t a1 w).2.2 = w.2.2 := rfl
set_option maxHeartbeats 4000000 in
set_option maxRecDepth 100000 in
theorem zX7_step {t : Nat} (ht : SC[t]? = some (.inl 6)) {a1 : Int32} {w : Wd} {b : Bool} (hR : w.2.2 = RTab b) {Q : Option Value → Wd → Prop} (h : Q none (wXX7_step t a1 w)) : Cl SC mX7_step [.ref t, .int a1] w Q := by
  refine cl_of (by decide) (Nat.le_of_ble_eq_true rfl) ?_
  show Go SC mX7_step 0 [(0, .ref t), (1, .int a1)] [] w Q
  refine g_aload_n (pc := 0) dX7_step_0 rfl 0 rfl ?_
  refine g_iload_n (pc := 1) dX7_step_1 rfl 1 rfl ?_
  refine g_aload_n (pc := 2) dX7_step_2 rfl 0 rfl ?_
  refine g_getI (pc := 3) (a := t) dX7_step_3 rfl fX7_9 ht ?_
  refine g_aload_n (pc := 6) dX7_step_6 rfl 0 rfl ?_
  refine g_getI (pc := 7) (a := t) dX7_step_7 rfl fX7_15 ht ?_
  refine g_callS (pc := 10) (M' := mX7_overBy) (n := 3) (as := [.int a1, .int (wi w t 0), .int (wi w t 1)]) (st := [.ref t]) dX7_step_10 rfl kX7_22 sX7_overBy (Nat.le_of_ble_eq_true rfl) rfl rfl (Nat.le_of_ble_eq_true rfl) ?_
  refine zX7_overBy (a1 := a1) (a2 := (wi w t 0)) (a3 := (wi w t 1)) (w := w) (b := b) (hR := hR) ?_
  show Go SC mX7_step 13 [(0, .ref t), (1, .int a1)] [.int (vXX7_overBy a1 (wi w t 0) (wi w t 1)), .ref t] w Q
  refine g_iload_n (pc := 13) dX7_step_13 rfl 1 rfl ?_
  refine g_aload_n (pc := 14) dX7_step_14 rfl 0 rfl ?_
  refine g_getI (pc := 15) (a := t) dX7_step_15 rfl fX7_9 ht ?_
  refine g_aload_n (pc := 18) dX7_step_18 rfl 0 rfl ?_
  refine g_getI (pc := 19) (a := t) dX7_step_19 rfl fX7_15 ht ?_
  refine g_callS (pc := 22) (M' := mX7_underBy) (n := 3) (as := [.int a1, .int (wi w t 0), .int (wi w t 1)]) (st := [.int (vXX7_overBy a1 (wi w t 0) (wi w t 1)), .ref t]) dX7_step_22 rfl kX7_26 sX7_underBy (Nat.le_of_ble_eq_true rfl) rfl rfl (Nat.le_of_ble_eq_true rfl) ?_
  refine zX7_underBy (a1 := a1) (a2 := (wi w t 0)) (a3 := (wi w t 1)) (w := w) (b := b) (hR := hR) ?_
  show Go SC mX7_step 25 [(0, .ref t), (1, .int a1)] [.int (vXX7_underBy a1 (wi w t 0) (wi w t 1)), .int (vXX7_overBy a1 (wi w t 0) (wi w t 1)), .ref t] w Q
  refine g_callV (pc := 25) (M' := mX7_put) (n := 2) (a := t) (as := [.int (vXX7_overBy a1 (wi w t 0) (wi w t 1)), .int (vXX7_underBy a1 (wi w t 0) (wi w t 1))]) (st := []) dX7_step_25 rfl kX7_18 vX7_put (Nat.le_of_ble_eq_true rfl) ht qX7 rfl rfl (Nat.le_of_ble_eq_true rfl) ?_
  refine zX7_put (t := t) (a1 := (vXX7_overBy a1 (wi w t 0) (wi w t 1))) (a2 := (vXX7_underBy a1 (wi w t 0) (wi w t 1))) (w := w) (b := b) (hR := hR) (ht := ht) ?_
  show Go SC mX7_step 28 [(0, .ref t), (1, .int a1)] [] (wXX7_put t (vXX7_overBy a1 (wi w t 0) (wi w t 1)) (vXX7_underBy a1 (wi w t 0) (wi w t 1)) w) Q
  refine g_vret (pc := 28) dX7_step_28 rfl ?_
  exact h
def vXJ6_bitCount_0f7a4 (a1 : Int32) : Int32 := (((((((a1 - (((a1.toUInt32 >>> ((1 : Int32).toUInt32 &&& Int32.toUInt32 31)).toInt32) &&& 1431655765)) &&& 858993459) + ((((a1 - (((a1.toUInt32 >>> ((1 : Int32).toUInt32 &&& Int32.toUInt32 31)).toInt32) &&& 1431655765)).toUInt32 >>> ((2 : Int32).toUInt32 &&& Int32.toUInt32 31)).toInt32) &&& 858993459)) + (((((a1 - (((a1.toUInt32 >>> ((1 : Int32).toUInt32 &&& Int32.toUInt32 31)).toInt32) &&& 1431655765)) &&& 858993459) + ((((a1 - (((a1.toUInt32 >>> ((1 : Int32).toUInt32 &&& Int32.toUInt32 31)).toInt32) &&& 1431655765)).toUInt32 >>> ((2 : Int32).toUInt32 &&& Int32.toUInt32 31)).toInt32) &&& 858993459)).toUInt32 >>> ((4 : Int32).toUInt32 &&& Int32.toUInt32 31)).toInt32)) &&& 252645135) + (((((((a1 - (((a1.toUInt32 >>> ((1 : Int32).toUInt32 &&& Int32.toUInt32 31)).toInt32) &&& 1431655765)) &&& 858993459) + ((((a1 - (((a1.toUInt32 >>> ((1 : Int32).toUInt32 &&& Int32.toUInt32 31)).toInt32) &&& 1431655765)).toUInt32 >>> ((2 : Int32).toUInt32 &&& Int32.toUInt32 31)).toInt32) &&& 858993459)) + (((((a1 - (((a1.toUInt32 >>> ((1 : Int32).toUInt32 &&& Int32.toUInt32 31)).toInt32) &&& 1431655765)) &&& 858993459) + ((((a1 - (((a1.toUInt32 >>> ((1 : Int32).toUInt32 &&& Int32.toUInt32 31)).toInt32) &&& 1431655765)).toUInt32 >>> ((2 : Int32).toUInt32 &&& Int32.toUInt32 31)).toInt32) &&& 858993459)).toUInt32 >>> ((4 : Int32).toUInt32 &&& Int32.toUInt32 31)).toInt32)) &&& 252645135).toUInt32 >>> ((8 : Int32).toUInt32 &&& Int32.toUInt32 31)).toInt32)) + ((((((((a1 - (((a1.toUInt32 >>> ((1 : Int32).toUInt32 &&& Int32.toUInt32 31)).toInt32) &&& 1431655765)) &&& 858993459) + ((((a1 - (((a1.toUInt32 >>> ((1 : Int32).toUInt32 &&& Int32.toUInt32 31)).toInt32) &&& 1431655765)).toUInt32 >>> ((2 : Int32).toUInt32 &&& Int32.toUInt32 31)).toInt32) &&& 858993459)) + (((((a1 - (((a1.toUInt32 >>> ((1 : Int32).toUInt32 &&& Int32.toUInt32 31)).toInt32) &&& 1431655765)) &&& 858993459) + ((((a1 - (((a1.toUInt32 >>> ((1 : Int32).toUInt32 &&& Int32.toUInt32 31)).toInt32) &&& 1431655765)).toUInt32 >>> ((2 : Int32).toUInt32 &&& Int32.toUInt32 31)).toInt32) &&& 858993459)).toUInt32 >>> ((4 : Int32).toUInt32 &&& Int32.toUInt32 31)).toInt32)) &&& 252645135) + (((((((a1 - (((a1.toUInt32 >>> ((1 : Int32).toUInt32 &&& Int32.toUInt32 31)).toInt32) &&& 1431655765)) &&& 858993459) + ((((a1 - (((a1.toUInt32 >>> ((1 : Int32).toUInt32 &&& Int32.toUInt32 31)).toInt32) &&& 1431655765)).toUInt32 >>> ((2 : Int32).toUInt32 &&& Int32.toUInt32 31)).toInt32) &&& 858993459)) + (((((a1 - (((a1.toUInt32 >>> ((1 : Int32).toUInt32 &&& Int32.toUInt32 31)).toInt32) &&& 1431655765)) &&& 858993459) + ((((a1 - (((a1.toUInt32 >>> ((1 : Int32).toUInt32 &&& Int32.toUInt32 31)).toInt32) &&& 1431655765)).toUInt32 >>> ((2 : Int32).toUInt32 &&& Int32.toUInt32 31)).toInt32) &&& 858993459)).toUInt32 >>> ((4 : Int32).toUInt32 &&& Int32.toUInt32 31)).toInt32)) &&& 252645135).toUInt32 >>> ((8 : Int32).toUInt32 &&& Int32.toUInt32 31)).toInt32)).toUInt32 >>> ((16 : Int32).toUInt32 &&& Int32.toUInt32 31)).toInt32)) &&& 63
set_option maxHeartbeats 4000000 in
set_option maxRecDepth 100000 in
theorem zJ6_bitCount_0f7a4 {a1 : Int32} {w : Wd} {b : Bool} (hR : w.2.2 = RTab b) {Q : Option Value → Wd → Prop} (h : Q (some (.int (vXJ6_bitCount_0f7a4 a1))) w) : Cl SC mJ6_bitCount_0f7a4 [.int a1] w Q := by
  refine cl_of (by decide) (Nat.le_of_ble_eq_true rfl) ?_
  show Go SC mJ6_bitCount_0f7a4 0 [(0, .int a1)] [] w Q
  refine g_iload_n (pc := 0) dJ6_bitCount_0f7a4_0 rfl 0 rfl ?_
  refine g_iload_n (pc := 1) dJ6_bitCount_0f7a4_1 rfl 0 rfl ?_
  refine g_iconst (pc := 2) dJ6_bitCount_0f7a4_2 c_1 ?_
  refine g_iushr (pc := 3) dJ6_bitCount_0f7a4_3 ?_
  refine g_ldcw (pc := 4) dJ6_bitCount_0f7a4_4 rfl nJ6_265 ?_
  refine g_iand (pc := 7) dJ6_bitCount_0f7a4_7 ?_
  refine g_isub (pc := 8) dJ6_bitCount_0f7a4_8 ?_
  refine g_istore_n (pc := 9) (lv2 := [(0, .int (a1 - (((a1.toUInt32 >>> ((1 : Int32).toUInt32 &&& Int32.toUInt32 31)).toInt32) &&& 1431655765)))]) dJ6_bitCount_0f7a4_9 rfl (Nat.le_of_ble_eq_true rfl) rfl ?_
  refine g_iload_n (pc := 10) dJ6_bitCount_0f7a4_10 rfl 0 rfl ?_
  refine g_ldcw (pc := 11) dJ6_bitCount_0f7a4_11 rfl nJ6_266 ?_
  refine g_iand (pc := 14) dJ6_bitCount_0f7a4_14 ?_
  refine g_iload_n (pc := 15) dJ6_bitCount_0f7a4_15 rfl 0 rfl ?_
  refine g_iconst (pc := 16) dJ6_bitCount_0f7a4_16 c_2 ?_
  refine g_iushr (pc := 17) dJ6_bitCount_0f7a4_17 ?_
  refine g_ldcw (pc := 18) dJ6_bitCount_0f7a4_18 rfl nJ6_266 ?_
  refine g_iand (pc := 21) dJ6_bitCount_0f7a4_21 ?_
  refine g_iadd (pc := 22) dJ6_bitCount_0f7a4_22 ?_
  refine g_istore_n (pc := 23) (lv2 := [(0, .int (((a1 - (((a1.toUInt32 >>> ((1 : Int32).toUInt32 &&& Int32.toUInt32 31)).toInt32) &&& 1431655765)) &&& 858993459) + ((((a1 - (((a1.toUInt32 >>> ((1 : Int32).toUInt32 &&& Int32.toUInt32 31)).toInt32) &&& 1431655765)).toUInt32 >>> ((2 : Int32).toUInt32 &&& Int32.toUInt32 31)).toInt32) &&& 858993459)))]) dJ6_bitCount_0f7a4_23 rfl (Nat.le_of_ble_eq_true rfl) rfl ?_
  refine g_iload_n (pc := 24) dJ6_bitCount_0f7a4_24 rfl 0 rfl ?_
  refine g_iload_n (pc := 25) dJ6_bitCount_0f7a4_25 rfl 0 rfl ?_
  refine g_iconst (pc := 26) dJ6_bitCount_0f7a4_26 c_4 ?_
  refine g_iushr (pc := 27) dJ6_bitCount_0f7a4_27 ?_
  refine g_iadd (pc := 28) dJ6_bitCount_0f7a4_28 ?_
  refine g_ldcw (pc := 29) dJ6_bitCount_0f7a4_29 rfl nJ6_267 ?_
  refine g_iand (pc := 32) dJ6_bitCount_0f7a4_32 ?_
  refine g_istore_n (pc := 33) (lv2 := [(0, .int (((((a1 - (((a1.toUInt32 >>> ((1 : Int32).toUInt32 &&& Int32.toUInt32 31)).toInt32) &&& 1431655765)) &&& 858993459) + ((((a1 - (((a1.toUInt32 >>> ((1 : Int32).toUInt32 &&& Int32.toUInt32 31)).toInt32) &&& 1431655765)).toUInt32 >>> ((2 : Int32).toUInt32 &&& Int32.toUInt32 31)).toInt32) &&& 858993459)) + (((((a1 - (((a1.toUInt32 >>> ((1 : Int32).toUInt32 &&& Int32.toUInt32 31)).toInt32) &&& 1431655765)) &&& 858993459) + ((((a1 - (((a1.toUInt32 >>> ((1 : Int32).toUInt32 &&& Int32.toUInt32 31)).toInt32) &&& 1431655765)).toUInt32 >>> ((2 : Int32).toUInt32 &&& Int32.toUInt32 31)).toInt32) &&& 858993459)).toUInt32 >>> ((4 : Int32).toUInt32 &&& Int32.toUInt32 31)).toInt32)) &&& 252645135))]) dJ6_bitCount_0f7a4_33 rfl (Nat.le_of_ble_eq_true rfl) rfl ?_
  refine g_iload_n (pc := 34) dJ6_bitCount_0f7a4_34 rfl 0 rfl ?_
  refine g_iload_n (pc := 35) dJ6_bitCount_0f7a4_35 rfl 0 rfl ?_
  refine g_bipush (pc := 36) (v := 8) dJ6_bitCount_0f7a4_36 (by decide) ?_
  refine g_iushr (pc := 38) dJ6_bitCount_0f7a4_38 ?_
  refine g_iadd (pc := 39) dJ6_bitCount_0f7a4_39 ?_
  refine g_istore_n (pc := 40) (lv2 := [(0, .int ((((((a1 - (((a1.toUInt32 >>> ((1 : Int32).toUInt32 &&& Int32.toUInt32 31)).toInt32) &&& 1431655765)) &&& 858993459) + ((((a1 - (((a1.toUInt32 >>> ((1 : Int32).toUInt32 &&& Int32.toUInt32 31)).toInt32) &&& 1431655765)).toUInt32 >>> ((2 : Int32).toUInt32 &&& Int32.toUInt32 31)).toInt32) &&& 858993459)) + (((((a1 - (((a1.toUInt32 >>> ((1 : Int32).toUInt32 &&& Int32.toUInt32 31)).toInt32) &&& 1431655765)) &&& 858993459) + ((((a1 - (((a1.toUInt32 >>> ((1 : Int32).toUInt32 &&& Int32.toUInt32 31)).toInt32) &&& 1431655765)).toUInt32 >>> ((2 : Int32).toUInt32 &&& Int32.toUInt32 31)).toInt32) &&& 858993459)).toUInt32 >>> ((4 : Int32).toUInt32 &&& Int32.toUInt32 31)).toInt32)) &&& 252645135) + (((((((a1 - (((a1.toUInt32 >>> ((1 : Int32).toUInt32 &&& Int32.toUInt32 31)).toInt32) &&& 1431655765)) &&& 858993459) + ((((a1 - (((a1.toUInt32 >>> ((1 : Int32).toUInt32 &&& Int32.toUInt32 31)).toInt32) &&& 1431655765)).toUInt32 >>> ((2 : Int32).toUInt32 &&& Int32.toUInt32 31)).toInt32) &&& 858993459)) + (((((a1 - (((a1.toUInt32 >>> ((1 : Int32).toUInt32 &&& Int32.toUInt32 31)).toInt32) &&& 1431655765)) &&& 858993459) + ((((a1 - (((a1.toUInt32 >>> ((1 : Int32).toUInt32 &&& Int32.toUInt32 31)).toInt32) &&& 1431655765)).toUInt32 >>> ((2 : Int32).toUInt32 &&& Int32.toUInt32 31)).toInt32) &&& 858993459)).toUInt32 >>> ((4 : Int32).toUInt32 &&& Int32.toUInt32 31)).toInt32)) &&& 252645135).toUInt32 >>> ((8 : Int32).toUInt32 &&& Int32.toUInt32 31)).toInt32)))]) dJ6_bitCount_0f7a4_40 rfl (Nat.le_of_ble_eq_true rfl) rfl ?_
  refine g_iload_n (pc := 41) dJ6_bitCount_0f7a4_41 rfl 0 rfl ?_
  refine g_iload_n (pc := 42) dJ6_bitCount_0f7a4_42 rfl 0 rfl ?_
  refine g_bipush (pc := 43) (v := 16) dJ6_bitCount_0f7a4_43 (by decide) ?_
  refine g_iushr (pc := 45) dJ6_bitCount_0f7a4_45 ?_
  refine g_iadd (pc := 46) dJ6_bitCount_0f7a4_46 ?_
  refine g_istore_n (pc := 47) (lv2 := [(0, .int (((((((a1 - (((a1.toUInt32 >>> ((1 : Int32).toUInt32 &&& Int32.toUInt32 31)).toInt32) &&& 1431655765)) &&& 858993459) + ((((a1 - (((a1.toUInt32 >>> ((1 : Int32).toUInt32 &&& Int32.toUInt32 31)).toInt32) &&& 1431655765)).toUInt32 >>> ((2 : Int32).toUInt32 &&& Int32.toUInt32 31)).toInt32) &&& 858993459)) + (((((a1 - (((a1.toUInt32 >>> ((1 : Int32).toUInt32 &&& Int32.toUInt32 31)).toInt32) &&& 1431655765)) &&& 858993459) + ((((a1 - (((a1.toUInt32 >>> ((1 : Int32).toUInt32 &&& Int32.toUInt32 31)).toInt32) &&& 1431655765)).toUInt32 >>> ((2 : Int32).toUInt32 &&& Int32.toUInt32 31)).toInt32) &&& 858993459)).toUInt32 >>> ((4 : Int32).toUInt32 &&& Int32.toUInt32 31)).toInt32)) &&& 252645135) + (((((((a1 - (((a1.toUInt32 >>> ((1 : Int32).toUInt32 &&& Int32.toUInt32 31)).toInt32) &&& 1431655765)) &&& 858993459) + ((((a1 - (((a1.toUInt32 >>> ((1 : Int32).toUInt32 &&& Int32.toUInt32 31)).toInt32) &&& 1431655765)).toUInt32 >>> ((2 : Int32).toUInt32 &&& Int32.toUInt32 31)).toInt32) &&& 858993459)) + (((((a1 - (((a1.toUInt32 >>> ((1 : Int32).toUInt32 &&& Int32.toUInt32 31)).toInt32) &&& 1431655765)) &&& 858993459) + ((((a1 - (((a1.toUInt32 >>> ((1 : Int32).toUInt32 &&& Int32.toUInt32 31)).toInt32) &&& 1431655765)).toUInt32 >>> ((2 : Int32).toUInt32 &&& Int32.toUInt32 31)).toInt32) &&& 858993459)).toUInt32 >>> ((4 : Int32).toUInt32 &&& Int32.toUInt32 31)).toInt32)) &&& 252645135).toUInt32 >>> ((8 : Int32).toUInt32 &&& Int32.toUInt32 31)).toInt32)) + ((((((((a1 - (((a1.toUInt32 >>> ((1 : Int32).toUInt32 &&& Int32.toUInt32 31)).toInt32) &&& 1431655765)) &&& 858993459) + ((((a1 - (((a1.toUInt32 >>> ((1 : Int32).toUInt32 &&& Int32.toUInt32 31)).toInt32) &&& 1431655765)).toUInt32 >>> ((2 : Int32).toUInt32 &&& Int32.toUInt32 31)).toInt32) &&& 858993459)) + (((((a1 - (((a1.toUInt32 >>> ((1 : Int32).toUInt32 &&& Int32.toUInt32 31)).toInt32) &&& 1431655765)) &&& 858993459) + ((((a1 - (((a1.toUInt32 >>> ((1 : Int32).toUInt32 &&& Int32.toUInt32 31)).toInt32) &&& 1431655765)).toUInt32 >>> ((2 : Int32).toUInt32 &&& Int32.toUInt32 31)).toInt32) &&& 858993459)).toUInt32 >>> ((4 : Int32).toUInt32 &&& Int32.toUInt32 31)).toInt32)) &&& 252645135) + (((((((a1 - (((a1.toUInt32 >>> ((1 : Int32).toUInt32 &&& Int32.toUInt32 31)).toInt32) &&& 1431655765)) &&& 858993459) + ((((a1 - (((a1.toUInt32 >>> ((1 : Int32).toUInt32 &&& Int32.toUInt32 31)).toInt32) &&& 1431655765)).toUInt32 >>> ((2 : Int32).toUInt32 &&& Int32.toUInt32 31)).toInt32) &&& 858993459)) + (((((a1 - (((a1.toUInt32 >>> ((1 : Int32).toUInt32 &&& Int32.toUInt32 31)).toInt32) &&& 1431655765)) &&& 858993459) + ((((a1 - (((a1.toUInt32 >>> ((1 : Int32).toUInt32 &&& Int32.toUInt32 31)).toInt32) &&& 1431655765)).toUInt32 >>> ((2 : Int32).toUInt32 &&& Int32.toUInt32 31)).toInt32) &&& 858993459)).toUInt32 >>> ((4 : Int32).toUInt32 &&& Int32.toUInt32 31)).toInt32)) &&& 252645135).toUInt32 >>> ((8 : Int32).toUInt32 &&& Int32.toUInt32 31)).toInt32)).toUInt32 >>> ((16 : Int32).toUInt32 &&& Int32.toUInt32 31)).toInt32)))]) dJ6_bitCount_0f7a4_47 rfl (Nat.le_of_ble_eq_true rfl) rfl ?_
  refine g_iload_n (pc := 48) dJ6_bitCount_0f7a4_48 rfl 0 rfl ?_
  refine g_bipush (pc := 49) (v := 63) dJ6_bitCount_0f7a4_49 (by decide) ?_
  refine g_iand (pc := 51) dJ6_bitCount_0f7a4_51 ?_
  refine g_iret (pc := 52) dJ6_bitCount_0f7a4_52 rfl ?_
  exact h
def wXX1_add (c : Bool) (k : Nat) (a1 : Int32) (w : Wd) : Wd := si (pf w (dA (hA c) k + 1) 12 (wi w (dA (hA c) k) 1) a1) (dA (hA c) k) 1 ((wi (pf w (dA (hA c) k + 1) 12 (wi w (dA (hA c) k) 1) a1) (dA (hA c) k) 1) + 1)
set_option maxHeartbeats 4000000 in
set_option maxRecDepth 100000 in
theorem rXX1_add (c : Bool) (k : Nat) (a1 : Int32) (w : Wd) : (wXX1_add c k a1 w).2.2 = w.2.2 := by
  unfold wXX1_add
  (repeat' split) <;> simp only [si_R, sl_R, pf_R, rXX0_measure, rXX7_put, rXX7_step]
set_option maxHeartbeats 4000000 in
set_option maxRecDepth 100000 in
theorem zX1_add {c : Bool} {k : Nat} (hk : k < 5) {a1 : Int32} {w : Wd} {b : Bool} (hR : w.2.2 = RTab b) {Q : Option Value → Wd → Prop} (h : Q none (wXX1_add c k a1 w)) : Cl SC mX1_add [.ref (dA (hA c) k), .int a1] w Q := by
  refine cl_of (by decide) (Nat.le_of_ble_eq_true rfl) ?_
  show Go SC mX1_add 0 [(0, .ref (dA (hA c) k)), (1, .int a1)] [] w Q
  refine g_aload_n (pc := 0) dX1_add_0 rfl 0 rfl ?_
  refine g_getR (pc := 1) (a := (dA (hA c) k)) (b := (dA (hA c) k + 1)) dX1_add_1 rfl fX1_9 (sh_d c hk) (rd_0 hR c hk) ?_
  refine g_aload_n (pc := 4) dX1_add_4 rfl 0 rfl ?_
  refine g_getI (pc := 5) (a := (dA (hA c) k)) dX1_add_5 rfl fX1_22 (sh_d c hk) ?_
  refine g_iload_n (pc := 8) dX1_add_8 rfl 1 rfl ?_
  refine g_callS (pc := 9) (M' := mX10_putAt) (n := 3) (as := [.ref (dA (hA c) k + 1), .int (wi w (dA (hA c) k) 1), .int a1]) (st := []) dX1_add_9 rfl kX1_26 sX10_putAt (Nat.le_of_ble_eq_true rfl) rfl rfl (Nat.le_of_ble_eq_true rfl) ?_
  refine h_putAt (a := (dA (hA c) k + 1)) (n := 12) (i := wi w (dA (hA c) k) 1) (v := a1) (w := w) (sh_dr c hk) (Nat.le_of_ble_eq_true rfl) ?_
  show Go SC mX1_add 12 [(0, .ref (dA (hA c) k)), (1, .int a1)] [] (pf w (dA (hA c) k + 1) 12 (wi w (dA (hA c) k) 1) a1) Q
  refine g_aload_n (pc := 12) dX1_add_12 rfl 0 rfl ?_
  refine g_dup (pc := 13) dX1_add_13 rfl ?_
  refine g_getI (pc := 14) (a := (dA (hA c) k)) dX1_add_14 rfl fX1_22 (sh_d c hk) ?_
  refine g_iconst (pc := 17) dX1_add_17 c_1 ?_
  refine g_iadd (pc := 18) dX1_add_18 ?_
  refine g_putI (pc := 19) dX1_add_19 rfl fX1_22 pX1_1 (sh_d c hk) ?_
  refine g_vret (pc := 22) dX1_add_22 rfl ?_
  exact h
def vXX1_figureAt (c : Bool) (k : Nat) (a1 : Int32) (w : Wd) : Int32 := gf w (dA (hA c) k + 1) 12 a1
set_option maxHeartbeats 4000000 in
set_option maxRecDepth 100000 in
theorem zX1_figureAt {c : Bool} {k : Nat} (hk : k < 5) {a1 : Int32} {w : Wd} {b : Bool} (hR : w.2.2 = RTab b) {Q : Option Value → Wd → Prop} (h : Q (some (.int (vXX1_figureAt c k a1 w))) w) : Cl SC mX1_figureAt [.ref (dA (hA c) k), .int a1] w Q := by
  refine cl_of (by decide) (Nat.le_of_ble_eq_true rfl) ?_
  show Go SC mX1_figureAt 0 [(0, .ref (dA (hA c) k)), (1, .int a1)] [] w Q
  refine g_aload_n (pc := 0) dX1_figureAt_0 rfl 0 rfl ?_
  refine g_getR (pc := 1) (a := (dA (hA c) k)) (b := (dA (hA c) k + 1)) dX1_figureAt_1 rfl fX1_9 (sh_d c hk) (rd_0 hR c hk) ?_
  refine g_iload_n (pc := 4) dX1_figureAt_4 rfl 1 rfl ?_
  refine g_callS (pc := 5) (M' := mX10_at) (n := 2) (as := [.ref (dA (hA c) k + 1), .int a1]) (st := []) dX1_figureAt_5 rfl kX1_32 sX10_at (Nat.le_of_ble_eq_true rfl) rfl rfl (Nat.le_of_ble_eq_true rfl) ?_
  refine h_at (a := (dA (hA c) k + 1)) (n := 12) (i := a1) (w := w) (sh_dr c hk) (Nat.le_of_ble_eq_true rfl) ?_
  show Go SC mX1_figureAt 8 [(0, .ref (dA (hA c) k)), (1, .int a1)] [.int (gf w (dA (hA c) k + 1) 12 a1)] w Q
  refine g_iret (pc := 8) dX1_figureAt_8 rfl ?_
  exact h
def vXX7_isTooGreat (a1 : Int32) (a2 : Int32) : Int32 := (if 9999 < a1 then 1 else (if a1 < (-9999) then 1 else (if a2 ≤ 9999 then 0 else 1 : Int32) : Int32) : Int32)
set_option maxHeartbeats 4000000 in
set_option maxRecDepth 100000 in
theorem zzX7_isTooGreat (a1 : Int32) (a2 : Int32) : vXX7_isTooGreat a1 a2 = 0 ∨ vXX7_isTooGreat a1 a2 = 1 := (z_ite (Or.inr rfl) (z_ite (Or.inr rfl) (z_ite (Or.inl rfl) (Or.inr rfl))))
set_option maxHeartbeats 4000000 in
set_option maxRecDepth 100000 in
theorem zX7_isTooGreat {a1 : Int32} {a2 : Int32} {w : Wd} {b : Bool} (hR : w.2.2 = RTab b) {Q : Option Value → Wd → Prop} (h : Q (some (.int (vXX7_isTooGreat a1 a2))) w) : Cl SC mX7_isTooGreat [.int a1, .int a2] w Q := by
  refine cl_of (by decide) (Nat.le_of_ble_eq_true rfl) ?_
  show Go SC mX7_isTooGreat 0 [(0, .int a1), (1, .int a2)] [] w Q
  refine g_iload_n (pc := 0) dX7_isTooGreat_0 rfl 0 rfl ?_
  refine g_sipush (pc := 1) (v := 9999) dX7_isTooGreat_1 (by decide) ?_
  have hJ : Go SC mX7_isTooGreat 26 [(0, .int a1), (1, .int a2)] [.int (if 9999 < a1 then 1 else (if a1 < (-9999) then 1 else (if a2 ≤ 9999 then 0 else 1 : Int32) : Int32) : Int32)] w Q := by
    refine g_bret (pc := 26) dX7_isTooGreat_26 rfl (z_ite (Or.inr rfl) (z_ite (Or.inr rfl) (z_ite (Or.inl rfl) (Or.inr rfl)))) ?_
    exact h
  refine g_icmp_gt (pc := 4) (tgt := 21) dX7_isTooGreat_4 (by decide) (fun q4 => ?_) (fun q4 => ?_)
  · refine g_iconst (pc := 21) dX7_isTooGreat_21 c_1 ?_
    refine g_goto (pc := 22) (tgt := 26) dX7_isTooGreat_22 (by decide) ?_
    first | (exfalso; contradiction) | exact cast (by simp only [if_pos q4]) hJ
  · refine g_iload_n (pc := 7) dX7_isTooGreat_7 rfl 0 rfl ?_
    refine g_sipush (pc := 8) (v := (-9999)) dX7_isTooGreat_8 (by decide) ?_
    refine g_icmp_lt (pc := 11) (tgt := 21) dX7_isTooGreat_11 (by decide) (fun q11 => ?_) (fun q11 => ?_)
    · refine g_iconst (pc := 21) dX7_isTooGreat_21 c_1 ?_
      refine g_goto (pc := 22) (tgt := 26) dX7_isTooGreat_22 (by decide) ?_
      first | (exfalso; contradiction) | exact cast (by simp only [if_neg q4, if_pos q11]) hJ
    · refine g_iload_n (pc := 14) dX7_isTooGreat_14 rfl 1 rfl ?_
      refine g_sipush (pc := 15) (v := 9999) dX7_isTooGreat_15 (by decide) ?_
      refine g_icmp_le (pc := 18) (tgt := 25) dX7_isTooGreat_18 (by decide) (fun q18 => ?_) (fun q18 => ?_)
      · refine g_iconst (pc := 25) dX7_isTooGreat_25 c_0 ?_
        first | (exfalso; contradiction) | exact cast (by simp only [if_neg q4, if_neg q11, if_pos q18]) hJ
      · refine g_iconst (pc := 21) dX7_isTooGreat_21 c_1 ?_
        refine g_goto (pc := 22) (tgt := 26) dX7_isTooGreat_22 (by decide) ?_
        first | (exfalso; contradiction) | exact cast (by simp only [if_neg q4, if_neg q11, if_neg q18]) hJ
def wXX2_clear (c : Bool) (w : Wd) : Wd := si (si (si (si w (hA c) 0 0) (hA c) 2 0) (hA c) 5 0) (hA c) 10 0
set_option maxHeartbeats 4000000 in
set_option maxRecDepth 100000 in
theorem rXX2_clear (c : Bool) (w : Wd) : (wXX2_clear c w).2.2 = w.2.2 := rfl
set_option maxHeartbeats 4000000 in
set_option maxRecDepth 100000 in
theorem zX2_clear {c : Bool} {w : Wd} {b : Bool} (hR : w.2.2 = RTab b) {Q : Option Value → Wd → Prop} (h : Q none (wXX2_clear c w)) : Cl SC mX2_clear [.ref (hA c)] w Q := by
  refine cl_of (by decide) (Nat.le_of_ble_eq_true rfl) ?_
  show Go SC mX2_clear 0 [(0, .ref (hA c))] [] w Q
  refine g_aload_n (pc := 0) dX2_clear_0 rfl 0 rfl ?_
  refine g_iconst (pc := 1) dX2_clear_1 c_0 ?_
  refine g_putI (pc := 2) dX2_clear_2 rfl fX2_37 pX2_0 (sh_h c) ?_
  refine g_aload_n (pc := 5) dX2_clear_5 rfl 0 rfl ?_
  refine g_iconst (pc := 6) dX2_clear_6 c_0 ?_
  refine g_putI (pc := 7) dX2_clear_7 rfl fX2_41 pX2_2 (sh_h c) ?_
  refine g_aload_n (pc := 10) dX2_clear_10 rfl 0 rfl ?_
  refine g_iconst (pc := 11) dX2_clear_11 c_0 ?_
  refine g_putI (pc := 12) dX2_clear_12 rfl fX2_44 pX2_5 (sh_h c) ?_
  refine g_aload_n (pc := 15) dX2_clear_15 rfl 0 rfl ?_
  refine g_iconst (pc := 16) dX2_clear_16 c_0 ?_
  refine g_putI (pc := 17) dX2_clear_17 rfl fX2_47 pX2_10 (sh_h c) ?_
  refine g_vret (pc := 20) dX2_clear_20 rfl ?_
  exact h
def wXX2_addUnsure (c : Bool) (a1 : Int32) (a2 : Int32) (w : Wd) : Wd := si (pf (pf w (hA c + 17) 4 (wi w (hA c) 5) a1) (hA c + 18) 4 (wi (pf w (hA c + 17) 4 (wi w (hA c) 5) a1) (hA c) 5) a2) (hA c) 5 ((wi (pf (pf w (hA c + 17) 4 (wi w (hA c) 5) a1) (hA c + 18) 4 (wi (pf w (hA c + 17) 4 (wi w (hA c) 5) a1) (hA c) 5) a2) (hA c) 5) + 1)
set_option maxHeartbeats 4000000 in
set_option maxRecDepth 100000 in
theorem rXX2_addUnsure (c : Bool) (a1 : Int32) (a2 : Int32) (w : Wd) : (wXX2_addUnsure c a1 a2 w).2.2 = w.2.2 := by
  unfold wXX2_addUnsure
  (repeat' split) <;> simp only [si_R, sl_R, pf_R, rXX0_measure, rXX7_put, rXX7_step, rXX1_add, rXX2_clear]
set_option maxHeartbeats 4000000 in
set_option maxRecDepth 100000 in
theorem zX2_addUnsure {c : Bool} {a1 : Int32} {a2 : Int32} {w : Wd} {b : Bool} (hR : w.2.2 = RTab b) {Q : Option Value → Wd → Prop} (h : Q none (wXX2_addUnsure c a1 a2 w)) : Cl SC mX2_addUnsure [.ref (hA c), .int a1, .int a2] w Q := by
  refine cl_of (by decide) (Nat.le_of_ble_eq_true rfl) ?_
  show Go SC mX2_addUnsure 0 [(0, .ref (hA c)), (1, .int a1), (2, .int a2)] [] w Q
  refine g_aload_n (pc := 0) dX2_addUnsure_0 rfl 0 rfl ?_
  refine g_getR (pc := 1) (a := (hA c)) (b := (hA c + 17)) dX2_addUnsure_1 rfl fX2_18 (sh_h c) (rh_3 hR c) ?_
  refine g_aload_n (pc := 4) dX2_addUnsure_4 rfl 0 rfl ?_
  refine g_getI (pc := 5) (a := (hA c)) dX2_addUnsure_5 rfl fX2_44 (sh_h c) ?_
  refine g_iload_n (pc := 8) dX2_addUnsure_8 rfl 1 rfl ?_
  refine g_callS (pc := 9) (M' := mX10_putAt) (n := 3) (as := [.ref (hA c + 17), .int (wi w (hA c) 5), .int a1]) (st := []) dX2_addUnsure_9 rfl kX2_69 sX10_putAt (Nat.le_of_ble_eq_true rfl) rfl rfl (Nat.le_of_ble_eq_true rfl) ?_
  refine h_putAt (a := (hA c + 17)) (n := 4) (i := wi w (hA c) 5) (v := a1) (w := w) (sh_h17 c) (Nat.le_of_ble_eq_true rfl) ?_
  show Go SC mX2_addUnsure 12 [(0, .ref (hA c)), (1, .int a1), (2, .int a2)] [] (pf w (hA c + 17) 4 (wi w (hA c) 5) a1) Q
  refine g_aload_n (pc := 12) dX2_addUnsure_12 rfl 0 rfl ?_
  refine g_getR (pc := 13) (a := (hA c)) (b := (hA c + 18)) dX2_addUnsure_13 rfl fX2_22 (sh_h c) (rh_4 ((pf_R _ _ _ _ _).trans hR) c) ?_
  refine g_aload_n (pc := 16) dX2_addUnsure_16 rfl 0 rfl ?_
  refine g_getI (pc := 17) (a := (hA c)) dX2_addUnsure_17 rfl fX2_44 (sh_h c) ?_
  refine g_iload_n (pc := 20) dX2_addUnsure_20 rfl 2 rfl ?_
  refine g_callS (pc := 21) (M' := mX10_putAt) (n := 3) (as := [.ref (hA c + 18), .int (wi (pf w (hA c + 17) 4 (wi w (hA c) 5) a1) (hA c) 5), .int a2]) (st := []) dX2_addUnsure_21 rfl kX2_69 sX10_putAt (Nat.le_of_ble_eq_true rfl) rfl rfl (Nat.le_of_ble_eq_true rfl) ?_
  refine h_putAt (a := (hA c + 18)) (n := 4) (i := wi (pf w (hA c + 17) 4 (wi w (hA c) 5) a1) (hA c) 5) (v := a2) (w := pf w (hA c + 17) 4 (wi w (hA c) 5) a1) (sh_h18 c) (Nat.le_of_ble_eq_true rfl) ?_
  show Go SC mX2_addUnsure 24 [(0, .ref (hA c)), (1, .int a1), (2, .int a2)] [] (pf (pf w (hA c + 17) 4 (wi w (hA c) 5) a1) (hA c + 18) 4 (wi (pf w (hA c + 17) 4 (wi w (hA c) 5) a1) (hA c) 5) a2) Q
  refine g_aload_n (pc := 24) dX2_addUnsure_24 rfl 0 rfl ?_
  refine g_dup (pc := 25) dX2_addUnsure_25 rfl ?_
  refine g_getI (pc := 26) (a := (hA c)) dX2_addUnsure_26 rfl fX2_44 (sh_h c) ?_
  refine g_iconst (pc := 29) dX2_addUnsure_29 c_1 ?_
  refine g_iadd (pc := 30) dX2_addUnsure_30 ?_
  refine g_putI (pc := 31) dX2_addUnsure_31 rfl fX2_44 pX2_5 (sh_h c) ?_
  refine g_vret (pc := 34) dX2_addUnsure_34 rfl ?_
  exact h
def wXX2_addSeen (c : Bool) (a1 : Int32) (a2 : Int32) (a3 : Int32) (a4 : Int32) (w : Wd) : Wd := si (pf (pf (pf (pf w (hA c + 19) 6 (wi w (hA c) 10) a1) (hA c + 20) 6 (wi (pf w (hA c + 19) 6 (wi w (hA c) 10) a1) (hA c) 10) a2) (hA c + 21) 6 (wi (pf (pf w (hA c + 19) 6 (wi w (hA c) 10) a1) (hA c + 20) 6 (wi (pf w (hA c + 19) 6 (wi w (hA c) 10) a1) (hA c) 10) a2) (hA c) 10) a3) (hA c + 22) 6 (wi (pf (pf (pf w (hA c + 19) 6 (wi w (hA c) 10) a1) (hA c + 20) 6 (wi (pf w (hA c + 19) 6 (wi w (hA c) 10) a1) (hA c) 10) a2) (hA c + 21) 6 (wi (pf (pf w (hA c + 19) 6 (wi w (hA c) 10) a1) (hA c + 20) 6 (wi (pf w (hA c + 19) 6 (wi w (hA c) 10) a1) (hA c) 10) a2) (hA c) 10) a3) (hA c) 10) a4) (hA c) 10 ((wi (pf (pf (pf (pf w (hA c + 19) 6 (wi w (hA c) 10) a1) (hA c + 20) 6 (wi (pf w (hA c + 19) 6 (wi w (hA c) 10) a1) (hA c) 10) a2) (hA c + 21) 6 (wi (pf (pf w (hA c + 19) 6 (wi w (hA c) 10) a1) (hA c + 20) 6 (wi (pf w (hA c + 19) 6 (wi w (hA c) 10) a1) (hA c) 10) a2) (hA c) 10) a3) (hA c + 22) 6 (wi (pf (pf (pf w (hA c + 19) 6 (wi w (hA c) 10) a1) (hA c + 20) 6 (wi (pf w (hA c + 19) 6 (wi w (hA c) 10) a1) (hA c) 10) a2) (hA c + 21) 6 (wi (pf (pf w (hA c + 19) 6 (wi w (hA c) 10) a1) (hA c + 20) 6 (wi (pf w (hA c + 19) 6 (wi w (hA c) 10) a1) (hA c) 10) a2) (hA c) 10) a3) (hA c) 10) a4) (hA c) 10) + 1)
set_option maxHeartbeats 4000000 in
set_option maxRecDepth 100000 in
theorem rXX2_addSeen (c : Bool) (a1 : Int32) (a2 : Int32) (a3 : Int32) (a4 : Int32) (w : Wd) : (wXX2_addSeen c a1 a2 a3 a4 w).2.2 = w.2.2 := by
  unfold wXX2_addSeen
  (repeat' split) <;> simp only [si_R, sl_R, pf_R, rXX0_measure, rXX7_put, rXX7_step, rXX1_add, rXX2_clear, rXX2_addUnsure]
set_option maxHeartbeats 4000000 in
set_option maxRecDepth 100000 in
theorem zX2_addSeen {c : Bool} {a1 : Int32} {a2 : Int32} {a3 : Int32} {a4 : Int32} {w : Wd} {b : Bool} (hR : w.2.2 = RTab b) {Q : Option Value → Wd → Prop} (h : Q none (wXX2_addSeen c a1 a2 a3 a4 w)) : Cl SC mX2_addSeen [.ref (hA c), .int a1, .int a2, .int a3, .int a4] w Q := by
  refine cl_of (by decide) (Nat.le_of_ble_eq_true rfl) ?_
  show Go SC mX2_addSeen 0 [(0, .ref (hA c)), (1, .int a1), (2, .int a2), (3, .int a3), (4, .int a4)] [] w Q
  refine g_aload_n (pc := 0) dX2_addSeen_0 rfl 0 rfl ?_
  refine g_getR (pc := 1) (a := (hA c)) (b := (hA c + 19)) dX2_addSeen_1 rfl fX2_25 (sh_h c) (rh_6 hR c) ?_
  refine g_aload_n (pc := 4) dX2_addSeen_4 rfl 0 rfl ?_
  refine g_getI (pc := 5) (a := (hA c)) dX2_addSeen_5 rfl fX2_47 (sh_h c) ?_
  refine g_iload_n (pc := 8) dX2_addSeen_8 rfl 1 rfl ?_
  refine g_callS (pc := 9) (M' := mX10_putAt) (n := 3) (as := [.ref (hA c + 19), .int (wi w (hA c) 10), .int a1]) (st := []) dX2_addSeen_9 rfl kX2_69 sX10_putAt (Nat.le_of_ble_eq_true rfl) rfl rfl (Nat.le_of_ble_eq_true rfl) ?_
  refine h_putAt (a := (hA c + 19)) (n := 6) (i := wi w (hA c) 10) (v := a1) (w := w) (sh_h19 c) (Nat.le_of_ble_eq_true rfl) ?_
  show Go SC mX2_addSeen 12 [(0, .ref (hA c)), (1, .int a1), (2, .int a2), (3, .int a3), (4, .int a4)] [] (pf w (hA c + 19) 6 (wi w (hA c) 10) a1) Q
  refine g_aload_n (pc := 12) dX2_addSeen_12 rfl 0 rfl ?_
  refine g_getR (pc := 13) (a := (hA c)) (b := (hA c + 20)) dX2_addSeen_13 rfl fX2_28 (sh_h c) (rh_7 ((pf_R _ _ _ _ _).trans hR) c) ?_
  refine g_aload_n (pc := 16) dX2_addSeen_16 rfl 0 rfl ?_
  refine g_getI (pc := 17) (a := (hA c)) dX2_addSeen_17 rfl fX2_47 (sh_h c) ?_
  refine g_iload_n (pc := 20) dX2_addSeen_20 rfl 2 rfl ?_
  refine g_callS (pc := 21) (M' := mX10_putAt) (n := 3) (as := [.ref (hA c + 20), .int (wi (pf w (hA c + 19) 6 (wi w (hA c) 10) a1) (hA c) 10), .int a2]) (st := []) dX2_addSeen_21 rfl kX2_69 sX10_putAt (Nat.le_of_ble_eq_true rfl) rfl rfl (Nat.le_of_ble_eq_true rfl) ?_
  refine h_putAt (a := (hA c + 20)) (n := 6) (i := wi (pf w (hA c + 19) 6 (wi w (hA c) 10) a1) (hA c) 10) (v := a2) (w := pf w (hA c + 19) 6 (wi w (hA c) 10) a1) (sh_h20 c) (Nat.le_of_ble_eq_true rfl) ?_
  show Go SC mX2_addSeen 24 [(0, .ref (hA c)), (1, .int a1), (2, .int a2), (3, .int a3), (4, .int a4)] [] (pf (pf w (hA c + 19) 6 (wi w (hA c) 10) a1) (hA c + 20) 6 (wi (pf w (hA c + 19) 6 (wi w (hA c) 10) a1) (hA c) 10) a2) Q
  refine g_aload_n (pc := 24) dX2_addSeen_24 rfl 0 rfl ?_
  refine g_getR (pc := 25) (a := (hA c)) (b := (hA c + 21)) dX2_addSeen_25 rfl fX2_31 (sh_h c) (rh_8 ((pf_R _ _ _ _ _).trans ((pf_R _ _ _ _ _).trans hR)) c) ?_
  refine g_aload_n (pc := 28) dX2_addSeen_28 rfl 0 rfl ?_
  refine g_getI (pc := 29) (a := (hA c)) dX2_addSeen_29 rfl fX2_47 (sh_h c) ?_
  refine g_iload_n (pc := 32) dX2_addSeen_32 rfl 3 rfl ?_
  refine g_callS (pc := 33) (M' := mX10_putAt) (n := 3) (as := [.ref (hA c + 21), .int (wi (pf (pf w (hA c + 19) 6 (wi w (hA c) 10) a1) (hA c + 20) 6 (wi (pf w (hA c + 19) 6 (wi w (hA c) 10) a1) (hA c) 10) a2) (hA c) 10), .int a3]) (st := []) dX2_addSeen_33 rfl kX2_69 sX10_putAt (Nat.le_of_ble_eq_true rfl) rfl rfl (Nat.le_of_ble_eq_true rfl) ?_
  refine h_putAt (a := (hA c + 21)) (n := 6) (i := wi (pf (pf w (hA c + 19) 6 (wi w (hA c) 10) a1) (hA c + 20) 6 (wi (pf w (hA c + 19) 6 (wi w (hA c) 10) a1) (hA c) 10) a2) (hA c) 10) (v := a3) (w := pf (pf w (hA c + 19) 6 (wi w (hA c) 10) a1) (hA c + 20) 6 (wi (pf w (hA c + 19) 6 (wi w (hA c) 10) a1) (hA c) 10) a2) (sh_h21 c) (Nat.le_of_ble_eq_true rfl) ?_
  show Go SC mX2_addSeen 36 [(0, .ref (hA c)), (1, .int a1), (2, .int a2), (3, .int a3), (4, .int a4)] [] (pf (pf (pf w (hA c + 19) 6 (wi w (hA c) 10) a1) (hA c + 20) 6 (wi (pf w (hA c + 19) 6 (wi w (hA c) 10) a1) (hA c) 10) a2) (hA c + 21) 6 (wi (pf (pf w (hA c + 19) 6 (wi w (hA c) 10) a1) (hA c + 20) 6 (wi (pf w (hA c + 19) 6 (wi w (hA c) 10) a1) (hA c) 10) a2) (hA c) 10) a3) Q
  refine g_aload_n (pc := 36) dX2_addSeen_36 rfl 0 rfl ?_
  refine g_getR (pc := 37) (a := (hA c)) (b := (hA c + 22)) dX2_addSeen_37 rfl fX2_34 (sh_h c) (rh_9 ((pf_R _ _ _ _ _).trans ((pf_R _ _ _ _ _).trans ((pf_R _ _ _ _ _).trans hR))) c) ?_
  refine g_aload_n (pc := 40) dX2_addSeen_40 rfl 0 rfl ?_
  refine g_getI (pc := 41) (a := (hA c)) dX2_addSeen_41 rfl fX2_47 (sh_h c) ?_
  refine g_iload (pc := 44) dX2_addSeen_44 4 rfl ?_
  refine g_callS (pc := 46) (M' := mX10_putAt) (n := 3) (as := [.ref (hA c + 22), .int (wi (pf (pf (pf w (hA c + 19) 6 (wi w (hA c) 10) a1) (hA c + 20) 6 (wi (pf w (hA c + 19) 6 (wi w (hA c) 10) a1) (hA c) 10) a2) (hA c + 21) 6 (wi (pf (pf w (hA c + 19) 6 (wi w (hA c) 10) a1) (hA c + 20) 6 (wi (pf w (hA c + 19) 6 (wi w (hA c) 10) a1) (hA c) 10) a2) (hA c) 10) a3) (hA c) 10), .int a4]) (st := []) dX2_addSeen_46 rfl kX2_69 sX10_putAt (Nat.le_of_ble_eq_true rfl) rfl rfl (Nat.le_of_ble_eq_true rfl) ?_
  refine h_putAt (a := (hA c + 22)) (n := 6) (i := wi (pf (pf (pf w (hA c + 19) 6 (wi w (hA c) 10) a1) (hA c + 20) 6 (wi (pf w (hA c + 19) 6 (wi w (hA c) 10) a1) (hA c) 10) a2) (hA c + 21) 6 (wi (pf (pf w (hA c + 19) 6 (wi w (hA c) 10) a1) (hA c + 20) 6 (wi (pf w (hA c + 19) 6 (wi w (hA c) 10) a1) (hA c) 10) a2) (hA c) 10) a3) (hA c) 10) (v := a4) (w := pf (pf (pf w (hA c + 19) 6 (wi w (hA c) 10) a1) (hA c + 20) 6 (wi (pf w (hA c + 19) 6 (wi w (hA c) 10) a1) (hA c) 10) a2) (hA c + 21) 6 (wi (pf (pf w (hA c + 19) 6 (wi w (hA c) 10) a1) (hA c + 20) 6 (wi (pf w (hA c + 19) 6 (wi w (hA c) 10) a1) (hA c) 10) a2) (hA c) 10) a3) (sh_h22 c) (Nat.le_of_ble_eq_true rfl) ?_
  show Go SC mX2_addSeen 49 [(0, .ref (hA c)), (1, .int a1), (2, .int a2), (3, .int a3), (4, .int a4)] [] (pf (pf (pf (pf w (hA c + 19) 6 (wi w (hA c) 10) a1) (hA c + 20) 6 (wi (pf w (hA c + 19) 6 (wi w (hA c) 10) a1) (hA c) 10) a2) (hA c + 21) 6 (wi (pf (pf w (hA c + 19) 6 (wi w (hA c) 10) a1) (hA c + 20) 6 (wi (pf w (hA c + 19) 6 (wi w (hA c) 10) a1) (hA c) 10) a2) (hA c) 10) a3) (hA c + 22) 6 (wi (pf (pf (pf w (hA c + 19) 6 (wi w (hA c) 10) a1) (hA c + 20) 6 (wi (pf w (hA c + 19) 6 (wi w (hA c) 10) a1) (hA c) 10) a2) (hA c + 21) 6 (wi (pf (pf w (hA c + 19) 6 (wi w (hA c) 10) a1) (hA c + 20) 6 (wi (pf w (hA c + 19) 6 (wi w (hA c) 10) a1) (hA c) 10) a2) (hA c) 10) a3) (hA c) 10) a4) Q
  refine g_aload_n (pc := 49) dX2_addSeen_49 rfl 0 rfl ?_
  refine g_dup (pc := 50) dX2_addSeen_50 rfl ?_
  refine g_getI (pc := 51) (a := (hA c)) dX2_addSeen_51 rfl fX2_47 (sh_h c) ?_
  refine g_iconst (pc := 54) dX2_addSeen_54 c_1 ?_
  refine g_iadd (pc := 55) dX2_addSeen_55 ?_
  refine g_putI (pc := 56) dX2_addSeen_56 rfl fX2_47 pX2_10 (sh_h c) ?_
  refine g_vret (pc := 59) dX2_addSeen_59 rfl ?_
  exact h
def vXX2_sets (c : Bool) (w : Wd) : Int32 := 1 <<< ((wi w (hA c) 5) &&& 31)
set_option maxHeartbeats 4000000 in
set_option maxRecDepth 100000 in
theorem zX2_sets {c : Bool} {w : Wd} {b : Bool} (hR : w.2.2 = RTab b) {Q : Option Value → Wd → Prop} (h : Q (some (.int (vXX2_sets c w))) w) : Cl SC mX2_sets [.ref (hA c)] w Q := by
  refine cl_of (by decide) (Nat.le_of_ble_eq_true rfl) ?_
  show Go SC mX2_sets 0 [(0, .ref (hA c))] [] w Q
  refine g_iconst (pc := 0) dX2_sets_0 c_1 ?_
  refine g_aload_n (pc := 1) dX2_sets_1 rfl 0 rfl ?_
  refine g_getI (pc := 2) (a := (hA c)) dX2_sets_2 rfl fX2_44 (sh_h c) ?_
  refine g_ishl (pc := 5) dX2_sets_5 ?_
  refine g_iret (pc := 6) dX2_sets_6 rfl ?_
  exact h
def vXJ9_max_7cf53 (a1 : Int32) (a2 : Int32) : Int32 := (if a1 < a2 then a2 else a1 : Int32)
set_option maxHeartbeats 4000000 in
set_option maxRecDepth 100000 in
theorem zJ9_max_7cf53 {a1 : Int32} {a2 : Int32} {w : Wd} {b : Bool} (hR : w.2.2 = RTab b) {Q : Option Value → Wd → Prop} (h : Q (some (.int (vXJ9_max_7cf53 a1 a2))) w) : Cl SC mJ9_max_7cf53 [.int a1, .int a2] w Q := by
  refine cl_ofF (by decide +kernel) (Nat.le_of_ble_eq_true rfl) ?_
  show Go SC mJ9_max_7cf53 0 [(0, .int a1), (1, .int a2)] [] w Q
  refine g_iload_n (pc := 0) dJ9_max_7cf53_0 rfl 0 rfl ?_
  refine g_iload_n (pc := 1) dJ9_max_7cf53_1 rfl 1 rfl ?_
  have hJ : Go SC mJ9_max_7cf53 10 [(0, .int a1), (1, .int a2)] [.int (if a1 < a2 then a2 else a1 : Int32)] w Q := by
    refine g_iret (pc := 10) dJ9_max_7cf53_10 rfl ?_
    exact h
  refine g_icmp_lt (pc := 2) (tgt := 9) dJ9_max_7cf53_2 (by decide) (fun q2 => ?_) (fun q2 => ?_)
  · refine g_iload_n (pc := 9) dJ9_max_7cf53_9 rfl 1 rfl ?_
    first | (exfalso; contradiction) | exact cast (by simp only [if_pos q2]) hJ
  · refine g_iload_n (pc := 5) dJ9_max_7cf53_5 rfl 0 rfl ?_
    refine g_goto (pc := 6) (tgt := 10) dJ9_max_7cf53_6 (by decide) ?_
    first | (exfalso; contradiction) | exact cast (by simp only [if_neg q2]) hJ
def vXX3_nearestToZero (a1 : Int32) (a2 : Int32) : Int32 := if a1 ≤ 0 then if 0 ≤ a2 then 0 else a2 else a1
set_option maxHeartbeats 4000000 in
set_option maxRecDepth 100000 in
theorem zX3_nearestToZero {a1 : Int32} {a2 : Int32} {w : Wd} {b : Bool} (hR : w.2.2 = RTab b) {Q : Option Value → Wd → Prop} (h : Q (some (.int (vXX3_nearestToZero a1 a2))) w) : Cl SC mX3_nearestToZero [.int a1, .int a2] w Q := by
  refine cl_of (by decide) (Nat.le_of_ble_eq_true rfl) ?_
  show Go SC mX3_nearestToZero 0 [(0, .int a1), (1, .int a2)] [] w Q
  refine g_iload_n (pc := 0) dX3_nearestToZero_0 rfl 0 rfl ?_
  refine g_if_le (pc := 1) (tgt := 6) dX3_nearestToZero_1 (by decide) (fun q1 => ?_) (fun q1 => ?_)
  · refine g_iload_n (pc := 6) dX3_nearestToZero_6 rfl 1 rfl ?_
    refine g_if_ge (pc := 7) (tgt := 14) dX3_nearestToZero_7 (by decide) (fun q7 => ?_) (fun q7 => ?_)
    · refine g_iconst (pc := 14) dX3_nearestToZero_14 c_0 ?_
      refine g_iret (pc := 15) dX3_nearestToZero_15 rfl ?_
      first | (exfalso; contradiction) | exact cast (by simp only [vXX3_nearestToZero, if_pos q1, if_pos q7]) h
    · refine g_iload_n (pc := 10) dX3_nearestToZero_10 rfl 1 rfl ?_
      refine g_goto (pc := 11) (tgt := 15) dX3_nearestToZero_11 (by decide) ?_
      refine g_iret (pc := 15) dX3_nearestToZero_15 rfl ?_
      first | (exfalso; contradiction) | exact cast (by simp only [vXX3_nearestToZero, if_pos q1, if_neg q7]) h
  · refine g_iload_n (pc := 4) dX3_nearestToZero_4 rfl 0 rfl ?_
    refine g_iret (pc := 5) dX3_nearestToZero_5 rfl ?_
    first | (exfalso; contradiction) | exact cast (by simp only [vXX3_nearestToZero, if_neg q1]) h
def wXX4_forgetAll (w : Wd) : Wd := si (si w 49 3 0) 49 6 0
set_option maxHeartbeats 4000000 in
set_option maxRecDepth 100000 in
theorem rXX4_forgetAll (w : Wd) : (wXX4_forgetAll w).2.2 = w.2.2 := rfl
set_option maxHeartbeats 4000000 in
set_option maxRecDepth 100000 in
theorem zX4_forgetAll  {w : Wd} {b : Bool} (hR : w.2.2 = RTab b) {Q : Option Value → Wd → Prop} (h : Q none (wXX4_forgetAll w)) : Cl SC mX4_forgetAll [.ref 49] w Q := by
  refine cl_of (by decide) (Nat.le_of_ble_eq_true rfl) ?_
  show Go SC mX4_forgetAll 0 [(0, .ref 49)] [] w Q
  refine g_aload_n (pc := 0) dX4_forgetAll_0 rfl 0 rfl ?_
  refine g_iconst (pc := 1) dX4_forgetAll_1 c_0 ?_
  refine g_putI (pc := 2) dX4_forgetAll_2 rfl fX4_27 pX4_3 rfl ?_
  refine g_aload_n (pc := 5) dX4_forgetAll_5 rfl 0 rfl ?_
  refine g_iconst (pc := 6) dX4_forgetAll_6 c_0 ?_
  refine g_putI (pc := 7) dX4_forgetAll_7 rfl fX4_31 pX4_6 rfl ?_
  refine g_vret (pc := 10) dX4_forgetAll_10 rfl ?_
  exact h
def vXX5_isSigned (t : Nat) (a1 : Nat) (a2 : Int32) (w : Wd) : Int32 := (if (wi w t 0) = (a2 * (wi w a1 0)) then (if (wi w t 1) = (a2 * (wi w a1 1)) then (if (wi w t 2) = (a2 * (wi w a1 2)) then (if (wi w t 3) = (a2 * (wi w a1 3)) then 1 else 0 : Int32) else 0 : Int32) else 0 : Int32) else 0 : Int32)
set_option maxHeartbeats 4000000 in
set_option maxRecDepth 100000 in
theorem zzX5_isSigned (t : Nat) (a1 : Nat) (a2 : Int32) (w : Wd) : vXX5_isSigned t a1 a2 w = 0 ∨ vXX5_isSigned t a1 a2 w = 1 := (z_ite (z_ite (z_ite (z_ite (Or.inr rfl) (Or.inl rfl)) (Or.inl rfl)) (Or.inl rfl)) (Or.inl rfl))
set_option maxHeartbeats 4000000 in
set_option maxRecDepth 100000 in
theorem zX5_isSigned {t : Nat} (ht : SC[t]? = some (.inl 5)) {a1 : Nat} (ha1 : SC[a1]? = some (.inl 5)) {a2 : Int32} {w : Wd} {b : Bool} (hR : w.2.2 = RTab b) {Q : Option Value → Wd → Prop} (h : Q (some (.int (vXX5_isSigned t a1 a2 w))) w) : Cl SC mX5_isSigned [.ref t, .ref a1, .int a2] w Q := by
  refine cl_of (by decide) (Nat.le_of_ble_eq_true rfl) ?_
  show Go SC mX5_isSigned 0 [(0, .ref t), (1, .ref a1), (2, .int a2)] [] w Q
  refine g_aload_n (pc := 0) dX5_isSigned_0 rfl 0 rfl ?_
  refine g_getI (pc := 1) (a := t) dX5_isSigned_1 rfl fX5_9 ht ?_
  refine g_iload_n (pc := 4) dX5_isSigned_4 rfl 2 rfl ?_
  refine g_aload_n (pc := 5) dX5_isSigned_5 rfl 1 rfl ?_
  refine g_getI (pc := 6) (a := a1) dX5_isSigned_6 rfl fX5_9 ha1 ?_
  refine g_imul (pc := 9) dX5_isSigned_9 ?_
  have hJ : Go SC mX5_isSigned 57 [(0, .ref t), (1, .ref a1), (2, .int a2)] [.int (if (wi w t 0) = (a2 * (wi w a1 0)) then (if (wi w t 1) = (a2 * (wi w a1 1)) then (if (wi w t 2) = (a2 * (wi w a1 2)) then (if (wi w t 3) = (a2 * (wi w a1 3)) then 1 else 0 : Int32) else 0 : Int32) else 0 : Int32) else 0 : Int32)] w Q := by
    refine g_bret (pc := 57) dX5_isSigned_57 rfl (z_ite (z_ite (z_ite (z_ite (Or.inr rfl) (Or.inl rfl)) (Or.inl rfl)) (Or.inl rfl)) (Or.inl rfl)) ?_
    exact h
  refine g_icmp_ne (pc := 10) (tgt := 56) dX5_isSigned_10 (by decide) (fun q10 => ?_) (fun q10 => ?_)
  · refine g_iconst (pc := 56) dX5_isSigned_56 c_0 ?_
    first | (exfalso; contradiction) | exact cast (by simp only [if_neg q10]) hJ
  · refine g_aload_n (pc := 13) dX5_isSigned_13 rfl 0 rfl ?_
    refine g_getI (pc := 14) (a := t) dX5_isSigned_14 rfl fX5_15 ht ?_
    refine g_iload_n (pc := 17) dX5_isSigned_17 rfl 2 rfl ?_
    refine g_aload_n (pc := 18) dX5_isSigned_18 rfl 1 rfl ?_
    refine g_getI (pc := 19) (a := a1) dX5_isSigned_19 rfl fX5_15 ha1 ?_
    refine g_imul (pc := 22) dX5_isSigned_22 ?_
    refine g_icmp_ne (pc := 23) (tgt := 56) dX5_isSigned_23 (by decide) (fun q23 => ?_) (fun q23 => ?_)
    · refine g_iconst (pc := 56) dX5_isSigned_56 c_0 ?_
      first | (exfalso; contradiction) | exact cast (by simp only [if_pos q10, if_neg q23]) hJ
    · refine g_aload_n (pc := 26) dX5_isSigned_26 rfl 0 rfl ?_
      refine g_getI (pc := 27) (a := t) dX5_isSigned_27 rfl fX5_18 ht ?_
      refine g_iload_n (pc := 30) dX5_isSigned_30 rfl 2 rfl ?_
      refine g_aload_n (pc := 31) dX5_isSigned_31 rfl 1 rfl ?_
      refine g_getI (pc := 32) (a := a1) dX5_isSigned_32 rfl fX5_18 ha1 ?_
      refine g_imul (pc := 35) dX5_isSigned_35 ?_
      refine g_icmp_ne (pc := 36) (tgt := 56) dX5_isSigned_36 (by decide) (fun q36 => ?_) (fun q36 => ?_)
      · refine g_iconst (pc := 56) dX5_isSigned_56 c_0 ?_
        first | (exfalso; contradiction) | exact cast (by simp only [if_pos q10, if_pos q23, if_neg q36]) hJ
      · refine g_aload_n (pc := 39) dX5_isSigned_39 rfl 0 rfl ?_
        refine g_getI (pc := 40) (a := t) dX5_isSigned_40 rfl fX5_21 ht ?_
        refine g_iload_n (pc := 43) dX5_isSigned_43 rfl 2 rfl ?_
        refine g_aload_n (pc := 44) dX5_isSigned_44 rfl 1 rfl ?_
        refine g_getI (pc := 45) (a := a1) dX5_isSigned_45 rfl fX5_21 ha1 ?_
        refine g_imul (pc := 48) dX5_isSigned_48 ?_
        refine g_icmp_ne (pc := 49) (tgt := 56) dX5_isSigned_49 (by decide) (fun q49 => ?_) (fun q49 => ?_)
        · refine g_iconst (pc := 56) dX5_isSigned_56 c_0 ?_
          first | (exfalso; contradiction) | exact cast (by simp only [if_pos q10, if_pos q23, if_pos q36, if_neg q49]) hJ
        · refine g_iconst (pc := 52) dX5_isSigned_52 c_1 ?_
          refine g_goto (pc := 53) (tgt := 57) dX5_isSigned_53 (by decide) ?_
          first | (exfalso; contradiction) | exact cast (by simp only [if_pos q10, if_pos q23, if_pos q36, if_pos q49]) hJ
def vXX5_isSame (t : Nat) (a1 : Nat) (w : Wd) : Int32 := (if (vXX5_isSigned t a1 1 w) = 0 then (if (vXX5_isSigned t a1 (-1) w) = 0 then 0 else 1 : Int32) else 1 : Int32)
set_option maxHeartbeats 4000000 in
set_option maxRecDepth 100000 in
theorem zzX5_isSame (t : Nat) (a1 : Nat) (w : Wd) : vXX5_isSame t a1 w = 0 ∨ vXX5_isSame t a1 w = 1 := (z_ite (z_ite (Or.inl rfl) (Or.inr rfl)) (Or.inr rfl))
set_option maxHeartbeats 4000000 in
set_option maxRecDepth 100000 in
theorem zX5_isSame {t : Nat} (ht : SC[t]? = some (.inl 5)) {a1 : Nat} (ha1 : SC[a1]? = some (.inl 5)) {w : Wd} {b : Bool} (hR : w.2.2 = RTab b) {Q : Option Value → Wd → Prop} (h : Q (some (.int (vXX5_isSame t a1 w))) w) : Cl SC mX5_isSame [.ref t, .ref a1] w Q := by
  refine cl_of (by decide) (Nat.le_of_ble_eq_true rfl) ?_
  show Go SC mX5_isSame 0 [(0, .ref t), (1, .ref a1)] [] w Q
  refine g_aload_n (pc := 0) dX5_isSame_0 rfl 0 rfl ?_
  refine g_aload_n (pc := 1) dX5_isSame_1 rfl 1 rfl ?_
  refine g_iconst (pc := 2) dX5_isSame_2 c_1 ?_
  refine g_callV (pc := 3) (M' := mX5_isSigned) (n := 2) (a := t) (as := [.ref a1, .int 1]) (st := []) dX5_isSame_3 rfl kX5_37 vX5_isSigned (Nat.le_of_ble_eq_true rfl) ht qX5 rfl rfl (Nat.le_of_ble_eq_true rfl) ?_
  refine zX5_isSigned (t := t) (a1 := a1) (a2 := 1) (w := w) (b := b) (hR := hR) (ht := ht) (ha1 := ha1) ?_
  show Go SC mX5_isSame 6 [(0, .ref t), (1, .ref a1)] [.int (vXX5_isSigned t a1 1 w)] w Q
  have hJ : Go SC mX5_isSame 23 [(0, .ref t), (1, .ref a1)] [.int (if (vXX5_isSigned t a1 1 w) = 0 then (if (vXX5_isSigned t a1 (-1) w) = 0 then 0 else 1 : Int32) else 1 : Int32)] w Q := by
    refine g_bret (pc := 23) dX5_isSame_23 rfl (z_ite (z_ite (Or.inl rfl) (Or.inr rfl)) (Or.inr rfl)) ?_
    exact h
  refine g_if_ne (pc := 6) (tgt := 18) dX5_isSame_6 (by decide) (fun q6 => ?_) (fun q6 => ?_)
  · refine g_iconst (pc := 18) dX5_isSame_18 c_1 ?_
    refine g_goto (pc := 19) (tgt := 23) dX5_isSame_19 (by decide) ?_
    first | (exfalso; contradiction) | exact cast (by simp only [if_neg q6]) hJ
  · refine g_aload_n (pc := 9) dX5_isSame_9 rfl 0 rfl ?_
    refine g_aload_n (pc := 10) dX5_isSame_10 rfl 1 rfl ?_
    refine g_iconst (pc := 11) dX5_isSame_11 cN_1 ?_
    refine g_callV (pc := 12) (M' := mX5_isSigned) (n := 2) (a := t) (as := [.ref a1, .int (-1)]) (st := []) dX5_isSame_12 rfl kX5_37 vX5_isSigned (Nat.le_of_ble_eq_true rfl) ht qX5 rfl rfl (Nat.le_of_ble_eq_true rfl) ?_
    refine zX5_isSigned (t := t) (a1 := a1) (a2 := (-1)) (w := w) (b := b) (hR := hR) (ht := ht) (ha1 := ha1) ?_
    show Go SC mX5_isSame 15 [(0, .ref t), (1, .ref a1)] [.int (vXX5_isSigned t a1 (-1) w)] w Q
    refine g_if_eq (pc := 15) (tgt := 22) dX5_isSame_15 (by decide) (fun q15 => ?_) (fun q15 => ?_)
    · refine g_iconst (pc := 22) dX5_isSame_22 c_0 ?_
      first | (exfalso; contradiction) | exact cast (by simp only [if_pos q6, if_pos q15]) hJ
    · refine g_iconst (pc := 18) dX5_isSame_18 c_1 ?_
      refine g_goto (pc := 19) (tgt := 23) dX5_isSame_19 (by decide) ?_
      first | (exfalso; contradiction) | exact cast (by simp only [if_pos q6, if_neg q15]) hJ
def vXX6_numberOf (a1 : Nat) (a2 : Int32) (w : Wd) : Int32 := (if a2 = 0 then vXJ9_abs_0f7a4 (wi w a1 0) else wi w a1 1 : Int32)
set_option maxHeartbeats 4000000 in
set_option maxRecDepth 100000 in
theorem zX6_numberOf {a1 : Nat} (ha1 : SC[a1]? = some (.inl 6)) {a2 : Int32} {w : Wd} {b : Bool} (hR : w.2.2 = RTab b) {Q : Option Value → Wd → Prop} (h : Q (some (.int (vXX6_numberOf a1 a2 w))) w) : Cl SC mX6_numberOf [.ref a1, .int a2] w Q := by
  refine cl_of (by decide) (Nat.le_of_ble_eq_true rfl) ?_
  show Go SC mX6_numberOf 0 [(0, .ref a1), (1, .int a2)] [] w Q
  refine g_iload_n (pc := 0) dX6_numberOf_0 rfl 1 rfl ?_
  have hJ : Go SC mX6_numberOf 18 [(0, .ref a1), (1, .int a2)] [.int (if a2 = 0 then vXJ9_abs_0f7a4 (wi w a1 0) else wi w a1 1 : Int32)] w Q := by
    refine g_iret (pc := 18) dX6_numberOf_18 rfl ?_
    exact h
  refine g_if_eq (pc := 1) (tgt := 11) dX6_numberOf_1 (by decide) (fun q1 => ?_) (fun q1 => ?_)
  · refine g_aload_n (pc := 11) dX6_numberOf_11 rfl 0 rfl ?_
    refine g_getI (pc := 12) (a := a1) dX6_numberOf_12 rfl fX6_13 ha1 ?_
    refine g_callS (pc := 15) (M' := mJ9_abs_0f7a4) (n := 1) (as := [.int (wi w a1 0)]) (st := []) dX6_numberOf_15 rfl kX6_16 sJ9_abs_0f7a4 (Nat.le_of_ble_eq_true rfl) rfl rfl (Nat.le_of_ble_eq_true rfl) ?_
    refine zJ9_abs_0f7a4 (a1 := (wi w a1 0)) (w := w) (b := b) (hR := hR) ?_
    show Go SC mX6_numberOf 18 [(0, .ref a1), (1, .int a2)] [.int (vXJ9_abs_0f7a4 (wi w a1 0))] w Q
    first | (exfalso; contradiction) | exact cast (by simp only [if_pos q1]) hJ
  · refine g_aload_n (pc := 4) dX6_numberOf_4 rfl 0 rfl ?_
    refine g_getI (pc := 5) (a := a1) dX6_numberOf_5 rfl fX6_7 ha1 ?_
    refine g_goto (pc := 8) (tgt := 18) dX6_numberOf_8 (by decide) ?_
    first | (exfalso; contradiction) | exact cast (by simp only [if_neg q1]) hJ
def vXX6_signed (a1 : Nat) (w : Wd) : Int32 := (if 0 ≤ (wi w a1 0) then wi w a1 1 else -(wi w a1 1) : Int32)
set_option maxHeartbeats 4000000 in
set_option maxRecDepth 100000 in
theorem zX6_signed {a1 : Nat} (ha1 : SC[a1]? = some (.inl 6)) {w : Wd} {b : Bool} (hR : w.2.2 = RTab b) {Q : Option Value → Wd → Prop} (h : Q (some (.int (vXX6_signed a1 w))) w) : Cl SC mX6_signed [.ref a1] w Q := by
  refine cl_of (by decide) (Nat.le_of_ble_eq_true rfl) ?_
  show Go SC mX6_signed 0 [(0, .ref a1)] [] w Q
  refine g_aload_n (pc := 0) dX6_signed_0 rfl 0 rfl ?_
  refine g_getI (pc := 1) (a := a1) dX6_signed_1 rfl fX6_13 ha1 ?_
  have hJ : Go SC mX6_signed 19 [(0, .ref a1)] [.int (if 0 ≤ (wi w a1 0) then wi w a1 1 else -(wi w a1 1) : Int32)] w Q := by
    refine g_iret (pc := 19) dX6_signed_19 rfl ?_
    exact h
  refine g_if_ge (pc := 4) (tgt := 15) dX6_signed_4 (by decide) (fun q4 => ?_) (fun q4 => ?_)
  · refine g_aload_n (pc := 15) dX6_signed_15 rfl 0 rfl ?_
    refine g_getI (pc := 16) (a := a1) dX6_signed_16 rfl fX6_7 ha1 ?_
    first | (exfalso; contradiction) | exact cast (by simp only [if_pos q4]) hJ
  · refine g_aload_n (pc := 7) dX6_signed_7 rfl 0 rfl ?_
    refine g_getI (pc := 8) (a := a1) dX6_signed_8 rfl fX6_7 ha1 ?_
    refine g_ineg (pc := 11) dX6_signed_11 ?_
    refine g_goto (pc := 12) (tgt := 19) dX6_signed_12 (by decide) ?_
    first | (exfalso; contradiction) | exact cast (by simp only [if_neg q4]) hJ
def wXX7_copy (t : Nat) (a1 : Nat) (w : Wd) : Wd := wXX7_put t (wi w a1 0) (wi w a1 1) w
set_option maxHeartbeats 4000000 in
set_option maxRecDepth 100000 in
theorem rXX7_copy (t : Nat) (a1 : Nat) (w : Wd) : (wXX7_copy t a1 w).2.2 = w.2.2 := rfl
set_option maxHeartbeats 4000000 in
set_option maxRecDepth 100000 in
theorem zX7_copy {t : Nat} (ht : SC[t]? = some (.inl 6)) {a1 : Nat} (ha1 : SC[a1]? = some (.inl 6)) {w : Wd} {b : Bool} (hR : w.2.2 = RTab b) {Q : Option Value → Wd → Prop} (h : Q none (wXX7_copy t a1 w)) : Cl SC mX7_copy [.ref t, .ref a1] w Q := by
  refine cl_of (by decide) (Nat.le_of_ble_eq_true rfl) ?_
  show Go SC mX7_copy 0 [(0, .ref t), (1, .ref a1)] [] w Q
  refine g_aload_n (pc := 0) dX7_copy_0 rfl 0 rfl ?_
  refine g_aload_n (pc := 1) dX7_copy_1 rfl 1 rfl ?_
  refine g_getI (pc := 2) (a := a1) dX7_copy_2 rfl fX7_9 ha1 ?_
  refine g_aload_n (pc := 5) dX7_copy_5 rfl 1 rfl ?_
  refine g_getI (pc := 6) (a := a1) dX7_copy_6 rfl fX7_15 ha1 ?_
  refine g_callV (pc := 9) (M' := mX7_put) (n := 2) (a := t) (as := [.int (wi w a1 0), .int (wi w a1 1)]) (st := []) dX7_copy_9 rfl kX7_18 vX7_put (Nat.le_of_ble_eq_true rfl) ht qX7 rfl rfl (Nat.le_of_ble_eq_true rfl) ?_
  refine zX7_put (t := t) (a1 := (wi w a1 0)) (a2 := (wi w a1 1)) (w := w) (b := b) (hR := hR) (ht := ht) ?_
  show Go SC mX7_copy 12 [(0, .ref t), (1, .ref a1)] [] (wXX7_put t (wi w a1 0) (wi w a1 1) w) Q
  refine g_vret (pc := 12) dX7_copy_12 rfl ?_
  exact h
def vXX7_isLike (t : Nat) (a1 : Nat) (w : Wd) : Int32 := (if (wi w t 0) = (wi w a1 0) then (if (wi w t 1) = (wi w a1 1) then 1 else 0 : Int32) else 0 : Int32)
set_option maxHeartbeats 4000000 in
set_option maxRecDepth 100000 in
theorem zzX7_isLike (t : Nat) (a1 : Nat) (w : Wd) : vXX7_isLike t a1 w = 0 ∨ vXX7_isLike t a1 w = 1 := (z_ite (z_ite (Or.inr rfl) (Or.inl rfl)) (Or.inl rfl))
set_option maxHeartbeats 4000000 in
set_option maxRecDepth 100000 in
theorem zX7_isLike {t : Nat} (ht : SC[t]? = some (.inl 6)) {a1 : Nat} (ha1 : SC[a1]? = some (.inl 6)) {w : Wd} {b : Bool} (hR : w.2.2 = RTab b) {Q : Option Value → Wd → Prop} (h : Q (some (.int (vXX7_isLike t a1 w))) w) : Cl SC mX7_isLike [.ref t, .ref a1] w Q := by
  refine cl_of (by decide) (Nat.le_of_ble_eq_true rfl) ?_
  show Go SC mX7_isLike 0 [(0, .ref t), (1, .ref a1)] [] w Q
  refine g_aload_n (pc := 0) dX7_isLike_0 rfl 0 rfl ?_
  refine g_getI (pc := 1) (a := t) dX7_isLike_1 rfl fX7_9 ht ?_
  refine g_aload_n (pc := 4) dX7_isLike_4 rfl 1 rfl ?_
  refine g_getI (pc := 5) (a := a1) dX7_isLike_5 rfl fX7_9 ha1 ?_
  have hJ : Go SC mX7_isLike 27 [(0, .ref t), (1, .ref a1)] [.int (if (wi w t 0) = (wi w a1 0) then (if (wi w t 1) = (wi w a1 1) then 1 else 0 : Int32) else 0 : Int32)] w Q := by
    refine g_bret (pc := 27) dX7_isLike_27 rfl (z_ite (z_ite (Or.inr rfl) (Or.inl rfl)) (Or.inl rfl)) ?_
    exact h
  refine g_icmp_ne (pc := 8) (tgt := 26) dX7_isLike_8 (by decide) (fun q8 => ?_) (fun q8 => ?_)
  · refine g_iconst (pc := 26) dX7_isLike_26 c_0 ?_
    first | (exfalso; contradiction) | exact cast (by simp only [if_neg q8]) hJ
  · refine g_aload_n (pc := 11) dX7_isLike_11 rfl 0 rfl ?_
    refine g_getI (pc := 12) (a := t) dX7_isLike_12 rfl fX7_15 ht ?_
    refine g_aload_n (pc := 15) dX7_isLike_15 rfl 1 rfl ?_
    refine g_getI (pc := 16) (a := a1) dX7_isLike_16 rfl fX7_15 ha1 ?_
    refine g_icmp_ne (pc := 19) (tgt := 26) dX7_isLike_19 (by decide) (fun q19 => ?_) (fun q19 => ?_)
    · refine g_iconst (pc := 26) dX7_isLike_26 c_0 ?_
      first | (exfalso; contradiction) | exact cast (by simp only [if_pos q8, if_neg q19]) hJ
    · refine g_iconst (pc := 22) dX7_isLike_22 c_1 ?_
      refine g_goto (pc := 23) (tgt := 27) dX7_isLike_23 (by decide) ?_
      first | (exfalso; contradiction) | exact cast (by simp only [if_pos q8, if_pos q19]) hJ
def vXX7_untying (t : Nat) (w : Wd) : Int32 := (if 0 ≤ (wi w t 0) then 2 else 0 : Int32)
set_option maxHeartbeats 4000000 in
set_option maxRecDepth 100000 in
theorem zX7_untying {t : Nat} (ht : SC[t]? = some (.inl 6)) {w : Wd} {b : Bool} (hR : w.2.2 = RTab b) {Q : Option Value → Wd → Prop} (h : Q (some (.int (vXX7_untying t w))) w) : Cl SC mX7_untying [.ref t] w Q := by
  refine cl_of (by decide) (Nat.le_of_ble_eq_true rfl) ?_
  show Go SC mX7_untying 0 [(0, .ref t)] [] w Q
  refine g_aload_n (pc := 0) dX7_untying_0 rfl 0 rfl ?_
  refine g_getI (pc := 1) (a := t) dX7_untying_1 rfl fX7_9 ht ?_
  have hJ : Go SC mX7_untying 12 [(0, .ref t)] [.int (if 0 ≤ (wi w t 0) then 2 else 0 : Int32)] w Q := by
    refine g_iret (pc := 12) dX7_untying_12 rfl ?_
    exact h
  refine g_if_ge (pc := 4) (tgt := 11) dX7_untying_4 (by decide) (fun q4 => ?_) (fun q4 => ?_)
  · refine g_iconst (pc := 11) dX7_untying_11 c_2 ?_
    first | (exfalso; contradiction) | exact cast (by simp only [if_pos q4]) hJ
  · refine g_iconst (pc := 7) dX7_untying_7 c_0 ?_
    refine g_goto (pc := 8) (tgt := 12) dX7_untying_8 (by decide) ?_
    first | (exfalso; contradiction) | exact cast (by simp only [if_neg q4]) hJ
def vXX8_hasRoom (w : Wd) : Int32 := (if 600 < ((wi w 1 1) + 20) then 0 else 1 : Int32)
set_option maxHeartbeats 4000000 in
set_option maxRecDepth 100000 in
theorem zzX8_hasRoom (w : Wd) : vXX8_hasRoom w = 0 ∨ vXX8_hasRoom w = 1 := (z_ite (Or.inl rfl) (Or.inr rfl))
set_option maxHeartbeats 4000000 in
set_option maxRecDepth 100000 in
theorem zX8_hasRoom  {w : Wd} {b : Bool} (hR : w.2.2 = RTab b) {Q : Option Value → Wd → Prop} (h : Q (some (.int (vXX8_hasRoom w))) w) : Cl SC mX8_hasRoom [.ref 1] w Q := by
  refine cl_of (by decide) (Nat.le_of_ble_eq_true rfl) ?_
  show Go SC mX8_hasRoom 0 [(0, .ref 1)] [] w Q
  refine g_aload_n (pc := 0) dX8_hasRoom_0 rfl 0 rfl ?_
  refine g_getI (pc := 1) (a := 1) dX8_hasRoom_1 rfl fX8_15 rfl ?_
  refine g_bipush (pc := 4) (v := 20) dX8_hasRoom_4 (by decide) ?_
  refine g_iadd (pc := 6) dX8_hasRoom_6 ?_
  refine g_sipush (pc := 7) (v := 600) dX8_hasRoom_7 (by decide) ?_
  have hJ : Go SC mX8_hasRoom 18 [(0, .ref 1)] [.int (if 600 < ((wi w 1 1) + 20) then 0 else 1 : Int32)] w Q := by
    refine g_bret (pc := 18) dX8_hasRoom_18 rfl (z_ite (Or.inl rfl) (Or.inr rfl)) ?_
    exact h
  refine g_icmp_gt (pc := 10) (tgt := 17) dX8_hasRoom_10 (by decide) (fun q10 => ?_) (fun q10 => ?_)
  · refine g_iconst (pc := 17) dX8_hasRoom_17 c_0 ?_
    first | (exfalso; contradiction) | exact cast (by simp only [if_pos q10]) hJ
  · refine g_iconst (pc := 13) dX8_hasRoom_13 c_1 ?_
    refine g_goto (pc := 14) (tgt := 18) dX8_hasRoom_14 (by decide) ?_
    first | (exfalso; contradiction) | exact cast (by simp only [if_neg q10]) hJ
def vXX8_fail (a1 : Int32) : Int32 := 0
set_option maxHeartbeats 4000000 in
set_option maxRecDepth 100000 in
theorem zzX8_fail (a1 : Int32) : vXX8_fail a1 = 0 ∨ vXX8_fail a1 = 1 := (Or.inl rfl)
def wXX8_fail (a1 : Int32) (w : Wd) : Wd := si (si w 1 9 a1) 1 10 (wi (si w 1 9 a1) 1 5)
set_option maxHeartbeats 4000000 in
set_option maxRecDepth 100000 in
theorem rXX8_fail (a1 : Int32) (w : Wd) : (wXX8_fail a1 w).2.2 = w.2.2 := rfl
set_option maxHeartbeats 4000000 in
set_option maxRecDepth 100000 in
theorem zX8_fail {a1 : Int32} {w : Wd} {b : Bool} (hR : w.2.2 = RTab b) {Q : Option Value → Wd → Prop} (h : Q (some (.int (vXX8_fail a1))) (wXX8_fail a1 w)) : Cl SC mX8_fail [.ref 1, .int a1] w Q := by
  refine cl_of (by decide) (Nat.le_of_ble_eq_true rfl) ?_
  show Go SC mX8_fail 0 [(0, .ref 1), (1, .int a1)] [] w Q
  refine g_aload_n (pc := 0) dX8_fail_0 rfl 0 rfl ?_
  refine g_iload_n (pc := 1) dX8_fail_1 rfl 1 rfl ?_
  refine g_putI (pc := 2) dX8_fail_2 rfl fX8_33 pX8_9 rfl ?_
  refine g_aload_n (pc := 5) dX8_fail_5 rfl 0 rfl ?_
  refine g_aload_n (pc := 6) dX8_fail_6 rfl 0 rfl ?_
  refine g_getI (pc := 7) (a := 1) dX8_fail_7 rfl fX8_108 rfl ?_
  refine g_putI (pc := 10) dX8_fail_10 rfl fX8_36 pX8_10 rfl ?_
  refine g_iconst (pc := 13) dX8_fail_13 c_0 ?_
  refine g_bret (pc := 14) dX8_fail_14 rfl (Or.inl rfl) ?_
  exact h
def vXX8_figureOf (a1 : Int32) : Int32 := if a1 = 116 then 0 else if a1 = 117 then 1 else if a1 = 114 then 2 else (-1)
set_option maxHeartbeats 4000000 in
set_option maxRecDepth 100000 in
theorem zX8_figureOf {a1 : Int32} {w : Wd} {b : Bool} (hR : w.2.2 = RTab b) {Q : Option Value → Wd → Prop} (h : Q (some (.int (vXX8_figureOf a1))) w) : Cl SC mX8_figureOf [.int a1] w Q := by
  refine cl_of (by decide) (Nat.le_of_ble_eq_true rfl) ?_
  show Go SC mX8_figureOf 0 [(0, .int a1)] [] w Q
  refine g_iload_n (pc := 0) dX8_figureOf_0 rfl 0 rfl ?_
  refine g_bipush (pc := 1) (v := 116) dX8_figureOf_1 (by decide) ?_
  refine g_icmp_ne (pc := 3) (tgt := 8) dX8_figureOf_3 (by decide) (fun q3 => ?_) (fun q3 => ?_)
  · refine g_iload_n (pc := 8) dX8_figureOf_8 rfl 0 rfl ?_
    refine g_bipush (pc := 9) (v := 117) dX8_figureOf_9 (by decide) ?_
    refine g_icmp_ne (pc := 11) (tgt := 16) dX8_figureOf_11 (by decide) (fun q11 => ?_) (fun q11 => ?_)
    · refine g_iload_n (pc := 16) dX8_figureOf_16 rfl 0 rfl ?_
      refine g_bipush (pc := 17) (v := 114) dX8_figureOf_17 (by decide) ?_
      refine g_icmp_ne (pc := 19) (tgt := 26) dX8_figureOf_19 (by decide) (fun q19 => ?_) (fun q19 => ?_)
      · refine g_iconst (pc := 26) dX8_figureOf_26 cN_1 ?_
        refine g_iret (pc := 27) dX8_figureOf_27 rfl ?_
        first | (exfalso; contradiction) | exact cast (by simp only [vXX8_figureOf, if_neg q3, if_neg q11, if_neg q19]) h
      · refine g_iconst (pc := 22) dX8_figureOf_22 c_2 ?_
        refine g_goto (pc := 23) (tgt := 27) dX8_figureOf_23 (by decide) ?_
        refine g_iret (pc := 27) dX8_figureOf_27 rfl ?_
        first | (exfalso; contradiction) | exact cast (by simp only [vXX8_figureOf, if_neg q3, if_neg q11, if_pos q19]) h
    · refine g_iconst (pc := 14) dX8_figureOf_14 c_1 ?_
      refine g_iret (pc := 15) dX8_figureOf_15 rfl ?_
      first | (exfalso; contradiction) | exact cast (by simp only [vXX8_figureOf, if_neg q3, if_pos q11]) h
  · refine g_iconst (pc := 6) dX8_figureOf_6 c_0 ?_
    refine g_iret (pc := 7) dX8_figureOf_7 rfl ?_
    first | (exfalso; contradiction) | exact cast (by simp only [vXX8_figureOf, if_pos q3]) h
def vXX8_isDigit (a1 : Int32) : Int32 := (if a1 < 48 then 0 else (if 57 < a1 then 0 else 1 : Int32) : Int32)
set_option maxHeartbeats 4000000 in
set_option maxRecDepth 100000 in
theorem zzX8_isDigit (a1 : Int32) : vXX8_isDigit a1 = 0 ∨ vXX8_isDigit a1 = 1 := (z_ite (Or.inl rfl) (z_ite (Or.inl rfl) (Or.inr rfl)))
set_option maxHeartbeats 4000000 in
set_option maxRecDepth 100000 in
theorem zX8_isDigit {a1 : Int32} {w : Wd} {b : Bool} (hR : w.2.2 = RTab b) {Q : Option Value → Wd → Prop} (h : Q (some (.int (vXX8_isDigit a1))) w) : Cl SC mX8_isDigit [.int a1] w Q := by
  refine cl_of (by decide) (Nat.le_of_ble_eq_true rfl) ?_
  show Go SC mX8_isDigit 0 [(0, .int a1)] [] w Q
  refine g_iload_n (pc := 0) dX8_isDigit_0 rfl 0 rfl ?_
  refine g_bipush (pc := 1) (v := 48) dX8_isDigit_1 (by decide) ?_
  have hJ : Go SC mX8_isDigit 17 [(0, .int a1)] [.int (if a1 < 48 then 0 else (if 57 < a1 then 0 else 1 : Int32) : Int32)] w Q := by
    refine g_bret (pc := 17) dX8_isDigit_17 rfl (z_ite (Or.inl rfl) (z_ite (Or.inl rfl) (Or.inr rfl))) ?_
    exact h
  refine g_icmp_lt (pc := 3) (tgt := 16) dX8_isDigit_3 (by decide) (fun q3 => ?_) (fun q3 => ?_)
  · refine g_iconst (pc := 16) dX8_isDigit_16 c_0 ?_
    first | (exfalso; contradiction) | exact cast (by simp only [if_pos q3]) hJ
  · refine g_iload_n (pc := 6) dX8_isDigit_6 rfl 0 rfl ?_
    refine g_bipush (pc := 7) (v := 57) dX8_isDigit_7 (by decide) ?_
    refine g_icmp_gt (pc := 9) (tgt := 16) dX8_isDigit_9 (by decide) (fun q9 => ?_) (fun q9 => ?_)
    · refine g_iconst (pc := 16) dX8_isDigit_16 c_0 ?_
      first | (exfalso; contradiction) | exact cast (by simp only [if_neg q3, if_pos q9]) hJ
    · refine g_iconst (pc := 12) dX8_isDigit_12 c_1 ?_
      refine g_goto (pc := 13) (tgt := 17) dX8_isDigit_13 (by decide) ?_
      first | (exfalso; contradiction) | exact cast (by simp only [if_neg q3, if_neg q9]) hJ
def vXX8_isLetter (a1 : Int32) : Int32 := (if a1 < 97 then 0 else (if 122 < a1 then 0 else 1 : Int32) : Int32)
set_option maxHeartbeats 4000000 in
set_option maxRecDepth 100000 in
theorem zzX8_isLetter (a1 : Int32) : vXX8_isLetter a1 = 0 ∨ vXX8_isLetter a1 = 1 := (z_ite (Or.inl rfl) (z_ite (Or.inl rfl) (Or.inr rfl)))
set_option maxHeartbeats 4000000 in
set_option maxRecDepth 100000 in
theorem zX8_isLetter {a1 : Int32} {w : Wd} {b : Bool} (hR : w.2.2 = RTab b) {Q : Option Value → Wd → Prop} (h : Q (some (.int (vXX8_isLetter a1))) w) : Cl SC mX8_isLetter [.int a1] w Q := by
  refine cl_of (by decide) (Nat.le_of_ble_eq_true rfl) ?_
  show Go SC mX8_isLetter 0 [(0, .int a1)] [] w Q
  refine g_iload_n (pc := 0) dX8_isLetter_0 rfl 0 rfl ?_
  refine g_bipush (pc := 1) (v := 97) dX8_isLetter_1 (by decide) ?_
  have hJ : Go SC mX8_isLetter 17 [(0, .int a1)] [.int (if a1 < 97 then 0 else (if 122 < a1 then 0 else 1 : Int32) : Int32)] w Q := by
    refine g_bret (pc := 17) dX8_isLetter_17 rfl (z_ite (Or.inl rfl) (z_ite (Or.inl rfl) (Or.inr rfl))) ?_
    exact h
  refine g_icmp_lt (pc := 3) (tgt := 16) dX8_isLetter_3 (by decide) (fun q3 => ?_) (fun q3 => ?_)
  · refine g_iconst (pc := 16) dX8_isLetter_16 c_0 ?_
    first | (exfalso; contradiction) | exact cast (by simp only [if_pos q3]) hJ
  · refine g_iload_n (pc := 6) dX8_isLetter_6 rfl 0 rfl ?_
    refine g_bipush (pc := 7) (v := 122) dX8_isLetter_7 (by decide) ?_
    refine g_icmp_gt (pc := 9) (tgt := 16) dX8_isLetter_9 (by decide) (fun q9 => ?_) (fun q9 => ?_)
    · refine g_iconst (pc := 16) dX8_isLetter_16 c_0 ?_
      first | (exfalso; contradiction) | exact cast (by simp only [if_neg q3, if_pos q9]) hJ
    · refine g_iconst (pc := 12) dX8_isLetter_12 c_1 ?_
      refine g_goto (pc := 13) (tgt := 17) dX8_isLetter_13 (by decide) ?_
      first | (exfalso; contradiction) | exact cast (by simp only [if_neg q3, if_neg q9]) hJ
def vXX8_isWhole (a1 : Int32) (w : Wd) : Int32 := if (wi w 1 4) = 2 then if (wi w 1 7) ≤ a1 then 1 else if (vXX8_fail 4) = 0 then 0 else 1 else vXX8_fail 1
set_option maxHeartbeats 4000000 in
set_option maxRecDepth 100000 in
theorem zzX8_isWhole (a1 : Int32) (w : Wd) : vXX8_isWhole a1 w = 0 ∨ vXX8_isWhole a1 w = 1 := (z_ite (z_ite (Or.inr rfl) (z_ite (Or.inl rfl) (Or.inr rfl))) (zzX8_fail 1))
def wXX8_isWhole (a1 : Int32) (w : Wd) : Wd := if (wi w 1 4) = 2 then if (wi w 1 7) ≤ a1 then w else wXX8_fail 4 w else wXX8_fail 1 w
set_option maxHeartbeats 4000000 in
set_option maxRecDepth 100000 in
theorem rXX8_isWhole (a1 : Int32) (w : Wd) : (wXX8_isWhole a1 w).2.2 = w.2.2 := by
  unfold wXX8_isWhole
  (repeat' split) <;> simp only [si_R, sl_R, pf_R, rXX0_measure, rXX7_put, rXX7_step, rXX1_add, rXX2_clear, rXX2_addUnsure, rXX2_addSeen, rXX4_forgetAll, rXX7_copy, rXX8_fail]
set_option maxHeartbeats 4000000 in
set_option maxRecDepth 100000 in
theorem zX8_isWhole {a1 : Int32} {w : Wd} {b : Bool} (hR : w.2.2 = RTab b) {Q : Option Value → Wd → Prop} (h : Q (some (.int (vXX8_isWhole a1 w))) (wXX8_isWhole a1 w)) : Cl SC mX8_isWhole [.ref 1, .int a1] w Q := by
  refine cl_of (by decide) (Nat.le_of_ble_eq_true rfl) ?_
  show Go SC mX8_isWhole 0 [(0, .ref 1), (1, .int a1)] [] w Q
  refine g_aload_n (pc := 0) dX8_isWhole_0 rfl 0 rfl ?_
  refine g_getI (pc := 1) (a := 1) dX8_isWhole_1 rfl fX8_52 rfl ?_
  refine g_iconst (pc := 4) dX8_isWhole_4 c_2 ?_
  refine g_icmp_eq (pc := 5) (tgt := 14) dX8_isWhole_5 (by decide) (fun q5 => ?_) (fun q5 => ?_)
  · refine g_aload_n (pc := 14) dX8_isWhole_14 rfl 0 rfl ?_
    refine g_getI (pc := 15) (a := 1) dX8_isWhole_15 rfl fX8_91 rfl ?_
    refine g_iload_n (pc := 18) dX8_isWhole_18 rfl 1 rfl ?_
    refine g_icmp_le (pc := 19) (tgt := 30) dX8_isWhole_19 (by decide) (fun q19 => ?_) (fun q19 => ?_)
    · refine g_iconst (pc := 30) dX8_isWhole_30 c_1 ?_
      refine g_goto (pc := 31) (tgt := 35) dX8_isWhole_31 (by decide) ?_
      refine g_bret (pc := 35) dX8_isWhole_35 rfl (Or.inr rfl) ?_
      first | (exfalso; contradiction) | exact cast (by simp only [vXX8_isWhole, wXX8_isWhole, if_pos q5, if_pos q19]) h
    · refine g_aload_n (pc := 22) dX8_isWhole_22 rfl 0 rfl ?_
      refine g_iconst (pc := 23) dX8_isWhole_23 c_4 ?_
      refine g_callV (pc := 24) (M' := mX8_fail) (n := 1) (a := 1) (as := [.int 4]) (st := []) dX8_isWhole_24 rfl kX8_55 vX8_fail (Nat.le_of_ble_eq_true rfl) rfl qX8 rfl rfl (Nat.le_of_ble_eq_true rfl) ?_
      refine zX8_fail (a1 := 4) (w := w) (b := b) (hR := hR) ?_
      show Go SC mX8_isWhole 27 [(0, .ref 1), (1, .int a1)] [.int (vXX8_fail 4)] (wXX8_fail 4 w) Q
      refine g_if_eq (pc := 27) (tgt := 34) dX8_isWhole_27 (by decide) (fun q27 => ?_) (fun q27 => ?_)
      · refine g_iconst (pc := 34) dX8_isWhole_34 c_0 ?_
        refine g_bret (pc := 35) dX8_isWhole_35 rfl (Or.inl rfl) ?_
        first | (exfalso; contradiction) | exact cast (by simp only [vXX8_isWhole, wXX8_isWhole, if_pos q5, if_neg q19, if_pos q27]) h
      · refine g_iconst (pc := 30) dX8_isWhole_30 c_1 ?_
        refine g_goto (pc := 31) (tgt := 35) dX8_isWhole_31 (by decide) ?_
        refine g_bret (pc := 35) dX8_isWhole_35 rfl (Or.inr rfl) ?_
        first | (exfalso; contradiction) | exact cast (by simp only [vXX8_isWhole, wXX8_isWhole, if_pos q5, if_neg q19, if_neg q27]) h
  · refine g_aload_n (pc := 8) dX8_isWhole_8 rfl 0 rfl ?_
    refine g_iconst (pc := 9) dX8_isWhole_9 c_1 ?_
    refine g_callV (pc := 10) (M' := mX8_fail) (n := 1) (a := 1) (as := [.int 1]) (st := []) dX8_isWhole_10 rfl kX8_55 vX8_fail (Nat.le_of_ble_eq_true rfl) rfl qX8 rfl rfl (Nat.le_of_ble_eq_true rfl) ?_
    refine zX8_fail (a1 := 1) (w := w) (b := b) (hR := hR) ?_
    show Go SC mX8_isWhole 13 [(0, .ref 1), (1, .int a1)] [.int (vXX8_fail 1)] (wXX8_fail 1 w) Q
    refine g_bret (pc := 13) dX8_isWhole_13 rfl (zzX8_fail 1) ?_
    first | (exfalso; contradiction) | exact cast (by simp only [vXX8_isWhole, wXX8_isWhole, if_neg q5]) h
def vXX10_accept (a1 : Int32) : Int32 := a1
def wXX10_accept (a1 : Int32) (w : Wd) : Wd := si w 0 10 0
set_option maxHeartbeats 4000000 in
set_option maxRecDepth 100000 in
theorem rXX10_accept (a1 : Int32) (w : Wd) : (wXX10_accept a1 w).2.2 = w.2.2 := rfl
set_option maxHeartbeats 4000000 in
set_option maxRecDepth 100000 in
theorem zX10_accept {a1 : Int32} {w : Wd} {b : Bool} (hR : w.2.2 = RTab b) {Q : Option Value → Wd → Prop} (h : Q (some (.int (vXX10_accept a1))) (wXX10_accept a1 w)) : Cl SC mX10_accept [.ref 0, .int a1] w Q := by
  refine cl_of (by decide) (Nat.le_of_ble_eq_true rfl) ?_
  show Go SC mX10_accept 0 [(0, .ref 0), (1, .int a1)] [] w Q
  refine g_aload_n (pc := 0) dX10_accept_0 rfl 0 rfl ?_
  refine g_iconst (pc := 1) dX10_accept_1 c_0 ?_
  refine g_putI (pc := 2) dX10_accept_2 rfl fX10_107 pX10_10 rfl ?_
  refine g_iload_n (pc := 5) dX10_accept_5 rfl 1 rfl ?_
  refine g_iret (pc := 6) dX10_accept_6 rfl ?_
  exact h
def vXX10_refuse (a1 : Int32) (a2 : Int32) : Int32 := a2
def wXX10_refuse (a1 : Int32) (a2 : Int32) (w : Wd) : Wd := si w 0 10 a1
set_option maxHeartbeats 4000000 in
set_option maxRecDepth 100000 in
theorem rXX10_refuse (a1 : Int32) (a2 : Int32) (w : Wd) : (wXX10_refuse a1 a2 w).2.2 = w.2.2 := rfl
set_option maxHeartbeats 4000000 in
set_option maxRecDepth 100000 in
theorem zX10_refuse {a1 : Int32} {a2 : Int32} {w : Wd} {b : Bool} (hR : w.2.2 = RTab b) {Q : Option Value → Wd → Prop} (h : Q (some (.int (vXX10_refuse a1 a2))) (wXX10_refuse a1 a2 w)) : Cl SC mX10_refuse [.ref 0, .int a1, .int a2] w Q := by
  refine cl_of (by decide) (Nat.le_of_ble_eq_true rfl) ?_
  show Go SC mX10_refuse 0 [(0, .ref 0), (1, .int a1), (2, .int a2)] [] w Q
  refine g_aload_n (pc := 0) dX10_refuse_0 rfl 0 rfl ?_
  refine g_iload_n (pc := 1) dX10_refuse_1 rfl 1 rfl ?_
  refine g_putI (pc := 2) dX10_refuse_2 rfl fX10_107 pX10_10 rfl ?_
  refine g_iload_n (pc := 5) dX10_refuse_5 rfl 2 rfl ?_
  refine g_iret (pc := 6) dX10_refuse_6 rfl ?_
  exact h
def vXX10_fault (w : Wd) : Int32 := wi w 1 9
set_option maxHeartbeats 4000000 in
set_option maxRecDepth 100000 in
theorem zX10_fault  {w : Wd} {b : Bool} (hR : w.2.2 = RTab b) {Q : Option Value → Wd → Prop} (h : Q (some (.int (vXX10_fault w))) w) : Cl SC mX10_fault [.ref 0] w Q := by
  refine cl_of (by decide) (Nat.le_of_ble_eq_true rfl) ?_
  show Go SC mX10_fault 0 [(0, .ref 0)] [] w Q
  refine g_aload_n (pc := 0) dX10_fault_0 rfl 0 rfl ?_
  refine g_getR (pc := 1) (a := 0) (b := 1) dX10_fault_1 rfl fX10_10 rfl (rc_0_0 hR) ?_
  refine g_getI (pc := 4) (a := 1) dX10_fault_4 rfl fX10_104 rfl ?_
  refine g_iret (pc := 7) dX10_fault_7 rfl ?_
  exact h
def vXX10_where (w : Wd) : Int32 := (if (wi w 0 10) = 4 then wi w 1 10 else (-1) : Int32)
set_option maxHeartbeats 4000000 in
set_option maxRecDepth 100000 in
theorem zX10_where  {w : Wd} {b : Bool} (hR : w.2.2 = RTab b) {Q : Option Value → Wd → Prop} (h : Q (some (.int (vXX10_where w))) w) : Cl SC mX10_where [.ref 0] w Q := by
  refine cl_of (by decide) (Nat.le_of_ble_eq_true rfl) ?_
  show Go SC mX10_where 0 [(0, .ref 0)] [] w Q
  refine g_aload_n (pc := 0) dX10_where_0 rfl 0 rfl ?_
  refine g_getI (pc := 1) (a := 0) dX10_where_1 rfl fX10_107 rfl ?_
  refine g_iconst (pc := 4) dX10_where_4 c_4 ?_
  have hJ : Go SC mX10_where 19 [(0, .ref 0)] [.int (if (wi w 0 10) = 4 then wi w 1 10 else (-1) : Int32)] w Q := by
    refine g_iret (pc := 19) dX10_where_19 rfl ?_
    exact h
  refine g_icmp_ne (pc := 5) (tgt := 18) dX10_where_5 (by decide) (fun q5 => ?_) (fun q5 => ?_)
  · refine g_iconst (pc := 18) dX10_where_18 cN_1 ?_
    first | (exfalso; contradiction) | exact cast (by simp only [if_neg q5]) hJ
  · refine g_aload_n (pc := 8) dX10_where_8 rfl 0 rfl ?_
    refine g_getR (pc := 9) (a := 0) (b := 1) dX10_where_9 rfl fX10_10 rfl (rc_0_0 hR) ?_
    refine g_getI (pc := 12) (a := 1) dX10_where_12 rfl fX10_110 rfl ?_
    refine g_goto (pc := 15) (tgt := 19) dX10_where_15 (by decide) ?_
    first | (exfalso; contradiction) | exact cast (by simp only [if_pos q5]) hJ
def vXX10_isCorner (a1 : Int32) : Int32 := (if a1 < 0 then 0 else (if 4 ≤ a1 then 0 else 1 : Int32) : Int32)
set_option maxHeartbeats 4000000 in
set_option maxRecDepth 100000 in
theorem zzX10_isCorner (a1 : Int32) : vXX10_isCorner a1 = 0 ∨ vXX10_isCorner a1 = 1 := (z_ite (Or.inl rfl) (z_ite (Or.inl rfl) (Or.inr rfl)))
set_option maxHeartbeats 4000000 in
set_option maxRecDepth 100000 in
theorem zX10_isCorner {a1 : Int32} {w : Wd} {b : Bool} (hR : w.2.2 = RTab b) {Q : Option Value → Wd → Prop} (h : Q (some (.int (vXX10_isCorner a1))) w) : Cl SC mX10_isCorner [.int a1] w Q := by
  refine cl_of (by decide) (Nat.le_of_ble_eq_true rfl) ?_
  show Go SC mX10_isCorner 0 [(0, .int a1)] [] w Q
  refine g_iload_n (pc := 0) dX10_isCorner_0 rfl 0 rfl ?_
  have hJ : Go SC mX10_isCorner 14 [(0, .int a1)] [.int (if a1 < 0 then 0 else (if 4 ≤ a1 then 0 else 1 : Int32) : Int32)] w Q := by
    refine g_bret (pc := 14) dX10_isCorner_14 rfl (z_ite (Or.inl rfl) (z_ite (Or.inl rfl) (Or.inr rfl))) ?_
    exact h
  refine g_if_lt (pc := 1) (tgt := 13) dX10_isCorner_1 (by decide) (fun q1 => ?_) (fun q1 => ?_)
  · refine g_iconst (pc := 13) dX10_isCorner_13 c_0 ?_
    first | (exfalso; contradiction) | exact cast (by simp only [if_pos q1]) hJ
  · refine g_iload_n (pc := 4) dX10_isCorner_4 rfl 0 rfl ?_
    refine g_iconst (pc := 5) dX10_isCorner_5 c_4 ?_
    refine g_icmp_ge (pc := 6) (tgt := 13) dX10_isCorner_6 (by decide) (fun q6 => ?_) (fun q6 => ?_)
    · refine g_iconst (pc := 13) dX10_isCorner_13 c_0 ?_
      first | (exfalso; contradiction) | exact cast (by simp only [if_neg q1, if_pos q6]) hJ
    · refine g_iconst (pc := 9) dX10_isCorner_9 c_1 ?_
      refine g_goto (pc := 10) (tgt := 14) dX10_isCorner_10 (by decide) ?_
      first | (exfalso; contradiction) | exact cast (by simp only [if_neg q1, if_neg q6]) hJ
def vXX10_isRope (a1 : Int32) (a2 : Int32) : Int32 := (if (vXX10_isCorner a1) = 0 then 0 else (if (vXX10_isCorner a2) = 0 then 0 else (if a1 = a2 then 0 else 1 : Int32) : Int32) : Int32)
set_option maxHeartbeats 4000000 in
set_option maxRecDepth 100000 in
theorem zzX10_isRope (a1 : Int32) (a2 : Int32) : vXX10_isRope a1 a2 = 0 ∨ vXX10_isRope a1 a2 = 1 := (z_ite (Or.inl rfl) (z_ite (Or.inl rfl) (z_ite (Or.inl rfl) (Or.inr rfl))))
set_option maxHeartbeats 4000000 in
set_option maxRecDepth 100000 in
theorem zX10_isRope {a1 : Int32} {a2 : Int32} {w : Wd} {b : Bool} (hR : w.2.2 = RTab b) {Q : Option Value → Wd → Prop} (h : Q (some (.int (vXX10_isRope a1 a2))) w) : Cl SC mX10_isRope [.int a1, .int a2] w Q := by
  refine cl_of (by decide) (Nat.le_of_ble_eq_true rfl) ?_
  show Go SC mX10_isRope 0 [(0, .int a1), (1, .int a2)] [] w Q
  refine g_iload_n (pc := 0) dX10_isRope_0 rfl 0 rfl ?_
  refine g_callS (pc := 1) (M' := mX10_isCorner) (n := 1) (as := [.int a1]) (st := []) dX10_isRope_1 rfl kX10_129 sX10_isCorner (Nat.le_of_ble_eq_true rfl) rfl rfl (Nat.le_of_ble_eq_true rfl) ?_
  refine zX10_isCorner (a1 := a1) (w := w) (b := b) (hR := hR) ?_
  show Go SC mX10_isRope 4 [(0, .int a1), (1, .int a2)] [.int (vXX10_isCorner a1)] w Q
  have hJ : Go SC mX10_isRope 24 [(0, .int a1), (1, .int a2)] [.int (if (vXX10_isCorner a1) = 0 then 0 else (if (vXX10_isCorner a2) = 0 then 0 else (if a1 = a2 then 0 else 1 : Int32) : Int32) : Int32)] w Q := by
    refine g_bret (pc := 24) dX10_isRope_24 rfl (z_ite (Or.inl rfl) (z_ite (Or.inl rfl) (z_ite (Or.inl rfl) (Or.inr rfl)))) ?_
    exact h
  refine g_if_eq (pc := 4) (tgt := 23) dX10_isRope_4 (by decide) (fun q4 => ?_) (fun q4 => ?_)
  · refine g_iconst (pc := 23) dX10_isRope_23 c_0 ?_
    first | (exfalso; contradiction) | exact cast (by simp only [if_pos q4]) hJ
  · refine g_iload_n (pc := 7) dX10_isRope_7 rfl 1 rfl ?_
    refine g_callS (pc := 8) (M' := mX10_isCorner) (n := 1) (as := [.int a2]) (st := []) dX10_isRope_8 rfl kX10_129 sX10_isCorner (Nat.le_of_ble_eq_true rfl) rfl rfl (Nat.le_of_ble_eq_true rfl) ?_
    refine zX10_isCorner (a1 := a2) (w := w) (b := b) (hR := hR) ?_
    show Go SC mX10_isRope 11 [(0, .int a1), (1, .int a2)] [.int (vXX10_isCorner a2)] w Q
    refine g_if_eq (pc := 11) (tgt := 23) dX10_isRope_11 (by decide) (fun q11 => ?_) (fun q11 => ?_)
    · refine g_iconst (pc := 23) dX10_isRope_23 c_0 ?_
      first | (exfalso; contradiction) | exact cast (by simp only [if_neg q4, if_pos q11]) hJ
    · refine g_iload_n (pc := 14) dX10_isRope_14 rfl 0 rfl ?_
      refine g_iload_n (pc := 15) dX10_isRope_15 rfl 1 rfl ?_
      refine g_icmp_eq (pc := 16) (tgt := 23) dX10_isRope_16 (by decide) (fun q16 => ?_) (fun q16 => ?_)
      · refine g_iconst (pc := 23) dX10_isRope_23 c_0 ?_
        first | (exfalso; contradiction) | exact cast (by simp only [if_neg q4, if_neg q11, if_pos q16]) hJ
      · refine g_iconst (pc := 19) dX10_isRope_19 c_1 ?_
        refine g_goto (pc := 20) (tgt := 24) dX10_isRope_20 (by decide) ?_
        first | (exfalso; contradiction) | exact cast (by simp only [if_neg q4, if_neg q11, if_neg q16]) hJ
def vXX10_hasHall (w : Wd) (b : Bool) : Int32 := (if (wi w (hA b) 2) ≤ 0 then 0 else 1 : Int32)
set_option maxHeartbeats 4000000 in
set_option maxRecDepth 100000 in
theorem zzX10_hasHall (w : Wd) (b : Bool) : vXX10_hasHall w b = 0 ∨ vXX10_hasHall w b = 1 := (z_ite (Or.inl rfl) (Or.inr rfl))
set_option maxHeartbeats 4000000 in
set_option maxRecDepth 100000 in
theorem zX10_hasHall  {w : Wd} {b : Bool} (hR : w.2.2 = RTab b) {Q : Option Value → Wd → Prop} (h : Q (some (.int (vXX10_hasHall w b))) w) : Cl SC mX10_hasHall [.ref 0] w Q := by
  refine cl_of (by decide) (Nat.le_of_ble_eq_true rfl) ?_
  show Go SC mX10_hasHall 0 [(0, .ref 0)] [] w Q
  refine g_aload_n (pc := 0) dX10_hasHall_0 rfl 0 rfl ?_
  refine g_getR (pc := 1) (a := 0) (b := (hA b)) dX10_hasHall_1 rfl fX10_19 rfl (rc_0_1 hR) ?_
  refine g_getI (pc := 4) (a := (hA b)) dX10_hasHall_4 rfl fX10_97 (sh_h b) ?_
  have hJ : Go SC mX10_hasHall 15 [(0, .ref 0)] [.int (if (wi w (hA b) 2) ≤ 0 then 0 else 1 : Int32)] w Q := by
    refine g_bret (pc := 15) dX10_hasHall_15 rfl (z_ite (Or.inl rfl) (Or.inr rfl)) ?_
    exact h
  refine g_if_le (pc := 7) (tgt := 14) dX10_hasHall_7 (by decide) (fun q7 => ?_) (fun q7 => ?_)
  · refine g_iconst (pc := 14) dX10_hasHall_14 c_0 ?_
    first | (exfalso; contradiction) | exact cast (by simp only [if_pos q7]) hJ
  · refine g_iconst (pc := 10) dX10_hasHall_10 c_1 ?_
    refine g_goto (pc := 11) (tgt := 15) dX10_hasHall_11 (by decide) ?_
    first | (exfalso; contradiction) | exact cast (by simp only [if_neg q7]) hJ
def vXX10_numberTrouble (a1 : Int32) (a2 : Int32) (a3 : Int32) (w : Wd) (b : Bool) : Int32 := if (vXX10_hasHall w b) = 0 then 1 else if a1 < a2 then 2 else if a1 ≤ a3 then 0 else 2
set_option maxHeartbeats 4000000 in
set_option maxRecDepth 100000 in
theorem zX10_numberTrouble {a1 : Int32} {a2 : Int32} {a3 : Int32} {w : Wd} {b : Bool} (hR : w.2.2 = RTab b) {Q : Option Value → Wd → Prop} (h : Q (some (.int (vXX10_numberTrouble a1 a2 a3 w b))) w) : Cl SC mX10_numberTrouble [.ref 0, .int a1, .int a2, .int a3] w Q := by
  refine cl_of (by decide) (Nat.le_of_ble_eq_true rfl) ?_
  show Go SC mX10_numberTrouble 0 [(0, .ref 0), (1, .int a1), (2, .int a2), (3, .int a3)] [] w Q
  refine g_aload_n (pc := 0) dX10_numberTrouble_0 rfl 0 rfl ?_
  refine g_callV (pc := 1) (M' := mX10_hasHall) (n := 0) (a := 0) (as := []) (st := []) dX10_numberTrouble_1 rfl kX10_255 vX10_hasHall (Nat.le_of_ble_eq_true rfl) rfl qX10 rfl rfl (Nat.le_of_ble_eq_true rfl) ?_
  refine zX10_hasHall (w := w) (b := b) (hR := hR) ?_
  show Go SC mX10_numberTrouble 4 [(0, .ref 0), (1, .int a1), (2, .int a2), (3, .int a3)] [.int (vXX10_hasHall w b)] w Q
  refine g_if_ne (pc := 4) (tgt := 9) dX10_numberTrouble_4 (by decide) (fun q4 => ?_) (fun q4 => ?_)
  · refine g_iload_n (pc := 9) dX10_numberTrouble_9 rfl 1 rfl ?_
    refine g_iload_n (pc := 10) dX10_numberTrouble_10 rfl 2 rfl ?_
    refine g_icmp_lt (pc := 11) (tgt := 19) dX10_numberTrouble_11 (by decide) (fun q11 => ?_) (fun q11 => ?_)
    · refine g_iconst (pc := 19) dX10_numberTrouble_19 c_2 ?_
      refine g_goto (pc := 20) (tgt := 24) dX10_numberTrouble_20 (by decide) ?_
      refine g_iret (pc := 24) dX10_numberTrouble_24 rfl ?_
      first | (exfalso; contradiction) | exact cast (by simp only [vXX10_numberTrouble, if_neg q4, if_pos q11]) h
    · refine g_iload_n (pc := 14) dX10_numberTrouble_14 rfl 1 rfl ?_
      refine g_iload_n (pc := 15) dX10_numberTrouble_15 rfl 3 rfl ?_
      refine g_icmp_le (pc := 16) (tgt := 23) dX10_numberTrouble_16 (by decide) (fun q16 => ?_) (fun q16 => ?_)
      · refine g_iconst (pc := 23) dX10_numberTrouble_23 c_0 ?_
        refine g_iret (pc := 24) dX10_numberTrouble_24 rfl ?_
        first | (exfalso; contradiction) | exact cast (by simp only [vXX10_numberTrouble, if_neg q4, if_neg q11, if_pos q16]) h
      · refine g_iconst (pc := 19) dX10_numberTrouble_19 c_2 ?_
        refine g_goto (pc := 20) (tgt := 24) dX10_numberTrouble_20 (by decide) ?_
        refine g_iret (pc := 24) dX10_numberTrouble_24 rfl ?_
        first | (exfalso; contradiction) | exact cast (by simp only [vXX10_numberTrouble, if_neg q4, if_neg q11, if_neg q16]) h
  · refine g_iconst (pc := 7) dX10_numberTrouble_7 c_1 ?_
    refine g_iret (pc := 8) dX10_numberTrouble_8 rfl ?_
    first | (exfalso; contradiction) | exact cast (by simp only [vXX10_numberTrouble, if_pos q4]) h
def vXX10_pay (a1 : Int32) (a2 : Int32) (a3 : Int32) : Int32 := if a2 = 0 then if a3 = 0 then -a1 else 2 else if a3 = 0 then 0 else 1
set_option maxHeartbeats 4000000 in
set_option maxRecDepth 100000 in
theorem zX10_pay {a1 : Int32} {a2 : Int32} {a3 : Int32} {w : Wd} {b : Bool} (hR : w.2.2 = RTab b) {Q : Option Value → Wd → Prop} (h : Q (some (.int (vXX10_pay a1 a2 a3))) w) : Cl SC mX10_pay [.int a1, .int a2, .int a3] w Q := by
  refine cl_of (by decide) (Nat.le_of_ble_eq_true rfl) ?_
  show Go SC mX10_pay 0 [(0, .int a1), (1, .int a2), (2, .int a3)] [] w Q
  refine g_iload_n (pc := 0) dX10_pay_0 rfl 1 rfl ?_
  refine g_if_eq (pc := 1) (tgt := 14) dX10_pay_1 (by decide) (fun q1 => ?_) (fun q1 => ?_)
  · refine g_iload_n (pc := 14) dX10_pay_14 rfl 2 rfl ?_
    refine g_if_eq (pc := 15) (tgt := 22) dX10_pay_15 (by decide) (fun q15 => ?_) (fun q15 => ?_)
    · refine g_iload_n (pc := 22) dX10_pay_22 rfl 0 rfl ?_
      refine g_ineg (pc := 23) dX10_pay_23 ?_
      refine g_iret (pc := 24) dX10_pay_24 rfl ?_
      first | (exfalso; contradiction) | exact cast (by simp only [vXX10_pay, if_pos q1, if_pos q15]) h
    · refine g_iconst (pc := 18) dX10_pay_18 c_2 ?_
      refine g_goto (pc := 19) (tgt := 24) dX10_pay_19 (by decide) ?_
      refine g_iret (pc := 24) dX10_pay_24 rfl ?_
      first | (exfalso; contradiction) | exact cast (by simp only [vXX10_pay, if_pos q1, if_neg q15]) h
  · refine g_iload_n (pc := 4) dX10_pay_4 rfl 2 rfl ?_
    refine g_if_eq (pc := 5) (tgt := 12) dX10_pay_5 (by decide) (fun q5 => ?_) (fun q5 => ?_)
    · refine g_iconst (pc := 12) dX10_pay_12 c_0 ?_
      refine g_iret (pc := 13) dX10_pay_13 rfl ?_
      first | (exfalso; contradiction) | exact cast (by simp only [vXX10_pay, if_neg q1, if_pos q5]) h
    · refine g_iconst (pc := 8) dX10_pay_8 c_1 ?_
      refine g_goto (pc := 9) (tgt := 13) dX10_pay_9 (by decide) ?_
      refine g_iret (pc := 13) dX10_pay_13 rfl ?_
      first | (exfalso; contradiction) | exact cast (by simp only [vXX10_pay, if_neg q1, if_neg q5]) h
def vXX10_bows (a1 : Int32) (a2 : Int32) (a3 : Int32) (a4 : Int32) (w : Wd) (b : Bool) : Int32 := if (vXX10_numberTrouble a1 0 9 w b) = 0 then if a4 = 0 then vXX10_accept (vXX10_pay a1 a2 a3) else vXX10_accept (vXX10_pay a1 a3 a2) else vXX10_refuse (vXX10_numberTrouble a1 0 9 w b) (-100)
def wXX10_bows (a1 : Int32) (a2 : Int32) (a3 : Int32) (a4 : Int32) (w : Wd) (b : Bool) : Wd := if (vXX10_numberTrouble a1 0 9 w b) = 0 then if a4 = 0 then wXX10_accept (vXX10_pay a1 a2 a3) w else wXX10_accept (vXX10_pay a1 a3 a2) w else wXX10_refuse (vXX10_numberTrouble a1 0 9 w b) (-100) w
set_option maxHeartbeats 4000000 in
set_option maxRecDepth 100000 in
theorem rXX10_bows (a1 : Int32) (a2 : Int32) (a3 : Int32) (a4 : Int32) (w : Wd) (b : Bool) : (wXX10_bows a1 a2 a3 a4 w b).2.2 = w.2.2 := by
  unfold wXX10_bows
  (repeat' split) <;> simp only [si_R, sl_R, pf_R, rXX0_measure, rXX7_put, rXX7_step, rXX1_add, rXX2_clear, rXX2_addUnsure, rXX2_addSeen, rXX4_forgetAll, rXX7_copy, rXX8_fail, rXX8_isWhole, rXX10_accept, rXX10_refuse]
set_option maxHeartbeats 4000000 in
set_option maxRecDepth 100000 in
theorem zX10_bows {a1 : Int32} {a2 : Int32} {a3 : Int32} {a4 : Int32} {w : Wd} {b : Bool} (hR : w.2.2 = RTab b) {Q : Option Value → Wd → Prop} (h : Q (some (.int (vXX10_bows a1 a2 a3 a4 w b))) (wXX10_bows a1 a2 a3 a4 w b)) : Cl SC mX10_bows [.ref 0, .int a1, .int a2, .int a3, .int a4] w Q := by
  refine cl_of (by decide) (Nat.le_of_ble_eq_true rfl) ?_
  show Go SC mX10_bows 0 [(0, .ref 0), (1, .int a1), (2, .int a2), (3, .int a3), (4, .int a4)] [] w Q
  refine g_aload_n (pc := 0) dX10_bows_0 rfl 0 rfl ?_
  refine g_iload_n (pc := 1) dX10_bows_1 rfl 1 rfl ?_
  refine g_iconst (pc := 2) dX10_bows_2 c_0 ?_
  refine g_bipush (pc := 3) (v := 9) dX10_bows_3 (by decide) ?_
  refine g_callV (pc := 5) (M' := mX10_numberTrouble) (n := 3) (a := 0) (as := [.int a1, .int 0, .int 9]) (st := []) dX10_bows_5 rfl kX10_221 vX10_numberTrouble (Nat.le_of_ble_eq_true rfl) rfl qX10 rfl rfl (Nat.le_of_ble_eq_true rfl) ?_
  refine zX10_numberTrouble (a1 := a1) (a2 := 0) (a3 := 9) (w := w) (b := b) (hR := hR) ?_
  show Go SC mX10_bows 8 [(0, .ref 0), (1, .int a1), (2, .int a2), (3, .int a3), (4, .int a4)] [.int (vXX10_numberTrouble a1 0 9 w b)] w Q
  refine g_istore (pc := 8) (lv2 := [(0, .ref 0), (1, .int a1), (2, .int a2), (3, .int a3), (4, .int a4), (5, .int (vXX10_numberTrouble a1 0 9 w b))]) dX10_bows_8 (Nat.le_of_ble_eq_true rfl) rfl ?_
  refine g_iload (pc := 10) dX10_bows_10 5 rfl ?_
  refine g_if_eq (pc := 12) (tgt := 24) dX10_bows_12 (by decide) (fun q12 => ?_) (fun q12 => ?_)
  · refine g_aload_n (pc := 24) dX10_bows_24 rfl 0 rfl ?_
    refine g_iload (pc := 25) dX10_bows_25 4 rfl ?_
    refine g_if_eq (pc := 27) (tgt := 39) dX10_bows_27 (by decide) (fun q27 => ?_) (fun q27 => ?_)
    · refine g_iload_n (pc := 39) dX10_bows_39 rfl 1 rfl ?_
      refine g_iload_n (pc := 40) dX10_bows_40 rfl 2 rfl ?_
      refine g_iload_n (pc := 41) dX10_bows_41 rfl 3 rfl ?_
      refine g_callS (pc := 42) (M' := mX10_pay) (n := 3) (as := [.int a1, .int a2, .int a3]) (st := [.ref 0]) dX10_bows_42 rfl kX10_296 sX10_pay (Nat.le_of_ble_eq_true rfl) rfl rfl (Nat.le_of_ble_eq_true rfl) ?_
      refine zX10_pay (a1 := a1) (a2 := a2) (a3 := a3) (w := w) (b := b) (hR := hR) ?_
      show Go SC mX10_bows 45 [(0, .ref 0), (1, .int a1), (2, .int a2), (3, .int a3), (4, .int a4), (5, .int (vXX10_numberTrouble a1 0 9 w b))] [.int (vXX10_pay a1 a2 a3), .ref 0] w Q
      refine g_callV (pc := 45) (M' := mX10_accept) (n := 1) (a := 0) (as := [.int (vXX10_pay a1 a2 a3)]) (st := []) dX10_bows_45 rfl kX10_100 vX10_accept (Nat.le_of_ble_eq_true rfl) rfl qX10 rfl rfl (Nat.le_of_ble_eq_true rfl) ?_
      refine zX10_accept (a1 := (vXX10_pay a1 a2 a3)) (w := w) (b := b) (hR := hR) ?_
      show Go SC mX10_bows 48 [(0, .ref 0), (1, .int a1), (2, .int a2), (3, .int a3), (4, .int a4), (5, .int (vXX10_numberTrouble a1 0 9 w b))] [.int (vXX10_accept (vXX10_pay a1 a2 a3))] (wXX10_accept (vXX10_pay a1 a2 a3) w) Q
      refine g_iret (pc := 48) dX10_bows_48 rfl ?_
      first | (exfalso; contradiction) | exact cast (by simp only [vXX10_bows, wXX10_bows, if_pos q12, if_pos q27]) h
    · refine g_iload_n (pc := 30) dX10_bows_30 rfl 1 rfl ?_
      refine g_iload_n (pc := 31) dX10_bows_31 rfl 3 rfl ?_
      refine g_iload_n (pc := 32) dX10_bows_32 rfl 2 rfl ?_
      refine g_callS (pc := 33) (M' := mX10_pay) (n := 3) (as := [.int a1, .int a3, .int a2]) (st := [.ref 0]) dX10_bows_33 rfl kX10_296 sX10_pay (Nat.le_of_ble_eq_true rfl) rfl rfl (Nat.le_of_ble_eq_true rfl) ?_
      refine zX10_pay (a1 := a1) (a2 := a3) (a3 := a2) (w := w) (b := b) (hR := hR) ?_
      show Go SC mX10_bows 36 [(0, .ref 0), (1, .int a1), (2, .int a2), (3, .int a3), (4, .int a4), (5, .int (vXX10_numberTrouble a1 0 9 w b))] [.int (vXX10_pay a1 a3 a2), .ref 0] w Q
      refine g_goto (pc := 36) (tgt := 45) dX10_bows_36 (by decide) ?_
      refine g_callV (pc := 45) (M' := mX10_accept) (n := 1) (a := 0) (as := [.int (vXX10_pay a1 a3 a2)]) (st := []) dX10_bows_45 rfl kX10_100 vX10_accept (Nat.le_of_ble_eq_true rfl) rfl qX10 rfl rfl (Nat.le_of_ble_eq_true rfl) ?_
      refine zX10_accept (a1 := (vXX10_pay a1 a3 a2)) (w := w) (b := b) (hR := hR) ?_
      show Go SC mX10_bows 48 [(0, .ref 0), (1, .int a1), (2, .int a2), (3, .int a3), (4, .int a4), (5, .int (vXX10_numberTrouble a1 0 9 w b))] [.int (vXX10_accept (vXX10_pay a1 a3 a2))] (wXX10_accept (vXX10_pay a1 a3 a2) w) Q
      refine g_iret (pc := 48) dX10_bows_48 rfl ?_
      first | (exfalso; contradiction) | exact cast (by simp only [vXX10_bows, wXX10_bows, if_pos q12, if_neg q27]) h
  · refine g_aload_n (pc := 15) dX10_bows_15 rfl 0 rfl ?_
    refine g_iload (pc := 16) dX10_bows_16 5 rfl ?_
    refine g_bipush (pc := 18) (v := (-100)) dX10_bows_18 (by decide) ?_
    refine g_callV (pc := 20) (M' := mX10_refuse) (n := 2) (a := 0) (as := [.int (vXX10_numberTrouble a1 0 9 w b), .int (-100)]) (st := []) dX10_bows_20 rfl kX10_83 vX10_refuse (Nat.le_of_ble_eq_true rfl) rfl qX10 rfl rfl (Nat.le_of_ble_eq_true rfl) ?_
    refine zX10_refuse (a1 := (vXX10_numberTrouble a1 0 9 w b)) (a2 := (-100)) (w := w) (b := b) (hR := hR) ?_
    show Go SC mX10_bows 23 [(0, .ref 0), (1, .int a1), (2, .int a2), (3, .int a3), (4, .int a4), (5, .int (vXX10_numberTrouble a1 0 9 w b))] [.int (vXX10_refuse (vXX10_numberTrouble a1 0 9 w b) (-100))] (wXX10_refuse (vXX10_numberTrouble a1 0 9 w b) (-100) w) Q
    refine g_iret (pc := 23) dX10_bows_23 rfl ?_
    first | (exfalso; contradiction) | exact cast (by simp only [vXX10_bows, wXX10_bows, if_neg q12]) h
def vXX10_deny (a1 : Int32) : Int32 := 0
set_option maxHeartbeats 4000000 in
set_option maxRecDepth 100000 in
theorem zzX10_deny (a1 : Int32) : vXX10_deny a1 = 0 ∨ vXX10_deny a1 = 1 := (Or.inl rfl)
def wXX10_deny (a1 : Int32) (w : Wd) : Wd := si w 0 10 a1
set_option maxHeartbeats 4000000 in
set_option maxRecDepth 100000 in
theorem rXX10_deny (a1 : Int32) (w : Wd) : (wXX10_deny a1 w).2.2 = w.2.2 := rfl
set_option maxHeartbeats 4000000 in
set_option maxRecDepth 100000 in
theorem zX10_deny {a1 : Int32} {w : Wd} {b : Bool} (hR : w.2.2 = RTab b) {Q : Option Value → Wd → Prop} (h : Q (some (.int (vXX10_deny a1))) (wXX10_deny a1 w)) : Cl SC mX10_deny [.ref 0, .int a1] w Q := by
  refine cl_of (by decide) (Nat.le_of_ble_eq_true rfl) ?_
  show Go SC mX10_deny 0 [(0, .ref 0), (1, .int a1)] [] w Q
  refine g_aload_n (pc := 0) dX10_deny_0 rfl 0 rfl ?_
  refine g_iload_n (pc := 1) dX10_deny_1 rfl 1 rfl ?_
  refine g_putI (pc := 2) dX10_deny_2 rfl fX10_107 pX10_10 rfl ?_
  refine g_iconst (pc := 5) dX10_deny_5 c_0 ?_
  refine g_bret (pc := 6) dX10_deny_6 rfl (Or.inl rfl) ?_
  exact h
def vXX10_grant  : Int32 := 1
set_option maxHeartbeats 4000000 in
set_option maxRecDepth 100000 in
theorem zzX10_grant  : vXX10_grant  = 0 ∨ vXX10_grant  = 1 := (Or.inr rfl)
def wXX10_grant (w : Wd) : Wd := si w 0 10 0
set_option maxHeartbeats 4000000 in
set_option maxRecDepth 100000 in
theorem rXX10_grant (w : Wd) : (wXX10_grant w).2.2 = w.2.2 := rfl
set_option maxHeartbeats 4000000 in
set_option maxRecDepth 100000 in
theorem zX10_grant  {w : Wd} {b : Bool} (hR : w.2.2 = RTab b) {Q : Option Value → Wd → Prop} (h : Q (some (.int (vXX10_grant ))) (wXX10_grant w)) : Cl SC mX10_grant [.ref 0] w Q := by
  refine cl_of (by decide) (Nat.le_of_ble_eq_true rfl) ?_
  show Go SC mX10_grant 0 [(0, .ref 0)] [] w Q
  refine g_aload_n (pc := 0) dX10_grant_0 rfl 0 rfl ?_
  refine g_iconst (pc := 1) dX10_grant_1 c_0 ?_
  refine g_putI (pc := 2) dX10_grant_2 rfl fX10_107 pX10_10 rfl ?_
  refine g_iconst (pc := 5) dX10_grant_5 c_1 ?_
  refine g_bret (pc := 6) dX10_grant_6 rfl (Or.inr rfl) ?_
  exact h
def vXX10_trouble (w : Wd) : Int32 := wi w 0 10
set_option maxHeartbeats 4000000 in
set_option maxRecDepth 100000 in
theorem zX10_trouble  {w : Wd} {b : Bool} (hR : w.2.2 = RTab b) {Q : Option Value → Wd → Prop} (h : Q (some (.int (vXX10_trouble w))) w) : Cl SC mX10_trouble [.ref 0] w Q := by
  refine cl_of (by decide) (Nat.le_of_ble_eq_true rfl) ?_
  show Go SC mX10_trouble 0 [(0, .ref 0)] [] w Q
  refine g_aload_n (pc := 0) dX10_trouble_0 rfl 0 rfl ?_
  refine g_getI (pc := 1) (a := 0) dX10_trouble_1 rfl fX10_107 rfl ?_
  refine g_iret (pc := 4) dX10_trouble_4 rfl ?_
  exact h
def vXX11_thrown (w : Wd) : Int32 := wi w 0 0
set_option maxHeartbeats 4000000 in
set_option maxRecDepth 100000 in
theorem zX11_thrown  {w : Wd} (hR : w.2.2 = RM) {Q : Option Value → Wd → Prop} (h : Q (some (.int (vXX11_thrown w))) w) : Cl SR mX11_thrown [.ref 0] w Q := by
  refine cl_of (by decide) (Nat.le_of_ble_eq_true rfl) ?_
  show Go SR mX11_thrown 0 [(0, .ref 0)] [] w Q
  refine g_aload_n (pc := 0) dX11_thrown_0 rfl 0 rfl ?_
  refine g_getI (pc := 1) (a := 0) dX11_thrown_1 rfl fX11_53 rfl ?_
  refine g_iret (pc := 4) dX11_thrown_4 rfl ?_
  exact h
def wXX11_anew (w : Wd) : Wd := si (si w 0 0 0) 0 11 0
set_option maxHeartbeats 4000000 in
set_option maxRecDepth 100000 in
theorem rXX11_anew (w : Wd) : (wXX11_anew w).2.2 = w.2.2 := rfl
set_option maxHeartbeats 4000000 in
set_option maxRecDepth 100000 in
theorem zX11_anew  {w : Wd} (hR : w.2.2 = RM) {Q : Option Value → Wd → Prop} (h : Q none (wXX11_anew w)) : Cl SR mX11_anew [.ref 0] w Q := by
  refine cl_of (by decide) (Nat.le_of_ble_eq_true rfl) ?_
  show Go SR mX11_anew 0 [(0, .ref 0)] [] w Q
  refine g_aload_n (pc := 0) dX11_anew_0 rfl 0 rfl ?_
  refine g_iconst (pc := 1) dX11_anew_1 c_0 ?_
  refine g_putI (pc := 2) dX11_anew_2 rfl fX11_53 pX11_0 rfl ?_
  refine g_aload_n (pc := 5) dX11_anew_5 rfl 0 rfl ?_
  refine g_iconst (pc := 6) dX11_anew_6 c_0 ?_
  refine g_putI (pc := 7) dX11_anew_7 rfl fX11_56 pX11_11 rfl ?_
  refine g_vret (pc := 10) dX11_anew_10 rfl ?_
  exact h
def vXX11_no (a1 : Int32) : Int32 := (-1)
def wXX11_no (a1 : Int32) (w : Wd) : Wd := si w 0 11 a1
set_option maxHeartbeats 4000000 in
set_option maxRecDepth 100000 in
theorem rXX11_no (a1 : Int32) (w : Wd) : (wXX11_no a1 w).2.2 = w.2.2 := rfl
set_option maxHeartbeats 4000000 in
set_option maxRecDepth 100000 in
theorem zX11_no {a1 : Int32} {w : Wd} (hR : w.2.2 = RM) {Q : Option Value → Wd → Prop} (h : Q (some (.int (vXX11_no a1))) (wXX11_no a1 w)) : Cl SR mX11_no [.ref 0, .int a1] w Q := by
  refine cl_of (by decide) (Nat.le_of_ble_eq_true rfl) ?_
  show Go SR mX11_no 0 [(0, .ref 0), (1, .int a1)] [] w Q
  refine g_aload_n (pc := 0) dX11_no_0 rfl 0 rfl ?_
  refine g_iload_n (pc := 1) dX11_no_1 rfl 1 rfl ?_
  refine g_putI (pc := 2) dX11_no_2 rfl fX11_56 pX11_11 rfl ?_
  refine g_iconst (pc := 5) dX11_no_5 cN_1 ?_
  refine g_iret (pc := 6) dX11_no_6 rfl ?_
  exact h
def vXX11_nowhere (a1 : Int32) : Int32 := (-100000)
def wXX11_nowhere (a1 : Int32) (w : Wd) : Wd := si w 0 11 a1
set_option maxHeartbeats 4000000 in
set_option maxRecDepth 100000 in
theorem rXX11_nowhere (a1 : Int32) (w : Wd) : (wXX11_nowhere a1 w).2.2 = w.2.2 := rfl
set_option maxHeartbeats 4000000 in
set_option maxRecDepth 100000 in
theorem zX11_nowhere {a1 : Int32} {w : Wd} (hR : w.2.2 = RM) {Q : Option Value → Wd → Prop} (h : Q (some (.int (vXX11_nowhere a1))) (wXX11_nowhere a1 w)) : Cl SR mX11_nowhere [.ref 0, .int a1] w Q := by
  refine cl_of (by decide) (Nat.le_of_ble_eq_true rfl) ?_
  show Go SR mX11_nowhere 0 [(0, .ref 0), (1, .int a1)] [] w Q
  refine g_aload_n (pc := 0) dX11_nowhere_0 rfl 0 rfl ?_
  refine g_iload_n (pc := 1) dX11_nowhere_1 rfl 1 rfl ?_
  refine g_putI (pc := 2) dX11_nowhere_2 rfl fX11_56 pX11_11 rfl ?_
  refine g_ldc (pc := 5) dX11_nowhere_5 rfl nX11_59 ?_
  refine g_iret (pc := 7) dX11_nowhere_7 rfl ?_
  exact h
def vXX11_isNot (a1 : Int32) : Int32 := 0
set_option maxHeartbeats 4000000 in
set_option maxRecDepth 100000 in
theorem zzX11_isNot (a1 : Int32) : vXX11_isNot a1 = 0 ∨ vXX11_isNot a1 = 1 := (Or.inl rfl)
def wXX11_isNot (a1 : Int32) (w : Wd) : Wd := si w 0 11 a1
set_option maxHeartbeats 4000000 in
set_option maxRecDepth 100000 in
theorem rXX11_isNot (a1 : Int32) (w : Wd) : (wXX11_isNot a1 w).2.2 = w.2.2 := rfl
set_option maxHeartbeats 4000000 in
set_option maxRecDepth 100000 in
theorem zX11_isNot {a1 : Int32} {w : Wd} (hR : w.2.2 = RM) {Q : Option Value → Wd → Prop} (h : Q (some (.int (vXX11_isNot a1))) (wXX11_isNot a1 w)) : Cl SR mX11_isNot [.ref 0, .int a1] w Q := by
  refine cl_of (by decide) (Nat.le_of_ble_eq_true rfl) ?_
  show Go SR mX11_isNot 0 [(0, .ref 0), (1, .int a1)] [] w Q
  refine g_aload_n (pc := 0) dX11_isNot_0 rfl 0 rfl ?_
  refine g_iload_n (pc := 1) dX11_isNot_1 rfl 1 rfl ?_
  refine g_putI (pc := 2) dX11_isNot_2 rfl fX11_56 pX11_11 rfl ?_
  refine g_iconst (pc := 5) dX11_isNot_5 c_0 ?_
  refine g_bret (pc := 6) dX11_isNot_6 rfl (Or.inl rfl) ?_
  exact h
def vXX11_in (a1 : Int32) (a2 : Int32) (a3 : Int32) : Int32 := (if a1 < a2 then 0 else (if a3 < a1 then 0 else 1 : Int32) : Int32)
set_option maxHeartbeats 4000000 in
set_option maxRecDepth 100000 in
theorem zzX11_in (a1 : Int32) (a2 : Int32) (a3 : Int32) : vXX11_in a1 a2 a3 = 0 ∨ vXX11_in a1 a2 a3 = 1 := (z_ite (Or.inl rfl) (z_ite (Or.inl rfl) (Or.inr rfl)))
set_option maxHeartbeats 4000000 in
set_option maxRecDepth 100000 in
theorem zX11_in {a1 : Int32} {a2 : Int32} {a3 : Int32} {w : Wd} (hR : w.2.2 = RM) {Q : Option Value → Wd → Prop} (h : Q (some (.int (vXX11_in a1 a2 a3))) w) : Cl SR mX11_in [.int a1, .int a2, .int a3] w Q := by
  refine cl_of (by decide) (Nat.le_of_ble_eq_true rfl) ?_
  show Go SR mX11_in 0 [(0, .int a1), (1, .int a2), (2, .int a3)] [] w Q
  refine g_iload_n (pc := 0) dX11_in_0 rfl 0 rfl ?_
  refine g_iload_n (pc := 1) dX11_in_1 rfl 1 rfl ?_
  have hJ : Go SR mX11_in 15 [(0, .int a1), (1, .int a2), (2, .int a3)] [.int (if a1 < a2 then 0 else (if a3 < a1 then 0 else 1 : Int32) : Int32)] w Q := by
    refine g_bret (pc := 15) dX11_in_15 rfl (z_ite (Or.inl rfl) (z_ite (Or.inl rfl) (Or.inr rfl))) ?_
    exact h
  refine g_icmp_lt (pc := 2) (tgt := 14) dX11_in_2 (by decide) (fun q2 => ?_) (fun q2 => ?_)
  · refine g_iconst (pc := 14) dX11_in_14 c_0 ?_
    first | (exfalso; contradiction) | exact cast (by simp only [if_pos q2]) hJ
  · refine g_iload_n (pc := 5) dX11_in_5 rfl 0 rfl ?_
    refine g_iload_n (pc := 6) dX11_in_6 rfl 2 rfl ?_
    refine g_icmp_gt (pc := 7) (tgt := 14) dX11_in_7 (by decide) (fun q7 => ?_) (fun q7 => ?_)
    · refine g_iconst (pc := 14) dX11_in_14 c_0 ?_
      first | (exfalso; contradiction) | exact cast (by simp only [if_neg q2, if_pos q7]) hJ
    · refine g_iconst (pc := 10) dX11_in_10 c_1 ?_
      refine g_goto (pc := 11) (tgt := 15) dX11_in_11 (by decide) ?_
      first | (exfalso; contradiction) | exact cast (by simp only [if_neg q2, if_neg q7]) hJ
def vXX11_hasBit (a1 : Int32) (a2 : Int32) : Int32 := (if ((a1 >>> (a2 &&& 31)) &&& 1) = 1 then 1 else 0 : Int32)
set_option maxHeartbeats 4000000 in
set_option maxRecDepth 100000 in
theorem zzX11_hasBit (a1 : Int32) (a2 : Int32) : vXX11_hasBit a1 a2 = 0 ∨ vXX11_hasBit a1 a2 = 1 := (z_ite (Or.inr rfl) (Or.inl rfl))
set_option maxHeartbeats 4000000 in
set_option maxRecDepth 100000 in
theorem zX11_hasBit {a1 : Int32} {a2 : Int32} {w : Wd} (hR : w.2.2 = RM) {Q : Option Value → Wd → Prop} (h : Q (some (.int (vXX11_hasBit a1 a2))) w) : Cl SR mX11_hasBit [.int a1, .int a2] w Q := by
  refine cl_of (by decide) (Nat.le_of_ble_eq_true rfl) ?_
  show Go SR mX11_hasBit 0 [(0, .int a1), (1, .int a2)] [] w Q
  refine g_iload_n (pc := 0) dX11_hasBit_0 rfl 0 rfl ?_
  refine g_iload_n (pc := 1) dX11_hasBit_1 rfl 1 rfl ?_
  refine g_ishr (pc := 2) dX11_hasBit_2 ?_
  refine g_iconst (pc := 3) dX11_hasBit_3 c_1 ?_
  refine g_iand (pc := 4) dX11_hasBit_4 ?_
  refine g_iconst (pc := 5) dX11_hasBit_5 c_1 ?_
  have hJ : Go SR mX11_hasBit 14 [(0, .int a1), (1, .int a2)] [.int (if ((a1 >>> (a2 &&& 31)) &&& 1) = 1 then 1 else 0 : Int32)] w Q := by
    refine g_bret (pc := 14) dX11_hasBit_14 rfl (z_ite (Or.inr rfl) (Or.inl rfl)) ?_
    exact h
  refine g_icmp_ne (pc := 6) (tgt := 13) dX11_hasBit_6 (by decide) (fun q6 => ?_) (fun q6 => ?_)
  · refine g_iconst (pc := 13) dX11_hasBit_13 c_0 ?_
    first | (exfalso; contradiction) | exact cast (by simp only [if_neg q6]) hJ
  · refine g_iconst (pc := 9) dX11_hasBit_9 c_1 ?_
    refine g_goto (pc := 10) (tgt := 14) dX11_hasBit_10 (by decide) ?_
    first | (exfalso; contradiction) | exact cast (by simp only [if_pos q6]) hJ
def vXX11_away (a1 : Int32) : Int32 := (if 0 ≤ a1 then a1 else -a1 : Int32)
set_option maxHeartbeats 4000000 in
set_option maxRecDepth 100000 in
theorem zX11_away {a1 : Int32} {w : Wd} (hR : w.2.2 = RM) {Q : Option Value → Wd → Prop} (h : Q (some (.int (vXX11_away a1))) w) : Cl SR mX11_away [.int a1] w Q := by
  refine cl_of (by decide) (Nat.le_of_ble_eq_true rfl) ?_
  show Go SR mX11_away 0 [(0, .int a1)] [] w Q
  refine g_iload_n (pc := 0) dX11_away_0 rfl 0 rfl ?_
  have hJ : Go SR mX11_away 10 [(0, .int a1)] [.int (if 0 ≤ a1 then a1 else -a1 : Int32)] w Q := by
    refine g_iret (pc := 10) dX11_away_10 rfl ?_
    exact h
  refine g_if_ge (pc := 1) (tgt := 9) dX11_away_1 (by decide) (fun q1 => ?_) (fun q1 => ?_)
  · refine g_iload_n (pc := 9) dX11_away_9 rfl 0 rfl ?_
    first | (exfalso; contradiction) | exact cast (by simp only [if_pos q1]) hJ
  · refine g_iload_n (pc := 4) dX11_away_4 rfl 0 rfl ?_
    refine g_ineg (pc := 5) dX11_away_5 ?_
    refine g_goto (pc := 6) (tgt := 10) dX11_away_6 (by decide) ?_
    first | (exfalso; contradiction) | exact cast (by simp only [if_neg q1]) hJ
def vXX11_isSmall (a1 : Int32) : Int32 := (if a1 < 97 then 0 else (if 122 < a1 then 0 else 1 : Int32) : Int32)
set_option maxHeartbeats 4000000 in
set_option maxRecDepth 100000 in
theorem zzX11_isSmall (a1 : Int32) : vXX11_isSmall a1 = 0 ∨ vXX11_isSmall a1 = 1 := (z_ite (Or.inl rfl) (z_ite (Or.inl rfl) (Or.inr rfl)))
set_option maxHeartbeats 4000000 in
set_option maxRecDepth 100000 in
theorem zX11_isSmall {a1 : Int32} {w : Wd} (hR : w.2.2 = RM) {Q : Option Value → Wd → Prop} (h : Q (some (.int (vXX11_isSmall a1))) w) : Cl SR mX11_isSmall [.int a1] w Q := by
  refine cl_of (by decide) (Nat.le_of_ble_eq_true rfl) ?_
  show Go SR mX11_isSmall 0 [(0, .int a1)] [] w Q
  refine g_iload_n (pc := 0) dX11_isSmall_0 rfl 0 rfl ?_
  refine g_bipush (pc := 1) (v := 97) dX11_isSmall_1 (by decide) ?_
  have hJ : Go SR mX11_isSmall 17 [(0, .int a1)] [.int (if a1 < 97 then 0 else (if 122 < a1 then 0 else 1 : Int32) : Int32)] w Q := by
    refine g_bret (pc := 17) dX11_isSmall_17 rfl (z_ite (Or.inl rfl) (z_ite (Or.inl rfl) (Or.inr rfl))) ?_
    exact h
  refine g_icmp_lt (pc := 3) (tgt := 16) dX11_isSmall_3 (by decide) (fun q3 => ?_) (fun q3 => ?_)
  · refine g_iconst (pc := 16) dX11_isSmall_16 c_0 ?_
    first | (exfalso; contradiction) | exact cast (by simp only [if_pos q3]) hJ
  · refine g_iload_n (pc := 6) dX11_isSmall_6 rfl 0 rfl ?_
    refine g_bipush (pc := 7) (v := 122) dX11_isSmall_7 (by decide) ?_
    refine g_icmp_gt (pc := 9) (tgt := 16) dX11_isSmall_9 (by decide) (fun q9 => ?_) (fun q9 => ?_)
    · refine g_iconst (pc := 16) dX11_isSmall_16 c_0 ?_
      first | (exfalso; contradiction) | exact cast (by simp only [if_neg q3, if_pos q9]) hJ
    · refine g_iconst (pc := 12) dX11_isSmall_12 c_1 ?_
      refine g_goto (pc := 13) (tgt := 17) dX11_isSmall_13 (by decide) ?_
      first | (exfalso; contradiction) | exact cast (by simp only [if_neg q3, if_neg q9]) hJ
def vXX11_isDigit (a1 : Int32) : Int32 := (if a1 < 48 then 0 else (if 57 < a1 then 0 else 1 : Int32) : Int32)
set_option maxHeartbeats 4000000 in
set_option maxRecDepth 100000 in
theorem zzX11_isDigit (a1 : Int32) : vXX11_isDigit a1 = 0 ∨ vXX11_isDigit a1 = 1 := (z_ite (Or.inl rfl) (z_ite (Or.inl rfl) (Or.inr rfl)))
set_option maxHeartbeats 4000000 in
set_option maxRecDepth 100000 in
theorem zX11_isDigit {a1 : Int32} {w : Wd} (hR : w.2.2 = RM) {Q : Option Value → Wd → Prop} (h : Q (some (.int (vXX11_isDigit a1))) w) : Cl SR mX11_isDigit [.int a1] w Q := by
  refine cl_of (by decide) (Nat.le_of_ble_eq_true rfl) ?_
  show Go SR mX11_isDigit 0 [(0, .int a1)] [] w Q
  refine g_iload_n (pc := 0) dX11_isDigit_0 rfl 0 rfl ?_
  refine g_bipush (pc := 1) (v := 48) dX11_isDigit_1 (by decide) ?_
  have hJ : Go SR mX11_isDigit 17 [(0, .int a1)] [.int (if a1 < 48 then 0 else (if 57 < a1 then 0 else 1 : Int32) : Int32)] w Q := by
    refine g_bret (pc := 17) dX11_isDigit_17 rfl (z_ite (Or.inl rfl) (z_ite (Or.inl rfl) (Or.inr rfl))) ?_
    exact h
  refine g_icmp_lt (pc := 3) (tgt := 16) dX11_isDigit_3 (by decide) (fun q3 => ?_) (fun q3 => ?_)
  · refine g_iconst (pc := 16) dX11_isDigit_16 c_0 ?_
    first | (exfalso; contradiction) | exact cast (by simp only [if_pos q3]) hJ
  · refine g_iload_n (pc := 6) dX11_isDigit_6 rfl 0 rfl ?_
    refine g_bipush (pc := 7) (v := 57) dX11_isDigit_7 (by decide) ?_
    refine g_icmp_gt (pc := 9) (tgt := 16) dX11_isDigit_9 (by decide) (fun q9 => ?_) (fun q9 => ?_)
    · refine g_iconst (pc := 16) dX11_isDigit_16 c_0 ?_
      first | (exfalso; contradiction) | exact cast (by simp only [if_neg q3, if_pos q9]) hJ
    · refine g_iconst (pc := 12) dX11_isDigit_12 c_1 ?_
      refine g_goto (pc := 13) (tgt := 17) dX11_isDigit_13 (by decide) ?_
      first | (exfalso; contradiction) | exact cast (by simp only [if_neg q3, if_neg q9]) hJ
def wXX11_wrong (a1 : Int32) (a2 : Int32) (w : Wd) : Wd := if (wi w 0 13) = 0 then si (si (si w 0 13 1) 0 9 a1) 0 10 a2 else w
set_option maxHeartbeats 4000000 in
set_option maxRecDepth 100000 in
theorem rXX11_wrong (a1 : Int32) (a2 : Int32) (w : Wd) : (wXX11_wrong a1 a2 w).2.2 = w.2.2 := by
  unfold wXX11_wrong
  (repeat' split) <;> simp only [si_R, sl_R, pf_R, rXX0_measure, rXX7_put, rXX7_step, rXX1_add, rXX2_clear, rXX2_addUnsure, rXX2_addSeen, rXX4_forgetAll, rXX7_copy, rXX8_fail, rXX8_isWhole, rXX10_accept, rXX10_refuse, rXX10_bows, rXX10_deny, rXX10_grant, rXX11_anew, rXX11_no, rXX11_nowhere, rXX11_isNot]
set_option maxHeartbeats 4000000 in
set_option maxRecDepth 100000 in
theorem zX11_wrong {a1 : Int32} {a2 : Int32} {w : Wd} (hR : w.2.2 = RM) {Q : Option Value → Wd → Prop} (h : Q none (wXX11_wrong a1 a2 w)) : Cl SR mX11_wrong [.ref 0, .int a1, .int a2] w Q := by
  refine cl_of (by decide) (Nat.le_of_ble_eq_true rfl) ?_
  show Go SR mX11_wrong 0 [(0, .ref 0), (1, .int a1), (2, .int a2)] [] w Q
  refine g_aload_n (pc := 0) dX11_wrong_0 rfl 0 rfl ?_
  refine g_getZ (pc := 1) (a := 0) dX11_wrong_1 rfl fX11_95 rfl ?_
  refine g_if_eq (pc := 4) (tgt := 8) dX11_wrong_4 (by decide) (fun q4 => ?_) (fun q4 => ?_)
  · refine g_aload_n (pc := 8) dX11_wrong_8 rfl 0 rfl ?_
    refine g_iconst (pc := 9) dX11_wrong_9 c_1 ?_
    refine g_putZ (pc := 10) dX11_wrong_10 rfl fX11_95 pX11_13 rfl (Or.inr rfl) ?_
    refine g_aload_n (pc := 13) dX11_wrong_13 rfl 0 rfl ?_
    refine g_iload_n (pc := 14) dX11_wrong_14 rfl 1 rfl ?_
    refine g_putI (pc := 15) dX11_wrong_15 rfl fX11_99 pX11_9 rfl ?_
    refine g_aload_n (pc := 18) dX11_wrong_18 rfl 0 rfl ?_
    refine g_iload_n (pc := 19) dX11_wrong_19 rfl 2 rfl ?_
    refine g_putI (pc := 20) dX11_wrong_20 rfl fX11_13 pX11_10 rfl ?_
    refine g_vret (pc := 23) dX11_wrong_23 rfl ?_
    first | (exfalso; contradiction) | exact cast (by simp only [wXX11_wrong, if_pos q4]) h
  · refine g_vret (pc := 7) dX11_wrong_7 rfl ?_
    first | (exfalso; contradiction) | exact cast (by simp only [wXX11_wrong, if_neg q4]) h
def vXX11_numberHere (a1 : Int32) (a2 : Int32) (w : Wd) : Int32 := if (wi w 0 13) = 0 then if (wi w 0 6) = 3 then if (vXX11_in (wi w 0 7) a1 a2) = 0 then if (wi (wXX11_wrong 4 (wi w 0 4) w) 0 13) = 0 then wi (wXX11_wrong 4 (wi w 0 4) w) 0 7 else a1 else if (wi w 0 13) = 0 then wi w 0 7 else a1 else if (wi (wXX11_wrong 1 (wi w 0 4) w) 0 13) = 0 then wi (wXX11_wrong 1 (wi w 0 4) w) 0 7 else a1 else a1
def wXX11_numberHere (a1 : Int32) (a2 : Int32) (w : Wd) : Wd := if (wi w 0 13) = 0 then if (wi w 0 6) = 3 then if (vXX11_in (wi w 0 7) a1 a2) = 0 then wXX11_wrong 4 (wi w 0 4) w else w else wXX11_wrong 1 (wi w 0 4) w else w
set_option maxHeartbeats 4000000 in
set_option maxRecDepth 100000 in
theorem rXX11_numberHere (a1 : Int32) (a2 : Int32) (w : Wd) : (wXX11_numberHere a1 a2 w).2.2 = w.2.2 := by
  unfold wXX11_numberHere
  (repeat' split) <;> simp only [si_R, sl_R, pf_R, rXX0_measure, rXX7_put, rXX7_step, rXX1_add, rXX2_clear, rXX2_addUnsure, rXX2_addSeen, rXX4_forgetAll, rXX7_copy, rXX8_fail, rXX8_isWhole, rXX10_accept, rXX10_refuse, rXX10_bows, rXX10_deny, rXX10_grant, rXX11_anew, rXX11_no, rXX11_nowhere, rXX11_isNot, rXX11_wrong]
set_option maxHeartbeats 4000000 in
set_option maxRecDepth 100000 in
theorem zX11_numberHere {a1 : Int32} {a2 : Int32} {w : Wd} (hR : w.2.2 = RM) {Q : Option Value → Wd → Prop} (h : Q (some (.int (vXX11_numberHere a1 a2 w))) (wXX11_numberHere a1 a2 w)) : Cl SR mX11_numberHere [.ref 0, .int a1, .int a2] w Q := by
  refine cl_of (by decide) (Nat.le_of_ble_eq_true rfl) ?_
  show Go SR mX11_numberHere 0 [(0, .ref 0), (1, .int a1), (2, .int a2)] [] w Q
  refine g_aload_n (pc := 0) dX11_numberHere_0 rfl 0 rfl ?_
  refine g_getZ (pc := 1) (a := 0) dX11_numberHere_1 rfl fX11_95 rfl ?_
  refine g_if_eq (pc := 4) (tgt := 9) dX11_numberHere_4 (by decide) (fun q4 => ?_) (fun q4 => ?_)
  · refine g_aload_n (pc := 9) dX11_numberHere_9 rfl 0 rfl ?_
    refine g_getI (pc := 10) (a := 0) dX11_numberHere_10 rfl fX11_85 rfl ?_
    refine g_iconst (pc := 13) dX11_numberHere_13 c_3 ?_
    refine g_icmp_eq (pc := 14) (tgt := 29) dX11_numberHere_14 (by decide) (fun q14 => ?_) (fun q14 => ?_)
    · refine g_aload_n (pc := 29) dX11_numberHere_29 rfl 0 rfl ?_
      refine g_getI (pc := 30) (a := 0) dX11_numberHere_30 rfl fX11_82 rfl ?_
      refine g_iload_n (pc := 33) dX11_numberHere_33 rfl 1 rfl ?_
      refine g_iload_n (pc := 34) dX11_numberHere_34 rfl 2 rfl ?_
      refine g_callS (pc := 35) (M' := mX11_in) (n := 3) (as := [.int (wi w 0 7), .int a1, .int a2]) (st := []) dX11_numberHere_35 rfl kX11_143 sX11_in (Nat.le_of_ble_eq_true rfl) rfl rfl (Nat.le_of_ble_eq_true rfl) ?_
      refine zX11_in (a1 := (wi w 0 7)) (a2 := a1) (a3 := a2) (w := w) (hR := hR) ?_
      show Go SR mX11_numberHere 38 [(0, .ref 0), (1, .int a1), (2, .int a2)] [.int (vXX11_in (wi w 0 7) a1 a2)] w Q
      refine g_if_ne (pc := 38) (tgt := 50) dX11_numberHere_38 (by decide) (fun q38 => ?_) (fun q38 => ?_)
      · refine g_aload_n (pc := 50) dX11_numberHere_50 rfl 0 rfl ?_
        refine g_getZ (pc := 51) (a := 0) dX11_numberHere_51 rfl fX11_95 rfl ?_
        refine g_if_eq (pc := 54) (tgt := 61) dX11_numberHere_54 (by decide) (fun q54 => ?_) (fun q54 => ?_)
        · refine g_aload_n (pc := 61) dX11_numberHere_61 rfl 0 rfl ?_
          refine g_getI (pc := 62) (a := 0) dX11_numberHere_62 rfl fX11_82 rfl ?_
          refine g_iret (pc := 65) dX11_numberHere_65 rfl ?_
          first | (exfalso; contradiction) | exact cast (by simp only [vXX11_numberHere, wXX11_numberHere, if_pos q4, if_pos q14, if_neg q38, if_pos q54]) h
        · refine g_iload_n (pc := 57) dX11_numberHere_57 rfl 1 rfl ?_
          refine g_goto (pc := 58) (tgt := 65) dX11_numberHere_58 (by decide) ?_
          refine g_iret (pc := 65) dX11_numberHere_65 rfl ?_
          first | (exfalso; contradiction) | exact cast (by simp only [vXX11_numberHere, wXX11_numberHere, if_pos q4, if_pos q14, if_neg q38, if_neg q54]) h
      · refine g_aload_n (pc := 41) dX11_numberHere_41 rfl 0 rfl ?_
        refine g_iconst (pc := 42) dX11_numberHere_42 c_4 ?_
        refine g_aload_n (pc := 43) dX11_numberHere_43 rfl 0 rfl ?_
        refine g_getI (pc := 44) (a := 0) dX11_numberHere_44 rfl fX11_76 rfl ?_
        refine g_callV (pc := 47) (M' := mX11_wrong) (n := 2) (a := 0) (as := [.int 4, .int (wi w 0 4)]) (st := []) dX11_numberHere_47 rfl kX11_122 vX11_wrong (Nat.le_of_ble_eq_true rfl) rfl qX11 rfl rfl (Nat.le_of_ble_eq_true rfl) ?_
        refine zX11_wrong (a1 := 4) (a2 := (wi w 0 4)) (w := w) (hR := hR) ?_
        show Go SR mX11_numberHere 50 [(0, .ref 0), (1, .int a1), (2, .int a2)] [] (wXX11_wrong 4 (wi w 0 4) w) Q
        refine g_aload_n (pc := 50) dX11_numberHere_50 rfl 0 rfl ?_
        refine g_getZ (pc := 51) (a := 0) dX11_numberHere_51 rfl fX11_95 rfl ?_
        refine g_if_eq (pc := 54) (tgt := 61) dX11_numberHere_54 (by decide) (fun q54 => ?_) (fun q54 => ?_)
        · refine g_aload_n (pc := 61) dX11_numberHere_61 rfl 0 rfl ?_
          refine g_getI (pc := 62) (a := 0) dX11_numberHere_62 rfl fX11_82 rfl ?_
          refine g_iret (pc := 65) dX11_numberHere_65 rfl ?_
          first | (exfalso; contradiction) | exact cast (by simp only [vXX11_numberHere, wXX11_numberHere, if_pos q4, if_pos q14, if_pos q38, if_pos q54]) h
        · refine g_iload_n (pc := 57) dX11_numberHere_57 rfl 1 rfl ?_
          refine g_goto (pc := 58) (tgt := 65) dX11_numberHere_58 (by decide) ?_
          refine g_iret (pc := 65) dX11_numberHere_65 rfl ?_
          first | (exfalso; contradiction) | exact cast (by simp only [vXX11_numberHere, wXX11_numberHere, if_pos q4, if_pos q14, if_pos q38, if_neg q54]) h
    · refine g_aload_n (pc := 17) dX11_numberHere_17 rfl 0 rfl ?_
      refine g_iconst (pc := 18) dX11_numberHere_18 c_1 ?_
      refine g_aload_n (pc := 19) dX11_numberHere_19 rfl 0 rfl ?_
      refine g_getI (pc := 20) (a := 0) dX11_numberHere_20 rfl fX11_76 rfl ?_
      refine g_callV (pc := 23) (M' := mX11_wrong) (n := 2) (a := 0) (as := [.int 1, .int (wi w 0 4)]) (st := []) dX11_numberHere_23 rfl kX11_122 vX11_wrong (Nat.le_of_ble_eq_true rfl) rfl qX11 rfl rfl (Nat.le_of_ble_eq_true rfl) ?_
      refine zX11_wrong (a1 := 1) (a2 := (wi w 0 4)) (w := w) (hR := hR) ?_
      show Go SR mX11_numberHere 26 [(0, .ref 0), (1, .int a1), (2, .int a2)] [] (wXX11_wrong 1 (wi w 0 4) w) Q
      refine g_goto (pc := 26) (tgt := 50) dX11_numberHere_26 (by decide) ?_
      refine g_aload_n (pc := 50) dX11_numberHere_50 rfl 0 rfl ?_
      refine g_getZ (pc := 51) (a := 0) dX11_numberHere_51 rfl fX11_95 rfl ?_
      refine g_if_eq (pc := 54) (tgt := 61) dX11_numberHere_54 (by decide) (fun q54 => ?_) (fun q54 => ?_)
      · refine g_aload_n (pc := 61) dX11_numberHere_61 rfl 0 rfl ?_
        refine g_getI (pc := 62) (a := 0) dX11_numberHere_62 rfl fX11_82 rfl ?_
        refine g_iret (pc := 65) dX11_numberHere_65 rfl ?_
        first | (exfalso; contradiction) | exact cast (by simp only [vXX11_numberHere, wXX11_numberHere, if_pos q4, if_neg q14, if_pos q54]) h
      · refine g_iload_n (pc := 57) dX11_numberHere_57 rfl 1 rfl ?_
        refine g_goto (pc := 58) (tgt := 65) dX11_numberHere_58 (by decide) ?_
        refine g_iret (pc := 65) dX11_numberHere_65 rfl ?_
        first | (exfalso; contradiction) | exact cast (by simp only [vXX11_numberHere, wXX11_numberHere, if_pos q4, if_neg q14, if_neg q54]) h
  · refine g_iload_n (pc := 7) dX11_numberHere_7 rfl 1 rfl ?_
    refine g_iret (pc := 8) dX11_numberHere_8 rfl ?_
    first | (exfalso; contradiction) | exact cast (by simp only [vXX11_numberHere, wXX11_numberHere, if_neg q4]) h
def vXX11_fault (w : Wd) : Int32 := wi (si w 0 0 0) 0 9
def wXX11_fault (w : Wd) : Wd := si w 0 0 0
set_option maxHeartbeats 4000000 in
set_option maxRecDepth 100000 in
theorem rXX11_fault (w : Wd) : (wXX11_fault w).2.2 = w.2.2 := rfl
set_option maxHeartbeats 4000000 in
set_option maxRecDepth 100000 in
theorem zX11_fault  {w : Wd} (hR : w.2.2 = RM) {Q : Option Value → Wd → Prop} (h : Q (some (.int (vXX11_fault w))) (wXX11_fault w)) : Cl SR mX11_fault [.ref 0] w Q := by
  refine cl_of (by decide) (Nat.le_of_ble_eq_true rfl) ?_
  show Go SR mX11_fault 0 [(0, .ref 0)] [] w Q
  refine g_aload_n (pc := 0) dX11_fault_0 rfl 0 rfl ?_
  refine g_iconst (pc := 1) dX11_fault_1 c_0 ?_
  refine g_putI (pc := 2) dX11_fault_2 rfl fX11_53 pX11_0 rfl ?_
  refine g_aload_n (pc := 5) dX11_fault_5 rfl 0 rfl ?_
  refine g_getI (pc := 6) (a := 0) dX11_fault_6 rfl fX11_99 rfl ?_
  refine g_iret (pc := 9) dX11_fault_9 rfl ?_
  exact h
def vXX11_where (w : Wd) : Int32 := (if (wi (si w 0 0 0) 0 11) = 4 then wi (si w 0 0 0) 0 10 else (-1) : Int32)
def wXX11_where (w : Wd) : Wd := si w 0 0 0
set_option maxHeartbeats 4000000 in
set_option maxRecDepth 100000 in
theorem rXX11_where (w : Wd) : (wXX11_where w).2.2 = w.2.2 := rfl
set_option maxHeartbeats 4000000 in
set_option maxRecDepth 100000 in
theorem zX11_where  {w : Wd} (hR : w.2.2 = RM) {Q : Option Value → Wd → Prop} (h : Q (some (.int (vXX11_where w))) (wXX11_where w)) : Cl SR mX11_where [.ref 0] w Q := by
  refine cl_of (by decide) (Nat.le_of_ble_eq_true rfl) ?_
  show Go SR mX11_where 0 [(0, .ref 0)] [] w Q
  refine g_aload_n (pc := 0) dX11_where_0 rfl 0 rfl ?_
  refine g_iconst (pc := 1) dX11_where_1 c_0 ?_
  refine g_putI (pc := 2) dX11_where_2 rfl fX11_53 pX11_0 rfl ?_
  refine g_aload_n (pc := 5) dX11_where_5 rfl 0 rfl ?_
  refine g_getI (pc := 6) (a := 0) dX11_where_6 rfl fX11_56 rfl ?_
  refine g_iconst (pc := 9) dX11_where_9 c_4 ?_
  have hJ : Go SR mX11_where 21 [(0, .ref 0)] [.int (if (wi (si w 0 0 0) 0 11) = 4 then wi (si w 0 0 0) 0 10 else (-1) : Int32)] (si w 0 0 0) Q := by
    refine g_iret (pc := 21) dX11_where_21 rfl ?_
    exact h
  refine g_icmp_ne (pc := 10) (tgt := 20) dX11_where_10 (by decide) (fun q10 => ?_) (fun q10 => ?_)
  · refine g_iconst (pc := 20) dX11_where_20 cN_1 ?_
    first | (exfalso; contradiction) | exact cast (by simp only [if_neg q10]) hJ
  · refine g_aload_n (pc := 13) dX11_where_13 rfl 0 rfl ?_
    refine g_getI (pc := 14) (a := 0) dX11_where_14 rfl fX11_13 rfl ?_
    refine g_goto (pc := 17) (tgt := 21) dX11_where_17 (by decide) ?_
    first | (exfalso; contradiction) | exact cast (by simp only [if_pos q10]) hJ
def vXX11_why (a1 : Int32) (a2 : Int32) : Int32 := (if a1 = 0 then 1 else (if a2 = 0 then 2 else 0 : Int32) : Int32)
set_option maxHeartbeats 4000000 in
set_option maxRecDepth 100000 in
theorem zX11_why {a1 : Int32} {a2 : Int32} {w : Wd} (hR : w.2.2 = RM) {Q : Option Value → Wd → Prop} (h : Q (some (.int (vXX11_why a1 a2))) w) : Cl SR mX11_why [.ref 0, .int a1, .int a2] w Q := by
  refine cl_of (by decide) (Nat.le_of_ble_eq_true rfl) ?_
  show Go SR mX11_why 0 [(0, .ref 0), (1, .int a1), (2, .int a2)] [] w Q
  refine g_iload_n (pc := 0) dX11_why_0 rfl 1 rfl ?_
  have hJ : Go SR mX11_why 17 [(0, .ref 0), (1, .int a1), (2, .int a2)] [.int (if a1 = 0 then 1 else (if a2 = 0 then 2 else 0 : Int32) : Int32)] w Q := by
    refine g_iret (pc := 17) dX11_why_17 rfl ?_
    exact h
  refine g_if_ne (pc := 1) (tgt := 8) dX11_why_1 (by decide) (fun q1 => ?_) (fun q1 => ?_)
  · refine g_iload_n (pc := 8) dX11_why_8 rfl 2 rfl ?_
    refine g_if_eq (pc := 9) (tgt := 16) dX11_why_9 (by decide) (fun q9 => ?_) (fun q9 => ?_)
    · refine g_iconst (pc := 16) dX11_why_16 c_2 ?_
      first | (exfalso; contradiction) | exact cast (by simp only [if_neg q1, if_pos q9]) hJ
    · refine g_iconst (pc := 12) dX11_why_12 c_0 ?_
      refine g_goto (pc := 13) (tgt := 17) dX11_why_13 (by decide) ?_
      first | (exfalso; contradiction) | exact cast (by simp only [if_neg q1, if_neg q9]) hJ
  · refine g_iconst (pc := 4) dX11_why_4 c_1 ?_
    refine g_goto (pc := 5) (tgt := 17) dX11_why_5 (by decide) ?_
    first | (exfalso; contradiction) | exact cast (by simp only [if_pos q1]) hJ
def vXX11_isNothing (w : Wd) : Int32 := (if (wi w 0 23) = 0 then 1 else 0 : Int32)
set_option maxHeartbeats 4000000 in
set_option maxRecDepth 100000 in
theorem zzX11_isNothing (w : Wd) : vXX11_isNothing w = 0 ∨ vXX11_isNothing w = 1 := (z_ite (Or.inr rfl) (Or.inl rfl))
set_option maxHeartbeats 4000000 in
set_option maxRecDepth 100000 in
theorem zX11_isNothing  {w : Wd} (hR : w.2.2 = RM) {Q : Option Value → Wd → Prop} (h : Q (some (.int (vXX11_isNothing w))) w) : Cl SR mX11_isNothing [.ref 0] w Q := by
  refine cl_of (by decide) (Nat.le_of_ble_eq_true rfl) ?_
  show Go SR mX11_isNothing 0 [(0, .ref 0)] [] w Q
  refine g_aload_n (pc := 0) dX11_isNothing_0 rfl 0 rfl ?_
  refine g_getI (pc := 1) (a := 0) dX11_isNothing_1 rfl fX11_169 rfl ?_
  have hJ : Go SR mX11_isNothing 12 [(0, .ref 0)] [.int (if (wi w 0 23) = 0 then 1 else 0 : Int32)] w Q := by
    refine g_bret (pc := 12) dX11_isNothing_12 rfl (z_ite (Or.inr rfl) (Or.inl rfl)) ?_
    exact h
  refine g_if_ne (pc := 4) (tgt := 11) dX11_isNothing_4 (by decide) (fun q4 => ?_) (fun q4 => ?_)
  · refine g_iconst (pc := 11) dX11_isNothing_11 c_0 ?_
    first | (exfalso; contradiction) | exact cast (by simp only [if_neg q4]) hJ
  · refine g_iconst (pc := 7) dX11_isNothing_7 c_1 ?_
    refine g_goto (pc := 8) (tgt := 12) dX11_isNothing_8 (by decide) ?_
    first | (exfalso; contradiction) | exact cast (by simp only [if_pos q4]) hJ
def vXX11_isHigh (w : Wd) : Int32 := (if 9999 < (vXX11_away (wi w 0 23)) then 1 else (if (wi w 0 24) ≤ 9999 then 0 else 1 : Int32) : Int32)
set_option maxHeartbeats 4000000 in
set_option maxRecDepth 100000 in
theorem zzX11_isHigh (w : Wd) : vXX11_isHigh w = 0 ∨ vXX11_isHigh w = 1 := (z_ite (Or.inr rfl) (z_ite (Or.inl rfl) (Or.inr rfl)))
set_option maxHeartbeats 4000000 in
set_option maxRecDepth 100000 in
theorem zX11_isHigh  {w : Wd} (hR : w.2.2 = RM) {Q : Option Value → Wd → Prop} (h : Q (some (.int (vXX11_isHigh w))) w) : Cl SR mX11_isHigh [.ref 0] w Q := by
  refine cl_of (by decide) (Nat.le_of_ble_eq_true rfl) ?_
  show Go SR mX11_isHigh 0 [(0, .ref 0)] [] w Q
  refine g_aload_n (pc := 0) dX11_isHigh_0 rfl 0 rfl ?_
  refine g_getI (pc := 1) (a := 0) dX11_isHigh_1 rfl fX11_169 rfl ?_
  refine g_callS (pc := 4) (M' := mX11_away) (n := 1) (as := [.int (wi w 0 23)]) (st := []) dX11_isHigh_4 rfl kX11_60 sX11_away (Nat.le_of_ble_eq_true rfl) rfl rfl (Nat.le_of_ble_eq_true rfl) ?_
  refine zX11_away (a1 := (wi w 0 23)) (w := w) (hR := hR) ?_
  show Go SR mX11_isHigh 7 [(0, .ref 0)] [.int (vXX11_away (wi w 0 23))] w Q
  refine g_sipush (pc := 7) (v := 9999) dX11_isHigh_7 (by decide) ?_
  have hJ : Go SR mX11_isHigh 28 [(0, .ref 0)] [.int (if 9999 < (vXX11_away (wi w 0 23)) then 1 else (if (wi w 0 24) ≤ 9999 then 0 else 1 : Int32) : Int32)] w Q := by
    refine g_bret (pc := 28) dX11_isHigh_28 rfl (z_ite (Or.inr rfl) (z_ite (Or.inl rfl) (Or.inr rfl))) ?_
    exact h
  refine g_icmp_gt (pc := 10) (tgt := 23) dX11_isHigh_10 (by decide) (fun q10 => ?_) (fun q10 => ?_)
  · refine g_iconst (pc := 23) dX11_isHigh_23 c_1 ?_
    refine g_goto (pc := 24) (tgt := 28) dX11_isHigh_24 (by decide) ?_
    first | (exfalso; contradiction) | exact cast (by simp only [if_pos q10]) hJ
  · refine g_aload_n (pc := 13) dX11_isHigh_13 rfl 0 rfl ?_
    refine g_getI (pc := 14) (a := 0) dX11_isHigh_14 rfl fX11_172 rfl ?_
    refine g_sipush (pc := 17) (v := 9999) dX11_isHigh_17 (by decide) ?_
    refine g_icmp_le (pc := 20) (tgt := 27) dX11_isHigh_20 (by decide) (fun q20 => ?_) (fun q20 => ?_)
    · refine g_iconst (pc := 27) dX11_isHigh_27 c_0 ?_
      first | (exfalso; contradiction) | exact cast (by simp only [if_neg q10, if_pos q20]) hJ
    · refine g_iconst (pc := 23) dX11_isHigh_23 c_1 ?_
      refine g_goto (pc := 24) (tgt := 28) dX11_isHigh_24 (by decide) ?_
      first | (exfalso; contradiction) | exact cast (by simp only [if_neg q10, if_neg q20]) hJ
def vXX11_endOf (a1 : Int32) (w : Wd) : Int32 := (if ((wi w 0 23) % 2) = 0 then a1 ^^^ 1 else (if ((wi w 0 24) % 2) = 0 then a1 ^^^ 2 else a1 ^^^ 3 : Int32) : Int32)
set_option maxHeartbeats 4000000 in
set_option maxRecDepth 100000 in
theorem zX11_endOf {a1 : Int32} {w : Wd} (hR : w.2.2 = RM) {Q : Option Value → Wd → Prop} (h : Q (some (.int (vXX11_endOf a1 w))) w) : Cl SR mX11_endOf [.ref 0, .int a1] w Q := by
  refine cl_of (by decide) (Nat.le_of_ble_eq_true rfl) ?_
  show Go SR mX11_endOf 0 [(0, .ref 0), (1, .int a1)] [] w Q
  refine g_aload_n (pc := 0) dX11_endOf_0 rfl 0 rfl ?_
  refine g_getI (pc := 1) (a := 0) dX11_endOf_1 rfl fX11_169 rfl ?_
  refine g_iconst (pc := 4) dX11_endOf_4 c_2 ?_
  refine g_irem (pc := 5) dX11_endOf_5 (by decide) ?_
  have hJ : Go SR mX11_endOf 33 [(0, .ref 0), (1, .int a1)] [.int (if ((wi w 0 23) % 2) = 0 then a1 ^^^ 1 else (if ((wi w 0 24) % 2) = 0 then a1 ^^^ 2 else a1 ^^^ 3 : Int32) : Int32)] w Q := by
    refine g_iret (pc := 33) dX11_endOf_33 rfl ?_
    exact h
  refine g_if_ne (pc := 6) (tgt := 15) dX11_endOf_6 (by decide) (fun q6 => ?_) (fun q6 => ?_)
  · refine g_aload_n (pc := 15) dX11_endOf_15 rfl 0 rfl ?_
    refine g_getI (pc := 16) (a := 0) dX11_endOf_16 rfl fX11_172 rfl ?_
    refine g_iconst (pc := 19) dX11_endOf_19 c_2 ?_
    refine g_irem (pc := 20) dX11_endOf_20 (by decide) ?_
    refine g_if_ne (pc := 21) (tgt := 30) dX11_endOf_21 (by decide) (fun q21 => ?_) (fun q21 => ?_)
    · refine g_iload_n (pc := 30) dX11_endOf_30 rfl 1 rfl ?_
      refine g_iconst (pc := 31) dX11_endOf_31 c_3 ?_
      refine g_ixor (pc := 32) dX11_endOf_32 ?_
      first | (exfalso; contradiction) | exact cast (by simp only [if_neg q6, if_neg q21]) hJ
    · refine g_iload_n (pc := 24) dX11_endOf_24 rfl 1 rfl ?_
      refine g_iconst (pc := 25) dX11_endOf_25 c_2 ?_
      refine g_ixor (pc := 26) dX11_endOf_26 ?_
      refine g_goto (pc := 27) (tgt := 33) dX11_endOf_27 (by decide) ?_
      first | (exfalso; contradiction) | exact cast (by simp only [if_neg q6, if_pos q21]) hJ
  · refine g_iload_n (pc := 9) dX11_endOf_9 rfl 1 rfl ?_
    refine g_iconst (pc := 10) dX11_endOf_10 c_1 ?_
    refine g_ixor (pc := 11) dX11_endOf_11 ?_
    refine g_goto (pc := 12) (tgt := 33) dX11_endOf_12 (by decide) ?_
    first | (exfalso; contradiction) | exact cast (by simp only [if_pos q6]) hJ
def vXX11_areCorners (a1 : Int32) (a2 : Int32) : Int32 := (if (vXX11_in a1 0 3) = 0 then 0 else (if (vXX11_in a2 0 3) = 0 then 0 else (if a1 = a2 then 0 else 1 : Int32) : Int32) : Int32)
set_option maxHeartbeats 4000000 in
set_option maxRecDepth 100000 in
theorem zzX11_areCorners (a1 : Int32) (a2 : Int32) : vXX11_areCorners a1 a2 = 0 ∨ vXX11_areCorners a1 a2 = 1 := (z_ite (Or.inl rfl) (z_ite (Or.inl rfl) (z_ite (Or.inl rfl) (Or.inr rfl))))
set_option maxHeartbeats 4000000 in
set_option maxRecDepth 100000 in
theorem zX11_areCorners {a1 : Int32} {a2 : Int32} {w : Wd} (hR : w.2.2 = RM) {Q : Option Value → Wd → Prop} (h : Q (some (.int (vXX11_areCorners a1 a2))) w) : Cl SR mX11_areCorners [.ref 0, .int a1, .int a2] w Q := by
  refine cl_of (by decide) (Nat.le_of_ble_eq_true rfl) ?_
  show Go SR mX11_areCorners 0 [(0, .ref 0), (1, .int a1), (2, .int a2)] [] w Q
  refine g_iload_n (pc := 0) dX11_areCorners_0 rfl 1 rfl ?_
  refine g_iconst (pc := 1) dX11_areCorners_1 c_0 ?_
  refine g_iconst (pc := 2) dX11_areCorners_2 c_3 ?_
  refine g_callS (pc := 3) (M' := mX11_in) (n := 3) (as := [.int a1, .int 0, .int 3]) (st := []) dX11_areCorners_3 rfl kX11_143 sX11_in (Nat.le_of_ble_eq_true rfl) rfl rfl (Nat.le_of_ble_eq_true rfl) ?_
  refine zX11_in (a1 := a1) (a2 := 0) (a3 := 3) (w := w) (hR := hR) ?_
  show Go SR mX11_areCorners 6 [(0, .ref 0), (1, .int a1), (2, .int a2)] [.int (vXX11_in a1 0 3)] w Q
  have hJ : Go SR mX11_areCorners 28 [(0, .ref 0), (1, .int a1), (2, .int a2)] [.int (if (vXX11_in a1 0 3) = 0 then 0 else (if (vXX11_in a2 0 3) = 0 then 0 else (if a1 = a2 then 0 else 1 : Int32) : Int32) : Int32)] w Q := by
    refine g_bret (pc := 28) dX11_areCorners_28 rfl (z_ite (Or.inl rfl) (z_ite (Or.inl rfl) (z_ite (Or.inl rfl) (Or.inr rfl)))) ?_
    exact h
  refine g_if_eq (pc := 6) (tgt := 27) dX11_areCorners_6 (by decide) (fun q6 => ?_) (fun q6 => ?_)
  · refine g_iconst (pc := 27) dX11_areCorners_27 c_0 ?_
    first | (exfalso; contradiction) | exact cast (by simp only [if_pos q6]) hJ
  · refine g_iload_n (pc := 9) dX11_areCorners_9 rfl 2 rfl ?_
    refine g_iconst (pc := 10) dX11_areCorners_10 c_0 ?_
    refine g_iconst (pc := 11) dX11_areCorners_11 c_3 ?_
    refine g_callS (pc := 12) (M' := mX11_in) (n := 3) (as := [.int a2, .int 0, .int 3]) (st := []) dX11_areCorners_12 rfl kX11_143 sX11_in (Nat.le_of_ble_eq_true rfl) rfl rfl (Nat.le_of_ble_eq_true rfl) ?_
    refine zX11_in (a1 := a2) (a2 := 0) (a3 := 3) (w := w) (hR := hR) ?_
    show Go SR mX11_areCorners 15 [(0, .ref 0), (1, .int a1), (2, .int a2)] [.int (vXX11_in a2 0 3)] w Q
    refine g_if_eq (pc := 15) (tgt := 27) dX11_areCorners_15 (by decide) (fun q15 => ?_) (fun q15 => ?_)
    · refine g_iconst (pc := 27) dX11_areCorners_27 c_0 ?_
      first | (exfalso; contradiction) | exact cast (by simp only [if_neg q6, if_pos q15]) hJ
    · refine g_iload_n (pc := 18) dX11_areCorners_18 rfl 1 rfl ?_
      refine g_iload_n (pc := 19) dX11_areCorners_19 rfl 2 rfl ?_
      refine g_icmp_eq (pc := 20) (tgt := 27) dX11_areCorners_20 (by decide) (fun q20 => ?_) (fun q20 => ?_)
      · refine g_iconst (pc := 27) dX11_areCorners_27 c_0 ?_
        first | (exfalso; contradiction) | exact cast (by simp only [if_neg q6, if_neg q15, if_pos q20]) hJ
      · refine g_iconst (pc := 23) dX11_areCorners_23 c_1 ?_
        refine g_goto (pc := 24) (tgt := 28) dX11_areCorners_24 (by decide) ?_
        first | (exfalso; contradiction) | exact cast (by simp only [if_neg q6, if_neg q15, if_neg q20]) hJ
def vXX11_rungWhy (a1 : Int32) (w : Wd) : Int32 := vXX11_why (wi w 0 15) (vXX11_in a1 1 200)
set_option maxHeartbeats 4000000 in
set_option maxRecDepth 100000 in
theorem zX11_rungWhy {a1 : Int32} {w : Wd} (hR : w.2.2 = RM) {Q : Option Value → Wd → Prop} (h : Q (some (.int (vXX11_rungWhy a1 w))) w) : Cl SR mX11_rungWhy [.ref 0, .int a1] w Q := by
  refine cl_of (by decide) (Nat.le_of_ble_eq_true rfl) ?_
  show Go SR mX11_rungWhy 0 [(0, .ref 0), (1, .int a1)] [] w Q
  refine g_aload_n (pc := 0) dX11_rungWhy_0 rfl 0 rfl ?_
  refine g_aload_n (pc := 1) dX11_rungWhy_1 rfl 0 rfl ?_
  refine g_getZ (pc := 2) (a := 0) dX11_rungWhy_2 rfl fX11_163 rfl ?_
  refine g_iload_n (pc := 5) dX11_rungWhy_5 rfl 1 rfl ?_
  refine g_iconst (pc := 6) dX11_rungWhy_6 c_1 ?_
  refine g_sipush (pc := 7) (v := 200) dX11_rungWhy_7 (by decide) ?_
  refine g_callS (pc := 10) (M' := mX11_in) (n := 3) (as := [.int a1, .int 1, .int 200]) (st := [.int (wi w 0 15), .ref 0]) dX11_rungWhy_10 rfl kX11_143 sX11_in (Nat.le_of_ble_eq_true rfl) rfl rfl (Nat.le_of_ble_eq_true rfl) ?_
  refine zX11_in (a1 := a1) (a2 := 1) (a3 := 200) (w := w) (hR := hR) ?_
  show Go SR mX11_rungWhy 13 [(0, .ref 0), (1, .int a1)] [.int (vXX11_in a1 1 200), .int (wi w 0 15), .ref 0] w Q
  refine g_callV (pc := 13) (M' := mX11_why) (n := 2) (a := 0) (as := [.int (wi w 0 15), .int (vXX11_in a1 1 200)]) (st := []) dX11_rungWhy_13 rfl kX11_297 vX11_why (Nat.le_of_ble_eq_true rfl) rfl qX11 rfl rfl (Nat.le_of_ble_eq_true rfl) ?_
  refine zX11_why (a1 := (wi w 0 15)) (a2 := (vXX11_in a1 1 200)) (w := w) (hR := hR) ?_
  show Go SR mX11_rungWhy 16 [(0, .ref 0), (1, .int a1)] [.int (vXX11_why (wi w 0 15) (vXX11_in a1 1 200))] w Q
  refine g_iret (pc := 16) dX11_rungWhy_16 rfl ?_
  exact h
def vXX11_bowsOf (a1 : Int32) (a2 : Int32) (a3 : Int32) : Int32 := (if a2 = 0 then (if a3 = 0 then -a1 else 2 : Int32) else (if a3 = 0 then 0 else 1 : Int32) : Int32)
set_option maxHeartbeats 4000000 in
set_option maxRecDepth 100000 in
theorem zX11_bowsOf {a1 : Int32} {a2 : Int32} {a3 : Int32} {w : Wd} (hR : w.2.2 = RM) {Q : Option Value → Wd → Prop} (h : Q (some (.int (vXX11_bowsOf a1 a2 a3))) w) : Cl SR mX11_bowsOf [.int a1, .int a2, .int a3] w Q := by
  refine cl_of (by decide) (Nat.le_of_ble_eq_true rfl) ?_
  show Go SR mX11_bowsOf 0 [(0, .int a1), (1, .int a2), (2, .int a3)] [] w Q
  refine g_iload_n (pc := 0) dX11_bowsOf_0 rfl 1 rfl ?_
  have hJ : Go SR mX11_bowsOf 26 [(0, .int a1), (1, .int a2), (2, .int a3)] [.int (if a2 = 0 then (if a3 = 0 then -a1 else 2 : Int32) else (if a3 = 0 then 0 else 1 : Int32) : Int32)] w Q := by
    refine g_iret (pc := 26) dX11_bowsOf_26 rfl ?_
    exact h
  refine g_if_eq (pc := 1) (tgt := 16) dX11_bowsOf_1 (by decide) (fun q1 => ?_) (fun q1 => ?_)
  · refine g_iload_n (pc := 16) dX11_bowsOf_16 rfl 2 rfl ?_
    refine g_if_eq (pc := 17) (tgt := 24) dX11_bowsOf_17 (by decide) (fun q17 => ?_) (fun q17 => ?_)
    · refine g_iload_n (pc := 24) dX11_bowsOf_24 rfl 0 rfl ?_
      refine g_ineg (pc := 25) dX11_bowsOf_25 ?_
      first | (exfalso; contradiction) | exact cast (by simp only [if_pos q1, if_pos q17]) hJ
    · refine g_iconst (pc := 20) dX11_bowsOf_20 c_2 ?_
      refine g_goto (pc := 21) (tgt := 26) dX11_bowsOf_21 (by decide) ?_
      first | (exfalso; contradiction) | exact cast (by simp only [if_pos q1, if_neg q17]) hJ
  · refine g_iload_n (pc := 4) dX11_bowsOf_4 rfl 2 rfl ?_
    refine g_if_eq (pc := 5) (tgt := 12) dX11_bowsOf_5 (by decide) (fun q5 => ?_) (fun q5 => ?_)
    · refine g_iconst (pc := 12) dX11_bowsOf_12 c_0 ?_
      refine g_goto (pc := 13) (tgt := 26) dX11_bowsOf_13 (by decide) ?_
      first | (exfalso; contradiction) | exact cast (by simp only [if_neg q1, if_pos q5]) hJ
    · refine g_iconst (pc := 8) dX11_bowsOf_8 c_1 ?_
      refine g_goto (pc := 9) (tgt := 26) dX11_bowsOf_9 (by decide) ?_
      first | (exfalso; contradiction) | exact cast (by simp only [if_neg q1, if_neg q5]) hJ
def vXX11_bows (a1 : Int32) (a2 : Int32) (a3 : Int32) (a4 : Int32) (w : Wd) : Int32 := if (vXX11_why (wi (wXX11_anew w) 0 15) (vXX11_in a1 0 9)) = 0 then if a4 = 0 then vXX11_bowsOf a1 a2 a3 else vXX11_bowsOf a1 a3 a2 else (-100)
def wXX11_bows (a1 : Int32) (a2 : Int32) (a3 : Int32) (a4 : Int32) (w : Wd) : Wd := if (vXX11_why (wi (wXX11_anew w) 0 15) (vXX11_in a1 0 9)) = 0 then wXX11_anew w else si (wXX11_anew w) 0 11 (vXX11_why (wi (wXX11_anew w) 0 15) (vXX11_in a1 0 9))
set_option maxHeartbeats 4000000 in
set_option maxRecDepth 100000 in
theorem rXX11_bows (a1 : Int32) (a2 : Int32) (a3 : Int32) (a4 : Int32) (w : Wd) : (wXX11_bows a1 a2 a3 a4 w).2.2 = w.2.2 := by
  unfold wXX11_bows
  (repeat' split) <;> simp only [si_R, sl_R, pf_R, rXX0_measure, rXX7_put, rXX7_step, rXX1_add, rXX2_clear, rXX2_addUnsure, rXX2_addSeen, rXX4_forgetAll, rXX7_copy, rXX8_fail, rXX8_isWhole, rXX10_accept, rXX10_refuse, rXX10_bows, rXX10_deny, rXX10_grant, rXX11_anew, rXX11_no, rXX11_nowhere, rXX11_isNot, rXX11_wrong, rXX11_numberHere, rXX11_fault, rXX11_where]
set_option maxHeartbeats 4000000 in
set_option maxRecDepth 100000 in
theorem zX11_bows {a1 : Int32} {a2 : Int32} {a3 : Int32} {a4 : Int32} {w : Wd} (hR : w.2.2 = RM) {Q : Option Value → Wd → Prop} (h : Q (some (.int (vXX11_bows a1 a2 a3 a4 w))) (wXX11_bows a1 a2 a3 a4 w)) : Cl SR mX11_bows [.ref 0, .int a1, .int a2, .int a3, .int a4] w Q := by
  refine cl_of (by decide) (Nat.le_of_ble_eq_true rfl) ?_
  show Go SR mX11_bows 0 [(0, .ref 0), (1, .int a1), (2, .int a2), (3, .int a3), (4, .int a4)] [] w Q
  refine g_aload_n (pc := 0) dX11_bows_0 rfl 0 rfl ?_
  refine g_callV (pc := 1) (M' := mX11_anew) (n := 0) (a := 0) (as := []) (st := []) dX11_bows_1 rfl kX11_147 vX11_anew (Nat.le_of_ble_eq_true rfl) rfl qX11 rfl rfl (Nat.le_of_ble_eq_true rfl) ?_
  refine zX11_anew (w := w) (hR := hR) ?_
  show Go SR mX11_bows 4 [(0, .ref 0), (1, .int a1), (2, .int a2), (3, .int a3), (4, .int a4)] [] (wXX11_anew w) Q
  refine g_aload_n (pc := 4) dX11_bows_4 rfl 0 rfl ?_
  refine g_aload_n (pc := 5) dX11_bows_5 rfl 0 rfl ?_
  refine g_getZ (pc := 6) (a := 0) dX11_bows_6 rfl fX11_163 rfl ?_
  refine g_iload_n (pc := 9) dX11_bows_9 rfl 1 rfl ?_
  refine g_iconst (pc := 10) dX11_bows_10 c_0 ?_
  refine g_bipush (pc := 11) (v := 9) dX11_bows_11 (by decide) ?_
  refine g_callS (pc := 13) (M' := mX11_in) (n := 3) (as := [.int a1, .int 0, .int 9]) (st := [.int (wi (wXX11_anew w) 0 15), .ref 0]) dX11_bows_13 rfl kX11_143 sX11_in (Nat.le_of_ble_eq_true rfl) rfl rfl (Nat.le_of_ble_eq_true rfl) ?_
  refine zX11_in (a1 := a1) (a2 := 0) (a3 := 9) (w := wXX11_anew w) (hR := hR) ?_
  show Go SR mX11_bows 16 [(0, .ref 0), (1, .int a1), (2, .int a2), (3, .int a3), (4, .int a4)] [.int (vXX11_in a1 0 9), .int (wi (wXX11_anew w) 0 15), .ref 0] (wXX11_anew w) Q
  refine g_callV (pc := 16) (M' := mX11_why) (n := 2) (a := 0) (as := [.int (wi (wXX11_anew w) 0 15), .int (vXX11_in a1 0 9)]) (st := []) dX11_bows_16 rfl kX11_297 vX11_why (Nat.le_of_ble_eq_true rfl) rfl qX11 rfl rfl (Nat.le_of_ble_eq_true rfl) ?_
  refine zX11_why (a1 := (wi (wXX11_anew w) 0 15)) (a2 := (vXX11_in a1 0 9)) (w := wXX11_anew w) (hR := hR) ?_
  show Go SR mX11_bows 19 [(0, .ref 0), (1, .int a1), (2, .int a2), (3, .int a3), (4, .int a4)] [.int (vXX11_why (wi (wXX11_anew w) 0 15) (vXX11_in a1 0 9))] (wXX11_anew w) Q
  refine g_istore (pc := 19) (lv2 := [(0, .ref 0), (1, .int a1), (2, .int a2), (3, .int a3), (4, .int a4), (5, .int (vXX11_why (wi (wXX11_anew w) 0 15) (vXX11_in a1 0 9)))]) dX11_bows_19 (Nat.le_of_ble_eq_true rfl) rfl ?_
  refine g_iload (pc := 21) dX11_bows_21 5 rfl ?_
  refine g_if_ne (pc := 23) (tgt := 47) dX11_bows_23 (by decide) (fun q23 => ?_) (fun q23 => ?_)
  · refine g_aload_n (pc := 47) dX11_bows_47 rfl 0 rfl ?_
    refine g_iload (pc := 48) dX11_bows_48 5 rfl ?_
    refine g_putI (pc := 50) dX11_bows_50 rfl fX11_56 pX11_11 rfl ?_
    refine g_bipush (pc := 53) (v := (-100)) dX11_bows_53 (by decide) ?_
    refine g_iret (pc := 55) dX11_bows_55 rfl ?_
    first | (exfalso; contradiction) | exact cast (by simp only [vXX11_bows, wXX11_bows, if_neg q23]) h
  · refine g_iload (pc := 26) dX11_bows_26 4 rfl ?_
    refine g_if_eq (pc := 28) (tgt := 40) dX11_bows_28 (by decide) (fun q28 => ?_) (fun q28 => ?_)
    · refine g_iload_n (pc := 40) dX11_bows_40 rfl 1 rfl ?_
      refine g_iload_n (pc := 41) dX11_bows_41 rfl 2 rfl ?_
      refine g_iload_n (pc := 42) dX11_bows_42 rfl 3 rfl ?_
      refine g_callS (pc := 43) (M' := mX11_bowsOf) (n := 3) (as := [.int a1, .int a2, .int a3]) (st := []) dX11_bows_43 rfl kX11_380 sX11_bowsOf (Nat.le_of_ble_eq_true rfl) rfl rfl (Nat.le_of_ble_eq_true rfl) ?_
      refine zX11_bowsOf (a1 := a1) (a2 := a2) (a3 := a3) (w := wXX11_anew w) (hR := hR) ?_
      show Go SR mX11_bows 46 [(0, .ref 0), (1, .int a1), (2, .int a2), (3, .int a3), (4, .int a4), (5, .int (vXX11_why (wi (wXX11_anew w) 0 15) (vXX11_in a1 0 9)))] [.int (vXX11_bowsOf a1 a2 a3)] (wXX11_anew w) Q
      refine g_iret (pc := 46) dX11_bows_46 rfl ?_
      first | (exfalso; contradiction) | exact cast (by simp only [vXX11_bows, wXX11_bows, if_pos q23, if_pos q28]) h
    · refine g_iload_n (pc := 31) dX11_bows_31 rfl 1 rfl ?_
      refine g_iload_n (pc := 32) dX11_bows_32 rfl 3 rfl ?_
      refine g_iload_n (pc := 33) dX11_bows_33 rfl 2 rfl ?_
      refine g_callS (pc := 34) (M' := mX11_bowsOf) (n := 3) (as := [.int a1, .int a3, .int a2]) (st := []) dX11_bows_34 rfl kX11_380 sX11_bowsOf (Nat.le_of_ble_eq_true rfl) rfl rfl (Nat.le_of_ble_eq_true rfl) ?_
      refine zX11_bowsOf (a1 := a1) (a2 := a3) (a3 := a2) (w := wXX11_anew w) (hR := hR) ?_
      show Go SR mX11_bows 37 [(0, .ref 0), (1, .int a1), (2, .int a2), (3, .int a3), (4, .int a4), (5, .int (vXX11_why (wi (wXX11_anew w) 0 15) (vXX11_in a1 0 9)))] [.int (vXX11_bowsOf a1 a3 a2)] (wXX11_anew w) Q
      refine g_goto (pc := 37) (tgt := 46) dX11_bows_37 (by decide) ?_
      refine g_iret (pc := 46) dX11_bows_46 rfl ?_
      first | (exfalso; contradiction) | exact cast (by simp only [vXX11_bows, wXX11_bows, if_pos q23, if_neg q28]) h
def vXX11_trouble (w : Wd) : Int32 := wi (si w 0 0 0) 0 11
def wXX11_trouble (w : Wd) : Wd := si w 0 0 0
set_option maxHeartbeats 4000000 in
set_option maxRecDepth 100000 in
theorem rXX11_trouble (w : Wd) : (wXX11_trouble w).2.2 = w.2.2 := rfl
set_option maxHeartbeats 4000000 in
set_option maxRecDepth 100000 in
theorem zX11_trouble  {w : Wd} (hR : w.2.2 = RM) {Q : Option Value → Wd → Prop} (h : Q (some (.int (vXX11_trouble w))) (wXX11_trouble w)) : Cl SR mX11_trouble [.ref 0] w Q := by
  refine cl_of (by decide) (Nat.le_of_ble_eq_true rfl) ?_
  show Go SR mX11_trouble 0 [(0, .ref 0)] [] w Q
  refine g_aload_n (pc := 0) dX11_trouble_0 rfl 0 rfl ?_
  refine g_iconst (pc := 1) dX11_trouble_1 c_0 ?_
  refine g_putI (pc := 2) dX11_trouble_2 rfl fX11_53 pX11_0 rfl ?_
  refine g_aload_n (pc := 5) dX11_trouble_5 rfl 0 rfl ?_
  refine g_getI (pc := 6) (a := 0) dX11_trouble_6 rfl fX11_56 rfl ?_
  refine g_iret (pc := 9) dX11_trouble_9 rfl ?_
  exact h
