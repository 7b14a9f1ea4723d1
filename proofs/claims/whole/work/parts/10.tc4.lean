set_option maxHeartbeats 4000000 in
set_option maxRecDepth 100000 in
theorem TX10_compareRings (a1 : Int32) (a2 : Int32) (a3 : Int32) (w : Wd) (b : Bool) (hR : w.2.2 = RTab b) (Q : Option Value → Wd → Prop) (h : ((0 ≤ a1 ∧ a1 < wi w (hA b) 2 ∧ a1 < 5 → ((0 ≤ a2 ∧ a2 < wi w (hA b) 2 ∧ a2 < 5 → ClI SC mX6_areAlike [.ref (dA (hA b) a1.toNatClampNeg + 2), .ref (dA (hA b) a2.toNatClampNeg + 2), .int a3] w (fun x4 w3 => w3.2.2 = RTab b ∧ Q (some (.int (vXX10_accept (if x4 = 0 then 0 else 1 : Int32)))) (wXX10_accept (if x4 = 0 then 0 else 1 : Int32) w3))) ∧ (¬ (0 ≤ a2 ∧ a2 < wi w (hA b) 2 ∧ a2 < 5) → Q (some (.int (vXX10_refuse 1 (-1)))) (wXX10_refuse 1 (-1) w)))) ∧ (¬ (0 ≤ a1 ∧ a1 < wi w (hA b) 2 ∧ a1 < 5) → ((0 ≤ a2 ∧ a2 < wi w (hA b) 2 ∧ a2 < 5 → Q (some (.int (vXX10_refuse 1 (-1)))) (wXX10_refuse 1 (-1) w)) ∧ (¬ (0 ≤ a2 ∧ a2 < wi w (hA b) 2 ∧ a2 < 5) → Q (some (.int (vXX10_refuse 1 (-1)))) (wXX10_refuse 1 (-1) w)))))) : Cl SC mX10_compareRings [.ref 0, .int a1, .int a2, .int a3] w Q := by
  refine cl_of (by decide) (Nat.le_of_ble_eq_true rfl) ?_
  show Go SC mX10_compareRings 0 [(0, .ref 0), (1, .int a1), (2, .int a2), (3, .int a3)] [] w Q
  refine g_aload_n (pc := 0) dX10_compareRings_0 rfl 0 rfl ?_
  refine g_getR (pc := 1) (a := 0) (b := (hA b)) dX10_compareRings_1 rfl fX10_19 rfl (rc_0_1 hR) ?_
  refine g_iload_n (pc := 4) dX10_compareRings_4 rfl 1 rfl ?_
  refine g_callV (pc := 5) (M' := mX2_danceAt) (n := 1) (a := (hA b)) (as := [.int a1]) (st := []) dX10_compareRings_5 rfl kX10_113 vX2_danceAt (Nat.le_of_ble_eq_true rfl) (sh_h b) qX2 rfl rfl (Nat.le_of_ble_eq_true rfl) ?_
  refine h_danceAt (c := b) (d := a1) (w := w) (hR := hR) (fun qd1 => ?_) (fun qd1 => ?_)
  · have h := h.1 qd1
    show Go SC mX10_compareRings 8 [(0, .ref 0), (1, .int a1), (2, .int a2), (3, .int a3)] [.ref (dA (hA b) a1.toNatClampNeg)] w Q
    refine g_astore (pc := 8) (lv2 := [(0, .ref 0), (1, .int a1), (2, .int a2), (3, .int a3), (4, .ref (dA (hA b) a1.toNatClampNeg))]) dX10_compareRings_8 (Nat.le_of_ble_eq_true rfl) rfl ?_
    refine g_aload_n (pc := 10) dX10_compareRings_10 rfl 0 rfl ?_
    refine g_getR (pc := 11) (a := 0) (b := (hA b)) dX10_compareRings_11 rfl fX10_19 rfl (rc_0_1 hR) ?_
    refine g_iload_n (pc := 14) dX10_compareRings_14 rfl 2 rfl ?_
    refine g_callV (pc := 15) (M' := mX2_danceAt) (n := 1) (a := (hA b)) (as := [.int a2]) (st := []) dX10_compareRings_15 rfl kX10_113 vX2_danceAt (Nat.le_of_ble_eq_true rfl) (sh_h b) qX2 rfl rfl (Nat.le_of_ble_eq_true rfl) ?_
    refine h_danceAt (c := b) (d := a2) (w := w) (hR := hR) (fun qd2 => ?_) (fun qd2 => ?_)
    · have h := h.1 qd2
      show Go SC mX10_compareRings 18 [(0, .ref 0), (1, .int a1), (2, .int a2), (3, .int a3), (4, .ref (dA (hA b) a1.toNatClampNeg))] [.ref (dA (hA b) a2.toNatClampNeg)] w Q
      refine g_astore (pc := 18) (lv2 := [(0, .ref 0), (1, .int a1), (2, .int a2), (3, .int a3), (4, .ref (dA (hA b) a1.toNatClampNeg)), (5, .ref (dA (hA b) a2.toNatClampNeg))]) dX10_compareRings_18 (Nat.le_of_ble_eq_true rfl) rfl ?_
      refine g_aload (pc := 20) dX10_compareRings_20 4 rfl ?_
      refine g_ifnullR (pc := 22) dX10_compareRings_22 ?_
      refine g_aload (pc := 25) dX10_compareRings_25 5 rfl ?_
      refine g_ifnonnullR (pc := 27) (tgt := 37) dX10_compareRings_27 (by decide) ?_
      refine g_aload_n (pc := 37) dX10_compareRings_37 rfl 0 rfl ?_
      refine g_aload (pc := 38) dX10_compareRings_38 4 rfl ?_
      refine g_getR (pc := 40) (a := (dA (hA b) a1.toNatClampNeg)) (b := (dA (hA b) a1.toNatClampNeg + 2)) dX10_compareRings_40 rfl fX10_118 (sh_d b (lt5 qd1.1 qd1.2.2)) (rd_4 hR b (lt5 qd1.1 qd1.2.2)) ?_
      refine g_aload (pc := 43) dX10_compareRings_43 5 rfl ?_
      refine g_getR (pc := 45) (a := (dA (hA b) a2.toNatClampNeg)) (b := (dA (hA b) a2.toNatClampNeg + 2)) dX10_compareRings_45 rfl fX10_118 (sh_d b (lt5 qd2.1 qd2.2.2)) (rd_4 hR b (lt5 qd2.1 qd2.2.2)) ?_
      refine g_iload_n (pc := 48) dX10_compareRings_48 rfl 3 rfl ?_
      refine g_callS (pc := 49) (M' := mX6_areAlike) (n := 3) (as := [.ref (dA (hA b) a1.toNatClampNeg + 2), .ref (dA (hA b) a2.toNatClampNeg + 2), .int a3]) (st := [.ref 0]) dX10_compareRings_49 rfl kX10_378 sX6_areAlike (Nat.le_of_ble_eq_true rfl) rfl rfl (Nat.le_of_ble_eq_true rfl) ?_
      refine cl_mono (fun r w3 hr => ?_) h
      obtain ⟨x4, rfl, hw3, h⟩ := hr
      show Go SC mX10_compareRings 52 [(0, .ref 0), (1, .int a1), (2, .int a2), (3, .int a3), (4, .ref (dA (hA b) a1.toNatClampNeg)), (5, .ref (dA (hA b) a2.toNatClampNeg))] [.int x4, .ref 0] w3 Q
      have hJ : Go SC mX10_compareRings 60 [(0, .ref 0), (1, .int a1), (2, .int a2), (3, .int a3), (4, .ref (dA (hA b) a1.toNatClampNeg)), (5, .ref (dA (hA b) a2.toNatClampNeg))] [.int (if x4 = 0 then 0 else 1 : Int32), .ref 0] w3 Q := by
        refine g_callV (pc := 60) (M' := mX10_accept) (n := 1) (a := 0) (as := [.int (if x4 = 0 then 0 else 1 : Int32)]) (st := []) dX10_compareRings_60 rfl kX10_100 vX10_accept (Nat.le_of_ble_eq_true rfl) rfl qX10 rfl rfl (Nat.le_of_ble_eq_true rfl) ?_
        refine zX10_accept (a1 := (if x4 = 0 then 0 else 1 : Int32)) (w := w3) (b := b) (hR := hw3) ?_
        show Go SC mX10_compareRings 63 [(0, .ref 0), (1, .int a1), (2, .int a2), (3, .int a3), (4, .ref (dA (hA b) a1.toNatClampNeg)), (5, .ref (dA (hA b) a2.toNatClampNeg))] [.int (vXX10_accept (if x4 = 0 then 0 else 1 : Int32))] (wXX10_accept (if x4 = 0 then 0 else 1 : Int32) w3) Q
        exact g_iret (pc := 63) dX10_compareRings_63 rfl h
      refine g_if_eq (pc := 52) (tgt := 59) dX10_compareRings_52 (by decide) (fun q52 => ?_) (fun q52 => ?_)
      · refine g_iconst (pc := 59) dX10_compareRings_59 c_0 ?_
        first | (exfalso; contradiction) | exact cast (by simp only [if_pos q52]) hJ
      · refine g_iconst (pc := 55) dX10_compareRings_55 c_1 ?_
        refine g_goto (pc := 56) (tgt := 60) dX10_compareRings_56 (by decide) ?_
        first | (exfalso; contradiction) | exact cast (by simp only [if_neg q52]) hJ
    · have h := h.2 qd2
      show Go SC mX10_compareRings 18 [(0, .ref 0), (1, .int a1), (2, .int a2), (3, .int a3), (4, .ref (dA (hA b) a1.toNatClampNeg))] [.null] w Q
      refine g_astoreN (pc := 18) (lv2 := [(0, .ref 0), (1, .int a1), (2, .int a2), (3, .int a3), (4, .ref (dA (hA b) a1.toNatClampNeg)), (5, .null)]) dX10_compareRings_18 (Nat.le_of_ble_eq_true rfl) rfl ?_
      refine g_aload (pc := 20) dX10_compareRings_20 4 rfl ?_
      refine g_ifnullR (pc := 22) dX10_compareRings_22 ?_
      refine g_aloadN (pc := 25) dX10_compareRings_25 5 rfl ?_
      refine g_ifnonnullN (pc := 27) dX10_compareRings_27 ?_
      refine g_aload_n (pc := 30) dX10_compareRings_30 rfl 0 rfl ?_
      refine g_iconst (pc := 31) dX10_compareRings_31 c_1 ?_
      refine g_iconst (pc := 32) dX10_compareRings_32 cN_1 ?_
      refine g_callV (pc := 33) (M' := mX10_refuse) (n := 2) (a := 0) (as := [.int 1, .int (-1)]) (st := []) dX10_compareRings_33 rfl kX10_83 vX10_refuse (Nat.le_of_ble_eq_true rfl) rfl qX10 rfl rfl (Nat.le_of_ble_eq_true rfl) ?_
      refine zX10_refuse (a1 := 1) (a2 := (-1)) (w := w) (b := b) (hR := hR) ?_
      show Go SC mX10_compareRings 36 [(0, .ref 0), (1, .int a1), (2, .int a2), (3, .int a3), (4, .ref (dA (hA b) a1.toNatClampNeg)), (5, .null)] [.int (vXX10_refuse 1 (-1))] (wXX10_refuse 1 (-1) w) Q
      exact g_iret (pc := 36) dX10_compareRings_36 rfl h
  · have h := h.2 qd1
    show Go SC mX10_compareRings 8 [(0, .ref 0), (1, .int a1), (2, .int a2), (3, .int a3)] [.null] w Q
    refine g_astoreN (pc := 8) (lv2 := [(0, .ref 0), (1, .int a1), (2, .int a2), (3, .int a3), (4, .null)]) dX10_compareRings_8 (Nat.le_of_ble_eq_true rfl) rfl ?_
    refine g_aload_n (pc := 10) dX10_compareRings_10 rfl 0 rfl ?_
    refine g_getR (pc := 11) (a := 0) (b := (hA b)) dX10_compareRings_11 rfl fX10_19 rfl (rc_0_1 hR) ?_
    refine g_iload_n (pc := 14) dX10_compareRings_14 rfl 2 rfl ?_
    refine g_callV (pc := 15) (M' := mX2_danceAt) (n := 1) (a := (hA b)) (as := [.int a2]) (st := []) dX10_compareRings_15 rfl kX10_113 vX2_danceAt (Nat.le_of_ble_eq_true rfl) (sh_h b) qX2 rfl rfl (Nat.le_of_ble_eq_true rfl) ?_
    refine h_danceAt (c := b) (d := a2) (w := w) (hR := hR) (fun qd5 => ?_) (fun qd5 => ?_)
    · have h := h.1 qd5
      show Go SC mX10_compareRings 18 [(0, .ref 0), (1, .int a1), (2, .int a2), (3, .int a3), (4, .null)] [.ref (dA (hA b) a2.toNatClampNeg)] w Q
      refine g_astore (pc := 18) (lv2 := [(0, .ref 0), (1, .int a1), (2, .int a2), (3, .int a3), (4, .null), (5, .ref (dA (hA b) a2.toNatClampNeg))]) dX10_compareRings_18 (Nat.le_of_ble_eq_true rfl) rfl ?_
      refine g_aloadN (pc := 20) dX10_compareRings_20 4 rfl ?_
      refine g_ifnullN (pc := 22) (tgt := 30) dX10_compareRings_22 (by decide) ?_
      refine g_aload_n (pc := 30) dX10_compareRings_30 rfl 0 rfl ?_
      refine g_iconst (pc := 31) dX10_compareRings_31 c_1 ?_
      refine g_iconst (pc := 32) dX10_compareRings_32 cN_1 ?_
      refine g_callV (pc := 33) (M' := mX10_refuse) (n := 2) (a := 0) (as := [.int 1, .int (-1)]) (st := []) dX10_compareRings_33 rfl kX10_83 vX10_refuse (Nat.le_of_ble_eq_true rfl) rfl qX10 rfl rfl (Nat.le_of_ble_eq_true rfl) ?_
      refine zX10_refuse (a1 := 1) (a2 := (-1)) (w := w) (b := b) (hR := hR) ?_
      show Go SC mX10_compareRings 36 [(0, .ref 0), (1, .int a1), (2, .int a2), (3, .int a3), (4, .null), (5, .ref (dA (hA b) a2.toNatClampNeg))] [.int (vXX10_refuse 1 (-1))] (wXX10_refuse 1 (-1) w) Q
      exact g_iret (pc := 36) dX10_compareRings_36 rfl h
    · have h := h.2 qd5
      show Go SC mX10_compareRings 18 [(0, .ref 0), (1, .int a1), (2, .int a2), (3, .int a3), (4, .null)] [.null] w Q
      refine g_astoreN (pc := 18) (lv2 := [(0, .ref 0), (1, .int a1), (2, .int a2), (3, .int a3), (4, .null), (5, .null)]) dX10_compareRings_18 (Nat.le_of_ble_eq_true rfl) rfl ?_
      refine g_aloadN (pc := 20) dX10_compareRings_20 4 rfl ?_
      refine g_ifnullN (pc := 22) (tgt := 30) dX10_compareRings_22 (by decide) ?_
      refine g_aload_n (pc := 30) dX10_compareRings_30 rfl 0 rfl ?_
      refine g_iconst (pc := 31) dX10_compareRings_31 c_1 ?_
      refine g_iconst (pc := 32) dX10_compareRings_32 cN_1 ?_
      refine g_callV (pc := 33) (M' := mX10_refuse) (n := 2) (a := 0) (as := [.int 1, .int (-1)]) (st := []) dX10_compareRings_33 rfl kX10_83 vX10_refuse (Nat.le_of_ble_eq_true rfl) rfl qX10 rfl rfl (Nat.le_of_ble_eq_true rfl) ?_
      refine zX10_refuse (a1 := 1) (a2 := (-1)) (w := w) (b := b) (hR := hR) ?_
      show Go SC mX10_compareRings 36 [(0, .ref 0), (1, .int a1), (2, .int a2), (3, .int a3), (4, .null), (5, .null)] [.int (vXX10_refuse 1 (-1))] (wXX10_refuse 1 (-1) w) Q
      exact g_iret (pc := 36) dX10_compareRings_36 rfl h
set_option maxHeartbeats 4000000 in
set_option maxRecDepth 100000 in
theorem TX10_alike (a1 : Int32) (a2 : Int32) (w : Wd) (b : Bool) (hR : w.2.2 = RTab b) (Q : Option Value → Wd → Prop) (h : ClI SC mX10_compareRings [.ref 0, .int a1, .int a2, .int 1] w (fun x2 w1 => w1.2.2 = RTab b ∧ Q (some (.int x2)) w1)) : Cl SC mX10_alike [.ref 0, .int a1, .int a2] w Q := by
  refine cl_of (by decide) (Nat.le_of_ble_eq_true rfl) ?_
  show Go SC mX10_alike 0 [(0, .ref 0), (1, .int a1), (2, .int a2)] [] w Q
  refine g_aload_n (pc := 0) dX10_alike_0 rfl 0 rfl ?_
  refine g_iload_n (pc := 1) dX10_alike_1 rfl 1 rfl ?_
  refine g_iload_n (pc := 2) dX10_alike_2 rfl 2 rfl ?_
  refine g_iconst (pc := 3) dX10_alike_3 c_1 ?_
  refine g_callV (pc := 4) (M' := mX10_compareRings) (n := 3) (a := 0) (as := [.int a1, .int a2, .int 1]) (st := []) dX10_alike_4 rfl kX10_248 vX10_compareRings (Nat.le_of_ble_eq_true rfl) rfl qX10 rfl rfl (Nat.le_of_ble_eq_true rfl) ?_
  refine cl_mono (fun r w1 hr => ?_) h
  obtain ⟨x2, rfl, hw1, h⟩ := hr
  show Go SC mX10_alike 7 [(0, .ref 0), (1, .int a1), (2, .int a2)] [.int x2] w1 Q
  exact g_iret (pc := 7) dX10_alike_7 rfl h
set_option maxHeartbeats 4000000 in
set_option maxRecDepth 100000 in
theorem TX10_mirrored (a1 : Int32) (a2 : Int32) (w : Wd) (b : Bool) (hR : w.2.2 = RTab b) (Q : Option Value → Wd → Prop) (h : ClI SC mX10_compareRings [.ref 0, .int a1, .int a2, .int (-1)] w (fun x2 w1 => w1.2.2 = RTab b ∧ Q (some (.int x2)) w1)) : Cl SC mX10_mirrored [.ref 0, .int a1, .int a2] w Q := by
  refine cl_of (by decide) (Nat.le_of_ble_eq_true rfl) ?_
  show Go SC mX10_mirrored 0 [(0, .ref 0), (1, .int a1), (2, .int a2)] [] w Q
  refine g_aload_n (pc := 0) dX10_mirrored_0 rfl 0 rfl ?_
  refine g_iload_n (pc := 1) dX10_mirrored_1 rfl 1 rfl ?_
  refine g_iload_n (pc := 2) dX10_mirrored_2 rfl 2 rfl ?_
  refine g_iconst (pc := 3) dX10_mirrored_3 cN_1 ?_
  refine g_callV (pc := 4) (M' := mX10_compareRings) (n := 3) (a := 0) (as := [.int a1, .int a2, .int (-1)]) (st := []) dX10_mirrored_4 rfl kX10_248 vX10_compareRings (Nat.le_of_ble_eq_true rfl) rfl qX10 rfl rfl (Nat.le_of_ble_eq_true rfl) ?_
  refine cl_mono (fun r w1 hr => ?_) h
  obtain ⟨x2, rfl, hw1, h⟩ := hr
  show Go SC mX10_mirrored 7 [(0, .ref 0), (1, .int a1), (2, .int a2)] [.int x2] w1 Q
  exact g_iret (pc := 7) dX10_mirrored_7 rfl h
set_option maxHeartbeats 4000000 in
set_option maxRecDepth 100000 in
theorem TX10_kinds (a1 : Int32) (a2 : Int32) (w : Wd) (b : Bool) (hR : w.2.2 = RTab b) (Q : Option Value → Wd → Prop) (h : (((vXX10_numberTrouble a1 1 200 w b) = 0 → ClI SC mX6_sorts [.int a1, .int a2] w (fun x2 w1 => w1.2.2 = RTab b ∧ Q (some (.int (vXX10_accept x2))) (wXX10_accept x2 w1))) ∧ (¬ ((vXX10_numberTrouble a1 1 200 w b) = 0) → Q (some (.int (vXX10_refuse (vXX10_numberTrouble a1 1 200 w b) (-1)))) (wXX10_refuse (vXX10_numberTrouble a1 1 200 w b) (-1) w)))) : Cl SC mX10_kinds [.ref 0, .int a1, .int a2] w Q := by
  refine cl_of (by decide) (Nat.le_of_ble_eq_true rfl) ?_
  show Go SC mX10_kinds 0 [(0, .ref 0), (1, .int a1), (2, .int a2)] [] w Q
  refine g_aload_n (pc := 0) dX10_kinds_0 rfl 0 rfl ?_
  refine g_iload_n (pc := 1) dX10_kinds_1 rfl 1 rfl ?_
  refine g_iconst (pc := 2) dX10_kinds_2 c_1 ?_
  refine g_sipush (pc := 3) (v := 200) dX10_kinds_3 (by decide) ?_
  refine g_callV (pc := 6) (M' := mX10_numberTrouble) (n := 3) (a := 0) (as := [.int a1, .int 1, .int 200]) (st := []) dX10_kinds_6 rfl kX10_221 vX10_numberTrouble (Nat.le_of_ble_eq_true rfl) rfl qX10 rfl rfl (Nat.le_of_ble_eq_true rfl) ?_
  refine zX10_numberTrouble (a1 := a1) (a2 := 1) (a3 := 200) (w := w) (b := b) (hR := hR) ?_
  show Go SC mX10_kinds 9 [(0, .ref 0), (1, .int a1), (2, .int a2)] [.int (vXX10_numberTrouble a1 1 200 w b)] w Q
  refine g_istore_n (pc := 9) (lv2 := [(0, .ref 0), (1, .int a1), (2, .int a2), (3, .int (vXX10_numberTrouble a1 1 200 w b))]) dX10_kinds_9 rfl (Nat.le_of_ble_eq_true rfl) rfl ?_
  refine g_iload_n (pc := 10) dX10_kinds_10 rfl 3 rfl ?_
  refine g_if_ne (pc := 11) (tgt := 26) dX10_kinds_11 (by decide) (fun q => ?_) (fun q => ?_)
  · have h := h.2 q
    refine g_aload_n (pc := 26) dX10_kinds_26 rfl 0 rfl ?_
    refine g_iload_n (pc := 27) dX10_kinds_27 rfl 3 rfl ?_
    refine g_iconst (pc := 28) dX10_kinds_28 cN_1 ?_
    refine g_callV (pc := 29) (M' := mX10_refuse) (n := 2) (a := 0) (as := [.int (vXX10_numberTrouble a1 1 200 w b), .int (-1)]) (st := []) dX10_kinds_29 rfl kX10_83 vX10_refuse (Nat.le_of_ble_eq_true rfl) rfl qX10 rfl rfl (Nat.le_of_ble_eq_true rfl) ?_
    refine zX10_refuse (a1 := (vXX10_numberTrouble a1 1 200 w b)) (a2 := (-1)) (w := w) (b := b) (hR := hR) ?_
    show Go SC mX10_kinds 32 [(0, .ref 0), (1, .int a1), (2, .int a2), (3, .int (vXX10_numberTrouble a1 1 200 w b))] [.int (vXX10_refuse (vXX10_numberTrouble a1 1 200 w b) (-1))] (wXX10_refuse (vXX10_numberTrouble a1 1 200 w b) (-1) w) Q
    exact g_iret (pc := 32) dX10_kinds_32 rfl h
  · have h := h.1 q
    refine g_aload_n (pc := 14) dX10_kinds_14 rfl 0 rfl ?_
    refine g_iload_n (pc := 15) dX10_kinds_15 rfl 1 rfl ?_
    refine g_iload_n (pc := 16) dX10_kinds_16 rfl 2 rfl ?_
    refine g_callS (pc := 17) (M' := mX6_sorts) (n := 2) (as := [.int a1, .int a2]) (st := [.ref 0]) dX10_kinds_17 rfl kX10_251 sX6_sorts (Nat.le_of_ble_eq_true rfl) rfl rfl (Nat.le_of_ble_eq_true rfl) ?_
    refine cl_mono (fun r w1 hr => ?_) h
    obtain ⟨x2, rfl, hw1, h⟩ := hr
    show Go SC mX10_kinds 20 [(0, .ref 0), (1, .int a1), (2, .int a2), (3, .int (vXX10_numberTrouble a1 1 200 w b))] [.int x2, .ref 0] w1 Q
    refine g_callV (pc := 20) (M' := mX10_accept) (n := 1) (a := 0) (as := [.int x2]) (st := []) dX10_kinds_20 rfl kX10_100 vX10_accept (Nat.le_of_ble_eq_true rfl) rfl qX10 rfl rfl (Nat.le_of_ble_eq_true rfl) ?_
    refine zX10_accept (a1 := x2) (w := w1) (b := b) (hR := hw1) ?_
    show Go SC mX10_kinds 23 [(0, .ref 0), (1, .int a1), (2, .int a2), (3, .int (vXX10_numberTrouble a1 1 200 w b))] [.int (vXX10_accept x2)] (wXX10_accept x2 w1) Q
    refine g_goto (pc := 23) (tgt := 32) dX10_kinds_23 (by decide) ?_
    exact g_iret (pc := 32) dX10_kinds_32 rfl h
set_option maxHeartbeats 4000000 in
set_option maxRecDepth 100000 in
theorem TX10_fits  (w : Wd) (b : Bool) (hR : w.2.2 = RTab b) (Q : Option Value → Wd → Prop) (h : (((vXX10_hasHall w b) = 0 → Q (some (.int (vXX10_refuse 1 (-1)))) (wXX10_refuse 1 (-1) w)) ∧ (¬ ((vXX10_hasHall w b) = 0) → ClI SC mX2_fitting [.ref (hA b), .ref 55] w (fun x2 w1 => w1.2.2 = RTab b ∧ Q (some (.int (vXX10_accept (vXJ6_bitCount_0f7a4 x2)))) (wXX10_accept (vXJ6_bitCount_0f7a4 x2) w1))))) : Cl SC mX10_fits [.ref 0] w Q := by
  refine cl_of (by decide) (Nat.le_of_ble_eq_true rfl) ?_
  show Go SC mX10_fits 0 [(0, .ref 0)] [] w Q
  refine g_aload_n (pc := 0) dX10_fits_0 rfl 0 rfl ?_
  refine g_callV (pc := 1) (M' := mX10_hasHall) (n := 0) (a := 0) (as := []) (st := []) dX10_fits_1 rfl kX10_255 vX10_hasHall (Nat.le_of_ble_eq_true rfl) rfl qX10 rfl rfl (Nat.le_of_ble_eq_true rfl) ?_
  refine zX10_hasHall (w := w) (b := b) (hR := hR) ?_
  show Go SC mX10_fits 4 [(0, .ref 0)] [.int (vXX10_hasHall w b)] w Q
  refine g_if_ne (pc := 4) (tgt := 14) dX10_fits_4 (by decide) (fun q => ?_) (fun q => ?_)
  · have h := h.2 q
    refine g_aload_n (pc := 14) dX10_fits_14 rfl 0 rfl ?_
    refine g_aload_n (pc := 15) dX10_fits_15 rfl 0 rfl ?_
    refine g_getR (pc := 16) (a := 0) (b := (hA b)) dX10_fits_16 rfl fX10_19 rfl (rc_0_1 hR) ?_
    refine g_aload_n (pc := 19) dX10_fits_19 rfl 0 rfl ?_
    refine g_getR (pc := 20) (a := 0) (b := 55) dX10_fits_20 rfl fX10_36 rfl (rc_0_4 hR) ?_
    refine g_callV (pc := 23) (M' := mX2_fitting) (n := 1) (a := (hA b)) (as := [.ref 55]) (st := [.ref 0]) dX10_fits_23 rfl kX10_258 vX2_fitting (Nat.le_of_ble_eq_true rfl) (sh_h b) qX2 rfl rfl (Nat.le_of_ble_eq_true rfl) ?_
    refine cl_mono (fun r w1 hr => ?_) h
    obtain ⟨x2, rfl, hw1, h⟩ := hr
    show Go SC mX10_fits 26 [(0, .ref 0)] [.int x2, .ref 0] w1 Q
    refine g_callS (pc := 26) (M' := mJ6_bitCount_0f7a4) (n := 1) (as := [.int x2]) (st := [.ref 0]) dX10_fits_26 rfl kX10_262 sJ6_bitCount_0f7a4 (Nat.le_of_ble_eq_true rfl) rfl rfl (Nat.le_of_ble_eq_true rfl) ?_
    refine zJ6_bitCount_0f7a4 (a1 := x2) (w := w1) (b := b) (hR := hw1) ?_
    show Go SC mX10_fits 29 [(0, .ref 0)] [.int (vXJ6_bitCount_0f7a4 x2), .ref 0] w1 Q
    refine g_callV (pc := 29) (M' := mX10_accept) (n := 1) (a := 0) (as := [.int (vXJ6_bitCount_0f7a4 x2)]) (st := []) dX10_fits_29 rfl kX10_100 vX10_accept (Nat.le_of_ble_eq_true rfl) rfl qX10 rfl rfl (Nat.le_of_ble_eq_true rfl) ?_
    refine zX10_accept (a1 := (vXJ6_bitCount_0f7a4 x2)) (w := w1) (b := b) (hR := hw1) ?_
    show Go SC mX10_fits 32 [(0, .ref 0)] [.int (vXX10_accept (vXJ6_bitCount_0f7a4 x2))] (wXX10_accept (vXJ6_bitCount_0f7a4 x2) w1) Q
    exact g_iret (pc := 32) dX10_fits_32 rfl h
  · have h := h.1 q
    refine g_aload_n (pc := 7) dX10_fits_7 rfl 0 rfl ?_
    refine g_iconst (pc := 8) dX10_fits_8 c_1 ?_
    refine g_iconst (pc := 9) dX10_fits_9 cN_1 ?_
    refine g_callV (pc := 10) (M' := mX10_refuse) (n := 2) (a := 0) (as := [.int 1, .int (-1)]) (st := []) dX10_fits_10 rfl kX10_83 vX10_refuse (Nat.le_of_ble_eq_true rfl) rfl qX10 rfl rfl (Nat.le_of_ble_eq_true rfl) ?_
    refine zX10_refuse (a1 := 1) (a2 := (-1)) (w := w) (b := b) (hR := hR) ?_
    show Go SC mX10_fits 13 [(0, .ref 0)] [.int (vXX10_refuse 1 (-1))] (wXX10_refuse 1 (-1) w) Q
    exact g_iret (pc := 13) dX10_fits_13 rfl h
set_option maxHeartbeats 4000000 in
set_option maxRecDepth 100000 in
theorem TX10_fitAt (a1 : Int32) (w : Wd) (b : Bool) (hR : w.2.2 = RTab b) (Q : Option Value → Wd → Prop) (h : (((vXX10_hasHall w b) = 0 → Q (some (.int (vXX10_refuse 1 (-1)))) (wXX10_refuse 1 (-1) w)) ∧ (¬ ((vXX10_hasHall w b) = 0) → ((0 ≤ a1 → ClI SC mX2_fitting [.ref (hA b), .ref 55] w (fun x2 w1 => w1.2.2 = RTab b ∧ Go SC mX10_fitAt 35 [(0, .ref 0), (1, .int a1), (2, .int x2), (3, .int 0), (4, .int 0)] [] w1 Q)) ∧ (¬ (0 ≤ a1) → Q (some (.int (vXX10_refuse 1 (-1)))) (wXX10_refuse 1 (-1) w)))))) : Cl SC mX10_fitAt [.ref 0, .int a1] w Q := by
  refine cl_of (by decide) (Nat.le_of_ble_eq_true rfl) ?_
  show Go SC mX10_fitAt 0 [(0, .ref 0), (1, .int a1)] [] w Q
  refine g_aload_n (pc := 0) dX10_fitAt_0 rfl 0 rfl ?_
  refine g_callV (pc := 1) (M' := mX10_hasHall) (n := 0) (a := 0) (as := []) (st := []) dX10_fitAt_1 rfl kX10_255 vX10_hasHall (Nat.le_of_ble_eq_true rfl) rfl qX10 rfl rfl (Nat.le_of_ble_eq_true rfl) ?_
  refine zX10_hasHall (w := w) (b := b) (hR := hR) ?_
  show Go SC mX10_fitAt 4 [(0, .ref 0), (1, .int a1)] [.int (vXX10_hasHall w b)] w Q
  refine g_if_eq (pc := 4) (tgt := 11) dX10_fitAt_4 (by decide) (fun q => ?_) (fun q => ?_)
  · have h := h.1 q
    refine g_aload_n (pc := 11) dX10_fitAt_11 rfl 0 rfl ?_
    refine g_iconst (pc := 12) dX10_fitAt_12 c_1 ?_
    refine g_iconst (pc := 13) dX10_fitAt_13 cN_1 ?_
    refine g_callV (pc := 14) (M' := mX10_refuse) (n := 2) (a := 0) (as := [.int 1, .int (-1)]) (st := []) dX10_fitAt_14 rfl kX10_83 vX10_refuse (Nat.le_of_ble_eq_true rfl) rfl qX10 rfl rfl (Nat.le_of_ble_eq_true rfl) ?_
    refine zX10_refuse (a1 := 1) (a2 := (-1)) (w := w) (b := b) (hR := hR) ?_
    show Go SC mX10_fitAt 17 [(0, .ref 0), (1, .int a1)] [.int (vXX10_refuse 1 (-1))] (wXX10_refuse 1 (-1) w) Q
    exact g_iret (pc := 17) dX10_fitAt_17 rfl h
  · have h := h.2 q
    refine g_iload_n (pc := 7) dX10_fitAt_7 rfl 1 rfl ?_
    refine g_if_ge (pc := 8) (tgt := 18) dX10_fitAt_8 (by decide) (fun q => ?_) (fun q => ?_)
    · have h := h.1 q
      refine g_aload_n (pc := 18) dX10_fitAt_18 rfl 0 rfl ?_
      refine g_getR (pc := 19) (a := 0) (b := (hA b)) dX10_fitAt_19 rfl fX10_19 rfl (rc_0_1 hR) ?_
      refine g_aload_n (pc := 22) dX10_fitAt_22 rfl 0 rfl ?_
      refine g_getR (pc := 23) (a := 0) (b := 55) dX10_fitAt_23 rfl fX10_36 rfl (rc_0_4 hR) ?_
      refine g_callV (pc := 26) (M' := mX2_fitting) (n := 1) (a := (hA b)) (as := [.ref 55]) (st := []) dX10_fitAt_26 rfl kX10_258 vX2_fitting (Nat.le_of_ble_eq_true rfl) (sh_h b) qX2 rfl rfl (Nat.le_of_ble_eq_true rfl) ?_
      refine cl_mono (fun r w1 hr => ?_) h
      obtain ⟨x2, rfl, hw1, h⟩ := hr
      show Go SC mX10_fitAt 29 [(0, .ref 0), (1, .int a1)] [.int x2] w1 Q
      refine g_istore_n (pc := 29) (lv2 := [(0, .ref 0), (1, .int a1), (2, .int x2)]) dX10_fitAt_29 rfl (Nat.le_of_ble_eq_true rfl) rfl ?_
      refine g_iconst (pc := 30) dX10_fitAt_30 c_0 ?_
      refine g_istore_n (pc := 31) (lv2 := [(0, .ref 0), (1, .int a1), (2, .int x2), (3, .int 0)]) dX10_fitAt_31 rfl (Nat.le_of_ble_eq_true rfl) rfl ?_
      refine g_iconst (pc := 32) dX10_fitAt_32 c_0 ?_
      refine g_istore (pc := 33) (lv2 := [(0, .ref 0), (1, .int a1), (2, .int x2), (3, .int 0), (4, .int 0)]) dX10_fitAt_33 (Nat.le_of_ble_eq_true rfl) rfl ?_
      exact h
    · have h := h.2 q
      refine g_aload_n (pc := 11) dX10_fitAt_11 rfl 0 rfl ?_
      refine g_iconst (pc := 12) dX10_fitAt_12 c_1 ?_
      refine g_iconst (pc := 13) dX10_fitAt_13 cN_1 ?_
      refine g_callV (pc := 14) (M' := mX10_refuse) (n := 2) (a := 0) (as := [.int 1, .int (-1)]) (st := []) dX10_fitAt_14 rfl kX10_83 vX10_refuse (Nat.le_of_ble_eq_true rfl) rfl qX10 rfl rfl (Nat.le_of_ble_eq_true rfl) ?_
      refine zX10_refuse (a1 := 1) (a2 := (-1)) (w := w) (b := b) (hR := hR) ?_
      show Go SC mX10_fitAt 17 [(0, .ref 0), (1, .int a1)] [.int (vXX10_refuse 1 (-1))] (wXX10_refuse 1 (-1) w) Q
      exact g_iret (pc := 17) dX10_fitAt_17 rfl h
set_option maxHeartbeats 4000000 in
set_option maxRecDepth 100000 in
theorem BX10_fitAt_35  (l1 : Int32) (l2 : Int32) (l3 : Int32) (l4 : Int32) (w : Wd) (b : Bool) (hR : w.2.2 = RTab b) (Q : Option Value → Wd → Prop) (h : (((vXX2_sets b w) ≤ l4 → Q (some (.int (vXX10_refuse 1 (-1)))) (wXX10_refuse 1 (-1) w)) ∧ (¬ ((vXX2_sets b w) ≤ l4) → (((vXX10_isIn l2 l4) = 0 → Go SC mX10_fitAt 35 [(0, .ref 0), (1, .int l1), (2, .int l2), (3, .int l3), (4, .int (l4 + 1))] [] w Q) ∧ (¬ ((vXX10_isIn l2 l4) = 0) → ((l3 = l1 → Q (some (.int (vXX10_accept l4))) (wXX10_accept l4 w)) ∧ (¬ (l3 = l1) → Go SC mX10_fitAt 35 [(0, .ref 0), (1, .int l1), (2, .int l2), (3, .int (l3 + 1)), (4, .int (l4 + 1))] [] w Q))))))) : Go SC mX10_fitAt 35 [(0, .ref 0), (1, .int l1), (2, .int l2), (3, .int l3), (4, .int l4)] [] w Q := by
  refine g_iload (pc := 35) dX10_fitAt_35 4 rfl ?_
  refine g_aload_n (pc := 37) dX10_fitAt_37 rfl 0 rfl ?_
  refine g_getR (pc := 38) (a := 0) (b := (hA b)) dX10_fitAt_38 rfl fX10_19 rfl (rc_0_1 hR) ?_
  refine g_callV (pc := 41) (M' := mX2_sets) (n := 0) (a := (hA b)) (as := []) (st := [.int l4]) dX10_fitAt_41 rfl kX10_267 vX2_sets (Nat.le_of_ble_eq_true rfl) (sh_h b) qX2 rfl rfl (Nat.le_of_ble_eq_true rfl) ?_
  refine zX2_sets (c := b) (w := w) (b := b) (hR := hR) ?_
  show Go SC mX10_fitAt 44 [(0, .ref 0), (1, .int l1), (2, .int l2), (3, .int l3), (4, .int l4)] [.int (vXX2_sets b w), .int l4] w Q
  refine g_icmp_ge (pc := 44) (tgt := 80) dX10_fitAt_44 (by decide) (fun q => ?_) (fun q => ?_)
  · have h := h.1 q
    refine g_aload_n (pc := 80) dX10_fitAt_80 rfl 0 rfl ?_
    refine g_iconst (pc := 81) dX10_fitAt_81 c_1 ?_
    refine g_iconst (pc := 82) dX10_fitAt_82 cN_1 ?_
    refine g_callV (pc := 83) (M' := mX10_refuse) (n := 2) (a := 0) (as := [.int 1, .int (-1)]) (st := []) dX10_fitAt_83 rfl kX10_83 vX10_refuse (Nat.le_of_ble_eq_true rfl) rfl qX10 rfl rfl (Nat.le_of_ble_eq_true rfl) ?_
    refine zX10_refuse (a1 := 1) (a2 := (-1)) (w := w) (b := b) (hR := hR) ?_
    show Go SC mX10_fitAt 86 [(0, .ref 0), (1, .int l1), (2, .int l2), (3, .int l3), (4, .int l4)] [.int (vXX10_refuse 1 (-1))] (wXX10_refuse 1 (-1) w) Q
    exact g_iret (pc := 86) dX10_fitAt_86 rfl h
  · have h := h.2 q
    refine g_iload_n (pc := 47) dX10_fitAt_47 rfl 2 rfl ?_
    refine g_iload (pc := 48) dX10_fitAt_48 4 rfl ?_
    refine g_callS (pc := 50) (M' := mX10_isIn) (n := 2) (as := [.int l2, .int l4]) (st := []) dX10_fitAt_50 rfl kX10_270 sX10_isIn (Nat.le_of_ble_eq_true rfl) rfl rfl (Nat.le_of_ble_eq_true rfl) ?_
    refine zX10_isIn (a1 := l2) (a2 := l4) (w := w) (b := b) (hR := hR) ?_
    show Go SC mX10_fitAt 53 [(0, .ref 0), (1, .int l1), (2, .int l2), (3, .int l3), (4, .int l4)] [.int (vXX10_isIn l2 l4)] w Q
    refine g_if_ne (pc := 53) (tgt := 59) dX10_fitAt_53 (by decide) (fun q => ?_) (fun q => ?_)
    · have h := h.2 q
      refine g_iload_n (pc := 59) dX10_fitAt_59 rfl 3 rfl ?_
      refine g_iload_n (pc := 60) dX10_fitAt_60 rfl 1 rfl ?_
      refine g_icmp_ne (pc := 61) (tgt := 71) dX10_fitAt_61 (by decide) (fun q => ?_) (fun q => ?_)
      · have h := h.2 q
        refine g_iinc (pc := 71) (v := l3 + 1) (lv2 := [(0, .ref 0), (1, .int l1), (2, .int l2), (3, .int (l3 + 1)), (4, .int l4)]) dX10_fitAt_71 3 rfl (Nat.le_of_ble_eq_true rfl) rfl rfl ?_
        refine g_iinc (pc := 74) (v := l4 + 1) (lv2 := [(0, .ref 0), (1, .int l1), (2, .int l2), (3, .int (l3 + 1)), (4, .int (l4 + 1))]) dX10_fitAt_74 4 rfl (Nat.le_of_ble_eq_true rfl) rfl rfl ?_
        refine g_goto (pc := 77) (tgt := 35) dX10_fitAt_77 (by decide) ?_
        exact h
      · have h := h.1 q
        refine g_aload_n (pc := 64) dX10_fitAt_64 rfl 0 rfl ?_
        refine g_iload (pc := 65) dX10_fitAt_65 4 rfl ?_
        refine g_callV (pc := 67) (M' := mX10_accept) (n := 1) (a := 0) (as := [.int l4]) (st := []) dX10_fitAt_67 rfl kX10_100 vX10_accept (Nat.le_of_ble_eq_true rfl) rfl qX10 rfl rfl (Nat.le_of_ble_eq_true rfl) ?_
        refine zX10_accept (a1 := l4) (w := w) (b := b) (hR := hR) ?_
        show Go SC mX10_fitAt 70 [(0, .ref 0), (1, .int l1), (2, .int l2), (3, .int l3), (4, .int l4)] [.int (vXX10_accept l4)] (wXX10_accept l4 w) Q
        exact g_iret (pc := 70) dX10_fitAt_70 rfl h
    · have h := h.1 q
      refine g_goto (pc := 56) (tgt := 74) dX10_fitAt_56 (by decide) ?_
      refine g_iinc (pc := 74) (v := l4 + 1) (lv2 := [(0, .ref 0), (1, .int l1), (2, .int l2), (3, .int l3), (4, .int (l4 + 1))]) dX10_fitAt_74 4 rfl (Nat.le_of_ble_eq_true rfl) rfl rfl ?_
      refine g_goto (pc := 77) (tgt := 35) dX10_fitAt_77 (by decide) ?_
      exact h
set_option maxHeartbeats 4000000 in
set_option maxRecDepth 100000 in
theorem TX10_could  (w : Wd) (b : Bool) (hR : w.2.2 = RTab b) (Q : Option Value → Wd → Prop) (h : (((vXX10_hasHall w b) = 0 → Q (some (.int (vXX10_refuse 1 (-1)))) (wXX10_refuse 1 (-1) w)) ∧ (¬ ((vXX10_hasHall w b) = 0) → ClI SC mX2_fitting [.ref (hA b), .ref 55] w (fun x2 w1 => w1.2.2 = RTab b ∧ Go SC mX10_could 30 [(0, .ref 0), (1, .int x2), (2, .int 0), (3, .int 0)] [] w1 Q)))) : Cl SC mX10_could [.ref 0] w Q := by
  refine cl_of (by decide) (Nat.le_of_ble_eq_true rfl) ?_
  show Go SC mX10_could 0 [(0, .ref 0)] [] w Q
  refine g_aload_n (pc := 0) dX10_could_0 rfl 0 rfl ?_
  refine g_callV (pc := 1) (M' := mX10_hasHall) (n := 0) (a := 0) (as := []) (st := []) dX10_could_1 rfl kX10_255 vX10_hasHall (Nat.le_of_ble_eq_true rfl) rfl qX10 rfl rfl (Nat.le_of_ble_eq_true rfl) ?_
  refine zX10_hasHall (w := w) (b := b) (hR := hR) ?_
  show Go SC mX10_could 4 [(0, .ref 0)] [.int (vXX10_hasHall w b)] w Q
  refine g_if_ne (pc := 4) (tgt := 14) dX10_could_4 (by decide) (fun q => ?_) (fun q => ?_)
  · have h := h.2 q
    refine g_aload_n (pc := 14) dX10_could_14 rfl 0 rfl ?_
    refine g_getR (pc := 15) (a := 0) (b := (hA b)) dX10_could_15 rfl fX10_19 rfl (rc_0_1 hR) ?_
    refine g_aload_n (pc := 18) dX10_could_18 rfl 0 rfl ?_
    refine g_getR (pc := 19) (a := 0) (b := 55) dX10_could_19 rfl fX10_36 rfl (rc_0_4 hR) ?_
    refine g_callV (pc := 22) (M' := mX2_fitting) (n := 1) (a := (hA b)) (as := [.ref 55]) (st := []) dX10_could_22 rfl kX10_258 vX2_fitting (Nat.le_of_ble_eq_true rfl) (sh_h b) qX2 rfl rfl (Nat.le_of_ble_eq_true rfl) ?_
    refine cl_mono (fun r w1 hr => ?_) h
    obtain ⟨x2, rfl, hw1, h⟩ := hr
    show Go SC mX10_could 25 [(0, .ref 0)] [.int x2] w1 Q
    refine g_istore_n (pc := 25) (lv2 := [(0, .ref 0), (1, .int x2)]) dX10_could_25 rfl (Nat.le_of_ble_eq_true rfl) rfl ?_
    refine g_iconst (pc := 26) dX10_could_26 c_0 ?_
    refine g_istore_n (pc := 27) (lv2 := [(0, .ref 0), (1, .int x2), (2, .int 0)]) dX10_could_27 rfl (Nat.le_of_ble_eq_true rfl) rfl ?_
    refine g_iconst (pc := 28) dX10_could_28 c_0 ?_
    refine g_istore_n (pc := 29) (lv2 := [(0, .ref 0), (1, .int x2), (2, .int 0), (3, .int 0)]) dX10_could_29 rfl (Nat.le_of_ble_eq_true rfl) rfl ?_
    exact h
  · have h := h.1 q
    refine g_aload_n (pc := 7) dX10_could_7 rfl 0 rfl ?_
    refine g_iconst (pc := 8) dX10_could_8 c_1 ?_
    refine g_iconst (pc := 9) dX10_could_9 cN_1 ?_
    refine g_callV (pc := 10) (M' := mX10_refuse) (n := 2) (a := 0) (as := [.int 1, .int (-1)]) (st := []) dX10_could_10 rfl kX10_83 vX10_refuse (Nat.le_of_ble_eq_true rfl) rfl qX10 rfl rfl (Nat.le_of_ble_eq_true rfl) ?_
    refine zX10_refuse (a1 := 1) (a2 := (-1)) (w := w) (b := b) (hR := hR) ?_
    show Go SC mX10_could 13 [(0, .ref 0)] [.int (vXX10_refuse 1 (-1))] (wXX10_refuse 1 (-1) w) Q
    exact g_iret (pc := 13) dX10_could_13 rfl h
set_option maxHeartbeats 4000000 in
set_option maxRecDepth 100000 in
theorem BX10_could_30  (l1 : Int32) (l2 : Int32) (l3 : Int32) (w : Wd) (b : Bool) (hR : w.2.2 = RTab b) (Q : Option Value → Wd → Prop) (h : (((vXX2_sets b w) ≤ l3 → Q (some (.int (vXX10_accept l2))) (wXX10_accept l2 w)) ∧ (¬ ((vXX2_sets b w) ≤ l3) → Go SC mX10_could 30 [(0, .ref 0), (1, .int l1), (2, .int (if (vXX10_isIn l1 l3) = 0 then l2 else l2 ||| l3 : Int32)), (3, .int (l3 + 1))] [] w Q))) : Go SC mX10_could 30 [(0, .ref 0), (1, .int l1), (2, .int l2), (3, .int l3)] [] w Q := by
  refine g_iload_n (pc := 30) dX10_could_30 rfl 3 rfl ?_
  refine g_aload_n (pc := 31) dX10_could_31 rfl 0 rfl ?_
  refine g_getR (pc := 32) (a := 0) (b := (hA b)) dX10_could_32 rfl fX10_19 rfl (rc_0_1 hR) ?_
  refine g_callV (pc := 35) (M' := mX2_sets) (n := 0) (a := (hA b)) (as := []) (st := [.int l3]) dX10_could_35 rfl kX10_267 vX2_sets (Nat.le_of_ble_eq_true rfl) (sh_h b) qX2 rfl rfl (Nat.le_of_ble_eq_true rfl) ?_
  refine zX2_sets (c := b) (w := w) (b := b) (hR := hR) ?_
  show Go SC mX10_could 38 [(0, .ref 0), (1, .int l1), (2, .int l2), (3, .int l3)] [.int (vXX2_sets b w), .int l3] w Q
  refine g_icmp_ge (pc := 38) (tgt := 59) dX10_could_38 (by decide) (fun q => ?_) (fun q => ?_)
  · have h := h.1 q
    refine g_aload_n (pc := 59) dX10_could_59 rfl 0 rfl ?_
    refine g_iload_n (pc := 60) dX10_could_60 rfl 2 rfl ?_
    refine g_callV (pc := 61) (M' := mX10_accept) (n := 1) (a := 0) (as := [.int l2]) (st := []) dX10_could_61 rfl kX10_100 vX10_accept (Nat.le_of_ble_eq_true rfl) rfl qX10 rfl rfl (Nat.le_of_ble_eq_true rfl) ?_
    refine zX10_accept (a1 := l2) (w := w) (b := b) (hR := hR) ?_
    show Go SC mX10_could 64 [(0, .ref 0), (1, .int l1), (2, .int l2), (3, .int l3)] [.int (vXX10_accept l2)] (wXX10_accept l2 w) Q
    exact g_iret (pc := 64) dX10_could_64 rfl h
  · have h := h.2 q
    refine g_iload_n (pc := 41) dX10_could_41 rfl 1 rfl ?_
    refine g_iload_n (pc := 42) dX10_could_42 rfl 3 rfl ?_
    refine g_callS (pc := 43) (M' := mX10_isIn) (n := 2) (as := [.int l1, .int l3]) (st := []) dX10_could_43 rfl kX10_270 sX10_isIn (Nat.le_of_ble_eq_true rfl) rfl rfl (Nat.le_of_ble_eq_true rfl) ?_
    refine zX10_isIn (a1 := l1) (a2 := l3) (w := w) (b := b) (hR := hR) ?_
    show Go SC mX10_could 46 [(0, .ref 0), (1, .int l1), (2, .int l2), (3, .int l3)] [.int (vXX10_isIn l1 l3)] w Q
    have hJ : Go SC mX10_could 53 [(0, .ref 0), (1, .int l1), (2, .int (if (vXX10_isIn l1 l3) = 0 then l2 else l2 ||| l3 : Int32)), (3, .int l3)] [] w Q := by
      refine g_iinc (pc := 53) (v := l3 + 1) (lv2 := [(0, .ref 0), (1, .int l1), (2, .int (if (vXX10_isIn l1 l3) = 0 then l2 else l2 ||| l3 : Int32)), (3, .int (l3 + 1))]) dX10_could_53 3 rfl (Nat.le_of_ble_eq_true rfl) rfl rfl ?_
      refine g_goto (pc := 56) (tgt := 30) dX10_could_56 (by decide) ?_
      exact h
    refine g_if_eq (pc := 46) (tgt := 53) dX10_could_46 (by decide) (fun q46 => ?_) (fun q46 => ?_)
    · first | (exfalso; contradiction) | exact cast (by simp only [if_pos q46]) hJ
    · refine g_iload_n (pc := 49) dX10_could_49 rfl 2 rfl ?_
      refine g_iload_n (pc := 50) dX10_could_50 rfl 3 rfl ?_
      refine g_ior (pc := 51) dX10_could_51 ?_
      refine g_istore_n (pc := 52) (lv2 := [(0, .ref 0), (1, .int l1), (2, .int (l2 ||| l3)), (3, .int l3)]) dX10_could_52 rfl (Nat.le_of_ble_eq_true rfl) rfl ?_
      first | (exfalso; contradiction) | exact cast (by simp only [if_neg q46]) hJ
set_option maxHeartbeats 4000000 in
set_option maxRecDepth 100000 in
theorem TX10_surely  (w : Wd) (b : Bool) (hR : w.2.2 = RTab b) (Q : Option Value → Wd → Prop) (h : (((vXX10_hasHall w b) = 0 → Q (some (.int (vXX10_refuse 1 (-1)))) (wXX10_refuse 1 (-1) w)) ∧ (¬ ((vXX10_hasHall w b) = 0) → ClI SC mX2_fitting [.ref (hA b), .ref 55] w (fun x2 w1 => w1.2.2 = RTab b ∧ ((x2 = 0 → Q (some (.int (vXX10_accept 0))) (wXX10_accept 0 w1)) ∧ (¬ (x2 = 0) → Go SC mX10_surely 48 [(0, .ref 0), (1, .int x2), (2, .int ((vXX2_sets b w1) - 1)), (3, .int 0)] [] w1 Q)))))) : Cl SC mX10_surely [.ref 0] w Q := by
  refine cl_of (by decide) (Nat.le_of_ble_eq_true rfl) ?_
  show Go SC mX10_surely 0 [(0, .ref 0)] [] w Q
  refine g_aload_n (pc := 0) dX10_surely_0 rfl 0 rfl ?_
  refine g_callV (pc := 1) (M' := mX10_hasHall) (n := 0) (a := 0) (as := []) (st := []) dX10_surely_1 rfl kX10_255 vX10_hasHall (Nat.le_of_ble_eq_true rfl) rfl qX10 rfl rfl (Nat.le_of_ble_eq_true rfl) ?_
  refine zX10_hasHall (w := w) (b := b) (hR := hR) ?_
  show Go SC mX10_surely 4 [(0, .ref 0)] [.int (vXX10_hasHall w b)] w Q
  refine g_if_ne (pc := 4) (tgt := 14) dX10_surely_4 (by decide) (fun q => ?_) (fun q => ?_)
  · have h := h.2 q
    refine g_aload_n (pc := 14) dX10_surely_14 rfl 0 rfl ?_
    refine g_getR (pc := 15) (a := 0) (b := (hA b)) dX10_surely_15 rfl fX10_19 rfl (rc_0_1 hR) ?_
    refine g_aload_n (pc := 18) dX10_surely_18 rfl 0 rfl ?_
    refine g_getR (pc := 19) (a := 0) (b := 55) dX10_surely_19 rfl fX10_36 rfl (rc_0_4 hR) ?_
    refine g_callV (pc := 22) (M' := mX2_fitting) (n := 1) (a := (hA b)) (as := [.ref 55]) (st := []) dX10_surely_22 rfl kX10_258 vX2_fitting (Nat.le_of_ble_eq_true rfl) (sh_h b) qX2 rfl rfl (Nat.le_of_ble_eq_true rfl) ?_
    refine cl_mono (fun r w1 hr => ?_) h
    obtain ⟨x2, rfl, hw1, h⟩ := hr
    show Go SC mX10_surely 25 [(0, .ref 0)] [.int x2] w1 Q
    refine g_istore_n (pc := 25) (lv2 := [(0, .ref 0), (1, .int x2)]) dX10_surely_25 rfl (Nat.le_of_ble_eq_true rfl) rfl ?_
    refine g_iload_n (pc := 26) dX10_surely_26 rfl 1 rfl ?_
    refine g_if_ne (pc := 27) (tgt := 36) dX10_surely_27 (by decide) (fun q => ?_) (fun q => ?_)
    · have h := h.2 q
      refine g_aload_n (pc := 36) dX10_surely_36 rfl 0 rfl ?_
      refine g_getR (pc := 37) (a := 0) (b := (hA b)) dX10_surely_37 rfl fX10_19 rfl (rc_0_1 hw1) ?_
      refine g_callV (pc := 40) (M' := mX2_sets) (n := 0) (a := (hA b)) (as := []) (st := []) dX10_surely_40 rfl kX10_267 vX2_sets (Nat.le_of_ble_eq_true rfl) (sh_h b) qX2 rfl rfl (Nat.le_of_ble_eq_true rfl) ?_
      refine zX2_sets (c := b) (w := w1) (b := b) (hR := hw1) ?_
      show Go SC mX10_surely 43 [(0, .ref 0), (1, .int x2)] [.int (vXX2_sets b w1)] w1 Q
      refine g_iconst (pc := 43) dX10_surely_43 c_1 ?_
      refine g_isub (pc := 44) dX10_surely_44 ?_
      refine g_istore_n (pc := 45) (lv2 := [(0, .ref 0), (1, .int x2), (2, .int ((vXX2_sets b w1) - 1))]) dX10_surely_45 rfl (Nat.le_of_ble_eq_true rfl) rfl ?_
      refine g_iconst (pc := 46) dX10_surely_46 c_0 ?_
      refine g_istore_n (pc := 47) (lv2 := [(0, .ref 0), (1, .int x2), (2, .int ((vXX2_sets b w1) - 1)), (3, .int 0)]) dX10_surely_47 rfl (Nat.le_of_ble_eq_true rfl) rfl ?_
      exact h
    · have h := h.1 q
      refine g_aload_n (pc := 30) dX10_surely_30 rfl 0 rfl ?_
      refine g_iconst (pc := 31) dX10_surely_31 c_0 ?_
      refine g_callV (pc := 32) (M' := mX10_accept) (n := 1) (a := 0) (as := [.int 0]) (st := []) dX10_surely_32 rfl kX10_100 vX10_accept (Nat.le_of_ble_eq_true rfl) rfl qX10 rfl rfl (Nat.le_of_ble_eq_true rfl) ?_
      refine zX10_accept (a1 := 0) (w := w1) (b := b) (hR := hw1) ?_
      show Go SC mX10_surely 35 [(0, .ref 0), (1, .int x2)] [.int (vXX10_accept 0)] (wXX10_accept 0 w1) Q
      exact g_iret (pc := 35) dX10_surely_35 rfl h
  · have h := h.1 q
    refine g_aload_n (pc := 7) dX10_surely_7 rfl 0 rfl ?_
    refine g_iconst (pc := 8) dX10_surely_8 c_1 ?_
    refine g_iconst (pc := 9) dX10_surely_9 cN_1 ?_
    refine g_callV (pc := 10) (M' := mX10_refuse) (n := 2) (a := 0) (as := [.int 1, .int (-1)]) (st := []) dX10_surely_10 rfl kX10_83 vX10_refuse (Nat.le_of_ble_eq_true rfl) rfl qX10 rfl rfl (Nat.le_of_ble_eq_true rfl) ?_
    refine zX10_refuse (a1 := 1) (a2 := (-1)) (w := w) (b := b) (hR := hR) ?_
    show Go SC mX10_surely 13 [(0, .ref 0)] [.int (vXX10_refuse 1 (-1))] (wXX10_refuse 1 (-1) w) Q
    exact g_iret (pc := 13) dX10_surely_13 rfl h
set_option maxHeartbeats 4000000 in
set_option maxRecDepth 100000 in
theorem BX10_surely_48  (l1 : Int32) (l2 : Int32) (l3 : Int32) (w : Wd) (b : Bool) (hR : w.2.2 = RTab b) (Q : Option Value → Wd → Prop) (h : (((vXX2_sets b w) ≤ l3 → Q (some (.int (vXX10_accept l2))) (wXX10_accept l2 w)) ∧ (¬ ((vXX2_sets b w) ≤ l3) → Go SC mX10_surely 48 [(0, .ref 0), (1, .int l1), (2, .int (if (vXX10_isIn l1 l3) = 0 then l2 else l2 &&& l3 : Int32)), (3, .int (l3 + 1))] [] w Q))) : Go SC mX10_surely 48 [(0, .ref 0), (1, .int l1), (2, .int l2), (3, .int l3)] [] w Q := by
  refine g_iload_n (pc := 48) dX10_surely_48 rfl 3 rfl ?_
  refine g_aload_n (pc := 49) dX10_surely_49 rfl 0 rfl ?_
  refine g_getR (pc := 50) (a := 0) (b := (hA b)) dX10_surely_50 rfl fX10_19 rfl (rc_0_1 hR) ?_
  refine g_callV (pc := 53) (M' := mX2_sets) (n := 0) (a := (hA b)) (as := []) (st := [.int l3]) dX10_surely_53 rfl kX10_267 vX2_sets (Nat.le_of_ble_eq_true rfl) (sh_h b) qX2 rfl rfl (Nat.le_of_ble_eq_true rfl) ?_
  refine zX2_sets (c := b) (w := w) (b := b) (hR := hR) ?_
  show Go SC mX10_surely 56 [(0, .ref 0), (1, .int l1), (2, .int l2), (3, .int l3)] [.int (vXX2_sets b w), .int l3] w Q
  refine g_icmp_ge (pc := 56) (tgt := 77) dX10_surely_56 (by decide) (fun q => ?_) (fun q => ?_)
  · have h := h.1 q
    refine g_aload_n (pc := 77) dX10_surely_77 rfl 0 rfl ?_
    refine g_iload_n (pc := 78) dX10_surely_78 rfl 2 rfl ?_
    refine g_callV (pc := 79) (M' := mX10_accept) (n := 1) (a := 0) (as := [.int l2]) (st := []) dX10_surely_79 rfl kX10_100 vX10_accept (Nat.le_of_ble_eq_true rfl) rfl qX10 rfl rfl (Nat.le_of_ble_eq_true rfl) ?_
    refine zX10_accept (a1 := l2) (w := w) (b := b) (hR := hR) ?_
    show Go SC mX10_surely 82 [(0, .ref 0), (1, .int l1), (2, .int l2), (3, .int l3)] [.int (vXX10_accept l2)] (wXX10_accept l2 w) Q
    exact g_iret (pc := 82) dX10_surely_82 rfl h
  · have h := h.2 q
    refine g_iload_n (pc := 59) dX10_surely_59 rfl 1 rfl ?_
    refine g_iload_n (pc := 60) dX10_surely_60 rfl 3 rfl ?_
    refine g_callS (pc := 61) (M' := mX10_isIn) (n := 2) (as := [.int l1, .int l3]) (st := []) dX10_surely_61 rfl kX10_270 sX10_isIn (Nat.le_of_ble_eq_true rfl) rfl rfl (Nat.le_of_ble_eq_true rfl) ?_
    refine zX10_isIn (a1 := l1) (a2 := l3) (w := w) (b := b) (hR := hR) ?_
    show Go SC mX10_surely 64 [(0, .ref 0), (1, .int l1), (2, .int l2), (3, .int l3)] [.int (vXX10_isIn l1 l3)] w Q
    have hJ : Go SC mX10_surely 71 [(0, .ref 0), (1, .int l1), (2, .int (if (vXX10_isIn l1 l3) = 0 then l2 else l2 &&& l3 : Int32)), (3, .int l3)] [] w Q := by
      refine g_iinc (pc := 71) (v := l3 + 1) (lv2 := [(0, .ref 0), (1, .int l1), (2, .int (if (vXX10_isIn l1 l3) = 0 then l2 else l2 &&& l3 : Int32)), (3, .int (l3 + 1))]) dX10_surely_71 3 rfl (Nat.le_of_ble_eq_true rfl) rfl rfl ?_
      refine g_goto (pc := 74) (tgt := 48) dX10_surely_74 (by decide) ?_
      exact h
    refine g_if_eq (pc := 64) (tgt := 71) dX10_surely_64 (by decide) (fun q64 => ?_) (fun q64 => ?_)
    · first | (exfalso; contradiction) | exact cast (by simp only [if_pos q64]) hJ
    · refine g_iload_n (pc := 67) dX10_surely_67 rfl 2 rfl ?_
      refine g_iload_n (pc := 68) dX10_surely_68 rfl 3 rfl ?_
      refine g_iand (pc := 69) dX10_surely_69 ?_
      refine g_istore_n (pc := 70) (lv2 := [(0, .ref 0), (1, .int l1), (2, .int (l2 &&& l3)), (3, .int l3)]) dX10_surely_70 rfl (Nat.le_of_ble_eq_true rfl) rfl ?_
      first | (exfalso; contradiction) | exact cast (by simp only [if_neg q64]) hJ
set_option maxHeartbeats 4000000 in
set_option maxRecDepth 100000 in
theorem TX10_ask  (w : Wd) (b : Bool) (hR : w.2.2 = RTab b) (Q : Option Value → Wd → Prop) (h : (((vXX10_hasHall w b) = 0 → Q (some (.int (vXX10_refuse 1 (-1)))) (wXX10_refuse 1 (-1) w)) ∧ (¬ ((vXX10_hasHall w b) = 0) → ClI SC mX2_fitting [.ref (hA b), .ref 55] w (fun x2 w1 => w1.2.2 = RTab b ∧ ClI SC mX2_bestAsked [.ref (hA b), .int x2] w1 (fun x4 w3 => w3.2.2 = RTab b ∧ Q (some (.int (vXX10_accept x4))) (wXX10_accept x4 w3)))))) : Cl SC mX10_ask [.ref 0] w Q := by
  refine cl_of (by decide) (Nat.le_of_ble_eq_true rfl) ?_
  show Go SC mX10_ask 0 [(0, .ref 0)] [] w Q
  refine g_aload_n (pc := 0) dX10_ask_0 rfl 0 rfl ?_
  refine g_callV (pc := 1) (M' := mX10_hasHall) (n := 0) (a := 0) (as := []) (st := []) dX10_ask_1 rfl kX10_255 vX10_hasHall (Nat.le_of_ble_eq_true rfl) rfl qX10 rfl rfl (Nat.le_of_ble_eq_true rfl) ?_
  refine zX10_hasHall (w := w) (b := b) (hR := hR) ?_
  show Go SC mX10_ask 4 [(0, .ref 0)] [.int (vXX10_hasHall w b)] w Q
  refine g_if_ne (pc := 4) (tgt := 14) dX10_ask_4 (by decide) (fun q => ?_) (fun q => ?_)
  · have h := h.2 q
    refine g_aload_n (pc := 14) dX10_ask_14 rfl 0 rfl ?_
    refine g_aload_n (pc := 15) dX10_ask_15 rfl 0 rfl ?_
    refine g_getR (pc := 16) (a := 0) (b := (hA b)) dX10_ask_16 rfl fX10_19 rfl (rc_0_1 hR) ?_
    refine g_aload_n (pc := 19) dX10_ask_19 rfl 0 rfl ?_
    refine g_getR (pc := 20) (a := 0) (b := (hA b)) dX10_ask_20 rfl fX10_19 rfl (rc_0_1 hR) ?_
    refine g_aload_n (pc := 23) dX10_ask_23 rfl 0 rfl ?_
    refine g_getR (pc := 24) (a := 0) (b := 55) dX10_ask_24 rfl fX10_36 rfl (rc_0_4 hR) ?_
    refine g_callV (pc := 27) (M' := mX2_fitting) (n := 1) (a := (hA b)) (as := [.ref 55]) (st := [.ref (hA b), .ref 0]) dX10_ask_27 rfl kX10_258 vX2_fitting (Nat.le_of_ble_eq_true rfl) (sh_h b) qX2 rfl rfl (Nat.le_of_ble_eq_true rfl) ?_
    refine cl_mono (fun r w1 hr => ?_) h
    obtain ⟨x2, rfl, hw1, h⟩ := hr
    show Go SC mX10_ask 30 [(0, .ref 0)] [.int x2, .ref (hA b), .ref 0] w1 Q
    refine g_callV (pc := 30) (M' := mX2_bestAsked) (n := 1) (a := (hA b)) (as := [.int x2]) (st := [.ref 0]) dX10_ask_30 rfl kX10_273 vX2_bestAsked (Nat.le_of_ble_eq_true rfl) (sh_h b) qX2 rfl rfl (Nat.le_of_ble_eq_true rfl) ?_
    refine cl_mono (fun r w3 hr => ?_) h
    obtain ⟨x4, rfl, hw3, h⟩ := hr
    show Go SC mX10_ask 33 [(0, .ref 0)] [.int x4, .ref 0] w3 Q
    refine g_callV (pc := 33) (M' := mX10_accept) (n := 1) (a := 0) (as := [.int x4]) (st := []) dX10_ask_33 rfl kX10_100 vX10_accept (Nat.le_of_ble_eq_true rfl) rfl qX10 rfl rfl (Nat.le_of_ble_eq_true rfl) ?_
    refine zX10_accept (a1 := x4) (w := w3) (b := b) (hR := hw3) ?_
    show Go SC mX10_ask 36 [(0, .ref 0)] [.int (vXX10_accept x4)] (wXX10_accept x4 w3) Q
    exact g_iret (pc := 36) dX10_ask_36 rfl h
  · have h := h.1 q
    refine g_aload_n (pc := 7) dX10_ask_7 rfl 0 rfl ?_
    refine g_iconst (pc := 8) dX10_ask_8 c_1 ?_
    refine g_iconst (pc := 9) dX10_ask_9 cN_1 ?_
    refine g_callV (pc := 10) (M' := mX10_refuse) (n := 2) (a := 0) (as := [.int 1, .int (-1)]) (st := []) dX10_ask_10 rfl kX10_83 vX10_refuse (Nat.le_of_ble_eq_true rfl) rfl qX10 rfl rfl (Nat.le_of_ble_eq_true rfl) ?_
    refine zX10_refuse (a1 := 1) (a2 := (-1)) (w := w) (b := b) (hR := hR) ?_
    show Go SC mX10_ask 13 [(0, .ref 0)] [.int (vXX10_refuse 1 (-1))] (wXX10_refuse 1 (-1) w) Q
    exact g_iret (pc := 13) dX10_ask_13 rfl h
set_option maxHeartbeats 4000000 in
set_option maxRecDepth 100000 in
theorem TX10_askLeaves  (w : Wd) (b : Bool) (hR : w.2.2 = RTab b) (Q : Option Value → Wd → Prop) (h : (((vXX10_hasHall w b) = 0 → Q (some (.int (vXX10_refuse 1 (-1)))) (wXX10_refuse 1 (-1) w)) ∧ (¬ ((vXX10_hasHall w b) = 0) → ClI SC mX2_fitting [.ref (hA b), .ref 55] w (fun x2 w1 => w1.2.2 = RTab b ∧ ClI SC mX2_bestAsked [.ref (hA b), .int x2] w1 (fun x4 w3 => w3.2.2 = RTab b ∧ ((x4 = (-2) → Q (some (.int (vXX10_accept (-2)))) (wXX10_accept (-2) w3)) ∧ (¬ (x4 = (-2)) → ClI SC mX2_leftBy [.ref (hA b), .int x2, .int x4] w3 (fun x6 w5 => w5.2.2 = RTab b ∧ Q (some (.int (vXX10_accept x6))) (wXX10_accept x6 w5))))))))) : Cl SC mX10_askLeaves [.ref 0] w Q := by
  refine cl_of (by decide) (Nat.le_of_ble_eq_true rfl) ?_
  show Go SC mX10_askLeaves 0 [(0, .ref 0)] [] w Q
  refine g_aload_n (pc := 0) dX10_askLeaves_0 rfl 0 rfl ?_
  refine g_callV (pc := 1) (M' := mX10_hasHall) (n := 0) (a := 0) (as := []) (st := []) dX10_askLeaves_1 rfl kX10_255 vX10_hasHall (Nat.le_of_ble_eq_true rfl) rfl qX10 rfl rfl (Nat.le_of_ble_eq_true rfl) ?_
  refine zX10_hasHall (w := w) (b := b) (hR := hR) ?_
  show Go SC mX10_askLeaves 4 [(0, .ref 0)] [.int (vXX10_hasHall w b)] w Q
  refine g_if_ne (pc := 4) (tgt := 14) dX10_askLeaves_4 (by decide) (fun q => ?_) (fun q => ?_)
  · have h := h.2 q
    refine g_aload_n (pc := 14) dX10_askLeaves_14 rfl 0 rfl ?_
    refine g_getR (pc := 15) (a := 0) (b := (hA b)) dX10_askLeaves_15 rfl fX10_19 rfl (rc_0_1 hR) ?_
    refine g_aload_n (pc := 18) dX10_askLeaves_18 rfl 0 rfl ?_
    refine g_getR (pc := 19) (a := 0) (b := 55) dX10_askLeaves_19 rfl fX10_36 rfl (rc_0_4 hR) ?_
    refine g_callV (pc := 22) (M' := mX2_fitting) (n := 1) (a := (hA b)) (as := [.ref 55]) (st := []) dX10_askLeaves_22 rfl kX10_258 vX2_fitting (Nat.le_of_ble_eq_true rfl) (sh_h b) qX2 rfl rfl (Nat.le_of_ble_eq_true rfl) ?_
    refine cl_mono (fun r w1 hr => ?_) h
    obtain ⟨x2, rfl, hw1, h⟩ := hr
    show Go SC mX10_askLeaves 25 [(0, .ref 0)] [.int x2] w1 Q
    refine g_istore_n (pc := 25) (lv2 := [(0, .ref 0), (1, .int x2)]) dX10_askLeaves_25 rfl (Nat.le_of_ble_eq_true rfl) rfl ?_
    refine g_aload_n (pc := 26) dX10_askLeaves_26 rfl 0 rfl ?_
    refine g_getR (pc := 27) (a := 0) (b := (hA b)) dX10_askLeaves_27 rfl fX10_19 rfl (rc_0_1 hw1) ?_
    refine g_iload_n (pc := 30) dX10_askLeaves_30 rfl 1 rfl ?_
    refine g_callV (pc := 31) (M' := mX2_bestAsked) (n := 1) (a := (hA b)) (as := [.int x2]) (st := []) dX10_askLeaves_31 rfl kX10_273 vX2_bestAsked (Nat.le_of_ble_eq_true rfl) (sh_h b) qX2 rfl rfl (Nat.le_of_ble_eq_true rfl) ?_
    refine cl_mono (fun r w3 hr => ?_) h
    obtain ⟨x4, rfl, hw3, h⟩ := hr
    show Go SC mX10_askLeaves 34 [(0, .ref 0), (1, .int x2)] [.int x4] w3 Q
    refine g_istore_n (pc := 34) (lv2 := [(0, .ref 0), (1, .int x2), (2, .int x4)]) dX10_askLeaves_34 rfl (Nat.le_of_ble_eq_true rfl) rfl ?_
    refine g_aload_n (pc := 35) dX10_askLeaves_35 rfl 0 rfl ?_
    refine g_iload_n (pc := 36) dX10_askLeaves_36 rfl 2 rfl ?_
    refine g_bipush (pc := 37) (v := (-2)) dX10_askLeaves_37 (by decide) ?_
    refine g_icmp_ne (pc := 39) (tgt := 47) dX10_askLeaves_39 (by decide) (fun q => ?_) (fun q => ?_)
    · have h := h.2 q
      refine g_aload_n (pc := 47) dX10_askLeaves_47 rfl 0 rfl ?_
      refine g_getR (pc := 48) (a := 0) (b := (hA b)) dX10_askLeaves_48 rfl fX10_19 rfl (rc_0_1 hw3) ?_
      refine g_iload_n (pc := 51) dX10_askLeaves_51 rfl 1 rfl ?_
      refine g_iload_n (pc := 52) dX10_askLeaves_52 rfl 2 rfl ?_
      refine g_callV (pc := 53) (M' := mX2_leftBy) (n := 2) (a := (hA b)) (as := [.int x2, .int x4]) (st := [.ref 0]) dX10_askLeaves_53 rfl kX10_276 vX2_leftBy (Nat.le_of_ble_eq_true rfl) (sh_h b) qX2 rfl rfl (Nat.le_of_ble_eq_true rfl) ?_
      refine cl_mono (fun r w5 hr => ?_) h
      obtain ⟨x6, rfl, hw5, h⟩ := hr
      show Go SC mX10_askLeaves 56 [(0, .ref 0), (1, .int x2), (2, .int x4)] [.int x6, .ref 0] w5 Q
      refine g_callV (pc := 56) (M' := mX10_accept) (n := 1) (a := 0) (as := [.int x6]) (st := []) dX10_askLeaves_56 rfl kX10_100 vX10_accept (Nat.le_of_ble_eq_true rfl) rfl qX10 rfl rfl (Nat.le_of_ble_eq_true rfl) ?_
      refine zX10_accept (a1 := x6) (w := w5) (b := b) (hR := hw5) ?_
      show Go SC mX10_askLeaves 59 [(0, .ref 0), (1, .int x2), (2, .int x4)] [.int (vXX10_accept x6)] (wXX10_accept x6 w5) Q
      exact g_iret (pc := 59) dX10_askLeaves_59 rfl h
    · have h := h.1 q
      refine g_bipush (pc := 42) (v := (-2)) dX10_askLeaves_42 (by decide) ?_
      refine g_goto (pc := 44) (tgt := 56) dX10_askLeaves_44 (by decide) ?_
      refine g_callV (pc := 56) (M' := mX10_accept) (n := 1) (a := 0) (as := [.int (-2)]) (st := []) dX10_askLeaves_56 rfl kX10_100 vX10_accept (Nat.le_of_ble_eq_true rfl) rfl qX10 rfl rfl (Nat.le_of_ble_eq_true rfl) ?_
      refine zX10_accept (a1 := (-2)) (w := w3) (b := b) (hR := hw3) ?_
      show Go SC mX10_askLeaves 59 [(0, .ref 0), (1, .int x2), (2, .int x4)] [.int (vXX10_accept (-2))] (wXX10_accept (-2) w3) Q
      exact g_iret (pc := 59) dX10_askLeaves_59 rfl h
  · have h := h.1 q
    refine g_aload_n (pc := 7) dX10_askLeaves_7 rfl 0 rfl ?_
    refine g_iconst (pc := 8) dX10_askLeaves_8 c_1 ?_
    refine g_iconst (pc := 9) dX10_askLeaves_9 cN_1 ?_
    refine g_callV (pc := 10) (M' := mX10_refuse) (n := 2) (a := 0) (as := [.int 1, .int (-1)]) (st := []) dX10_askLeaves_10 rfl kX10_83 vX10_refuse (Nat.le_of_ble_eq_true rfl) rfl qX10 rfl rfl (Nat.le_of_ble_eq_true rfl) ?_
    refine zX10_refuse (a1 := 1) (a2 := (-1)) (w := w) (b := b) (hR := hR) ?_
    show Go SC mX10_askLeaves 13 [(0, .ref 0)] [.int (vXX10_refuse 1 (-1))] (wXX10_refuse 1 (-1) w) Q
    exact g_iret (pc := 13) dX10_askLeaves_13 rfl h
set_option maxHeartbeats 4000000 in
set_option maxRecDepth 100000 in
theorem TX10_judge  (w : Wd) (b : Bool) (hR : w.2.2 = RTab b) (Q : Option Value → Wd → Prop) (h : (((vXX10_hasHall w b) = 0 → Q (some (.int (vXX10_refuse 1 (-1)))) (wXX10_refuse 1 (-1) w)) ∧ (¬ ((vXX10_hasHall w b) = 0) → Go SC mX10_judge 16 [(0, .ref 0), (1, .int 0)] [] w Q))) : Cl SC mX10_judge [.ref 0] w Q := by
  refine cl_of (by decide) (Nat.le_of_ble_eq_true rfl) ?_
  show Go SC mX10_judge 0 [(0, .ref 0)] [] w Q
  refine g_aload_n (pc := 0) dX10_judge_0 rfl 0 rfl ?_
  refine g_callV (pc := 1) (M' := mX10_hasHall) (n := 0) (a := 0) (as := []) (st := []) dX10_judge_1 rfl kX10_255 vX10_hasHall (Nat.le_of_ble_eq_true rfl) rfl qX10 rfl rfl (Nat.le_of_ble_eq_true rfl) ?_
  refine zX10_hasHall (w := w) (b := b) (hR := hR) ?_
  show Go SC mX10_judge 4 [(0, .ref 0)] [.int (vXX10_hasHall w b)] w Q
  refine g_if_ne (pc := 4) (tgt := 14) dX10_judge_4 (by decide) (fun q => ?_) (fun q => ?_)
  · have h := h.2 q
    refine g_iconst (pc := 14) dX10_judge_14 c_0 ?_
    refine g_istore_n (pc := 15) (lv2 := [(0, .ref 0), (1, .int 0)]) dX10_judge_15 rfl (Nat.le_of_ble_eq_true rfl) rfl ?_
    exact h
  · have h := h.1 q
    refine g_aload_n (pc := 7) dX10_judge_7 rfl 0 rfl ?_
    refine g_iconst (pc := 8) dX10_judge_8 c_1 ?_
    refine g_iconst (pc := 9) dX10_judge_9 cN_1 ?_
    refine g_callV (pc := 10) (M' := mX10_refuse) (n := 2) (a := 0) (as := [.int 1, .int (-1)]) (st := []) dX10_judge_10 rfl kX10_83 vX10_refuse (Nat.le_of_ble_eq_true rfl) rfl qX10 rfl rfl (Nat.le_of_ble_eq_true rfl) ?_
    refine zX10_refuse (a1 := 1) (a2 := (-1)) (w := w) (b := b) (hR := hR) ?_
    show Go SC mX10_judge 13 [(0, .ref 0)] [.int (vXX10_refuse 1 (-1))] (wXX10_refuse 1 (-1) w) Q
    exact g_iret (pc := 13) dX10_judge_13 rfl h
set_option maxHeartbeats 4000000 in
set_option maxRecDepth 100000 in
theorem BX10_judge_16  (l1 : Int32) (w : Wd) (b : Bool) (hR : w.2.2 = RTab b) (Q : Option Value → Wd → Prop) (h : (((wi w (hA b) 10) ≤ l1 → Q (some (.int (vXX10_accept (-2)))) (wXX10_accept (-2) w)) ∧ (¬ ((wi w (hA b) 10) ≤ l1) → ClI SC mX2_wentSo [.ref (hA b), .int l1, .int 0, .ref 55] w (fun x2 w1 => w1.2.2 = RTab b ∧ ((x2 = 0 → Q (some (.int (vXX10_accept l1))) (wXX10_accept l1 w1)) ∧ (¬ (x2 = 0) → Go SC mX10_judge 16 [(0, .ref 0), (1, .int (l1 + 1))] [] w1 Q)))))) : Go SC mX10_judge 16 [(0, .ref 0), (1, .int l1)] [] w Q := by
  refine g_iload_n (pc := 16) dX10_judge_16 rfl 1 rfl ?_
  refine g_aload_n (pc := 17) dX10_judge_17 rfl 0 rfl ?_
  refine g_getR (pc := 18) (a := 0) (b := (hA b)) dX10_judge_18 rfl fX10_19 rfl (rc_0_1 hR) ?_
  refine g_getI (pc := 21) (a := (hA b)) dX10_judge_21 rfl fX10_279 (sh_h b) ?_
  refine g_icmp_ge (pc := 24) (tgt := 55) dX10_judge_24 (by decide) (fun q => ?_) (fun q => ?_)
  · have h := h.1 q
    refine g_aload_n (pc := 55) dX10_judge_55 rfl 0 rfl ?_
    refine g_bipush (pc := 56) (v := (-2)) dX10_judge_56 (by decide) ?_
    refine g_callV (pc := 58) (M' := mX10_accept) (n := 1) (a := 0) (as := [.int (-2)]) (st := []) dX10_judge_58 rfl kX10_100 vX10_accept (Nat.le_of_ble_eq_true rfl) rfl qX10 rfl rfl (Nat.le_of_ble_eq_true rfl) ?_
    refine zX10_accept (a1 := (-2)) (w := w) (b := b) (hR := hR) ?_
    show Go SC mX10_judge 61 [(0, .ref 0), (1, .int l1)] [.int (vXX10_accept (-2))] (wXX10_accept (-2) w) Q
    exact g_iret (pc := 61) dX10_judge_61 rfl h
  · have h := h.2 q
    refine g_aload_n (pc := 27) dX10_judge_27 rfl 0 rfl ?_
    refine g_getR (pc := 28) (a := 0) (b := (hA b)) dX10_judge_28 rfl fX10_19 rfl (rc_0_1 hR) ?_
    refine g_iload_n (pc := 31) dX10_judge_31 rfl 1 rfl ?_
    refine g_iconst (pc := 32) dX10_judge_32 c_0 ?_
    refine g_aload_n (pc := 33) dX10_judge_33 rfl 0 rfl ?_
    refine g_getR (pc := 34) (a := 0) (b := 55) dX10_judge_34 rfl fX10_36 rfl (rc_0_4 hR) ?_
    refine g_callV (pc := 37) (M' := mX2_wentSo) (n := 3) (a := (hA b)) (as := [.int l1, .int 0, .ref 55]) (st := []) dX10_judge_37 rfl kX10_282 vX2_wentSo (Nat.le_of_ble_eq_true rfl) (sh_h b) qX2 rfl rfl (Nat.le_of_ble_eq_true rfl) ?_
    refine cl_mono (fun r w1 hr => ?_) h
    obtain ⟨x2, rfl, hw1, h⟩ := hr
    show Go SC mX10_judge 40 [(0, .ref 0), (1, .int l1)] [.int x2] w1 Q
    refine g_if_ne (pc := 40) (tgt := 49) dX10_judge_40 (by decide) (fun q => ?_) (fun q => ?_)
    · have h := h.2 q
      refine g_iinc (pc := 49) (v := l1 + 1) (lv2 := [(0, .ref 0), (1, .int (l1 + 1))]) dX10_judge_49 1 rfl (Nat.le_of_ble_eq_true rfl) rfl rfl ?_
      refine g_goto (pc := 52) (tgt := 16) dX10_judge_52 (by decide) ?_
      exact h
    · have h := h.1 q
      refine g_aload_n (pc := 43) dX10_judge_43 rfl 0 rfl ?_
      refine g_iload_n (pc := 44) dX10_judge_44 rfl 1 rfl ?_
      refine g_callV (pc := 45) (M' := mX10_accept) (n := 1) (a := 0) (as := [.int l1]) (st := []) dX10_judge_45 rfl kX10_100 vX10_accept (Nat.le_of_ble_eq_true rfl) rfl qX10 rfl rfl (Nat.le_of_ble_eq_true rfl) ?_
      refine zX10_accept (a1 := l1) (w := w1) (b := b) (hR := hw1) ?_
      show Go SC mX10_judge 48 [(0, .ref 0), (1, .int l1)] [.int (vXX10_accept l1)] (wXX10_accept l1 w1) Q
      exact g_iret (pc := 48) dX10_judge_48 rfl h
set_option maxHeartbeats 4000000 in
set_option maxRecDepth 100000 in
theorem TX10_turnsTrouble (a1 : Int32) (a2 : Int32) (w : Wd) (b : Bool) (hR : w.2.2 = RTab b) (Q : Option Value → Wd → Prop) (h : ((0 ≤ a1 ∧ a1 < wi w (hA b) 2 ∧ a1 < 5 → ((a2 < 0 → Q (some (.int 2)) w) ∧ (¬ (a2 < 0) → ((a2 ≤ 8 → Q (some (.int 0)) (wXX7_copy 55 (dA (hA b) a1.toNatClampNeg + 2) w)) ∧ (¬ (a2 ≤ 8) → Q (some (.int 2)) w))))) ∧ (¬ (0 ≤ a1 ∧ a1 < wi w (hA b) 2 ∧ a1 < 5) → Q (some (.int 1)) w))) : Cl SC mX10_turnsTrouble [.ref 0, .int a1, .int a2] w Q := by
  refine cl_of (by decide) (Nat.le_of_ble_eq_true rfl) ?_
  show Go SC mX10_turnsTrouble 0 [(0, .ref 0), (1, .int a1), (2, .int a2)] [] w Q
  refine g_aload_n (pc := 0) dX10_turnsTrouble_0 rfl 0 rfl ?_
  refine g_getR (pc := 1) (a := 0) (b := (hA b)) dX10_turnsTrouble_1 rfl fX10_19 rfl (rc_0_1 hR) ?_
  refine g_iload_n (pc := 4) dX10_turnsTrouble_4 rfl 1 rfl ?_
  refine g_callV (pc := 5) (M' := mX2_danceAt) (n := 1) (a := (hA b)) (as := [.int a1]) (st := []) dX10_turnsTrouble_5 rfl kX10_113 vX2_danceAt (Nat.le_of_ble_eq_true rfl) (sh_h b) qX2 rfl rfl (Nat.le_of_ble_eq_true rfl) ?_
  refine h_danceAt (c := b) (d := a1) (w := w) (hR := hR) (fun qd1 => ?_) (fun qd1 => ?_)
  · have h := h.1 qd1
    show Go SC mX10_turnsTrouble 8 [(0, .ref 0), (1, .int a1), (2, .int a2)] [.ref (dA (hA b) a1.toNatClampNeg)] w Q
    refine g_astore_n (pc := 8) (lv2 := [(0, .ref 0), (1, .int a1), (2, .int a2), (3, .ref (dA (hA b) a1.toNatClampNeg))]) dX10_turnsTrouble_8 rfl (Nat.le_of_ble_eq_true rfl) rfl ?_
    refine g_aload_n (pc := 9) dX10_turnsTrouble_9 rfl 3 rfl ?_
    refine g_ifnonnullR (pc := 10) (tgt := 15) dX10_turnsTrouble_10 (by decide) ?_
    refine g_iload_n (pc := 15) dX10_turnsTrouble_15 rfl 2 rfl ?_
    refine g_if_lt (pc := 16) (tgt := 25) dX10_turnsTrouble_16 (by decide) (fun q => ?_) (fun q => ?_)
    · have h := h.1 q
      refine g_iconst (pc := 25) dX10_turnsTrouble_25 c_2 ?_
      exact g_iret (pc := 26) dX10_turnsTrouble_26 rfl h
    · have h := h.2 q
      refine g_iload_n (pc := 19) dX10_turnsTrouble_19 rfl 2 rfl ?_
      refine g_bipush (pc := 20) (v := 8) dX10_turnsTrouble_20 (by decide) ?_
      refine g_icmp_le (pc := 22) (tgt := 27) dX10_turnsTrouble_22 (by decide) (fun q => ?_) (fun q => ?_)
      · have h := h.1 q
        refine g_aload_n (pc := 27) dX10_turnsTrouble_27 rfl 0 rfl ?_
        refine g_getR (pc := 28) (a := 0) (b := 55) dX10_turnsTrouble_28 rfl fX10_36 rfl (rc_0_4 hR) ?_
        refine g_aload_n (pc := 31) dX10_turnsTrouble_31 rfl 3 rfl ?_
        refine g_getR (pc := 32) (a := (dA (hA b) a1.toNatClampNeg)) (b := (dA (hA b) a1.toNatClampNeg + 2)) dX10_turnsTrouble_32 rfl fX10_118 (sh_d b (lt5 qd1.1 qd1.2.2)) (rd_4 hR b (lt5 qd1.1 qd1.2.2)) ?_
        refine g_callV (pc := 35) (M' := mX7_copy) (n := 1) (a := 55) (as := [.ref (dA (hA b) a1.toNatClampNeg + 2)]) (st := []) dX10_turnsTrouble_35 rfl kX10_198 vX7_copy (Nat.le_of_ble_eq_true rfl) rfl qX7 rfl rfl (Nat.le_of_ble_eq_true rfl) ?_
        refine zX7_copy (t := 55) (a1 := (dA (hA b) a1.toNatClampNeg + 2)) (w := w) (b := b) (hR := hR) (ht := rfl) (ha1 := (sh_dn b (lt5 qd1.1 qd1.2.2))) ?_
        show Go SC mX10_turnsTrouble 38 [(0, .ref 0), (1, .int a1), (2, .int a2), (3, .ref (dA (hA b) a1.toNatClampNeg))] [] (wXX7_copy 55 (dA (hA b) a1.toNatClampNeg + 2) w) Q
        refine g_iconst (pc := 38) dX10_turnsTrouble_38 c_0 ?_
        exact g_iret (pc := 39) dX10_turnsTrouble_39 rfl h
      · have h := h.2 q
        refine g_iconst (pc := 25) dX10_turnsTrouble_25 c_2 ?_
        exact g_iret (pc := 26) dX10_turnsTrouble_26 rfl h
  · have h := h.2 qd1
    show Go SC mX10_turnsTrouble 8 [(0, .ref 0), (1, .int a1), (2, .int a2)] [.null] w Q
    refine g_astore_nN (pc := 8) (lv2 := [(0, .ref 0), (1, .int a1), (2, .int a2), (3, .null)]) dX10_turnsTrouble_8 rfl (Nat.le_of_ble_eq_true rfl) rfl ?_
    refine g_aload_nN (pc := 9) dX10_turnsTrouble_9 rfl 3 rfl ?_
    refine g_ifnonnullN (pc := 10) dX10_turnsTrouble_10 ?_
    refine g_iconst (pc := 13) dX10_turnsTrouble_13 c_1 ?_
    exact g_iret (pc := 14) dX10_turnsTrouble_14 rfl h
set_option maxHeartbeats 4000000 in
set_option maxRecDepth 100000 in
theorem TX10_callers (a1 : Int32) (a2 : Int32) (w : Wd) (b : Bool) (hR : w.2.2 = RTab b) (Q : Option Value → Wd → Prop) (h : ClI SC mX10_turnsTrouble [.ref 0, .int a1, .int a2] w (fun x2 w1 => w1.2.2 = RTab b ∧ ((x2 = 0 → ClI SC (mX9_bestFor 8) [.int (wi w1 55 0), .int (wi w1 55 1), .int a2] w1 (fun x4 w3 => w3.2.2 = RTab b ∧ ((x4 = 1 → Q (some (.int (vXX10_accept 1))) (wXX10_accept 1 w3)) ∧ (¬ (x4 = 1) → Q (some (.int (vXX10_accept (if x4 = (-1) then 2 else 0 : Int32)))) (wXX10_accept (if x4 = (-1) then 2 else 0 : Int32) w3))))) ∧ (¬ (x2 = 0) → Q (some (.int (vXX10_refuse x2 (-1)))) (wXX10_refuse x2 (-1) w1))))) : Cl SC mX10_callers [.ref 0, .int a1, .int a2] w Q := by
  refine cl_of (by decide) (Nat.le_of_ble_eq_true rfl) ?_
  show Go SC mX10_callers 0 [(0, .ref 0), (1, .int a1), (2, .int a2)] [] w Q
  refine g_aload_n (pc := 0) dX10_callers_0 rfl 0 rfl ?_
  refine g_iload_n (pc := 1) dX10_callers_1 rfl 1 rfl ?_
  refine g_iload_n (pc := 2) dX10_callers_2 rfl 2 rfl ?_
  refine g_callV (pc := 3) (M' := mX10_turnsTrouble) (n := 2) (a := 0) (as := [.int a1, .int a2]) (st := []) dX10_callers_3 rfl kX10_286 vX10_turnsTrouble (Nat.le_of_ble_eq_true rfl) rfl qX10 rfl rfl (Nat.le_of_ble_eq_true rfl) ?_
  refine cl_mono (fun r w1 hr => ?_) h
  obtain ⟨x2, rfl, hw1, h⟩ := hr
  show Go SC mX10_callers 6 [(0, .ref 0), (1, .int a1), (2, .int a2)] [.int x2] w1 Q
  refine g_istore_n (pc := 6) (lv2 := [(0, .ref 0), (1, .int a1), (2, .int a2), (3, .int x2)]) dX10_callers_6 rfl (Nat.le_of_ble_eq_true rfl) rfl ?_
  refine g_iload_n (pc := 7) dX10_callers_7 rfl 3 rfl ?_
  refine g_if_eq (pc := 8) (tgt := 18) dX10_callers_8 (by decide) (fun q => ?_) (fun q => ?_)
  · have h := h.1 q
    refine g_aload_n (pc := 18) dX10_callers_18 rfl 0 rfl ?_
    refine g_getR (pc := 19) (a := 0) (b := 55) dX10_callers_19 rfl fX10_36 rfl (rc_0_4 hw1) ?_
    refine g_getI (pc := 22) (a := 55) dX10_callers_22 rfl fX10_123 rfl ?_
    refine g_aload_n (pc := 25) dX10_callers_25 rfl 0 rfl ?_
    refine g_getR (pc := 26) (a := 0) (b := 55) dX10_callers_26 rfl fX10_36 rfl (rc_0_4 hw1) ?_
    refine g_getI (pc := 29) (a := 55) dX10_callers_29 rfl fX10_126 rfl ?_
    refine g_iload_n (pc := 32) dX10_callers_32 rfl 2 rfl ?_
    refine g_callS (pc := 33) (M' := (mX9_bestFor 8)) (n := 3) (as := [.int (wi w1 55 0), .int (wi w1 55 1), .int a2]) (st := []) dX10_callers_33 rfl kX10_289 sX9_bestFor (Nat.le_of_ble_eq_true rfl) rfl rfl (Nat.le_of_ble_eq_true rfl) ?_
    refine cl_mono (fun r w3 hr => ?_) h
    obtain ⟨x4, rfl, hw3, h⟩ := hr
    show Go SC mX10_callers 36 [(0, .ref 0), (1, .int a1), (2, .int a2), (3, .int x2)] [.int x4] w3 Q
    refine g_istore (pc := 36) (lv2 := [(0, .ref 0), (1, .int a1), (2, .int a2), (3, .int x2), (4, .int x4)]) dX10_callers_36 (Nat.le_of_ble_eq_true rfl) rfl ?_
    refine g_iload (pc := 38) dX10_callers_38 4 rfl ?_
    refine g_iconst (pc := 40) dX10_callers_40 c_1 ?_
    refine g_icmp_ne (pc := 41) (tgt := 50) dX10_callers_41 (by decide) (fun q => ?_) (fun q => ?_)
    · have h := h.2 q
      refine g_aload_n (pc := 50) dX10_callers_50 rfl 0 rfl ?_
      refine g_iload (pc := 51) dX10_callers_51 4 rfl ?_
      refine g_iconst (pc := 53) dX10_callers_53 cN_1 ?_
      have hJ : Go SC mX10_callers 62 [(0, .ref 0), (1, .int a1), (2, .int a2), (3, .int x2), (4, .int x4)] [.int (if x4 = (-1) then 2 else 0 : Int32), .ref 0] w3 Q := by
        refine g_callV (pc := 62) (M' := mX10_accept) (n := 1) (a := 0) (as := [.int (if x4 = (-1) then 2 else 0 : Int32)]) (st := []) dX10_callers_62 rfl kX10_100 vX10_accept (Nat.le_of_ble_eq_true rfl) rfl qX10 rfl rfl (Nat.le_of_ble_eq_true rfl) ?_
        refine zX10_accept (a1 := (if x4 = (-1) then 2 else 0 : Int32)) (w := w3) (b := b) (hR := hw3) ?_
        show Go SC mX10_callers 65 [(0, .ref 0), (1, .int a1), (2, .int a2), (3, .int x2), (4, .int x4)] [.int (vXX10_accept (if x4 = (-1) then 2 else 0 : Int32))] (wXX10_accept (if x4 = (-1) then 2 else 0 : Int32) w3) Q
        exact g_iret (pc := 65) dX10_callers_65 rfl h
      refine g_icmp_ne (pc := 54) (tgt := 61) dX10_callers_54 (by decide) (fun q54 => ?_) (fun q54 => ?_)
      · refine g_iconst (pc := 61) dX10_callers_61 c_0 ?_
        first | (exfalso; contradiction) | exact cast (by simp only [if_neg q54]) hJ
      · refine g_iconst (pc := 57) dX10_callers_57 c_2 ?_
        refine g_goto (pc := 58) (tgt := 62) dX10_callers_58 (by decide) ?_
        first | (exfalso; contradiction) | exact cast (by simp only [if_pos q54]) hJ
    · have h := h.1 q
      refine g_aload_n (pc := 44) dX10_callers_44 rfl 0 rfl ?_
      refine g_iconst (pc := 45) dX10_callers_45 c_1 ?_
      refine g_callV (pc := 46) (M' := mX10_accept) (n := 1) (a := 0) (as := [.int 1]) (st := []) dX10_callers_46 rfl kX10_100 vX10_accept (Nat.le_of_ble_eq_true rfl) rfl qX10 rfl rfl (Nat.le_of_ble_eq_true rfl) ?_
      refine zX10_accept (a1 := 1) (w := w3) (b := b) (hR := hw3) ?_
      show Go SC mX10_callers 49 [(0, .ref 0), (1, .int a1), (2, .int a2), (3, .int x2), (4, .int x4)] [.int (vXX10_accept 1)] (wXX10_accept 1 w3) Q
      exact g_iret (pc := 49) dX10_callers_49 rfl h
  · have h := h.2 q
    refine g_aload_n (pc := 11) dX10_callers_11 rfl 0 rfl ?_
    refine g_iload_n (pc := 12) dX10_callers_12 rfl 3 rfl ?_
    refine g_iconst (pc := 13) dX10_callers_13 cN_1 ?_
    refine g_callV (pc := 14) (M' := mX10_refuse) (n := 2) (a := 0) (as := [.int x2, .int (-1)]) (st := []) dX10_callers_14 rfl kX10_83 vX10_refuse (Nat.le_of_ble_eq_true rfl) rfl qX10 rfl rfl (Nat.le_of_ble_eq_true rfl) ?_
    refine zX10_refuse (a1 := x2) (a2 := (-1)) (w := w1) (b := b) (hR := hw1) ?_
    show Go SC mX10_callers 17 [(0, .ref 0), (1, .int a1), (2, .int a2), (3, .int x2)] [.int (vXX10_refuse x2 (-1))] (wXX10_refuse x2 (-1) w1) Q
    exact g_iret (pc := 17) dX10_callers_17 rfl h
set_option maxHeartbeats 4000000 in
set_option maxRecDepth 100000 in
theorem TX10_callsBy (a1 : Int32) (a2 : Int32) (w : Wd) (b : Bool) (hR : w.2.2 = RTab b) (Q : Option Value → Wd → Prop) (h : ClI SC mX10_turnsTrouble [.ref 0, .int a1, .int a2] w (fun x2 w1 => w1.2.2 = RTab b ∧ ((x2 = 0 → ClI SC (mX9_bestFor 8) [.int (wi w1 55 0), .int (wi w1 55 1), .int a2] w1 (fun x4 w3 => w3.2.2 = RTab b ∧ Go SC mX10_callsBy 41 [(0, .ref 0), (1, .int a1), (2, .int a2), (3, .int x2), (4, .int x4), (5, .int 0)] [] w3 Q)) ∧ (¬ (x2 = 0) → Q (some (.int (vXX10_refuse x2 (-1)))) (wXX10_refuse x2 (-1) w1))))) : Cl SC mX10_callsBy [.ref 0, .int a1, .int a2] w Q := by
  refine cl_of (by decide) (Nat.le_of_ble_eq_true rfl) ?_
  show Go SC mX10_callsBy 0 [(0, .ref 0), (1, .int a1), (2, .int a2)] [] w Q
  refine g_aload_n (pc := 0) dX10_callsBy_0 rfl 0 rfl ?_
  refine g_iload_n (pc := 1) dX10_callsBy_1 rfl 1 rfl ?_
  refine g_iload_n (pc := 2) dX10_callsBy_2 rfl 2 rfl ?_
  refine g_callV (pc := 3) (M' := mX10_turnsTrouble) (n := 2) (a := 0) (as := [.int a1, .int a2]) (st := []) dX10_callsBy_3 rfl kX10_286 vX10_turnsTrouble (Nat.le_of_ble_eq_true rfl) rfl qX10 rfl rfl (Nat.le_of_ble_eq_true rfl) ?_
  refine cl_mono (fun r w1 hr => ?_) h
  obtain ⟨x2, rfl, hw1, h⟩ := hr
  show Go SC mX10_callsBy 6 [(0, .ref 0), (1, .int a1), (2, .int a2)] [.int x2] w1 Q
  refine g_istore_n (pc := 6) (lv2 := [(0, .ref 0), (1, .int a1), (2, .int a2), (3, .int x2)]) dX10_callsBy_6 rfl (Nat.le_of_ble_eq_true rfl) rfl ?_
  refine g_iload_n (pc := 7) dX10_callsBy_7 rfl 3 rfl ?_
  refine g_if_eq (pc := 8) (tgt := 18) dX10_callsBy_8 (by decide) (fun q => ?_) (fun q => ?_)
  · have h := h.1 q
    refine g_aload_n (pc := 18) dX10_callsBy_18 rfl 0 rfl ?_
    refine g_getR (pc := 19) (a := 0) (b := 55) dX10_callsBy_19 rfl fX10_36 rfl (rc_0_4 hw1) ?_
    refine g_getI (pc := 22) (a := 55) dX10_callsBy_22 rfl fX10_123 rfl ?_
    refine g_aload_n (pc := 25) dX10_callsBy_25 rfl 0 rfl ?_
    refine g_getR (pc := 26) (a := 0) (b := 55) dX10_callsBy_26 rfl fX10_36 rfl (rc_0_4 hw1) ?_
    refine g_getI (pc := 29) (a := 55) dX10_callsBy_29 rfl fX10_126 rfl ?_
    refine g_iload_n (pc := 32) dX10_callsBy_32 rfl 2 rfl ?_
    refine g_callS (pc := 33) (M' := (mX9_bestFor 8)) (n := 3) (as := [.int (wi w1 55 0), .int (wi w1 55 1), .int a2]) (st := []) dX10_callsBy_33 rfl kX10_289 sX9_bestFor (Nat.le_of_ble_eq_true rfl) rfl rfl (Nat.le_of_ble_eq_true rfl) ?_
    refine cl_mono (fun r w3 hr => ?_) h
    obtain ⟨x4, rfl, hw3, h⟩ := hr
    show Go SC mX10_callsBy 36 [(0, .ref 0), (1, .int a1), (2, .int a2), (3, .int x2)] [.int x4] w3 Q
    refine g_istore (pc := 36) (lv2 := [(0, .ref 0), (1, .int a1), (2, .int a2), (3, .int x2), (4, .int x4)]) dX10_callsBy_36 (Nat.le_of_ble_eq_true rfl) rfl ?_
    refine g_iconst (pc := 38) dX10_callsBy_38 c_0 ?_
    refine g_istore (pc := 39) (lv2 := [(0, .ref 0), (1, .int a1), (2, .int a2), (3, .int x2), (4, .int x4), (5, .int 0)]) dX10_callsBy_39 (Nat.le_of_ble_eq_true rfl) rfl ?_
    exact h
  · have h := h.2 q
    refine g_aload_n (pc := 11) dX10_callsBy_11 rfl 0 rfl ?_
    refine g_iload_n (pc := 12) dX10_callsBy_12 rfl 3 rfl ?_
    refine g_iconst (pc := 13) dX10_callsBy_13 cN_1 ?_
    refine g_callV (pc := 14) (M' := mX10_refuse) (n := 2) (a := 0) (as := [.int x2, .int (-1)]) (st := []) dX10_callsBy_14 rfl kX10_83 vX10_refuse (Nat.le_of_ble_eq_true rfl) rfl qX10 rfl rfl (Nat.le_of_ble_eq_true rfl) ?_
    refine zX10_refuse (a1 := x2) (a2 := (-1)) (w := w1) (b := b) (hR := hw1) ?_
    show Go SC mX10_callsBy 17 [(0, .ref 0), (1, .int a1), (2, .int a2), (3, .int x2)] [.int (vXX10_refuse x2 (-1))] (wXX10_refuse x2 (-1) w1) Q
    exact g_iret (pc := 17) dX10_callsBy_17 rfl h
set_option maxHeartbeats 4000000 in
set_option maxRecDepth 100000 in
theorem BX10_callsBy_41  (l1 : Int32) (l2 : Int32) (l3 : Int32) (l4 : Int32) (l5 : Int32) (w : Wd) (b : Bool) (hR : w.2.2 = RTab b) (Q : Option Value → Wd → Prop) (h : ((l2 ≤ 0 → Q (some (.int (vXX10_accept (-2)))) (wXX10_accept (-2) w)) ∧ (¬ (l2 ≤ 0) → ((2 < l5 → Q (some (.int (vXX10_accept (-2)))) (wXX10_accept (-2) w)) ∧ (¬ (2 < l5) → ClI SC (mX9_bestBy 8) [.int l5, .int (wi w 55 0), .int (wi w 55 1), .int l2] w (fun x2 w1 => w1.2.2 = RTab b ∧ ((x2 = l4 → Q (some (.int (vXX10_accept l5))) (wXX10_accept l5 w1)) ∧ (¬ (x2 = l4) → Go SC mX10_callsBy 41 [(0, .ref 0), (1, .int l1), (2, .int l2), (3, .int l3), (4, .int l4), (5, .int (l5 + 1))] [] w1 Q)))))))) : Go SC mX10_callsBy 41 [(0, .ref 0), (1, .int l1), (2, .int l2), (3, .int l3), (4, .int l4), (5, .int l5)] [] w Q := by
  refine g_iload_n (pc := 41) dX10_callsBy_41 rfl 2 rfl ?_
  refine g_if_le (pc := 42) (tgt := 89) dX10_callsBy_42 (by decide) (fun q => ?_) (fun q => ?_)
  · have h := h.1 q
    refine g_aload_n (pc := 89) dX10_callsBy_89 rfl 0 rfl ?_
    refine g_bipush (pc := 90) (v := (-2)) dX10_callsBy_90 (by decide) ?_
    refine g_callV (pc := 92) (M' := mX10_accept) (n := 1) (a := 0) (as := [.int (-2)]) (st := []) dX10_callsBy_92 rfl kX10_100 vX10_accept (Nat.le_of_ble_eq_true rfl) rfl qX10 rfl rfl (Nat.le_of_ble_eq_true rfl) ?_
    refine zX10_accept (a1 := (-2)) (w := w) (b := b) (hR := hR) ?_
    show Go SC mX10_callsBy 95 [(0, .ref 0), (1, .int l1), (2, .int l2), (3, .int l3), (4, .int l4), (5, .int l5)] [.int (vXX10_accept (-2))] (wXX10_accept (-2) w) Q
    exact g_iret (pc := 95) dX10_callsBy_95 rfl h
  · have h := h.2 q
    refine g_iload (pc := 45) dX10_callsBy_45 5 rfl ?_
    refine g_iconst (pc := 47) dX10_callsBy_47 c_2 ?_
    refine g_icmp_gt (pc := 48) (tgt := 89) dX10_callsBy_48 (by decide) (fun q => ?_) (fun q => ?_)
    · have h := h.1 q
      refine g_aload_n (pc := 89) dX10_callsBy_89 rfl 0 rfl ?_
      refine g_bipush (pc := 90) (v := (-2)) dX10_callsBy_90 (by decide) ?_
      refine g_callV (pc := 92) (M' := mX10_accept) (n := 1) (a := 0) (as := [.int (-2)]) (st := []) dX10_callsBy_92 rfl kX10_100 vX10_accept (Nat.le_of_ble_eq_true rfl) rfl qX10 rfl rfl (Nat.le_of_ble_eq_true rfl) ?_
      refine zX10_accept (a1 := (-2)) (w := w) (b := b) (hR := hR) ?_
      show Go SC mX10_callsBy 95 [(0, .ref 0), (1, .int l1), (2, .int l2), (3, .int l3), (4, .int l4), (5, .int l5)] [.int (vXX10_accept (-2))] (wXX10_accept (-2) w) Q
      exact g_iret (pc := 95) dX10_callsBy_95 rfl h
    · have h := h.2 q
      refine g_iload (pc := 51) dX10_callsBy_51 5 rfl ?_
      refine g_aload_n (pc := 53) dX10_callsBy_53 rfl 0 rfl ?_
      refine g_getR (pc := 54) (a := 0) (b := 55) dX10_callsBy_54 rfl fX10_36 rfl (rc_0_4 hR) ?_
      refine g_getI (pc := 57) (a := 55) dX10_callsBy_57 rfl fX10_123 rfl ?_
      refine g_aload_n (pc := 60) dX10_callsBy_60 rfl 0 rfl ?_
      refine g_getR (pc := 61) (a := 0) (b := 55) dX10_callsBy_61 rfl fX10_36 rfl (rc_0_4 hR) ?_
      refine g_getI (pc := 64) (a := 55) dX10_callsBy_64 rfl fX10_126 rfl ?_
      refine g_iload_n (pc := 67) dX10_callsBy_67 rfl 2 rfl ?_
      refine g_callS (pc := 68) (M' := (mX9_bestBy 8)) (n := 4) (as := [.int l5, .int (wi w 55 0), .int (wi w 55 1), .int l2]) (st := []) dX10_callsBy_68 rfl kX10_292 sX9_bestBy (Nat.le_of_ble_eq_true rfl) rfl rfl (Nat.le_of_ble_eq_true rfl) ?_
      refine cl_mono (fun r w1 hr => ?_) h
      obtain ⟨x2, rfl, hw1, h⟩ := hr
      show Go SC mX10_callsBy 71 [(0, .ref 0), (1, .int l1), (2, .int l2), (3, .int l3), (4, .int l4), (5, .int l5)] [.int x2] w1 Q
      refine g_iload (pc := 71) dX10_callsBy_71 4 rfl ?_
      refine g_icmp_ne (pc := 73) (tgt := 83) dX10_callsBy_73 (by decide) (fun q => ?_) (fun q => ?_)
      · have h := h.2 q
        refine g_iinc (pc := 83) (v := l5 + 1) (lv2 := [(0, .ref 0), (1, .int l1), (2, .int l2), (3, .int l3), (4, .int l4), (5, .int (l5 + 1))]) dX10_callsBy_83 5 rfl (Nat.le_of_ble_eq_true rfl) rfl rfl ?_
        refine g_goto (pc := 86) (tgt := 41) dX10_callsBy_86 (by decide) ?_
        exact h
      · have h := h.1 q
        refine g_aload_n (pc := 76) dX10_callsBy_76 rfl 0 rfl ?_
        refine g_iload (pc := 77) dX10_callsBy_77 5 rfl ?_
        refine g_callV (pc := 79) (M' := mX10_accept) (n := 1) (a := 0) (as := [.int l5]) (st := []) dX10_callsBy_79 rfl kX10_100 vX10_accept (Nat.le_of_ble_eq_true rfl) rfl qX10 rfl rfl (Nat.le_of_ble_eq_true rfl) ?_
        refine zX10_accept (a1 := l5) (w := w1) (b := b) (hR := hw1) ?_
        show Go SC mX10_callsBy 82 [(0, .ref 0), (1, .int l1), (2, .int l2), (3, .int l3), (4, .int l4), (5, .int l5)] [.int (vXX10_accept l5)] (wXX10_accept l5 w1) Q
        exact g_iret (pc := 82) dX10_callsBy_82 rfl h
set_option maxHeartbeats 4000000 in
set_option maxRecDepth 100000 in
theorem TX10_isRest (a1 : Int32) (a2 : Int32) (a3 : Int32) (w : Wd) (b : Bool) (hR : w.2.2 = RTab b) (Q : Option Value → Wd → Prop) (h : Q (some (.int (if (vXX10_pay a1 a2 a3) < (vXX10_pay a1 (if a2 = 0 then 1 else 0 : Int32) a3) then 0 else (if a3 = 0 then (if (vXX10_pay a1 a3 a2) < (vXX10_pay a1 1 a2) then 0 else 1 : Int32) else (if (vXX10_pay a1 a3 a2) < (vXX10_pay a1 0 a2) then 0 else 1 : Int32) : Int32) : Int32))) w) : Cl SC mX10_isRest [.int a1, .int a2, .int a3] w Q := by
  refine cl_of (by decide) (Nat.le_of_ble_eq_true rfl) ?_
  show Go SC mX10_isRest 0 [(0, .int a1), (1, .int a2), (2, .int a3)] [] w Q
  refine g_iload_n (pc := 0) dX10_isRest_0 rfl 0 rfl ?_
  refine g_iload_n (pc := 1) dX10_isRest_1 rfl 1 rfl ?_
  refine g_iload_n (pc := 2) dX10_isRest_2 rfl 2 rfl ?_
  refine g_callS (pc := 3) (M' := mX10_pay) (n := 3) (as := [.int a1, .int a2, .int a3]) (st := []) dX10_isRest_3 rfl kX10_296 sX10_pay (Nat.le_of_ble_eq_true rfl) rfl rfl (Nat.le_of_ble_eq_true rfl) ?_
  refine zX10_pay (a1 := a1) (a2 := a2) (a3 := a3) (w := w) (b := b) (hR := hR) ?_
  show Go SC mX10_isRest 6 [(0, .int a1), (1, .int a2), (2, .int a3)] [.int (vXX10_pay a1 a2 a3)] w Q
  refine g_iload_n (pc := 6) dX10_isRest_6 rfl 0 rfl ?_
  refine g_iload_n (pc := 7) dX10_isRest_7 rfl 1 rfl ?_
  have hJ : Go SC mX10_isRest 16 [(0, .int a1), (1, .int a2), (2, .int a3)] [.int (if a2 = 0 then 1 else 0 : Int32), .int a1, .int (vXX10_pay a1 a2 a3)] w Q := by
    refine g_iload_n (pc := 16) dX10_isRest_16 rfl 2 rfl ?_
    refine g_callS (pc := 17) (M' := mX10_pay) (n := 3) (as := [.int a1, .int (if a2 = 0 then 1 else 0 : Int32), .int a3]) (st := [.int (vXX10_pay a1 a2 a3)]) dX10_isRest_17 rfl kX10_296 sX10_pay (Nat.le_of_ble_eq_true rfl) rfl rfl (Nat.le_of_ble_eq_true rfl) ?_
    refine zX10_pay (a1 := a1) (a2 := (if a2 = 0 then 1 else 0 : Int32)) (a3 := a3) (w := w) (b := b) (hR := hR) ?_
    show Go SC mX10_isRest 20 [(0, .int a1), (1, .int a2), (2, .int a3)] [.int (vXX10_pay a1 (if a2 = 0 then 1 else 0 : Int32) a3), .int (vXX10_pay a1 a2 a3)] w Q
    have hJ : Go SC mX10_isRest 51 [(0, .int a1), (1, .int a2), (2, .int a3)] [.int (if (vXX10_pay a1 a2 a3) < (vXX10_pay a1 (if a2 = 0 then 1 else 0 : Int32) a3) then 0 else (if a3 = 0 then (if (vXX10_pay a1 a3 a2) < (vXX10_pay a1 1 a2) then 0 else 1 : Int32) else (if (vXX10_pay a1 a3 a2) < (vXX10_pay a1 0 a2) then 0 else 1 : Int32) : Int32) : Int32)] w Q := by
      exact g_bret (pc := 51) dX10_isRest_51 rfl (z_ite (Or.inl rfl) (z_ite (z_ite (Or.inl rfl) (Or.inr rfl)) (z_ite (Or.inl rfl) (Or.inr rfl)))) h
    refine g_icmp_lt (pc := 20) (tgt := 50) dX10_isRest_20 (by decide) (fun q20 => ?_) (fun q20 => ?_)
    · refine g_iconst (pc := 50) dX10_isRest_50 c_0 ?_
      first | (exfalso; contradiction) | exact cast (by simp only [if_pos q20]) hJ
    · refine g_iload_n (pc := 23) dX10_isRest_23 rfl 0 rfl ?_
      refine g_iload_n (pc := 24) dX10_isRest_24 rfl 2 rfl ?_
      refine g_iload_n (pc := 25) dX10_isRest_25 rfl 1 rfl ?_
      refine g_callS (pc := 26) (M' := mX10_pay) (n := 3) (as := [.int a1, .int a3, .int a2]) (st := []) dX10_isRest_26 rfl kX10_296 sX10_pay (Nat.le_of_ble_eq_true rfl) rfl rfl (Nat.le_of_ble_eq_true rfl) ?_
      refine zX10_pay (a1 := a1) (a2 := a3) (a3 := a2) (w := w) (b := b) (hR := hR) ?_
      show Go SC mX10_isRest 29 [(0, .int a1), (1, .int a2), (2, .int a3)] [.int (vXX10_pay a1 a3 a2)] w Q
      refine g_iload_n (pc := 29) dX10_isRest_29 rfl 0 rfl ?_
      refine g_iload_n (pc := 30) dX10_isRest_30 rfl 2 rfl ?_
      refine g_if_ne (pc := 31) (tgt := 38) dX10_isRest_31 (by decide) (fun q31 => ?_) (fun q31 => ?_)
      · refine g_iconst (pc := 38) dX10_isRest_38 c_0 ?_
        refine g_iload_n (pc := 39) dX10_isRest_39 rfl 1 rfl ?_
        refine g_callS (pc := 40) (M' := mX10_pay) (n := 3) (as := [.int a1, .int 0, .int a2]) (st := [.int (vXX10_pay a1 a3 a2)]) dX10_isRest_40 rfl kX10_296 sX10_pay (Nat.le_of_ble_eq_true rfl) rfl rfl (Nat.le_of_ble_eq_true rfl) ?_
        refine zX10_pay (a1 := a1) (a2 := 0) (a3 := a2) (w := w) (b := b) (hR := hR) ?_
        show Go SC mX10_isRest 43 [(0, .int a1), (1, .int a2), (2, .int a3)] [.int (vXX10_pay a1 0 a2), .int (vXX10_pay a1 a3 a2)] w Q
        refine g_icmp_lt (pc := 43) (tgt := 50) dX10_isRest_43 (by decide) (fun q43 => ?_) (fun q43 => ?_)
        · refine g_iconst (pc := 50) dX10_isRest_50 c_0 ?_
          first | (exfalso; contradiction) | exact cast (by simp only [if_neg q20, if_neg q31, if_pos q43]) hJ
        · refine g_iconst (pc := 46) dX10_isRest_46 c_1 ?_
          refine g_goto (pc := 47) (tgt := 51) dX10_isRest_47 (by decide) ?_
          first | (exfalso; contradiction) | exact cast (by simp only [if_neg q20, if_neg q31, if_neg q43]) hJ
      · refine g_iconst (pc := 34) dX10_isRest_34 c_1 ?_
        refine g_goto (pc := 35) (tgt := 39) dX10_isRest_35 (by decide) ?_
        refine g_iload_n (pc := 39) dX10_isRest_39 rfl 1 rfl ?_
        refine g_callS (pc := 40) (M' := mX10_pay) (n := 3) (as := [.int a1, .int 1, .int a2]) (st := [.int (vXX10_pay a1 a3 a2)]) dX10_isRest_40 rfl kX10_296 sX10_pay (Nat.le_of_ble_eq_true rfl) rfl rfl (Nat.le_of_ble_eq_true rfl) ?_
        refine zX10_pay (a1 := a1) (a2 := 1) (a3 := a2) (w := w) (b := b) (hR := hR) ?_
        show Go SC mX10_isRest 43 [(0, .int a1), (1, .int a2), (2, .int a3)] [.int (vXX10_pay a1 1 a2), .int (vXX10_pay a1 a3 a2)] w Q
        refine g_icmp_lt (pc := 43) (tgt := 50) dX10_isRest_43 (by decide) (fun q43 => ?_) (fun q43 => ?_)
        · refine g_iconst (pc := 50) dX10_isRest_50 c_0 ?_
          first | (exfalso; contradiction) | exact cast (by simp only [if_neg q20, if_pos q31, if_pos q43]) hJ
        · refine g_iconst (pc := 46) dX10_isRest_46 c_1 ?_
          refine g_goto (pc := 47) (tgt := 51) dX10_isRest_47 (by decide) ?_
          first | (exfalso; contradiction) | exact cast (by simp only [if_neg q20, if_pos q31, if_neg q43]) hJ
  refine g_if_ne (pc := 8) (tgt := 15) dX10_isRest_8 (by decide) (fun q8 => ?_) (fun q8 => ?_)
  · refine g_iconst (pc := 15) dX10_isRest_15 c_0 ?_
    first | (exfalso; contradiction) | exact cast (by simp only [if_neg q8]) hJ
  · refine g_iconst (pc := 11) dX10_isRest_11 c_1 ?_
    refine g_goto (pc := 12) (tgt := 16) dX10_isRest_12 (by decide) ?_
    first | (exfalso; contradiction) | exact cast (by simp only [if_pos q8]) hJ
set_option maxHeartbeats 4000000 in
set_option maxRecDepth 100000 in
theorem TX10_rests (a1 : Int32) (w : Wd) (b : Bool) (hR : w.2.2 = RTab b) (Q : Option Value → Wd → Prop) (h : (((vXX10_numberTrouble a1 0 9 w b) = 0 → Go SC mX10_rests 25 [(0, .ref 0), (1, .int a1), (2, .int (vXX10_numberTrouble a1 0 9 w b)), (3, .int 0), (4, .int 0)] [] w Q) ∧ (¬ ((vXX10_numberTrouble a1 0 9 w b) = 0) → Q (some (.int (vXX10_refuse (vXX10_numberTrouble a1 0 9 w b) (-1)))) (wXX10_refuse (vXX10_numberTrouble a1 0 9 w b) (-1) w)))) : Cl SC mX10_rests [.ref 0, .int a1] w Q := by
  refine cl_of (by decide) (Nat.le_of_ble_eq_true rfl) ?_
  show Go SC mX10_rests 0 [(0, .ref 0), (1, .int a1)] [] w Q
  refine g_aload_n (pc := 0) dX10_rests_0 rfl 0 rfl ?_
  refine g_iload_n (pc := 1) dX10_rests_1 rfl 1 rfl ?_
  refine g_iconst (pc := 2) dX10_rests_2 c_0 ?_
  refine g_bipush (pc := 3) (v := 9) dX10_rests_3 (by decide) ?_
  refine g_callV (pc := 5) (M' := mX10_numberTrouble) (n := 3) (a := 0) (as := [.int a1, .int 0, .int 9]) (st := []) dX10_rests_5 rfl kX10_221 vX10_numberTrouble (Nat.le_of_ble_eq_true rfl) rfl qX10 rfl rfl (Nat.le_of_ble_eq_true rfl) ?_
  refine zX10_numberTrouble (a1 := a1) (a2 := 0) (a3 := 9) (w := w) (b := b) (hR := hR) ?_
  show Go SC mX10_rests 8 [(0, .ref 0), (1, .int a1)] [.int (vXX10_numberTrouble a1 0 9 w b)] w Q
  refine g_istore_n (pc := 8) (lv2 := [(0, .ref 0), (1, .int a1), (2, .int (vXX10_numberTrouble a1 0 9 w b))]) dX10_rests_8 rfl (Nat.le_of_ble_eq_true rfl) rfl ?_
  refine g_iload_n (pc := 9) dX10_rests_9 rfl 2 rfl ?_
  refine g_if_eq (pc := 10) (tgt := 20) dX10_rests_10 (by decide) (fun q => ?_) (fun q => ?_)
  · have h := h.1 q
    refine g_iconst (pc := 20) dX10_rests_20 c_0 ?_
    refine g_istore_n (pc := 21) (lv2 := [(0, .ref 0), (1, .int a1), (2, .int (vXX10_numberTrouble a1 0 9 w b)), (3, .int 0)]) dX10_rests_21 rfl (Nat.le_of_ble_eq_true rfl) rfl ?_
    refine g_iconst (pc := 22) dX10_rests_22 c_0 ?_
    refine g_istore (pc := 23) (lv2 := [(0, .ref 0), (1, .int a1), (2, .int (vXX10_numberTrouble a1 0 9 w b)), (3, .int 0), (4, .int 0)]) dX10_rests_23 (Nat.le_of_ble_eq_true rfl) rfl ?_
    exact h
  · have h := h.2 q
    refine g_aload_n (pc := 13) dX10_rests_13 rfl 0 rfl ?_
    refine g_iload_n (pc := 14) dX10_rests_14 rfl 2 rfl ?_
    refine g_iconst (pc := 15) dX10_rests_15 cN_1 ?_
    refine g_callV (pc := 16) (M' := mX10_refuse) (n := 2) (a := 0) (as := [.int (vXX10_numberTrouble a1 0 9 w b), .int (-1)]) (st := []) dX10_rests_16 rfl kX10_83 vX10_refuse (Nat.le_of_ble_eq_true rfl) rfl qX10 rfl rfl (Nat.le_of_ble_eq_true rfl) ?_
    refine zX10_refuse (a1 := (vXX10_numberTrouble a1 0 9 w b)) (a2 := (-1)) (w := w) (b := b) (hR := hR) ?_
    show Go SC mX10_rests 19 [(0, .ref 0), (1, .int a1), (2, .int (vXX10_numberTrouble a1 0 9 w b))] [.int (vXX10_refuse (vXX10_numberTrouble a1 0 9 w b) (-1))] (wXX10_refuse (vXX10_numberTrouble a1 0 9 w b) (-1) w) Q
    exact g_iret (pc := 19) dX10_rests_19 rfl h
set_option maxHeartbeats 4000000 in
set_option maxRecDepth 100000 in
theorem BX10_rests_25  (l1 : Int32) (l2 : Int32) (l3 : Int32) (l4 : Int32) (w : Wd) (b : Bool) (hR : w.2.2 = RTab b) (Q : Option Value → Wd → Prop) (h : ((4 ≤ l4 → Q (some (.int (vXX10_accept l3))) (wXX10_accept l3 w)) ∧ (¬ (4 ≤ l4) → ClI SC mX10_isRest [.int l1, .int (if l4 < 2 then 0 else 1 : Int32), .int (if (l4 % 2) = 1 then 1 else 0 : Int32)] w (fun x2 w1 => w1.2.2 = RTab b ∧ Go SC mX10_rests 25 [(0, .ref 0), (1, .int l1), (2, .int l2), (3, .int (if x2 = 0 then l3 else l3 + 1 : Int32)), (4, .int (l4 + 1))] [] w1 Q)))) : Go SC mX10_rests 25 [(0, .ref 0), (1, .int l1), (2, .int l2), (3, .int l3), (4, .int l4)] [] w Q := by
  refine g_iload (pc := 25) dX10_rests_25 4 rfl ?_
  refine g_iconst (pc := 27) dX10_rests_27 c_4 ?_
  refine g_icmp_ge (pc := 28) (tgt := 71) dX10_rests_28 (by decide) (fun q => ?_) (fun q => ?_)
  · have h := h.1 q
    refine g_aload_n (pc := 71) dX10_rests_71 rfl 0 rfl ?_
    refine g_iload_n (pc := 72) dX10_rests_72 rfl 3 rfl ?_
    refine g_callV (pc := 73) (M' := mX10_accept) (n := 1) (a := 0) (as := [.int l3]) (st := []) dX10_rests_73 rfl kX10_100 vX10_accept (Nat.le_of_ble_eq_true rfl) rfl qX10 rfl rfl (Nat.le_of_ble_eq_true rfl) ?_
    refine zX10_accept (a1 := l3) (w := w) (b := b) (hR := hR) ?_
    show Go SC mX10_rests 76 [(0, .ref 0), (1, .int l1), (2, .int l2), (3, .int l3), (4, .int l4)] [.int (vXX10_accept l3)] (wXX10_accept l3 w) Q
    exact g_iret (pc := 76) dX10_rests_76 rfl h
  · have h := h.2 q
    refine g_iload_n (pc := 31) dX10_rests_31 rfl 1 rfl ?_
    refine g_iload (pc := 32) dX10_rests_32 4 rfl ?_
    refine g_iconst (pc := 34) dX10_rests_34 c_2 ?_
    have hJ : Go SC mX10_rests 43 [(0, .ref 0), (1, .int l1), (2, .int l2), (3, .int l3), (4, .int l4)] [.int (if l4 < 2 then 0 else 1 : Int32), .int l1] w Q := by
      refine g_iload (pc := 43) dX10_rests_43 4 rfl ?_
      refine g_iconst (pc := 45) dX10_rests_45 c_2 ?_
      refine g_irem (pc := 46) dX10_rests_46 (by decide) ?_
      refine g_iconst (pc := 47) dX10_rests_47 c_1 ?_
      have hJ : Go SC mX10_rests 56 [(0, .ref 0), (1, .int l1), (2, .int l2), (3, .int l3), (4, .int l4)] [.int (if (l4 % 2) = 1 then 1 else 0 : Int32), .int (if l4 < 2 then 0 else 1 : Int32), .int l1] w Q := by
        refine g_callS (pc := 56) (M' := mX10_isRest) (n := 3) (as := [.int l1, .int (if l4 < 2 then 0 else 1 : Int32), .int (if (l4 % 2) = 1 then 1 else 0 : Int32)]) (st := []) dX10_rests_56 rfl kX10_300 sX10_isRest (Nat.le_of_ble_eq_true rfl) rfl rfl (Nat.le_of_ble_eq_true rfl) ?_
        refine cl_mono (fun r w1 hr => ?_) h
        obtain ⟨x2, rfl, hw1, h⟩ := hr
        show Go SC mX10_rests 59 [(0, .ref 0), (1, .int l1), (2, .int l2), (3, .int l3), (4, .int l4)] [.int x2] w1 Q
        have hJ : Go SC mX10_rests 65 [(0, .ref 0), (1, .int l1), (2, .int l2), (3, .int (if x2 = 0 then l3 else l3 + 1 : Int32)), (4, .int l4)] [] w1 Q := by
          refine g_iinc (pc := 65) (v := l4 + 1) (lv2 := [(0, .ref 0), (1, .int l1), (2, .int l2), (3, .int (if x2 = 0 then l3 else l3 + 1 : Int32)), (4, .int (l4 + 1))]) dX10_rests_65 4 rfl (Nat.le_of_ble_eq_true rfl) rfl rfl ?_
          refine g_goto (pc := 68) (tgt := 25) dX10_rests_68 (by decide) ?_
          exact h
        refine g_if_eq (pc := 59) (tgt := 65) dX10_rests_59 (by decide) (fun q59 => ?_) (fun q59 => ?_)
        · first | (exfalso; contradiction) | exact cast (by simp only [if_pos q59]) hJ
        · refine g_iinc (pc := 62) (v := l3 + 1) (lv2 := [(0, .ref 0), (1, .int l1), (2, .int l2), (3, .int (l3 + 1)), (4, .int l4)]) dX10_rests_62 3 rfl (Nat.le_of_ble_eq_true rfl) rfl rfl ?_
          first | (exfalso; contradiction) | exact cast (by simp only [if_neg q59]) hJ
      refine g_icmp_ne (pc := 48) (tgt := 55) dX10_rests_48 (by decide) (fun q48 => ?_) (fun q48 => ?_)
      · refine g_iconst (pc := 55) dX10_rests_55 c_0 ?_
        first | (exfalso; contradiction) | exact cast (by simp only [if_neg q48]) hJ
      · refine g_iconst (pc := 51) dX10_rests_51 c_1 ?_
        refine g_goto (pc := 52) (tgt := 56) dX10_rests_52 (by decide) ?_
        first | (exfalso; contradiction) | exact cast (by simp only [if_pos q48]) hJ
    refine g_icmp_lt (pc := 35) (tgt := 42) dX10_rests_35 (by decide) (fun q35 => ?_) (fun q35 => ?_)
    · refine g_iconst (pc := 42) dX10_rests_42 c_0 ?_
      first | (exfalso; contradiction) | exact cast (by simp only [if_pos q35]) hJ
    · refine g_iconst (pc := 38) dX10_rests_38 c_1 ?_
      refine g_goto (pc := 39) (tgt := 43) dX10_rests_39 (by decide) ?_
      first | (exfalso; contradiction) | exact cast (by simp only [if_neg q35]) hJ
set_option maxHeartbeats 4000000 in
set_option maxRecDepth 100000 in
theorem TX10_rest (a1 : Int32) (w : Wd) (b : Bool) (hR : w.2.2 = RTab b) (Q : Option Value → Wd → Prop) (h : (((vXX10_numberTrouble a1 0 9 w b) = 0 → Go SC mX10_rest 22 [(0, .ref 0), (1, .int a1), (2, .int (vXX10_numberTrouble a1 0 9 w b)), (3, .int 0)] [] w Q) ∧ (¬ ((vXX10_numberTrouble a1 0 9 w b) = 0) → Q (some (.int (vXX10_refuse (vXX10_numberTrouble a1 0 9 w b) (-1)))) (wXX10_refuse (vXX10_numberTrouble a1 0 9 w b) (-1) w)))) : Cl SC mX10_rest [.ref 0, .int a1] w Q := by
  refine cl_of (by decide) (Nat.le_of_ble_eq_true rfl) ?_
  show Go SC mX10_rest 0 [(0, .ref 0), (1, .int a1)] [] w Q
  refine g_aload_n (pc := 0) dX10_rest_0 rfl 0 rfl ?_
  refine g_iload_n (pc := 1) dX10_rest_1 rfl 1 rfl ?_
  refine g_iconst (pc := 2) dX10_rest_2 c_0 ?_
  refine g_bipush (pc := 3) (v := 9) dX10_rest_3 (by decide) ?_
  refine g_callV (pc := 5) (M' := mX10_numberTrouble) (n := 3) (a := 0) (as := [.int a1, .int 0, .int 9]) (st := []) dX10_rest_5 rfl kX10_221 vX10_numberTrouble (Nat.le_of_ble_eq_true rfl) rfl qX10 rfl rfl (Nat.le_of_ble_eq_true rfl) ?_
  refine zX10_numberTrouble (a1 := a1) (a2 := 0) (a3 := 9) (w := w) (b := b) (hR := hR) ?_
  show Go SC mX10_rest 8 [(0, .ref 0), (1, .int a1)] [.int (vXX10_numberTrouble a1 0 9 w b)] w Q
  refine g_istore_n (pc := 8) (lv2 := [(0, .ref 0), (1, .int a1), (2, .int (vXX10_numberTrouble a1 0 9 w b))]) dX10_rest_8 rfl (Nat.le_of_ble_eq_true rfl) rfl ?_
  refine g_iload_n (pc := 9) dX10_rest_9 rfl 2 rfl ?_
  refine g_if_eq (pc := 10) (tgt := 20) dX10_rest_10 (by decide) (fun q => ?_) (fun q => ?_)
  · have h := h.1 q
    refine g_iconst (pc := 20) dX10_rest_20 c_0 ?_
    refine g_istore_n (pc := 21) (lv2 := [(0, .ref 0), (1, .int a1), (2, .int (vXX10_numberTrouble a1 0 9 w b)), (3, .int 0)]) dX10_rest_21 rfl (Nat.le_of_ble_eq_true rfl) rfl ?_
    exact h
  · have h := h.2 q
    refine g_aload_n (pc := 13) dX10_rest_13 rfl 0 rfl ?_
    refine g_iload_n (pc := 14) dX10_rest_14 rfl 2 rfl ?_
    refine g_iconst (pc := 15) dX10_rest_15 cN_1 ?_
    refine g_callV (pc := 16) (M' := mX10_refuse) (n := 2) (a := 0) (as := [.int (vXX10_numberTrouble a1 0 9 w b), .int (-1)]) (st := []) dX10_rest_16 rfl kX10_83 vX10_refuse (Nat.le_of_ble_eq_true rfl) rfl qX10 rfl rfl (Nat.le_of_ble_eq_true rfl) ?_
    refine zX10_refuse (a1 := (vXX10_numberTrouble a1 0 9 w b)) (a2 := (-1)) (w := w) (b := b) (hR := hR) ?_
    show Go SC mX10_rest 19 [(0, .ref 0), (1, .int a1), (2, .int (vXX10_numberTrouble a1 0 9 w b))] [.int (vXX10_refuse (vXX10_numberTrouble a1 0 9 w b) (-1))] (wXX10_refuse (vXX10_numberTrouble a1 0 9 w b) (-1) w) Q
    exact g_iret (pc := 19) dX10_rest_19 rfl h
set_option maxHeartbeats 4000000 in
set_option maxRecDepth 100000 in
theorem BX10_rest_22  (l1 : Int32) (l2 : Int32) (l3 : Int32) (w : Wd) (b : Bool) (hR : w.2.2 = RTab b) (Q : Option Value → Wd → Prop) (h : ((4 ≤ l3 → Q (some (.int (vXX10_accept (-2)))) (wXX10_accept (-2) w)) ∧ (¬ (4 ≤ l3) → ClI SC mX10_isRest [.int l1, .int (if l3 < 2 then 0 else 1 : Int32), .int (if (l3 % 2) = 1 then 1 else 0 : Int32)] w (fun x2 w1 => w1.2.2 = RTab b ∧ ((x2 = 0 → Go SC mX10_rest 22 [(0, .ref 0), (1, .int l1), (2, .int l2), (3, .int (l3 + 1))] [] w1 Q) ∧ (¬ (x2 = 0) → Q (some (.int (vXX10_accept (((l3 / 2) * 10) + (l3 % 2))))) (wXX10_accept (((l3 / 2) * 10) + (l3 % 2)) w1))))))) : Go SC mX10_rest 22 [(0, .ref 0), (1, .int l1), (2, .int l2), (3, .int l3)] [] w Q := by
  refine g_iload_n (pc := 22) dX10_rest_22 rfl 3 rfl ?_
  refine g_iconst (pc := 23) dX10_rest_23 c_4 ?_
  refine g_icmp_ge (pc := 24) (tgt := 77) dX10_rest_24 (by decide) (fun q => ?_) (fun q => ?_)
  · have h := h.1 q
    refine g_aload_n (pc := 77) dX10_rest_77 rfl 0 rfl ?_
    refine g_bipush (pc := 78) (v := (-2)) dX10_rest_78 (by decide) ?_
    refine g_callV (pc := 80) (M' := mX10_accept) (n := 1) (a := 0) (as := [.int (-2)]) (st := []) dX10_rest_80 rfl kX10_100 vX10_accept (Nat.le_of_ble_eq_true rfl) rfl qX10 rfl rfl (Nat.le_of_ble_eq_true rfl) ?_
    refine zX10_accept (a1 := (-2)) (w := w) (b := b) (hR := hR) ?_
    show Go SC mX10_rest 83 [(0, .ref 0), (1, .int l1), (2, .int l2), (3, .int l3)] [.int (vXX10_accept (-2))] (wXX10_accept (-2) w) Q
    exact g_iret (pc := 83) dX10_rest_83 rfl h
  · have h := h.2 q
    refine g_iload_n (pc := 27) dX10_rest_27 rfl 1 rfl ?_
    refine g_iload_n (pc := 28) dX10_rest_28 rfl 3 rfl ?_
    refine g_iconst (pc := 29) dX10_rest_29 c_2 ?_
    have hJ : Go SC mX10_rest 38 [(0, .ref 0), (1, .int l1), (2, .int l2), (3, .int l3)] [.int (if l3 < 2 then 0 else 1 : Int32), .int l1] w Q := by
      refine g_iload_n (pc := 38) dX10_rest_38 rfl 3 rfl ?_
      refine g_iconst (pc := 39) dX10_rest_39 c_2 ?_
      refine g_irem (pc := 40) dX10_rest_40 (by decide) ?_
      refine g_iconst (pc := 41) dX10_rest_41 c_1 ?_
      have hJ : Go SC mX10_rest 50 [(0, .ref 0), (1, .int l1), (2, .int l2), (3, .int l3)] [.int (if (l3 % 2) = 1 then 1 else 0 : Int32), .int (if l3 < 2 then 0 else 1 : Int32), .int l1] w Q := by
        refine g_callS (pc := 50) (M' := mX10_isRest) (n := 3) (as := [.int l1, .int (if l3 < 2 then 0 else 1 : Int32), .int (if (l3 % 2) = 1 then 1 else 0 : Int32)]) (st := []) dX10_rest_50 rfl kX10_300 sX10_isRest (Nat.le_of_ble_eq_true rfl) rfl rfl (Nat.le_of_ble_eq_true rfl) ?_
        refine cl_mono (fun r w1 hr => ?_) h
        obtain ⟨x2, rfl, hw1, h⟩ := hr
        show Go SC mX10_rest 53 [(0, .ref 0), (1, .int l1), (2, .int l2), (3, .int l3)] [.int x2] w1 Q
        refine g_if_eq (pc := 53) (tgt := 71) dX10_rest_53 (by decide) (fun q => ?_) (fun q => ?_)
        · have h := h.1 q
          refine g_iinc (pc := 71) (v := l3 + 1) (lv2 := [(0, .ref 0), (1, .int l1), (2, .int l2), (3, .int (l3 + 1))]) dX10_rest_71 3 rfl (Nat.le_of_ble_eq_true rfl) rfl rfl ?_
          refine g_goto (pc := 74) (tgt := 22) dX10_rest_74 (by decide) ?_
          exact h
        · have h := h.2 q
          refine g_aload_n (pc := 56) dX10_rest_56 rfl 0 rfl ?_
          refine g_iload_n (pc := 57) dX10_rest_57 rfl 3 rfl ?_
          refine g_iconst (pc := 58) dX10_rest_58 c_2 ?_
          refine g_idiv (pc := 59) dX10_rest_59 (by decide) ?_
          refine g_bipush (pc := 60) (v := 10) dX10_rest_60 (by decide) ?_
          refine g_imul (pc := 62) dX10_rest_62 ?_
          refine g_iload_n (pc := 63) dX10_rest_63 rfl 3 rfl ?_
          refine g_iconst (pc := 64) dX10_rest_64 c_2 ?_
          refine g_irem (pc := 65) dX10_rest_65 (by decide) ?_
          refine g_iadd (pc := 66) dX10_rest_66 ?_
          refine g_callV (pc := 67) (M' := mX10_accept) (n := 1) (a := 0) (as := [.int (((l3 / 2) * 10) + (l3 % 2))]) (st := []) dX10_rest_67 rfl kX10_100 vX10_accept (Nat.le_of_ble_eq_true rfl) rfl qX10 rfl rfl (Nat.le_of_ble_eq_true rfl) ?_
          refine zX10_accept (a1 := (((l3 / 2) * 10) + (l3 % 2))) (w := w1) (b := b) (hR := hw1) ?_
          show Go SC mX10_rest 70 [(0, .ref 0), (1, .int l1), (2, .int l2), (3, .int l3)] [.int (vXX10_accept (((l3 / 2) * 10) + (l3 % 2)))] (wXX10_accept (((l3 / 2) * 10) + (l3 % 2)) w1) Q
          exact g_iret (pc := 70) dX10_rest_70 rfl h
      refine g_icmp_ne (pc := 42) (tgt := 49) dX10_rest_42 (by decide) (fun q42 => ?_) (fun q42 => ?_)
      · refine g_iconst (pc := 49) dX10_rest_49 c_0 ?_
        first | (exfalso; contradiction) | exact cast (by simp only [if_neg q42]) hJ
      · refine g_iconst (pc := 45) dX10_rest_45 c_1 ?_
        refine g_goto (pc := 46) (tgt := 50) dX10_rest_46 (by decide) ?_
        first | (exfalso; contradiction) | exact cast (by simp only [if_pos q42]) hJ
    refine g_icmp_lt (pc := 30) (tgt := 37) dX10_rest_30 (by decide) (fun q30 => ?_) (fun q30 => ?_)
    · refine g_iconst (pc := 37) dX10_rest_37 c_0 ?_
      first | (exfalso; contradiction) | exact cast (by simp only [if_pos q30]) hJ
    · refine g_iconst (pc := 33) dX10_rest_33 c_1 ?_
      refine g_goto (pc := 34) (tgt := 38) dX10_rest_34 (by decide) ?_
      first | (exfalso; contradiction) | exact cast (by simp only [if_neg q30]) hJ
set_option maxHeartbeats 4000000 in
set_option maxRecDepth 100000 in
theorem TX10_likely (ca1 : Bool) (ka1 : Nat) (hka1 : ka1 < 5) (a2 : Int32) (a3 : Int32) (w : Wd) (b : Bool) (hR : w.2.2 = RTab b) (Q : Option Value → Wd → Prop) (h : ((a2 < 0 → Q (some (.long ((vXX10_refuse 2 (-1)).toInt64))) (wXX10_refuse 2 (-1) w)) ∧ (¬ (a2 < 0) → ((8 < a2 → Q (some (.long ((vXX10_refuse 2 (-1)).toInt64))) (wXX10_refuse 2 (-1) w)) ∧ (¬ (8 < a2) → ((a2 ≤ (wi w (dA (hA ca1) ka1) 1) → ClL SC mX0_answer [.ref 62, .ref (dA (hA ca1) ka1), .int a2, .int (wi (si w 0 10 0) (hA b) 0), .int a3] (si w 0 10 0) (fun x2 w1 => w1.2.2 = RTab b ∧ Q (some (.long x2)) w1)) ∧ (¬ (a2 ≤ (wi w (dA (hA ca1) ka1) 1)) → Q (some (.long ((vXX10_refuse 2 (-1)).toInt64))) (wXX10_refuse 2 (-1) w)))))))) : Cl SC mX10_likely [.ref 0, .ref (dA (hA ca1) ka1), .int a2, .int a3] w Q := by
  refine cl_of (by decide) (Nat.le_of_ble_eq_true rfl) ?_
  show Go SC mX10_likely 0 [(0, .ref 0), (1, .ref (dA (hA ca1) ka1)), (2, .int a2), (3, .int a3)] [] w Q
  refine g_iload_n (pc := 0) dX10_likely_0 rfl 2 rfl ?_
  refine g_if_lt (pc := 1) (tgt := 18) dX10_likely_1 (by decide) (fun q => ?_) (fun q => ?_)
  · have h := h.1 q
    refine g_aload_n (pc := 18) dX10_likely_18 rfl 0 rfl ?_
    refine g_iconst (pc := 19) dX10_likely_19 c_2 ?_
    refine g_iconst (pc := 20) dX10_likely_20 cN_1 ?_
    refine g_callV (pc := 21) (M' := mX10_refuse) (n := 2) (a := 0) (as := [.int 2, .int (-1)]) (st := []) dX10_likely_21 rfl kX10_83 vX10_refuse (Nat.le_of_ble_eq_true rfl) rfl qX10 rfl rfl (Nat.le_of_ble_eq_true rfl) ?_
    refine zX10_refuse (a1 := 2) (a2 := (-1)) (w := w) (b := b) (hR := hR) ?_
    show Go SC mX10_likely 24 [(0, .ref 0), (1, .ref (dA (hA ca1) ka1)), (2, .int a2), (3, .int a3)] [.int (vXX10_refuse 2 (-1))] (wXX10_refuse 2 (-1) w) Q
    refine g_i2l (pc := 24) dX10_likely_24 ?_
    exact g_lret (pc := 25) dX10_likely_25 rfl h
  · have h := h.2 q
    refine g_iload_n (pc := 4) dX10_likely_4 rfl 2 rfl ?_
    refine g_bipush (pc := 5) (v := 8) dX10_likely_5 (by decide) ?_
    refine g_icmp_gt (pc := 7) (tgt := 18) dX10_likely_7 (by decide) (fun q => ?_) (fun q => ?_)
    · have h := h.1 q
      refine g_aload_n (pc := 18) dX10_likely_18 rfl 0 rfl ?_
      refine g_iconst (pc := 19) dX10_likely_19 c_2 ?_
      refine g_iconst (pc := 20) dX10_likely_20 cN_1 ?_
      refine g_callV (pc := 21) (M' := mX10_refuse) (n := 2) (a := 0) (as := [.int 2, .int (-1)]) (st := []) dX10_likely_21 rfl kX10_83 vX10_refuse (Nat.le_of_ble_eq_true rfl) rfl qX10 rfl rfl (Nat.le_of_ble_eq_true rfl) ?_
      refine zX10_refuse (a1 := 2) (a2 := (-1)) (w := w) (b := b) (hR := hR) ?_
      show Go SC mX10_likely 24 [(0, .ref 0), (1, .ref (dA (hA ca1) ka1)), (2, .int a2), (3, .int a3)] [.int (vXX10_refuse 2 (-1))] (wXX10_refuse 2 (-1) w) Q
      refine g_i2l (pc := 24) dX10_likely_24 ?_
      exact g_lret (pc := 25) dX10_likely_25 rfl h
    · have h := h.2 q
      refine g_iload_n (pc := 10) dX10_likely_10 rfl 2 rfl ?_
      refine g_aload_n (pc := 11) dX10_likely_11 rfl 1 rfl ?_
      refine g_getI (pc := 12) (a := (dA (hA ca1) ka1)) dX10_likely_12 rfl fX10_146 (sh_d ca1 hka1) ?_
      refine g_icmp_le (pc := 15) (tgt := 26) dX10_likely_15 (by decide) (fun q => ?_) (fun q => ?_)
      · have h := h.1 q
        refine g_aload_n (pc := 26) dX10_likely_26 rfl 0 rfl ?_
        refine g_iconst (pc := 27) dX10_likely_27 c_0 ?_
        refine g_putI (pc := 28) dX10_likely_28 rfl fX10_107 pX10_10 rfl ?_
        refine g_aload_n (pc := 31) dX10_likely_31 rfl 0 rfl ?_
        refine g_getR (pc := 32) (a := 0) (b := 62) dX10_likely_32 rfl fX10_67 rfl (rc_0_9 hR) ?_
        refine g_aload_n (pc := 35) dX10_likely_35 rfl 1 rfl ?_
        refine g_iload_n (pc := 36) dX10_likely_36 rfl 2 rfl ?_
        refine g_aload_n (pc := 37) dX10_likely_37 rfl 0 rfl ?_
        refine g_getR (pc := 38) (a := 0) (b := (hA b)) dX10_likely_38 rfl fX10_19 rfl (rc_0_1 hR) ?_
        refine g_getI (pc := 41) (a := (hA b)) dX10_likely_41 rfl fX10_354 (sh_h b) ?_
        refine g_iload_n (pc := 44) dX10_likely_44 rfl 3 rfl ?_
        refine g_callV (pc := 45) (M' := mX0_answer) (n := 4) (a := 62) (as := [.ref (dA (hA ca1) ka1), .int a2, .int (wi (si w 0 10 0) (hA b) 0), .int a3]) (st := []) dX10_likely_45 rfl kX10_382 vX0_answer (Nat.le_of_ble_eq_true rfl) rfl qX0 rfl rfl (Nat.le_of_ble_eq_true rfl) ?_
        refine cl_mono (fun r w1 hr => ?_) h
        obtain ⟨x2, rfl, hw1, h⟩ := hr
        show Go SC mX10_likely 48 [(0, .ref 0), (1, .ref (dA (hA ca1) ka1)), (2, .int a2), (3, .int a3)] [.long x2] w1 Q
        exact g_lret (pc := 48) dX10_likely_48 rfl h
      · have h := h.2 q
        refine g_aload_n (pc := 18) dX10_likely_18 rfl 0 rfl ?_
        refine g_iconst (pc := 19) dX10_likely_19 c_2 ?_
        refine g_iconst (pc := 20) dX10_likely_20 cN_1 ?_
        refine g_callV (pc := 21) (M' := mX10_refuse) (n := 2) (a := 0) (as := [.int 2, .int (-1)]) (st := []) dX10_likely_21 rfl kX10_83 vX10_refuse (Nat.le_of_ble_eq_true rfl) rfl qX10 rfl rfl (Nat.le_of_ble_eq_true rfl) ?_
        refine zX10_refuse (a1 := 2) (a2 := (-1)) (w := w) (b := b) (hR := hR) ?_
        show Go SC mX10_likely 24 [(0, .ref 0), (1, .ref (dA (hA ca1) ka1)), (2, .int a2), (3, .int a3)] [.int (vXX10_refuse 2 (-1))] (wXX10_refuse 2 (-1) w) Q
        refine g_i2l (pc := 24) dX10_likely_24 ?_
        exact g_lret (pc := 25) dX10_likely_25 rfl h
set_option maxHeartbeats 4000000 in
set_option maxRecDepth 100000 in
theorem TX10_odds (a1 : Int32) (a2 : Int32) (a3 : Int32) (a4 : Int32) (a5 : Int32) (w : Wd) (b : Bool) (hR : w.2.2 = RTab b) (Q : Option Value → Wd → Prop) (h : ((0 ≤ a1 ∧ a1 < wi w (hA b) 2 ∧ a1 < 5 → (((vXX10_isRope a3 a4) = 0 → Q (some (.long ((vXX10_refuse 1 (-1)).toInt64))) (wXX10_refuse 1 (-1) w)) ∧ (¬ ((vXX10_isRope a3 a4) = 0) → ClL SC mX10_likely [.ref 0, .ref (dA (hA b) a1.toNatClampNeg), .int a2, .int a5] (wXX0_measure 0 a3 a4 w) (fun x3 w2 => w2.2.2 = RTab b ∧ Q (some (.long x3)) w2)))) ∧ (¬ (0 ≤ a1 ∧ a1 < wi w (hA b) 2 ∧ a1 < 5) → Q (some (.long ((vXX10_refuse 1 (-1)).toInt64))) (wXX10_refuse 1 (-1) w)))) : Cl SC mX10_odds [.ref 0, .int a1, .int a2, .int a3, .int a4, .int a5] w Q := by
  refine cl_of (by decide) (Nat.le_of_ble_eq_true rfl) ?_
  show Go SC mX10_odds 0 [(0, .ref 0), (1, .int a1), (2, .int a2), (3, .int a3), (4, .int a4), (5, .int a5)] [] w Q
  refine g_aload_n (pc := 0) dX10_odds_0 rfl 0 rfl ?_
  refine g_getR (pc := 1) (a := 0) (b := (hA b)) dX10_odds_1 rfl fX10_19 rfl (rc_0_1 hR) ?_
  refine g_iload_n (pc := 4) dX10_odds_4 rfl 1 rfl ?_
  refine g_callV (pc := 5) (M' := mX2_danceAt) (n := 1) (a := (hA b)) (as := [.int a1]) (st := []) dX10_odds_5 rfl kX10_113 vX2_danceAt (Nat.le_of_ble_eq_true rfl) (sh_h b) qX2 rfl rfl (Nat.le_of_ble_eq_true rfl) ?_
  refine h_danceAt (c := b) (d := a1) (w := w) (hR := hR) (fun qd1 => ?_) (fun qd1 => ?_)
  · have h := h.1 qd1
    show Go SC mX10_odds 8 [(0, .ref 0), (1, .int a1), (2, .int a2), (3, .int a3), (4, .int a4), (5, .int a5)] [.ref (dA (hA b) a1.toNatClampNeg)] w Q
    refine g_astore (pc := 8) (lv2 := [(0, .ref 0), (1, .int a1), (2, .int a2), (3, .int a3), (4, .int a4), (5, .int a5), (6, .ref (dA (hA b) a1.toNatClampNeg))]) dX10_odds_8 (Nat.le_of_ble_eq_true rfl) rfl ?_
    refine g_aload (pc := 10) dX10_odds_10 6 rfl ?_
    refine g_ifnullR (pc := 12) dX10_odds_12 ?_
    refine g_iload_n (pc := 15) dX10_odds_15 rfl 3 rfl ?_
    refine g_iload (pc := 16) dX10_odds_16 4 rfl ?_
    refine g_callS (pc := 18) (M' := mX10_isRope) (n := 2) (as := [.int a3, .int a4]) (st := []) dX10_odds_18 rfl kX10_159 sX10_isRope (Nat.le_of_ble_eq_true rfl) rfl rfl (Nat.le_of_ble_eq_true rfl) ?_
    refine zX10_isRope (a1 := a3) (a2 := a4) (w := w) (b := b) (hR := hR) ?_
    show Go SC mX10_odds 21 [(0, .ref 0), (1, .int a1), (2, .int a2), (3, .int a3), (4, .int a4), (5, .int a5), (6, .ref (dA (hA b) a1.toNatClampNeg))] [.int (vXX10_isRope a3 a4)] w Q
    refine g_if_ne (pc := 21) (tgt := 32) dX10_odds_21 (by decide) (fun q => ?_) (fun q => ?_)
    · have h := h.2 q
      refine g_aload_n (pc := 32) dX10_odds_32 rfl 0 rfl ?_
      refine g_getR (pc := 33) (a := 0) (b := 62) dX10_odds_33 rfl fX10_67 rfl (rc_0_9 hR) ?_
      refine g_iconst (pc := 36) dX10_odds_36 c_0 ?_
      refine g_iload_n (pc := 37) dX10_odds_37 rfl 3 rfl ?_
      refine g_iload (pc := 38) dX10_odds_38 4 rfl ?_
      refine g_callV (pc := 40) (M' := mX0_measure) (n := 3) (a := 62) (as := [.int 0, .int a3, .int a4]) (st := []) dX10_odds_40 rfl kX10_304 vX0_measure (Nat.le_of_ble_eq_true rfl) rfl qX0 rfl rfl (Nat.le_of_ble_eq_true rfl) ?_
      refine zX0_measure (a1 := 0) (a2 := a3) (a3 := a4) (w := w) (b := b) (hR := hR) ?_
      show Go SC mX10_odds 43 [(0, .ref 0), (1, .int a1), (2, .int a2), (3, .int a3), (4, .int a4), (5, .int a5), (6, .ref (dA (hA b) a1.toNatClampNeg))] [] (wXX0_measure 0 a3 a4 w) Q
      refine g_aload_n (pc := 43) dX10_odds_43 rfl 0 rfl ?_
      refine g_aload (pc := 44) dX10_odds_44 6 rfl ?_
      refine g_iload_n (pc := 46) dX10_odds_46 rfl 2 rfl ?_
      refine g_iload (pc := 47) dX10_odds_47 5 rfl ?_
      refine g_callV (pc := 49) (M' := mX10_likely) (n := 3) (a := 0) (as := [.ref (dA (hA b) a1.toNatClampNeg), .int a2, .int a5]) (st := []) dX10_odds_49 rfl kX10_308 vX10_likely (Nat.le_of_ble_eq_true rfl) rfl qX10 rfl rfl (Nat.le_of_ble_eq_true rfl) ?_
      refine cl_mono (fun r w2 hr => ?_) h
      obtain ⟨x3, rfl, hw2, h⟩ := hr
      show Go SC mX10_odds 52 [(0, .ref 0), (1, .int a1), (2, .int a2), (3, .int a3), (4, .int a4), (5, .int a5), (6, .ref (dA (hA b) a1.toNatClampNeg))] [.long x3] w2 Q
      exact g_lret (pc := 52) dX10_odds_52 rfl h
    · have h := h.1 q
      refine g_aload_n (pc := 24) dX10_odds_24 rfl 0 rfl ?_
      refine g_iconst (pc := 25) dX10_odds_25 c_1 ?_
      refine g_iconst (pc := 26) dX10_odds_26 cN_1 ?_
      refine g_callV (pc := 27) (M' := mX10_refuse) (n := 2) (a := 0) (as := [.int 1, .int (-1)]) (st := []) dX10_odds_27 rfl kX10_83 vX10_refuse (Nat.le_of_ble_eq_true rfl) rfl qX10 rfl rfl (Nat.le_of_ble_eq_true rfl) ?_
      refine zX10_refuse (a1 := 1) (a2 := (-1)) (w := w) (b := b) (hR := hR) ?_
      show Go SC mX10_odds 30 [(0, .ref 0), (1, .int a1), (2, .int a2), (3, .int a3), (4, .int a4), (5, .int a5), (6, .ref (dA (hA b) a1.toNatClampNeg))] [.int (vXX10_refuse 1 (-1))] (wXX10_refuse 1 (-1) w) Q
      refine g_i2l (pc := 30) dX10_odds_30 ?_
      exact g_lret (pc := 31) dX10_odds_31 rfl h
  · have h := h.2 qd1
    show Go SC mX10_odds 8 [(0, .ref 0), (1, .int a1), (2, .int a2), (3, .int a3), (4, .int a4), (5, .int a5)] [.null] w Q
    refine g_astoreN (pc := 8) (lv2 := [(0, .ref 0), (1, .int a1), (2, .int a2), (3, .int a3), (4, .int a4), (5, .int a5), (6, .null)]) dX10_odds_8 (Nat.le_of_ble_eq_true rfl) rfl ?_
    refine g_aloadN (pc := 10) dX10_odds_10 6 rfl ?_
    refine g_ifnullN (pc := 12) (tgt := 24) dX10_odds_12 (by decide) ?_
    refine g_aload_n (pc := 24) dX10_odds_24 rfl 0 rfl ?_
    refine g_iconst (pc := 25) dX10_odds_25 c_1 ?_
    refine g_iconst (pc := 26) dX10_odds_26 cN_1 ?_
    refine g_callV (pc := 27) (M' := mX10_refuse) (n := 2) (a := 0) (as := [.int 1, .int (-1)]) (st := []) dX10_odds_27 rfl kX10_83 vX10_refuse (Nat.le_of_ble_eq_true rfl) rfl qX10 rfl rfl (Nat.le_of_ble_eq_true rfl) ?_
    refine zX10_refuse (a1 := 1) (a2 := (-1)) (w := w) (b := b) (hR := hR) ?_
    show Go SC mX10_odds 30 [(0, .ref 0), (1, .int a1), (2, .int a2), (3, .int a3), (4, .int a4), (5, .int a5), (6, .null)] [.int (vXX10_refuse 1 (-1))] (wXX10_refuse 1 (-1) w) Q
    refine g_i2l (pc := 30) dX10_odds_30 ?_
    exact g_lret (pc := 31) dX10_odds_31 rfl h
set_option maxHeartbeats 4000000 in
set_option maxRecDepth 100000 in
theorem TX10_untied (a1 : Int32) (a2 : Int32) (a3 : Int32) (w : Wd) (b : Bool) (hR : w.2.2 = RTab b) (Q : Option Value → Wd → Prop) (h : ((0 ≤ a1 ∧ a1 < wi w (hA b) 2 ∧ a1 < 5 → ClL SC mX10_likely [.ref 0, .ref (dA (hA b) a1.toNatClampNeg), .int a2, .int a3] (wXX0_measure 1 (-1) (-1) w) (fun x3 w2 => w2.2.2 = RTab b ∧ Q (some (.long x3)) w2)) ∧ (¬ (0 ≤ a1 ∧ a1 < wi w (hA b) 2 ∧ a1 < 5) → Q (some (.long ((vXX10_refuse 1 (-1)).toInt64))) (wXX10_refuse 1 (-1) w)))) : Cl SC mX10_untied [.ref 0, .int a1, .int a2, .int a3] w Q := by
  refine cl_of (by decide) (Nat.le_of_ble_eq_true rfl) ?_
  show Go SC mX10_untied 0 [(0, .ref 0), (1, .int a1), (2, .int a2), (3, .int a3)] [] w Q
  refine g_aload_n (pc := 0) dX10_untied_0 rfl 0 rfl ?_
  refine g_getR (pc := 1) (a := 0) (b := (hA b)) dX10_untied_1 rfl fX10_19 rfl (rc_0_1 hR) ?_
  refine g_iload_n (pc := 4) dX10_untied_4 rfl 1 rfl ?_
  refine g_callV (pc := 5) (M' := mX2_danceAt) (n := 1) (a := (hA b)) (as := [.int a1]) (st := []) dX10_untied_5 rfl kX10_113 vX2_danceAt (Nat.le_of_ble_eq_true rfl) (sh_h b) qX2 rfl rfl (Nat.le_of_ble_eq_true rfl) ?_
  refine h_danceAt (c := b) (d := a1) (w := w) (hR := hR) (fun qd1 => ?_) (fun qd1 => ?_)
  · have h := h.1 qd1
    show Go SC mX10_untied 8 [(0, .ref 0), (1, .int a1), (2, .int a2), (3, .int a3)] [.ref (dA (hA b) a1.toNatClampNeg)] w Q
    refine g_astore (pc := 8) (lv2 := [(0, .ref 0), (1, .int a1), (2, .int a2), (3, .int a3), (4, .ref (dA (hA b) a1.toNatClampNeg))]) dX10_untied_8 (Nat.le_of_ble_eq_true rfl) rfl ?_
    refine g_aload (pc := 10) dX10_untied_10 4 rfl ?_
    refine g_ifnonnullR (pc := 12) (tgt := 23) dX10_untied_12 (by decide) ?_
    refine g_aload_n (pc := 23) dX10_untied_23 rfl 0 rfl ?_
    refine g_getR (pc := 24) (a := 0) (b := 62) dX10_untied_24 rfl fX10_67 rfl (rc_0_9 hR) ?_
    refine g_iconst (pc := 27) dX10_untied_27 c_1 ?_
    refine g_iconst (pc := 28) dX10_untied_28 cN_1 ?_
    refine g_iconst (pc := 29) dX10_untied_29 cN_1 ?_
    refine g_callV (pc := 30) (M' := mX0_measure) (n := 3) (a := 62) (as := [.int 1, .int (-1), .int (-1)]) (st := []) dX10_untied_30 rfl kX10_304 vX0_measure (Nat.le_of_ble_eq_true rfl) rfl qX0 rfl rfl (Nat.le_of_ble_eq_true rfl) ?_
    refine zX0_measure (a1 := 1) (a2 := (-1)) (a3 := (-1)) (w := w) (b := b) (hR := hR) ?_
    show Go SC mX10_untied 33 [(0, .ref 0), (1, .int a1), (2, .int a2), (3, .int a3), (4, .ref (dA (hA b) a1.toNatClampNeg))] [] (wXX0_measure 1 (-1) (-1) w) Q
    refine g_aload_n (pc := 33) dX10_untied_33 rfl 0 rfl ?_
    refine g_aload (pc := 34) dX10_untied_34 4 rfl ?_
    refine g_iload_n (pc := 36) dX10_untied_36 rfl 2 rfl ?_
    refine g_iload_n (pc := 37) dX10_untied_37 rfl 3 rfl ?_
    refine g_callV (pc := 38) (M' := mX10_likely) (n := 3) (a := 0) (as := [.ref (dA (hA b) a1.toNatClampNeg), .int a2, .int a3]) (st := []) dX10_untied_38 rfl kX10_308 vX10_likely (Nat.le_of_ble_eq_true rfl) rfl qX10 rfl rfl (Nat.le_of_ble_eq_true rfl) ?_
    refine cl_mono (fun r w2 hr => ?_) h
    obtain ⟨x3, rfl, hw2, h⟩ := hr
    show Go SC mX10_untied 41 [(0, .ref 0), (1, .int a1), (2, .int a2), (3, .int a3), (4, .ref (dA (hA b) a1.toNatClampNeg))] [.long x3] w2 Q
    exact g_lret (pc := 41) dX10_untied_41 rfl h
  · have h := h.2 qd1
    show Go SC mX10_untied 8 [(0, .ref 0), (1, .int a1), (2, .int a2), (3, .int a3)] [.null] w Q
    refine g_astoreN (pc := 8) (lv2 := [(0, .ref 0), (1, .int a1), (2, .int a2), (3, .int a3), (4, .null)]) dX10_untied_8 (Nat.le_of_ble_eq_true rfl) rfl ?_
    refine g_aloadN (pc := 10) dX10_untied_10 4 rfl ?_
    refine g_ifnonnullN (pc := 12) dX10_untied_12 ?_
    refine g_aload_n (pc := 15) dX10_untied_15 rfl 0 rfl ?_
    refine g_iconst (pc := 16) dX10_untied_16 c_1 ?_
    refine g_iconst (pc := 17) dX10_untied_17 cN_1 ?_
    refine g_callV (pc := 18) (M' := mX10_refuse) (n := 2) (a := 0) (as := [.int 1, .int (-1)]) (st := []) dX10_untied_18 rfl kX10_83 vX10_refuse (Nat.le_of_ble_eq_true rfl) rfl qX10 rfl rfl (Nat.le_of_ble_eq_true rfl) ?_
    refine zX10_refuse (a1 := 1) (a2 := (-1)) (w := w) (b := b) (hR := hR) ?_
    show Go SC mX10_untied 21 [(0, .ref 0), (1, .int a1), (2, .int a2), (3, .int a3), (4, .null)] [.int (vXX10_refuse 1 (-1))] (wXX10_refuse 1 (-1) w) Q
    refine g_i2l (pc := 21) dX10_untied_21 ?_
    exact g_lret (pc := 22) dX10_untied_22 rfl h
set_option maxHeartbeats 4000000 in
set_option maxRecDepth 100000 in
theorem TX10_mean (a1 : Int32) (a2 : Int32) (a3 : Int32) (w : Wd) (b : Bool) (hR : w.2.2 = RTab b) (Q : Option Value → Wd → Prop) (h : ((0 ≤ a1 ∧ a1 < wi w (hA b) 2 ∧ a1 < 5 → ClL SC mX10_likely [.ref 0, .ref (dA (hA b) a1.toNatClampNeg), .int a2, .int a3] (wXX0_measure 2 (-1) (-1) w) (fun x3 w2 => w2.2.2 = RTab b ∧ Q (some (.long x3)) w2)) ∧ (¬ (0 ≤ a1 ∧ a1 < wi w (hA b) 2 ∧ a1 < 5) → Q (some (.long ((vXX10_refuse 1 (-1)).toInt64))) (wXX10_refuse 1 (-1) w)))) : Cl SC mX10_mean [.ref 0, .int a1, .int a2, .int a3] w Q := by
  refine cl_of (by decide) (Nat.le_of_ble_eq_true rfl) ?_
  show Go SC mX10_mean 0 [(0, .ref 0), (1, .int a1), (2, .int a2), (3, .int a3)] [] w Q
  refine g_aload_n (pc := 0) dX10_mean_0 rfl 0 rfl ?_
  refine g_getR (pc := 1) (a := 0) (b := (hA b)) dX10_mean_1 rfl fX10_19 rfl (rc_0_1 hR) ?_
  refine g_iload_n (pc := 4) dX10_mean_4 rfl 1 rfl ?_
  refine g_callV (pc := 5) (M' := mX2_danceAt) (n := 1) (a := (hA b)) (as := [.int a1]) (st := []) dX10_mean_5 rfl kX10_113 vX2_danceAt (Nat.le_of_ble_eq_true rfl) (sh_h b) qX2 rfl rfl (Nat.le_of_ble_eq_true rfl) ?_
  refine h_danceAt (c := b) (d := a1) (w := w) (hR := hR) (fun qd1 => ?_) (fun qd1 => ?_)
  · have h := h.1 qd1
    show Go SC mX10_mean 8 [(0, .ref 0), (1, .int a1), (2, .int a2), (3, .int a3)] [.ref (dA (hA b) a1.toNatClampNeg)] w Q
    refine g_astore (pc := 8) (lv2 := [(0, .ref 0), (1, .int a1), (2, .int a2), (3, .int a3), (4, .ref (dA (hA b) a1.toNatClampNeg))]) dX10_mean_8 (Nat.le_of_ble_eq_true rfl) rfl ?_
    refine g_aload (pc := 10) dX10_mean_10 4 rfl ?_
    refine g_ifnonnullR (pc := 12) (tgt := 23) dX10_mean_12 (by decide) ?_
    refine g_aload_n (pc := 23) dX10_mean_23 rfl 0 rfl ?_
    refine g_getR (pc := 24) (a := 0) (b := 62) dX10_mean_24 rfl fX10_67 rfl (rc_0_9 hR) ?_
    refine g_iconst (pc := 27) dX10_mean_27 c_2 ?_
    refine g_iconst (pc := 28) dX10_mean_28 cN_1 ?_
    refine g_iconst (pc := 29) dX10_mean_29 cN_1 ?_
    refine g_callV (pc := 30) (M' := mX0_measure) (n := 3) (a := 62) (as := [.int 2, .int (-1), .int (-1)]) (st := []) dX10_mean_30 rfl kX10_304 vX0_measure (Nat.le_of_ble_eq_true rfl) rfl qX0 rfl rfl (Nat.le_of_ble_eq_true rfl) ?_
    refine zX0_measure (a1 := 2) (a2 := (-1)) (a3 := (-1)) (w := w) (b := b) (hR := hR) ?_
    show Go SC mX10_mean 33 [(0, .ref 0), (1, .int a1), (2, .int a2), (3, .int a3), (4, .ref (dA (hA b) a1.toNatClampNeg))] [] (wXX0_measure 2 (-1) (-1) w) Q
    refine g_aload_n (pc := 33) dX10_mean_33 rfl 0 rfl ?_
    refine g_aload (pc := 34) dX10_mean_34 4 rfl ?_
    refine g_iload_n (pc := 36) dX10_mean_36 rfl 2 rfl ?_
    refine g_iload_n (pc := 37) dX10_mean_37 rfl 3 rfl ?_
    refine g_callV (pc := 38) (M' := mX10_likely) (n := 3) (a := 0) (as := [.ref (dA (hA b) a1.toNatClampNeg), .int a2, .int a3]) (st := []) dX10_mean_38 rfl kX10_308 vX10_likely (Nat.le_of_ble_eq_true rfl) rfl qX10 rfl rfl (Nat.le_of_ble_eq_true rfl) ?_
    refine cl_mono (fun r w2 hr => ?_) h
    obtain ⟨x3, rfl, hw2, h⟩ := hr
    show Go SC mX10_mean 41 [(0, .ref 0), (1, .int a1), (2, .int a2), (3, .int a3), (4, .ref (dA (hA b) a1.toNatClampNeg))] [.long x3] w2 Q
    exact g_lret (pc := 41) dX10_mean_41 rfl h
  · have h := h.2 qd1
    show Go SC mX10_mean 8 [(0, .ref 0), (1, .int a1), (2, .int a2), (3, .int a3)] [.null] w Q
    refine g_astoreN (pc := 8) (lv2 := [(0, .ref 0), (1, .int a1), (2, .int a2), (3, .int a3), (4, .null)]) dX10_mean_8 (Nat.le_of_ble_eq_true rfl) rfl ?_
    refine g_aloadN (pc := 10) dX10_mean_10 4 rfl ?_
    refine g_ifnonnullN (pc := 12) dX10_mean_12 ?_
    refine g_aload_n (pc := 15) dX10_mean_15 rfl 0 rfl ?_
    refine g_iconst (pc := 16) dX10_mean_16 c_1 ?_
    refine g_iconst (pc := 17) dX10_mean_17 cN_1 ?_
    refine g_callV (pc := 18) (M' := mX10_refuse) (n := 2) (a := 0) (as := [.int 1, .int (-1)]) (st := []) dX10_mean_18 rfl kX10_83 vX10_refuse (Nat.le_of_ble_eq_true rfl) rfl qX10 rfl rfl (Nat.le_of_ble_eq_true rfl) ?_
    refine zX10_refuse (a1 := 1) (a2 := (-1)) (w := w) (b := b) (hR := hR) ?_
    show Go SC mX10_mean 21 [(0, .ref 0), (1, .int a1), (2, .int a2), (3, .int a3), (4, .null)] [.int (vXX10_refuse 1 (-1))] (wXX10_refuse 1 (-1) w) Q
    refine g_i2l (pc := 21) dX10_mean_21 ?_
    exact g_lret (pc := 22) dX10_mean_22 rfl h
set_option maxHeartbeats 4000000 in
set_option maxRecDepth 100000 in
theorem TX10_drawTrouble (a1 : Int32) (a2 : Int32) (a3 : Int32) (w : Wd) (b : Bool) (hR : w.2.2 = RTab b) (Q : Option Value → Wd → Prop) (h : ((0 ≤ a1 ∧ a1 < wi w (hA b) 2 ∧ a1 < 5 → ((a2 < 0 → Q (some (.int 2)) w) ∧ (¬ (a2 < 0) → ((65536 < a2 → Q (some (.int 2)) w) ∧ (¬ (65536 < a2) → ((a3 < 0 → Q (some (.int 2)) w) ∧ (¬ (a3 < 0) → ((a3 ≤ (wi w (dA (hA b) a1.toNatClampNeg) 1) → ClI SC mX0_drawn [.int a2, .int a3, .int (wi w (hA b) 0)] w (fun x3 w2 => w2.2.2 = RTab b ∧ ClV SC mX1_walk [.ref (dA (hA b) a1.toNatClampNeg), .int a3, .int x3, .ref 55] w2 (fun w4 => w4.2.2 = RTab b ∧ Q (some (.int 0)) w4))) ∧ (¬ (a3 ≤ (wi w (dA (hA b) a1.toNatClampNeg) 1)) → Q (some (.int 2)) w))))))))) ∧ (¬ (0 ≤ a1 ∧ a1 < wi w (hA b) 2 ∧ a1 < 5) → Q (some (.int 1)) w))) : Cl SC mX10_drawTrouble [.ref 0, .int a1, .int a2, .int a3] w Q := by
  refine cl_of (by decide) (Nat.le_of_ble_eq_true rfl) ?_
  show Go SC mX10_drawTrouble 0 [(0, .ref 0), (1, .int a1), (2, .int a2), (3, .int a3)] [] w Q
  refine g_aload_n (pc := 0) dX10_drawTrouble_0 rfl 0 rfl ?_
  refine g_getR (pc := 1) (a := 0) (b := (hA b)) dX10_drawTrouble_1 rfl fX10_19 rfl (rc_0_1 hR) ?_
  refine g_iload_n (pc := 4) dX10_drawTrouble_4 rfl 1 rfl ?_
  refine g_callV (pc := 5) (M' := mX2_danceAt) (n := 1) (a := (hA b)) (as := [.int a1]) (st := []) dX10_drawTrouble_5 rfl kX10_113 vX2_danceAt (Nat.le_of_ble_eq_true rfl) (sh_h b) qX2 rfl rfl (Nat.le_of_ble_eq_true rfl) ?_
  refine h_danceAt (c := b) (d := a1) (w := w) (hR := hR) (fun qd1 => ?_) (fun qd1 => ?_)
  · have h := h.1 qd1
    show Go SC mX10_drawTrouble 8 [(0, .ref 0), (1, .int a1), (2, .int a2), (3, .int a3)] [.ref (dA (hA b) a1.toNatClampNeg)] w Q
    refine g_astore (pc := 8) (lv2 := [(0, .ref 0), (1, .int a1), (2, .int a2), (3, .int a3), (4, .ref (dA (hA b) a1.toNatClampNeg))]) dX10_drawTrouble_8 (Nat.le_of_ble_eq_true rfl) rfl ?_
    refine g_aload (pc := 10) dX10_drawTrouble_10 4 rfl ?_
    refine g_ifnonnullR (pc := 12) (tgt := 17) dX10_drawTrouble_12 (by decide) ?_
    refine g_iload_n (pc := 17) dX10_drawTrouble_17 rfl 2 rfl ?_
    refine g_if_lt (pc := 18) (tgt := 41) dX10_drawTrouble_18 (by decide) (fun q => ?_) (fun q => ?_)
    · have h := h.1 q
      refine g_iconst (pc := 41) dX10_drawTrouble_41 c_2 ?_
      exact g_iret (pc := 42) dX10_drawTrouble_42 rfl h
    · have h := h.2 q
      refine g_iload_n (pc := 21) dX10_drawTrouble_21 rfl 2 rfl ?_
      refine g_ldcw (pc := 22) dX10_drawTrouble_22 rfl nX10_370 ?_
      refine g_icmp_gt (pc := 25) (tgt := 41) dX10_drawTrouble_25 (by decide) (fun q => ?_) (fun q => ?_)
      · have h := h.1 q
        refine g_iconst (pc := 41) dX10_drawTrouble_41 c_2 ?_
        exact g_iret (pc := 42) dX10_drawTrouble_42 rfl h
      · have h := h.2 q
        refine g_iload_n (pc := 28) dX10_drawTrouble_28 rfl 3 rfl ?_
        refine g_if_lt (pc := 29) (tgt := 41) dX10_drawTrouble_29 (by decide) (fun q => ?_) (fun q => ?_)
        · have h := h.1 q
          refine g_iconst (pc := 41) dX10_drawTrouble_41 c_2 ?_
          exact g_iret (pc := 42) dX10_drawTrouble_42 rfl h
        · have h := h.2 q
          refine g_iload_n (pc := 32) dX10_drawTrouble_32 rfl 3 rfl ?_
          refine g_aload (pc := 33) dX10_drawTrouble_33 4 rfl ?_
          refine g_getI (pc := 35) (a := (dA (hA b) a1.toNatClampNeg)) dX10_drawTrouble_35 rfl fX10_146 (sh_d b (lt5 qd1.1 qd1.2.2)) ?_
          refine g_icmp_le (pc := 38) (tgt := 43) dX10_drawTrouble_38 (by decide) (fun q => ?_) (fun q => ?_)
          · have h := h.1 q
            refine g_aload (pc := 43) dX10_drawTrouble_43 4 rfl ?_
            refine g_iload_n (pc := 45) dX10_drawTrouble_45 rfl 3 rfl ?_
            refine g_iload_n (pc := 46) dX10_drawTrouble_46 rfl 2 rfl ?_
            refine g_iload_n (pc := 47) dX10_drawTrouble_47 rfl 3 rfl ?_
            refine g_aload_n (pc := 48) dX10_drawTrouble_48 rfl 0 rfl ?_
            refine g_getR (pc := 49) (a := 0) (b := (hA b)) dX10_drawTrouble_49 rfl fX10_19 rfl (rc_0_1 hR) ?_
            refine g_getI (pc := 52) (a := (hA b)) dX10_drawTrouble_52 rfl fX10_354 (sh_h b) ?_
            refine g_callS (pc := 55) (M' := mX0_drawn) (n := 3) (as := [.int a2, .int a3, .int (wi w (hA b) 0)]) (st := [.int a3, .ref (dA (hA b) a1.toNatClampNeg)]) dX10_drawTrouble_55 rfl kX10_371 sX0_drawn (Nat.le_of_ble_eq_true rfl) rfl rfl (Nat.le_of_ble_eq_true rfl) ?_
            refine cl_mono (fun r w2 hr => ?_) h
            obtain ⟨x3, rfl, hw2, h⟩ := hr
            show Go SC mX10_drawTrouble 58 [(0, .ref 0), (1, .int a1), (2, .int a2), (3, .int a3), (4, .ref (dA (hA b) a1.toNatClampNeg))] [.int x3, .int a3, .ref (dA (hA b) a1.toNatClampNeg)] w2 Q
            refine g_aload_n (pc := 58) dX10_drawTrouble_58 rfl 0 rfl ?_
            refine g_getR (pc := 59) (a := 0) (b := 55) dX10_drawTrouble_59 rfl fX10_36 rfl (rc_0_4 hw2) ?_
            refine g_callV (pc := 62) (M' := mX1_walk) (n := 3) (a := (dA (hA b) a1.toNatClampNeg)) (as := [.int a3, .int x3, .ref 55]) (st := []) dX10_drawTrouble_62 rfl kX10_155 vX1_walk (Nat.le_of_ble_eq_true rfl) (sh_d b (lt5 qd1.1 qd1.2.2)) qX1 rfl rfl (Nat.le_of_ble_eq_true rfl) ?_
            refine cl_mono (fun r w4 hr => ?_) h
            obtain ⟨rfl, hw4, h⟩ := hr
            show Go SC mX10_drawTrouble 65 [(0, .ref 0), (1, .int a1), (2, .int a2), (3, .int a3), (4, .ref (dA (hA b) a1.toNatClampNeg))] [] w4 Q
            refine g_iconst (pc := 65) dX10_drawTrouble_65 c_0 ?_
            exact g_iret (pc := 66) dX10_drawTrouble_66 rfl h
          · have h := h.2 q
            refine g_iconst (pc := 41) dX10_drawTrouble_41 c_2 ?_
            exact g_iret (pc := 42) dX10_drawTrouble_42 rfl h
  · have h := h.2 qd1
    show Go SC mX10_drawTrouble 8 [(0, .ref 0), (1, .int a1), (2, .int a2), (3, .int a3)] [.null] w Q
    refine g_astoreN (pc := 8) (lv2 := [(0, .ref 0), (1, .int a1), (2, .int a2), (3, .int a3), (4, .null)]) dX10_drawTrouble_8 (Nat.le_of_ble_eq_true rfl) rfl ?_
    refine g_aloadN (pc := 10) dX10_drawTrouble_10 4 rfl ?_
    refine g_ifnonnullN (pc := 12) dX10_drawTrouble_12 ?_
    refine g_iconst (pc := 15) dX10_drawTrouble_15 c_1 ?_
    exact g_iret (pc := 16) dX10_drawTrouble_16 rfl h
set_option maxHeartbeats 4000000 in
set_option maxRecDepth 100000 in
theorem TX10_drawnUpper (a1 : Int32) (a2 : Int32) (a3 : Int32) (w : Wd) (b : Bool) (hR : w.2.2 = RTab b) (Q : Option Value → Wd → Prop) (h : ClI SC mX10_drawTrouble [.ref 0, .int a1, .int a2, .int a3] w (fun x2 w1 => w1.2.2 = RTab b ∧ ((x2 = 0 → Q (some (.int (vXX10_accept (wi w1 55 0)))) (wXX10_accept (wi w1 55 0) w1)) ∧ (¬ (x2 = 0) → Q (some (.int (vXX10_refuse x2 (-100000)))) (wXX10_refuse x2 (-100000) w1))))) : Cl SC mX10_drawnUpper [.ref 0, .int a1, .int a2, .int a3] w Q := by
  refine cl_of (by decide) (Nat.le_of_ble_eq_true rfl) ?_
  show Go SC mX10_drawnUpper 0 [(0, .ref 0), (1, .int a1), (2, .int a2), (3, .int a3)] [] w Q
  refine g_aload_n (pc := 0) dX10_drawnUpper_0 rfl 0 rfl ?_
  refine g_iload_n (pc := 1) dX10_drawnUpper_1 rfl 1 rfl ?_
  refine g_iload_n (pc := 2) dX10_drawnUpper_2 rfl 2 rfl ?_
  refine g_iload_n (pc := 3) dX10_drawnUpper_3 rfl 3 rfl ?_
  refine g_callV (pc := 4) (M' := mX10_drawTrouble) (n := 3) (a := 0) (as := [.int a1, .int a2, .int a3]) (st := []) dX10_drawnUpper_4 rfl kX10_312 vX10_drawTrouble (Nat.le_of_ble_eq_true rfl) rfl qX10 rfl rfl (Nat.le_of_ble_eq_true rfl) ?_
  refine cl_mono (fun r w1 hr => ?_) h
  obtain ⟨x2, rfl, hw1, h⟩ := hr
  show Go SC mX10_drawnUpper 7 [(0, .ref 0), (1, .int a1), (2, .int a2), (3, .int a3)] [.int x2] w1 Q
  refine g_istore (pc := 7) (lv2 := [(0, .ref 0), (1, .int a1), (2, .int a2), (3, .int a3), (4, .int x2)]) dX10_drawnUpper_7 (Nat.le_of_ble_eq_true rfl) rfl ?_
  refine g_iload (pc := 9) dX10_drawnUpper_9 4 rfl ?_
  refine g_if_ne (pc := 11) (tgt := 28) dX10_drawnUpper_11 (by decide) (fun q => ?_) (fun q => ?_)
  · have h := h.2 q
    refine g_aload_n (pc := 28) dX10_drawnUpper_28 rfl 0 rfl ?_
    refine g_iload (pc := 29) dX10_drawnUpper_29 4 rfl ?_
    refine g_ldc (pc := 31) dX10_drawnUpper_31 rfl nX10_117 ?_
    refine g_callV (pc := 33) (M' := mX10_refuse) (n := 2) (a := 0) (as := [.int x2, .int (-100000)]) (st := []) dX10_drawnUpper_33 rfl kX10_83 vX10_refuse (Nat.le_of_ble_eq_true rfl) rfl qX10 rfl rfl (Nat.le_of_ble_eq_true rfl) ?_
    refine zX10_refuse (a1 := x2) (a2 := (-100000)) (w := w1) (b := b) (hR := hw1) ?_
    show Go SC mX10_drawnUpper 36 [(0, .ref 0), (1, .int a1), (2, .int a2), (3, .int a3), (4, .int x2)] [.int (vXX10_refuse x2 (-100000))] (wXX10_refuse x2 (-100000) w1) Q
    exact g_iret (pc := 36) dX10_drawnUpper_36 rfl h
  · have h := h.1 q
    refine g_aload_n (pc := 14) dX10_drawnUpper_14 rfl 0 rfl ?_
    refine g_aload_n (pc := 15) dX10_drawnUpper_15 rfl 0 rfl ?_
    refine g_getR (pc := 16) (a := 0) (b := 55) dX10_drawnUpper_16 rfl fX10_36 rfl (rc_0_4 hw1) ?_
    refine g_getI (pc := 19) (a := 55) dX10_drawnUpper_19 rfl fX10_123 rfl ?_
    refine g_callV (pc := 22) (M' := mX10_accept) (n := 1) (a := 0) (as := [.int (wi w1 55 0)]) (st := []) dX10_drawnUpper_22 rfl kX10_100 vX10_accept (Nat.le_of_ble_eq_true rfl) rfl qX10 rfl rfl (Nat.le_of_ble_eq_true rfl) ?_
    refine zX10_accept (a1 := (wi w1 55 0)) (w := w1) (b := b) (hR := hw1) ?_
    show Go SC mX10_drawnUpper 25 [(0, .ref 0), (1, .int a1), (2, .int a2), (3, .int a3), (4, .int x2)] [.int (vXX10_accept (wi w1 55 0))] (wXX10_accept (wi w1 55 0) w1) Q
    refine g_goto (pc := 25) (tgt := 36) dX10_drawnUpper_25 (by decide) ?_
    exact g_iret (pc := 36) dX10_drawnUpper_36 rfl h
set_option maxHeartbeats 4000000 in
set_option maxRecDepth 100000 in
theorem TX10_drawnLower (a1 : Int32) (a2 : Int32) (a3 : Int32) (w : Wd) (b : Bool) (hR : w.2.2 = RTab b) (Q : Option Value → Wd → Prop) (h : ClI SC mX10_drawTrouble [.ref 0, .int a1, .int a2, .int a3] w (fun x2 w1 => w1.2.2 = RTab b ∧ ((x2 = 0 → Q (some (.int (vXX10_accept (wi w1 55 1)))) (wXX10_accept (wi w1 55 1) w1)) ∧ (¬ (x2 = 0) → Q (some (.int (vXX10_refuse x2 (-1)))) (wXX10_refuse x2 (-1) w1))))) : Cl SC mX10_drawnLower [.ref 0, .int a1, .int a2, .int a3] w Q := by
  refine cl_of (by decide) (Nat.le_of_ble_eq_true rfl) ?_
  show Go SC mX10_drawnLower 0 [(0, .ref 0), (1, .int a1), (2, .int a2), (3, .int a3)] [] w Q
  refine g_aload_n (pc := 0) dX10_drawnLower_0 rfl 0 rfl ?_
  refine g_iload_n (pc := 1) dX10_drawnLower_1 rfl 1 rfl ?_
  refine g_iload_n (pc := 2) dX10_drawnLower_2 rfl 2 rfl ?_
  refine g_iload_n (pc := 3) dX10_drawnLower_3 rfl 3 rfl ?_
  refine g_callV (pc := 4) (M' := mX10_drawTrouble) (n := 3) (a := 0) (as := [.int a1, .int a2, .int a3]) (st := []) dX10_drawnLower_4 rfl kX10_312 vX10_drawTrouble (Nat.le_of_ble_eq_true rfl) rfl qX10 rfl rfl (Nat.le_of_ble_eq_true rfl) ?_
  refine cl_mono (fun r w1 hr => ?_) h
  obtain ⟨x2, rfl, hw1, h⟩ := hr
  show Go SC mX10_drawnLower 7 [(0, .ref 0), (1, .int a1), (2, .int a2), (3, .int a3)] [.int x2] w1 Q
  refine g_istore (pc := 7) (lv2 := [(0, .ref 0), (1, .int a1), (2, .int a2), (3, .int a3), (4, .int x2)]) dX10_drawnLower_7 (Nat.le_of_ble_eq_true rfl) rfl ?_
  refine g_iload (pc := 9) dX10_drawnLower_9 4 rfl ?_
  refine g_if_ne (pc := 11) (tgt := 28) dX10_drawnLower_11 (by decide) (fun q => ?_) (fun q => ?_)
  · have h := h.2 q
    refine g_aload_n (pc := 28) dX10_drawnLower_28 rfl 0 rfl ?_
    refine g_iload (pc := 29) dX10_drawnLower_29 4 rfl ?_
    refine g_iconst (pc := 31) dX10_drawnLower_31 cN_1 ?_
    refine g_callV (pc := 32) (M' := mX10_refuse) (n := 2) (a := 0) (as := [.int x2, .int (-1)]) (st := []) dX10_drawnLower_32 rfl kX10_83 vX10_refuse (Nat.le_of_ble_eq_true rfl) rfl qX10 rfl rfl (Nat.le_of_ble_eq_true rfl) ?_
    refine zX10_refuse (a1 := x2) (a2 := (-1)) (w := w1) (b := b) (hR := hw1) ?_
    show Go SC mX10_drawnLower 35 [(0, .ref 0), (1, .int a1), (2, .int a2), (3, .int a3), (4, .int x2)] [.int (vXX10_refuse x2 (-1))] (wXX10_refuse x2 (-1) w1) Q
    exact g_iret (pc := 35) dX10_drawnLower_35 rfl h
  · have h := h.1 q
    refine g_aload_n (pc := 14) dX10_drawnLower_14 rfl 0 rfl ?_
    refine g_aload_n (pc := 15) dX10_drawnLower_15 rfl 0 rfl ?_
    refine g_getR (pc := 16) (a := 0) (b := 55) dX10_drawnLower_16 rfl fX10_36 rfl (rc_0_4 hw1) ?_
    refine g_getI (pc := 19) (a := 55) dX10_drawnLower_19 rfl fX10_126 rfl ?_
    refine g_callV (pc := 22) (M' := mX10_accept) (n := 1) (a := 0) (as := [.int (wi w1 55 1)]) (st := []) dX10_drawnLower_22 rfl kX10_100 vX10_accept (Nat.le_of_ble_eq_true rfl) rfl qX10 rfl rfl (Nat.le_of_ble_eq_true rfl) ?_
    refine zX10_accept (a1 := (wi w1 55 1)) (w := w1) (b := b) (hR := hw1) ?_
    show Go SC mX10_drawnLower 25 [(0, .ref 0), (1, .int a1), (2, .int a2), (3, .int a3), (4, .int x2)] [.int (vXX10_accept (wi w1 55 1))] (wXX10_accept (wi w1 55 1) w1) Q
    refine g_goto (pc := 25) (tgt := 35) dX10_drawnLower_25 (by decide) ?_
    exact g_iret (pc := 35) dX10_drawnLower_35 rfl h
set_option maxHeartbeats 4000000 in
set_option maxRecDepth 100000 in
theorem TX10_become (a1 : Int32) (a2 : Nat) (ha2 : SC[a2]? = some (.inl 6)) (a3 : Int32) (a4 : Int32) (w : Wd) (b : Bool) (hR : w.2.2 = RTab b) (Q : Option Value → Wd → Prop) (h : ClV SC mX4_keep [.ref 49, .int a1, .ref a2] w (fun w1 => w1.2.2 = RTab b ∧ Q none (wXX7_put a2 a3 a4 w1))) : Cl SC mX10_become [.ref 0, .int a1, .ref a2, .int a3, .int a4] w Q := by
  refine cl_of (by decide) (Nat.le_of_ble_eq_true rfl) ?_
  show Go SC mX10_become 0 [(0, .ref 0), (1, .int a1), (2, .ref a2), (3, .int a3), (4, .int a4)] [] w Q
  refine g_aload_n (pc := 0) dX10_become_0 rfl 0 rfl ?_
  refine g_getR (pc := 1) (a := 0) (b := 49) dX10_become_1 rfl fX10_29 rfl (rc_0_3 hR) ?_
  refine g_iload_n (pc := 4) dX10_become_4 rfl 1 rfl ?_
  refine g_aload_n (pc := 5) dX10_become_5 rfl 2 rfl ?_
  refine g_callV (pc := 6) (M' := mX4_keep) (n := 2) (a := 49) (as := [.int a1, .ref a2]) (st := []) dX10_become_6 rfl kX10_386 vX4_keep (Nat.le_of_ble_eq_true rfl) rfl qX4 rfl rfl (Nat.le_of_ble_eq_true rfl) ?_
  refine cl_mono (fun r w1 hr => ?_) h
  obtain ⟨rfl, hw1, h⟩ := hr
  show Go SC mX10_become 9 [(0, .ref 0), (1, .int a1), (2, .ref a2), (3, .int a3), (4, .int a4)] [] w1 Q
  refine g_aload_n (pc := 9) dX10_become_9 rfl 2 rfl ?_
  refine g_iload_n (pc := 10) dX10_become_10 rfl 3 rfl ?_
  refine g_iload (pc := 11) dX10_become_11 4 rfl ?_
  refine g_callV (pc := 13) (M' := mX7_put) (n := 2) (a := a2) (as := [.int a3, .int a4]) (st := []) dX10_become_13 rfl kX10_163 vX7_put (Nat.le_of_ble_eq_true rfl) ha2 qX7 rfl rfl (Nat.le_of_ble_eq_true rfl) ?_
  refine zX7_put (t := a2) (a1 := a3) (a2 := a4) (w := w1) (b := b) (hR := hw1) (ht := ha2) ?_
  show Go SC mX10_become 16 [(0, .ref 0), (1, .int a1), (2, .ref a2), (3, .int a3), (4, .int a4)] [] (wXX7_put a2 a3 a4 w1) Q
  exact g_vret (pc := 16) dX10_become_16 rfl h
set_option maxHeartbeats 4000000 in
set_option maxRecDepth 100000 in
theorem TX10_call (a1 : Int32) (a2 : Int32) (w : Wd) (b : Bool) (hR : w.2.2 = RTab b) (Q : Option Value → Wd → Prop) (h : ((0 ≤ a1 ∧ a1 < wi w (hA b) 2 ∧ a1 < 5 → ((a2 < 0 → Q (some (.int (vXX10_refuse 2 (-1)))) (wXX10_refuse 2 (-1) w)) ∧ (¬ (a2 < 0) → ((a2 ≤ 2 → (((vXX7_isTooGreat (vXX7_overBy a2 (wi w (dA (hA b) a1.toNatClampNeg + 2) 0) (wi w (dA (hA b) a1.toNatClampNeg + 2) 1)) (vXX7_underBy a2 (wi w (dA (hA b) a1.toNatClampNeg + 2) 0) (wi w (dA (hA b) a1.toNatClampNeg + 2) 1))) = 0 → ClV SC mX10_become [.ref 0, .int a1, .ref (dA (hA b) a1.toNatClampNeg + 2), .int (vXX7_overBy a2 (wi w (dA (hA b) a1.toNatClampNeg + 2) 0) (wi w (dA (hA b) a1.toNatClampNeg + 2) 1)), .int (vXX7_underBy a2 (wi w (dA (hA b) a1.toNatClampNeg + 2) 0) (wi w (dA (hA b) a1.toNatClampNeg + 2) 1))] w (fun w2 => w2.2.2 = RTab b ∧ ClI SC mX7_crossed [.ref (dA (hA b) a1.toNatClampNeg + 2)] w2 (fun x4 w3 => w3.2.2 = RTab b ∧ Q (some (.int (vXX10_accept x4))) (wXX10_accept x4 w3)))) ∧ (¬ ((vXX7_isTooGreat (vXX7_overBy a2 (wi w (dA (hA b) a1.toNatClampNeg + 2) 0) (wi w (dA (hA b) a1.toNatClampNeg + 2) 1)) (vXX7_underBy a2 (wi w (dA (hA b) a1.toNatClampNeg + 2) 0) (wi w (dA (hA b) a1.toNatClampNeg + 2) 1))) = 0) → Q (some (.int (vXX10_refuse 3 (-1)))) (wXX10_refuse 3 (-1) w)))) ∧ (¬ (a2 ≤ 2) → Q (some (.int (vXX10_refuse 2 (-1)))) (wXX10_refuse 2 (-1) w)))))) ∧ (¬ (0 ≤ a1 ∧ a1 < wi w (hA b) 2 ∧ a1 < 5) → Q (some (.int (vXX10_refuse 1 (-1)))) (wXX10_refuse 1 (-1) w)))) : Cl SC mX10_call [.ref 0, .int a1, .int a2] w Q := by
  refine cl_of (by decide) (Nat.le_of_ble_eq_true rfl) ?_
  show Go SC mX10_call 0 [(0, .ref 0), (1, .int a1), (2, .int a2)] [] w Q
  refine g_aload_n (pc := 0) dX10_call_0 rfl 0 rfl ?_
  refine g_getR (pc := 1) (a := 0) (b := (hA b)) dX10_call_1 rfl fX10_19 rfl (rc_0_1 hR) ?_
  refine g_iload_n (pc := 4) dX10_call_4 rfl 1 rfl ?_
  refine g_callV (pc := 5) (M' := mX2_danceAt) (n := 1) (a := (hA b)) (as := [.int a1]) (st := []) dX10_call_5 rfl kX10_113 vX2_danceAt (Nat.le_of_ble_eq_true rfl) (sh_h b) qX2 rfl rfl (Nat.le_of_ble_eq_true rfl) ?_
  refine h_danceAt (c := b) (d := a1) (w := w) (hR := hR) (fun qd1 => ?_) (fun qd1 => ?_)
  · have h := h.1 qd1
    show Go SC mX10_call 8 [(0, .ref 0), (1, .int a1), (2, .int a2)] [.ref (dA (hA b) a1.toNatClampNeg)] w Q
    refine g_astore_n (pc := 8) (lv2 := [(0, .ref 0), (1, .int a1), (2, .int a2), (3, .ref (dA (hA b) a1.toNatClampNeg))]) dX10_call_8 rfl (Nat.le_of_ble_eq_true rfl) rfl ?_
    refine g_aload_n (pc := 9) dX10_call_9 rfl 3 rfl ?_
    refine g_ifnonnullR (pc := 10) (tgt := 20) dX10_call_10 (by decide) ?_
    refine g_iload_n (pc := 20) dX10_call_20 rfl 2 rfl ?_
    refine g_if_lt (pc := 21) (tgt := 29) dX10_call_21 (by decide) (fun q => ?_) (fun q => ?_)
    · have h := h.1 q
      refine g_aload_n (pc := 29) dX10_call_29 rfl 0 rfl ?_
      refine g_iconst (pc := 30) dX10_call_30 c_2 ?_
      refine g_iconst (pc := 31) dX10_call_31 cN_1 ?_
      refine g_callV (pc := 32) (M' := mX10_refuse) (n := 2) (a := 0) (as := [.int 2, .int (-1)]) (st := []) dX10_call_32 rfl kX10_83 vX10_refuse (Nat.le_of_ble_eq_true rfl) rfl qX10 rfl rfl (Nat.le_of_ble_eq_true rfl) ?_
      refine zX10_refuse (a1 := 2) (a2 := (-1)) (w := w) (b := b) (hR := hR) ?_
      show Go SC mX10_call 35 [(0, .ref 0), (1, .int a1), (2, .int a2), (3, .ref (dA (hA b) a1.toNatClampNeg))] [.int (vXX10_refuse 2 (-1))] (wXX10_refuse 2 (-1) w) Q
      exact g_iret (pc := 35) dX10_call_35 rfl h
    · have h := h.2 q
      refine g_iload_n (pc := 24) dX10_call_24 rfl 2 rfl ?_
      refine g_iconst (pc := 25) dX10_call_25 c_2 ?_
      refine g_icmp_le (pc := 26) (tgt := 36) dX10_call_26 (by decide) (fun q => ?_) (fun q => ?_)
      · have h := h.1 q
        refine g_aload_n (pc := 36) dX10_call_36 rfl 3 rfl ?_
        refine g_getR (pc := 37) (a := (dA (hA b) a1.toNatClampNeg)) (b := (dA (hA b) a1.toNatClampNeg + 2)) dX10_call_37 rfl fX10_118 (sh_d b (lt5 qd1.1 qd1.2.2)) (rd_4 hR b (lt5 qd1.1 qd1.2.2)) ?_
        refine g_astore (pc := 40) (lv2 := [(0, .ref 0), (1, .int a1), (2, .int a2), (3, .ref (dA (hA b) a1.toNatClampNeg)), (4, .ref (dA (hA b) a1.toNatClampNeg + 2))]) dX10_call_40 (Nat.le_of_ble_eq_true rfl) rfl ?_
        refine g_iload_n (pc := 42) dX10_call_42 rfl 2 rfl ?_
        refine g_aload (pc := 43) dX10_call_43 4 rfl ?_
        refine g_getI (pc := 45) (a := (dA (hA b) a1.toNatClampNeg + 2)) dX10_call_45 rfl fX10_123 (sh_dn b (lt5 qd1.1 qd1.2.2)) ?_
        refine g_aload (pc := 48) dX10_call_48 4 rfl ?_
        refine g_getI (pc := 50) (a := (dA (hA b) a1.toNatClampNeg + 2)) dX10_call_50 rfl fX10_126 (sh_dn b (lt5 qd1.1 qd1.2.2)) ?_
        refine g_callS (pc := 53) (M' := mX7_overBy) (n := 3) (as := [.int a2, .int (wi w (dA (hA b) a1.toNatClampNeg + 2) 0), .int (wi w (dA (hA b) a1.toNatClampNeg + 2) 1)]) (st := []) dX10_call_53 rfl kX10_315 sX7_overBy (Nat.le_of_ble_eq_true rfl) rfl rfl (Nat.le_of_ble_eq_true rfl) ?_
        refine zX7_overBy (a1 := a2) (a2 := (wi w (dA (hA b) a1.toNatClampNeg + 2) 0)) (a3 := (wi w (dA (hA b) a1.toNatClampNeg + 2) 1)) (w := w) (b := b) (hR := hR) ?_
        show Go SC mX10_call 56 [(0, .ref 0), (1, .int a1), (2, .int a2), (3, .ref (dA (hA b) a1.toNatClampNeg)), (4, .ref (dA (hA b) a1.toNatClampNeg + 2))] [.int (vXX7_overBy a2 (wi w (dA (hA b) a1.toNatClampNeg + 2) 0) (wi w (dA (hA b) a1.toNatClampNeg + 2) 1))] w Q
        refine g_istore (pc := 56) (lv2 := [(0, .ref 0), (1, .int a1), (2, .int a2), (3, .ref (dA (hA b) a1.toNatClampNeg)), (4, .ref (dA (hA b) a1.toNatClampNeg + 2)), (5, .int (vXX7_overBy a2 (wi w (dA (hA b) a1.toNatClampNeg + 2) 0) (wi w (dA (hA b) a1.toNatClampNeg + 2) 1)))]) dX10_call_56 (Nat.le_of_ble_eq_true rfl) rfl ?_
        refine g_iload_n (pc := 58) dX10_call_58 rfl 2 rfl ?_
        refine g_aload (pc := 59) dX10_call_59 4 rfl ?_
        refine g_getI (pc := 61) (a := (dA (hA b) a1.toNatClampNeg + 2)) dX10_call_61 rfl fX10_123 (sh_dn b (lt5 qd1.1 qd1.2.2)) ?_
        refine g_aload (pc := 64) dX10_call_64 4 rfl ?_
        refine g_getI (pc := 66) (a := (dA (hA b) a1.toNatClampNeg + 2)) dX10_call_66 rfl fX10_126 (sh_dn b (lt5 qd1.1 qd1.2.2)) ?_
        refine g_callS (pc := 69) (M' := mX7_underBy) (n := 3) (as := [.int a2, .int (wi w (dA (hA b) a1.toNatClampNeg + 2) 0), .int (wi w (dA (hA b) a1.toNatClampNeg + 2) 1)]) (st := []) dX10_call_69 rfl kX10_318 sX7_underBy (Nat.le_of_ble_eq_true rfl) rfl rfl (Nat.le_of_ble_eq_true rfl) ?_
        refine zX7_underBy (a1 := a2) (a2 := (wi w (dA (hA b) a1.toNatClampNeg + 2) 0)) (a3 := (wi w (dA (hA b) a1.toNatClampNeg + 2) 1)) (w := w) (b := b) (hR := hR) ?_
        show Go SC mX10_call 72 [(0, .ref 0), (1, .int a1), (2, .int a2), (3, .ref (dA (hA b) a1.toNatClampNeg)), (4, .ref (dA (hA b) a1.toNatClampNeg + 2)), (5, .int (vXX7_overBy a2 (wi w (dA (hA b) a1.toNatClampNeg + 2) 0) (wi w (dA (hA b) a1.toNatClampNeg + 2) 1)))] [.int (vXX7_underBy a2 (wi w (dA (hA b) a1.toNatClampNeg + 2) 0) (wi w (dA (hA b) a1.toNatClampNeg + 2) 1))] w Q
        refine g_istore (pc := 72) (lv2 := [(0, .ref 0), (1, .int a1), (2, .int a2), (3, .ref (dA (hA b) a1.toNatClampNeg)), (4, .ref (dA (hA b) a1.toNatClampNeg + 2)), (5, .int (vXX7_overBy a2 (wi w (dA (hA b) a1.toNatClampNeg + 2) 0) (wi w (dA (hA b) a1.toNatClampNeg + 2) 1))), (6, .int (vXX7_underBy a2 (wi w (dA (hA b) a1.toNatClampNeg + 2) 0) (wi w (dA (hA b) a1.toNatClampNeg + 2) 1)))]) dX10_call_72 (Nat.le_of_ble_eq_true rfl) rfl ?_
        refine g_iload (pc := 74) dX10_call_74 5 rfl ?_
        refine g_iload (pc := 76) dX10_call_76 6 rfl ?_
        refine g_callS (pc := 78) (M' := mX7_isTooGreat) (n := 2) (as := [.int (vXX7_overBy a2 (wi w (dA (hA b) a1.toNatClampNeg + 2) 0) (wi w (dA (hA b) a1.toNatClampNeg + 2) 1)), .int (vXX7_underBy a2 (wi w (dA (hA b) a1.toNatClampNeg + 2) 0) (wi w (dA (hA b) a1.toNatClampNeg + 2) 1))]) (st := []) dX10_call_78 rfl kX10_321 sX7_isTooGreat (Nat.le_of_ble_eq_true rfl) rfl rfl (Nat.le_of_ble_eq_true rfl) ?_
        refine zX7_isTooGreat (a1 := (vXX7_overBy a2 (wi w (dA (hA b) a1.toNatClampNeg + 2) 0) (wi w (dA (hA b) a1.toNatClampNeg + 2) 1))) (a2 := (vXX7_underBy a2 (wi w (dA (hA b) a1.toNatClampNeg + 2) 0) (wi w (dA (hA b) a1.toNatClampNeg + 2) 1))) (w := w) (b := b) (hR := hR) ?_
        show Go SC mX10_call 81 [(0, .ref 0), (1, .int a1), (2, .int a2), (3, .ref (dA (hA b) a1.toNatClampNeg)), (4, .ref (dA (hA b) a1.toNatClampNeg + 2)), (5, .int (vXX7_overBy a2 (wi w (dA (hA b) a1.toNatClampNeg + 2) 0) (wi w (dA (hA b) a1.toNatClampNeg + 2) 1))), (6, .int (vXX7_underBy a2 (wi w (dA (hA b) a1.toNatClampNeg + 2) 0) (wi w (dA (hA b) a1.toNatClampNeg + 2) 1)))] [.int (vXX7_isTooGreat (vXX7_overBy a2 (wi w (dA (hA b) a1.toNatClampNeg + 2) 0) (wi w (dA (hA b) a1.toNatClampNeg + 2) 1)) (vXX7_underBy a2 (wi w (dA (hA b) a1.toNatClampNeg + 2) 0) (wi w (dA (hA b) a1.toNatClampNeg + 2) 1)))] w Q
        refine g_if_eq (pc := 81) (tgt := 91) dX10_call_81 (by decide) (fun q => ?_) (fun q => ?_)
        · have h := h.1 q
          refine g_aload_n (pc := 91) dX10_call_91 rfl 0 rfl ?_
          refine g_iload_n (pc := 92) dX10_call_92 rfl 1 rfl ?_
          refine g_aload (pc := 93) dX10_call_93 4 rfl ?_
          refine g_iload (pc := 95) dX10_call_95 5 rfl ?_
          refine g_iload (pc := 97) dX10_call_97 6 rfl ?_
          refine g_callV (pc := 99) (M' := mX10_become) (n := 4) (a := 0) (as := [.int a1, .ref (dA (hA b) a1.toNatClampNeg + 2), .int (vXX7_overBy a2 (wi w (dA (hA b) a1.toNatClampNeg + 2) 0) (wi w (dA (hA b) a1.toNatClampNeg + 2) 1)), .int (vXX7_underBy a2 (wi w (dA (hA b) a1.toNatClampNeg + 2) 0) (wi w (dA (hA b) a1.toNatClampNeg + 2) 1))]) (st := []) dX10_call_99 rfl kX10_324 vX10_become (Nat.le_of_ble_eq_true rfl) rfl qX10 rfl rfl (Nat.le_of_ble_eq_true rfl) ?_
          refine cl_mono (fun r w2 hr => ?_) h
          obtain ⟨rfl, hw2, h⟩ := hr
          show Go SC mX10_call 102 [(0, .ref 0), (1, .int a1), (2, .int a2), (3, .ref (dA (hA b) a1.toNatClampNeg)), (4, .ref (dA (hA b) a1.toNatClampNeg + 2)), (5, .int (vXX7_overBy a2 (wi w (dA (hA b) a1.toNatClampNeg + 2) 0) (wi w (dA (hA b) a1.toNatClampNeg + 2) 1))), (6, .int (vXX7_underBy a2 (wi w (dA (hA b) a1.toNatClampNeg + 2) 0) (wi w (dA (hA b) a1.toNatClampNeg + 2) 1)))] [] w2 Q
          refine g_aload_n (pc := 102) dX10_call_102 rfl 0 rfl ?_
          refine g_aload (pc := 103) dX10_call_103 4 rfl ?_
          refine g_callV (pc := 105) (M' := mX7_crossed) (n := 0) (a := (dA (hA b) a1.toNatClampNeg + 2)) (as := []) (st := [.ref 0]) dX10_call_105 rfl kX10_143 vX7_crossed (Nat.le_of_ble_eq_true rfl) (sh_dn b (lt5 qd1.1 qd1.2.2)) qX7 rfl rfl (Nat.le_of_ble_eq_true rfl) ?_
          refine cl_mono (fun r w3 hr => ?_) h
          obtain ⟨x4, rfl, hw3, h⟩ := hr
          show Go SC mX10_call 108 [(0, .ref 0), (1, .int a1), (2, .int a2), (3, .ref (dA (hA b) a1.toNatClampNeg)), (4, .ref (dA (hA b) a1.toNatClampNeg + 2)), (5, .int (vXX7_overBy a2 (wi w (dA (hA b) a1.toNatClampNeg + 2) 0) (wi w (dA (hA b) a1.toNatClampNeg + 2) 1))), (6, .int (vXX7_underBy a2 (wi w (dA (hA b) a1.toNatClampNeg + 2) 0) (wi w (dA (hA b) a1.toNatClampNeg + 2) 1)))] [.int x4, .ref 0] w3 Q
          refine g_callV (pc := 108) (M' := mX10_accept) (n := 1) (a := 0) (as := [.int x4]) (st := []) dX10_call_108 rfl kX10_100 vX10_accept (Nat.le_of_ble_eq_true rfl) rfl qX10 rfl rfl (Nat.le_of_ble_eq_true rfl) ?_
          refine zX10_accept (a1 := x4) (w := w3) (b := b) (hR := hw3) ?_
          show Go SC mX10_call 111 [(0, .ref 0), (1, .int a1), (2, .int a2), (3, .ref (dA (hA b) a1.toNatClampNeg)), (4, .ref (dA (hA b) a1.toNatClampNeg + 2)), (5, .int (vXX7_overBy a2 (wi w (dA (hA b) a1.toNatClampNeg + 2) 0) (wi w (dA (hA b) a1.toNatClampNeg + 2) 1))), (6, .int (vXX7_underBy a2 (wi w (dA (hA b) a1.toNatClampNeg + 2) 0) (wi w (dA (hA b) a1.toNatClampNeg + 2) 1)))] [.int (vXX10_accept x4)] (wXX10_accept x4 w3) Q
          exact g_iret (pc := 111) dX10_call_111 rfl h
        · have h := h.2 q
          refine g_aload_n (pc := 84) dX10_call_84 rfl 0 rfl ?_
          refine g_iconst (pc := 85) dX10_call_85 c_3 ?_
          refine g_iconst (pc := 86) dX10_call_86 cN_1 ?_
          refine g_callV (pc := 87) (M' := mX10_refuse) (n := 2) (a := 0) (as := [.int 3, .int (-1)]) (st := []) dX10_call_87 rfl kX10_83 vX10_refuse (Nat.le_of_ble_eq_true rfl) rfl qX10 rfl rfl (Nat.le_of_ble_eq_true rfl) ?_
          refine zX10_refuse (a1 := 3) (a2 := (-1)) (w := w) (b := b) (hR := hR) ?_
          show Go SC mX10_call 90 [(0, .ref 0), (1, .int a1), (2, .int a2), (3, .ref (dA (hA b) a1.toNatClampNeg)), (4, .ref (dA (hA b) a1.toNatClampNeg + 2)), (5, .int (vXX7_overBy a2 (wi w (dA (hA b) a1.toNatClampNeg + 2) 0) (wi w (dA (hA b) a1.toNatClampNeg + 2) 1))), (6, .int (vXX7_underBy a2 (wi w (dA (hA b) a1.toNatClampNeg + 2) 0) (wi w (dA (hA b) a1.toNatClampNeg + 2) 1)))] [.int (vXX10_refuse 3 (-1))] (wXX10_refuse 3 (-1) w) Q
          exact g_iret (pc := 90) dX10_call_90 rfl h
      · have h := h.2 q
        refine g_aload_n (pc := 29) dX10_call_29 rfl 0 rfl ?_
        refine g_iconst (pc := 30) dX10_call_30 c_2 ?_
        refine g_iconst (pc := 31) dX10_call_31 cN_1 ?_
        refine g_callV (pc := 32) (M' := mX10_refuse) (n := 2) (a := 0) (as := [.int 2, .int (-1)]) (st := []) dX10_call_32 rfl kX10_83 vX10_refuse (Nat.le_of_ble_eq_true rfl) rfl qX10 rfl rfl (Nat.le_of_ble_eq_true rfl) ?_
        refine zX10_refuse (a1 := 2) (a2 := (-1)) (w := w) (b := b) (hR := hR) ?_
        show Go SC mX10_call 35 [(0, .ref 0), (1, .int a1), (2, .int a2), (3, .ref (dA (hA b) a1.toNatClampNeg))] [.int (vXX10_refuse 2 (-1))] (wXX10_refuse 2 (-1) w) Q
        exact g_iret (pc := 35) dX10_call_35 rfl h
  · have h := h.2 qd1
    show Go SC mX10_call 8 [(0, .ref 0), (1, .int a1), (2, .int a2)] [.null] w Q
    refine g_astore_nN (pc := 8) (lv2 := [(0, .ref 0), (1, .int a1), (2, .int a2), (3, .null)]) dX10_call_8 rfl (Nat.le_of_ble_eq_true rfl) rfl ?_
    refine g_aload_nN (pc := 9) dX10_call_9 rfl 3 rfl ?_
    refine g_ifnonnullN (pc := 10) dX10_call_10 ?_
    refine g_aload_n (pc := 13) dX10_call_13 rfl 0 rfl ?_
    refine g_iconst (pc := 14) dX10_call_14 c_1 ?_
    refine g_iconst (pc := 15) dX10_call_15 cN_1 ?_
    refine g_callV (pc := 16) (M' := mX10_refuse) (n := 2) (a := 0) (as := [.int 1, .int (-1)]) (st := []) dX10_call_16 rfl kX10_83 vX10_refuse (Nat.le_of_ble_eq_true rfl) rfl qX10 rfl rfl (Nat.le_of_ble_eq_true rfl) ?_
    refine zX10_refuse (a1 := 1) (a2 := (-1)) (w := w) (b := b) (hR := hR) ?_
    show Go SC mX10_call 19 [(0, .ref 0), (1, .int a1), (2, .int a2), (3, .null)] [.int (vXX10_refuse 1 (-1))] (wXX10_refuse 1 (-1) w) Q
    exact g_iret (pc := 19) dX10_call_19 rfl h
set_option maxHeartbeats 4000000 in
set_option maxRecDepth 100000 in
theorem TX10_flip (a1 : Int32) (w : Wd) (b : Bool) (hR : w.2.2 = RTab b) (Q : Option Value → Wd → Prop) (h : ((0 ≤ a1 ∧ a1 < wi w (hA b) 2 ∧ a1 < 5 → (((wi w (dA (hA b) a1.toNatClampNeg + 2) 0) = 0 → Q (some (.int (vXX10_deny 5))) (wXX10_deny 5 w)) ∧ (¬ ((wi w (dA (hA b) a1.toNatClampNeg + 2) 0) = 0) → (((wi w (dA (hA b) a1.toNatClampNeg + 2) 1) = 0 → Q (some (.int (vXX10_deny 5))) (wXX10_deny 5 w)) ∧ (¬ ((wi w (dA (hA b) a1.toNatClampNeg + 2) 1) = 0) → ClV SC mX10_become [.ref 0, .int a1, .ref (dA (hA b) a1.toNatClampNeg + 2), .int (-(wi w (dA (hA b) a1.toNatClampNeg + 2) 0)), .int (wi w (dA (hA b) a1.toNatClampNeg + 2) 1)] w (fun w2 => w2.2.2 = RTab b ∧ Q (some (.int vXX10_grant)) (wXX10_grant w2))))))) ∧ (¬ (0 ≤ a1 ∧ a1 < wi w (hA b) 2 ∧ a1 < 5) → Q (some (.int (vXX10_deny 1))) (wXX10_deny 1 w)))) : Cl SC mX10_flip [.ref 0, .int a1] w Q := by
  refine cl_of (by decide) (Nat.le_of_ble_eq_true rfl) ?_
  show Go SC mX10_flip 0 [(0, .ref 0), (1, .int a1)] [] w Q
  refine g_aload_n (pc := 0) dX10_flip_0 rfl 0 rfl ?_
  refine g_getR (pc := 1) (a := 0) (b := (hA b)) dX10_flip_1 rfl fX10_19 rfl (rc_0_1 hR) ?_
  refine g_iload_n (pc := 4) dX10_flip_4 rfl 1 rfl ?_
  refine g_callV (pc := 5) (M' := mX2_danceAt) (n := 1) (a := (hA b)) (as := [.int a1]) (st := []) dX10_flip_5 rfl kX10_113 vX2_danceAt (Nat.le_of_ble_eq_true rfl) (sh_h b) qX2 rfl rfl (Nat.le_of_ble_eq_true rfl) ?_
  refine h_danceAt (c := b) (d := a1) (w := w) (hR := hR) (fun qd1 => ?_) (fun qd1 => ?_)
  · have h := h.1 qd1
    show Go SC mX10_flip 8 [(0, .ref 0), (1, .int a1)] [.ref (dA (hA b) a1.toNatClampNeg)] w Q
    refine g_astore_n (pc := 8) (lv2 := [(0, .ref 0), (1, .int a1), (2, .ref (dA (hA b) a1.toNatClampNeg))]) dX10_flip_8 rfl (Nat.le_of_ble_eq_true rfl) rfl ?_
    refine g_aload_n (pc := 9) dX10_flip_9 rfl 2 rfl ?_
    refine g_ifnonnullR (pc := 10) (tgt := 19) dX10_flip_10 (by decide) ?_
    refine g_aload_n (pc := 19) dX10_flip_19 rfl 2 rfl ?_
    refine g_getR (pc := 20) (a := (dA (hA b) a1.toNatClampNeg)) (b := (dA (hA b) a1.toNatClampNeg + 2)) dX10_flip_20 rfl fX10_118 (sh_d b (lt5 qd1.1 qd1.2.2)) (rd_4 hR b (lt5 qd1.1 qd1.2.2)) ?_
    refine g_astore_n (pc := 23) (lv2 := [(0, .ref 0), (1, .int a1), (2, .ref (dA (hA b) a1.toNatClampNeg)), (3, .ref (dA (hA b) a1.toNatClampNeg + 2))]) dX10_flip_23 rfl (Nat.le_of_ble_eq_true rfl) rfl ?_
    refine g_aload_n (pc := 24) dX10_flip_24 rfl 3 rfl ?_
    refine g_getI (pc := 25) (a := (dA (hA b) a1.toNatClampNeg + 2)) dX10_flip_25 rfl fX10_123 (sh_dn b (lt5 qd1.1 qd1.2.2)) ?_
    refine g_if_eq (pc := 28) (tgt := 38) dX10_flip_28 (by decide) (fun q => ?_) (fun q => ?_)
    · have h := h.1 q
      refine g_aload_n (pc := 38) dX10_flip_38 rfl 0 rfl ?_
      refine g_iconst (pc := 39) dX10_flip_39 c_5 ?_
      refine g_callV (pc := 40) (M' := mX10_deny) (n := 1) (a := 0) (as := [.int 5]) (st := []) dX10_flip_40 rfl kX10_328 vX10_deny (Nat.le_of_ble_eq_true rfl) rfl qX10 rfl rfl (Nat.le_of_ble_eq_true rfl) ?_
      refine zX10_deny (a1 := 5) (w := w) (b := b) (hR := hR) ?_
      show Go SC mX10_flip 43 [(0, .ref 0), (1, .int a1), (2, .ref (dA (hA b) a1.toNatClampNeg)), (3, .ref (dA (hA b) a1.toNatClampNeg + 2))] [.int (vXX10_deny 5)] (wXX10_deny 5 w) Q
      exact g_bret (pc := 43) dX10_flip_43 rfl (zzX10_deny 5) h
    · have h := h.2 q
      refine g_aload_n (pc := 31) dX10_flip_31 rfl 3 rfl ?_
      refine g_getI (pc := 32) (a := (dA (hA b) a1.toNatClampNeg + 2)) dX10_flip_32 rfl fX10_126 (sh_dn b (lt5 qd1.1 qd1.2.2)) ?_
      refine g_if_ne (pc := 35) (tgt := 44) dX10_flip_35 (by decide) (fun q => ?_) (fun q => ?_)
      · have h := h.2 q
        refine g_aload_n (pc := 44) dX10_flip_44 rfl 0 rfl ?_
        refine g_iload_n (pc := 45) dX10_flip_45 rfl 1 rfl ?_
        refine g_aload_n (pc := 46) dX10_flip_46 rfl 3 rfl ?_
        refine g_aload_n (pc := 47) dX10_flip_47 rfl 3 rfl ?_
        refine g_getI (pc := 48) (a := (dA (hA b) a1.toNatClampNeg + 2)) dX10_flip_48 rfl fX10_123 (sh_dn b (lt5 qd1.1 qd1.2.2)) ?_
        refine g_ineg (pc := 51) dX10_flip_51 ?_
        refine g_aload_n (pc := 52) dX10_flip_52 rfl 3 rfl ?_
        refine g_getI (pc := 53) (a := (dA (hA b) a1.toNatClampNeg + 2)) dX10_flip_53 rfl fX10_126 (sh_dn b (lt5 qd1.1 qd1.2.2)) ?_
        refine g_callV (pc := 56) (M' := mX10_become) (n := 4) (a := 0) (as := [.int a1, .ref (dA (hA b) a1.toNatClampNeg + 2), .int (-(wi w (dA (hA b) a1.toNatClampNeg + 2) 0)), .int (wi w (dA (hA b) a1.toNatClampNeg + 2) 1)]) (st := []) dX10_flip_56 rfl kX10_324 vX10_become (Nat.le_of_ble_eq_true rfl) rfl qX10 rfl rfl (Nat.le_of_ble_eq_true rfl) ?_
        refine cl_mono (fun r w2 hr => ?_) h
        obtain ⟨rfl, hw2, h⟩ := hr
        show Go SC mX10_flip 59 [(0, .ref 0), (1, .int a1), (2, .ref (dA (hA b) a1.toNatClampNeg)), (3, .ref (dA (hA b) a1.toNatClampNeg + 2))] [] w2 Q
        refine g_aload_n (pc := 59) dX10_flip_59 rfl 0 rfl ?_
        refine g_callV (pc := 60) (M' := mX10_grant) (n := 0) (a := 0) (as := []) (st := []) dX10_flip_60 rfl kX10_331 vX10_grant (Nat.le_of_ble_eq_true rfl) rfl qX10 rfl rfl (Nat.le_of_ble_eq_true rfl) ?_
        refine zX10_grant (w := w2) (b := b) (hR := hw2) ?_
        show Go SC mX10_flip 63 [(0, .ref 0), (1, .int a1), (2, .ref (dA (hA b) a1.toNatClampNeg)), (3, .ref (dA (hA b) a1.toNatClampNeg + 2))] [.int vXX10_grant] (wXX10_grant w2) Q
        exact g_bret (pc := 63) dX10_flip_63 rfl (zzX10_grant) h
      · have h := h.1 q
        refine g_aload_n (pc := 38) dX10_flip_38 rfl 0 rfl ?_
        refine g_iconst (pc := 39) dX10_flip_39 c_5 ?_
        refine g_callV (pc := 40) (M' := mX10_deny) (n := 1) (a := 0) (as := [.int 5]) (st := []) dX10_flip_40 rfl kX10_328 vX10_deny (Nat.le_of_ble_eq_true rfl) rfl qX10 rfl rfl (Nat.le_of_ble_eq_true rfl) ?_
        refine zX10_deny (a1 := 5) (w := w) (b := b) (hR := hR) ?_
        show Go SC mX10_flip 43 [(0, .ref 0), (1, .int a1), (2, .ref (dA (hA b) a1.toNatClampNeg)), (3, .ref (dA (hA b) a1.toNatClampNeg + 2))] [.int (vXX10_deny 5)] (wXX10_deny 5 w) Q
        exact g_bret (pc := 43) dX10_flip_43 rfl (zzX10_deny 5) h
  · have h := h.2 qd1
    show Go SC mX10_flip 8 [(0, .ref 0), (1, .int a1)] [.null] w Q
    refine g_astore_nN (pc := 8) (lv2 := [(0, .ref 0), (1, .int a1), (2, .null)]) dX10_flip_8 rfl (Nat.le_of_ble_eq_true rfl) rfl ?_
    refine g_aload_nN (pc := 9) dX10_flip_9 rfl 2 rfl ?_
    refine g_ifnonnullN (pc := 10) dX10_flip_10 ?_
    refine g_aload_n (pc := 13) dX10_flip_13 rfl 0 rfl ?_
    refine g_iconst (pc := 14) dX10_flip_14 c_1 ?_
    refine g_callV (pc := 15) (M' := mX10_deny) (n := 1) (a := 0) (as := [.int 1]) (st := []) dX10_flip_15 rfl kX10_328 vX10_deny (Nat.le_of_ble_eq_true rfl) rfl qX10 rfl rfl (Nat.le_of_ble_eq_true rfl) ?_
    refine zX10_deny (a1 := 1) (w := w) (b := b) (hR := hR) ?_
    show Go SC mX10_flip 18 [(0, .ref 0), (1, .int a1), (2, .null)] [.int (vXX10_deny 1)] (wXX10_deny 1 w) Q
    exact g_bret (pc := 18) dX10_flip_18 rfl (zzX10_deny 1) h
set_option maxHeartbeats 4000000 in
set_option maxRecDepth 100000 in
theorem TX10_reset (a1 : Int32) (w : Wd) (b : Bool) (hR : w.2.2 = RTab b) (Q : Option Value → Wd → Prop) (h : ((0 ≤ a1 ∧ a1 < wi w (hA b) 2 ∧ a1 < 5 → (((vXX7_isUntied (dA (hA b) a1.toNatClampNeg + 2) w) = 0 → ClV SC mX10_become [.ref 0, .int a1, .ref (dA (hA b) a1.toNatClampNeg + 2), .int 0, .int 1] w (fun w2 => w2.2.2 = RTab b ∧ Q (some (.int vXX10_grant)) (wXX10_grant w2))) ∧ (¬ ((vXX7_isUntied (dA (hA b) a1.toNatClampNeg + 2) w) = 0) → Q (some (.int (vXX10_deny 5))) (wXX10_deny 5 w)))) ∧ (¬ (0 ≤ a1 ∧ a1 < wi w (hA b) 2 ∧ a1 < 5) → Q (some (.int (vXX10_deny 1))) (wXX10_deny 1 w)))) : Cl SC mX10_reset [.ref 0, .int a1] w Q := by
  refine cl_of (by decide) (Nat.le_of_ble_eq_true rfl) ?_
  show Go SC mX10_reset 0 [(0, .ref 0), (1, .int a1)] [] w Q
  refine g_aload_n (pc := 0) dX10_reset_0 rfl 0 rfl ?_
  refine g_getR (pc := 1) (a := 0) (b := (hA b)) dX10_reset_1 rfl fX10_19 rfl (rc_0_1 hR) ?_
  refine g_iload_n (pc := 4) dX10_reset_4 rfl 1 rfl ?_
  refine g_callV (pc := 5) (M' := mX2_danceAt) (n := 1) (a := (hA b)) (as := [.int a1]) (st := []) dX10_reset_5 rfl kX10_113 vX2_danceAt (Nat.le_of_ble_eq_true rfl) (sh_h b) qX2 rfl rfl (Nat.le_of_ble_eq_true rfl) ?_
  refine h_danceAt (c := b) (d := a1) (w := w) (hR := hR) (fun qd1 => ?_) (fun qd1 => ?_)
  · have h := h.1 qd1
    show Go SC mX10_reset 8 [(0, .ref 0), (1, .int a1)] [.ref (dA (hA b) a1.toNatClampNeg)] w Q
    refine g_astore_n (pc := 8) (lv2 := [(0, .ref 0), (1, .int a1), (2, .ref (dA (hA b) a1.toNatClampNeg))]) dX10_reset_8 rfl (Nat.le_of_ble_eq_true rfl) rfl ?_
    refine g_aload_n (pc := 9) dX10_reset_9 rfl 2 rfl ?_
    refine g_ifnonnullR (pc := 10) (tgt := 19) dX10_reset_10 (by decide) ?_
    refine g_aload_n (pc := 19) dX10_reset_19 rfl 2 rfl ?_
    refine g_getR (pc := 20) (a := (dA (hA b) a1.toNatClampNeg)) (b := (dA (hA b) a1.toNatClampNeg + 2)) dX10_reset_20 rfl fX10_118 (sh_d b (lt5 qd1.1 qd1.2.2)) (rd_4 hR b (lt5 qd1.1 qd1.2.2)) ?_
    refine g_callV (pc := 23) (M' := mX7_isUntied) (n := 0) (a := (dA (hA b) a1.toNatClampNeg + 2)) (as := []) (st := []) dX10_reset_23 rfl kX10_171 vX7_isUntied (Nat.le_of_ble_eq_true rfl) (sh_dn b (lt5 qd1.1 qd1.2.2)) qX7 rfl rfl (Nat.le_of_ble_eq_true rfl) ?_
    refine zX7_isUntied (t := (dA (hA b) a1.toNatClampNeg + 2)) (w := w) (b := b) (hR := hR) (ht := (sh_dn b (lt5 qd1.1 qd1.2.2))) ?_
    show Go SC mX10_reset 26 [(0, .ref 0), (1, .int a1), (2, .ref (dA (hA b) a1.toNatClampNeg))] [.int (vXX7_isUntied (dA (hA b) a1.toNatClampNeg + 2) w)] w Q
    refine g_if_eq (pc := 26) (tgt := 35) dX10_reset_26 (by decide) (fun q => ?_) (fun q => ?_)
    · have h := h.1 q
      refine g_aload_n (pc := 35) dX10_reset_35 rfl 0 rfl ?_
      refine g_iload_n (pc := 36) dX10_reset_36 rfl 1 rfl ?_
      refine g_aload_n (pc := 37) dX10_reset_37 rfl 2 rfl ?_
      refine g_getR (pc := 38) (a := (dA (hA b) a1.toNatClampNeg)) (b := (dA (hA b) a1.toNatClampNeg + 2)) dX10_reset_38 rfl fX10_118 (sh_d b (lt5 qd1.1 qd1.2.2)) (rd_4 hR b (lt5 qd1.1 qd1.2.2)) ?_
      refine g_iconst (pc := 41) dX10_reset_41 c_0 ?_
      refine g_iconst (pc := 42) dX10_reset_42 c_1 ?_
      refine g_callV (pc := 43) (M' := mX10_become) (n := 4) (a := 0) (as := [.int a1, .ref (dA (hA b) a1.toNatClampNeg + 2), .int 0, .int 1]) (st := []) dX10_reset_43 rfl kX10_324 vX10_become (Nat.le_of_ble_eq_true rfl) rfl qX10 rfl rfl (Nat.le_of_ble_eq_true rfl) ?_
      refine cl_mono (fun r w2 hr => ?_) h
      obtain ⟨rfl, hw2, h⟩ := hr
      show Go SC mX10_reset 46 [(0, .ref 0), (1, .int a1), (2, .ref (dA (hA b) a1.toNatClampNeg))] [] w2 Q
      refine g_aload_n (pc := 46) dX10_reset_46 rfl 0 rfl ?_
      refine g_callV (pc := 47) (M' := mX10_grant) (n := 0) (a := 0) (as := []) (st := []) dX10_reset_47 rfl kX10_331 vX10_grant (Nat.le_of_ble_eq_true rfl) rfl qX10 rfl rfl (Nat.le_of_ble_eq_true rfl) ?_
      refine zX10_grant (w := w2) (b := b) (hR := hw2) ?_
      show Go SC mX10_reset 50 [(0, .ref 0), (1, .int a1), (2, .ref (dA (hA b) a1.toNatClampNeg))] [.int vXX10_grant] (wXX10_grant w2) Q
      exact g_bret (pc := 50) dX10_reset_50 rfl (zzX10_grant) h
    · have h := h.2 q
      refine g_aload_n (pc := 29) dX10_reset_29 rfl 0 rfl ?_
      refine g_iconst (pc := 30) dX10_reset_30 c_5 ?_
      refine g_callV (pc := 31) (M' := mX10_deny) (n := 1) (a := 0) (as := [.int 5]) (st := []) dX10_reset_31 rfl kX10_328 vX10_deny (Nat.le_of_ble_eq_true rfl) rfl qX10 rfl rfl (Nat.le_of_ble_eq_true rfl) ?_
      refine zX10_deny (a1 := 5) (w := w) (b := b) (hR := hR) ?_
      show Go SC mX10_reset 34 [(0, .ref 0), (1, .int a1), (2, .ref (dA (hA b) a1.toNatClampNeg))] [.int (vXX10_deny 5)] (wXX10_deny 5 w) Q
      exact g_bret (pc := 34) dX10_reset_34 rfl (zzX10_deny 5) h
  · have h := h.2 qd1
    show Go SC mX10_reset 8 [(0, .ref 0), (1, .int a1)] [.null] w Q
    refine g_astore_nN (pc := 8) (lv2 := [(0, .ref 0), (1, .int a1), (2, .null)]) dX10_reset_8 rfl (Nat.le_of_ble_eq_true rfl) rfl ?_
    refine g_aload_nN (pc := 9) dX10_reset_9 rfl 2 rfl ?_
    refine g_ifnonnullN (pc := 10) dX10_reset_10 ?_
    refine g_aload_n (pc := 13) dX10_reset_13 rfl 0 rfl ?_
    refine g_iconst (pc := 14) dX10_reset_14 c_1 ?_
    refine g_callV (pc := 15) (M' := mX10_deny) (n := 1) (a := 0) (as := [.int 1]) (st := []) dX10_reset_15 rfl kX10_328 vX10_deny (Nat.le_of_ble_eq_true rfl) rfl qX10 rfl rfl (Nat.le_of_ble_eq_true rfl) ?_
    refine zX10_deny (a1 := 1) (w := w) (b := b) (hR := hR) ?_
    show Go SC mX10_reset 18 [(0, .ref 0), (1, .int a1), (2, .null)] [.int (vXX10_deny 1)] (wXX10_deny 1 w) Q
    exact g_bret (pc := 18) dX10_reset_18 rfl (zzX10_deny 1) h
set_option maxHeartbeats 4000000 in
set_option maxRecDepth 100000 in
theorem TX10_join (a1 : Int32) (a2 : Int32) (w : Wd) (b : Bool) (hR : w.2.2 = RTab b) (Q : Option Value → Wd → Prop) (h : ((0 ≤ a1 ∧ a1 < wi w (hA b) 2 ∧ a1 < 5 → ((0 ≤ a2 ∧ a2 < wi w (hA b) 2 ∧ a2 < 5 → ((a1 = a2 → Q (some (.int (vXX10_refuse 1 (-1)))) (wXX10_refuse 1 (-1) w)) ∧ (¬ (a1 = a2) → (((wi w (dA (hA b) a2.toNatClampNeg + 2) 1) = 1 → (((wi w (dA (hA b) a2.toNatClampNeg + 2) 0) = 0 → Q (some (.int (vXX10_refuse 5 (-1)))) (wXX10_refuse 5 (-1) w)) ∧ (¬ ((wi w (dA (hA b) a2.toNatClampNeg + 2) 0) = 0) → (((wi w (dA (hA b) a1.toNatClampNeg + 2) 1) = 0 → Q (some (.int (vXX10_refuse 5 (-1)))) (wXX10_refuse 5 (-1) w)) ∧ (¬ ((wi w (dA (hA b) a1.toNatClampNeg + 2) 1) = 0) → (((vXX7_isTooGreat ((wi w (dA (hA b) a1.toNatClampNeg + 2) 0) + ((wi w (dA (hA b) a2.toNatClampNeg + 2) 0) * (wi w (dA (hA b) a1.toNatClampNeg + 2) 1))) (wi w (dA (hA b) a1.toNatClampNeg + 2) 1)) = 0 → ClV SC mX10_become [.ref 0, .int a1, .ref (dA (hA b) a1.toNatClampNeg + 2), .int ((wi w (dA (hA b) a1.toNatClampNeg + 2) 0) + ((wi w (dA (hA b) a2.toNatClampNeg + 2) 0) * (wi w (dA (hA b) a1.toNatClampNeg + 2) 1))), .int (wi w (dA (hA b) a1.toNatClampNeg + 2) 1)] w (fun w3 => w3.2.2 = RTab b ∧ ClI SC mX7_crossed [.ref (dA (hA b) a1.toNatClampNeg + 2)] w3 (fun x5 w4 => w4.2.2 = RTab b ∧ Q (some (.int (vXX10_accept x5))) (wXX10_accept x5 w4)))) ∧ (¬ ((vXX7_isTooGreat ((wi w (dA (hA b) a1.toNatClampNeg + 2) 0) + ((wi w (dA (hA b) a2.toNatClampNeg + 2) 0) * (wi w (dA (hA b) a1.toNatClampNeg + 2) 1))) (wi w (dA (hA b) a1.toNatClampNeg + 2) 1)) = 0) → Q (some (.int (vXX10_refuse 3 (-1)))) (wXX10_refuse 3 (-1) w)))))))) ∧ (¬ ((wi w (dA (hA b) a2.toNatClampNeg + 2) 1) = 1) → Q (some (.int (vXX10_refuse 5 (-1)))) (wXX10_refuse 5 (-1) w)))))) ∧ (¬ (0 ≤ a2 ∧ a2 < wi w (hA b) 2 ∧ a2 < 5) → Q (some (.int (vXX10_refuse 1 (-1)))) (wXX10_refuse 1 (-1) w)))) ∧ (¬ (0 ≤ a1 ∧ a1 < wi w (hA b) 2 ∧ a1 < 5) → ((0 ≤ a2 ∧ a2 < wi w (hA b) 2 ∧ a2 < 5 → Q (some (.int (vXX10_refuse 1 (-1)))) (wXX10_refuse 1 (-1) w)) ∧ (¬ (0 ≤ a2 ∧ a2 < wi w (hA b) 2 ∧ a2 < 5) → Q (some (.int (vXX10_refuse 1 (-1)))) (wXX10_refuse 1 (-1) w)))))) : Cl SC mX10_join [.ref 0, .int a1, .int a2] w Q := by
  refine cl_of (by decide) (Nat.le_of_ble_eq_true rfl) ?_
  show Go SC mX10_join 0 [(0, .ref 0), (1, .int a1), (2, .int a2)] [] w Q
  refine g_aload_n (pc := 0) dX10_join_0 rfl 0 rfl ?_
  refine g_getR (pc := 1) (a := 0) (b := (hA b)) dX10_join_1 rfl fX10_19 rfl (rc_0_1 hR) ?_
  refine g_iload_n (pc := 4) dX10_join_4 rfl 1 rfl ?_
  refine g_callV (pc := 5) (M' := mX2_danceAt) (n := 1) (a := (hA b)) (as := [.int a1]) (st := []) dX10_join_5 rfl kX10_113 vX2_danceAt (Nat.le_of_ble_eq_true rfl) (sh_h b) qX2 rfl rfl (Nat.le_of_ble_eq_true rfl) ?_
  refine h_danceAt (c := b) (d := a1) (w := w) (hR := hR) (fun qd1 => ?_) (fun qd1 => ?_)
  · have h := h.1 qd1
    show Go SC mX10_join 8 [(0, .ref 0), (1, .int a1), (2, .int a2)] [.ref (dA (hA b) a1.toNatClampNeg)] w Q
    refine g_astore_n (pc := 8) (lv2 := [(0, .ref 0), (1, .int a1), (2, .int a2), (3, .ref (dA (hA b) a1.toNatClampNeg))]) dX10_join_8 rfl (Nat.le_of_ble_eq_true rfl) rfl ?_
    refine g_aload_n (pc := 9) dX10_join_9 rfl 0 rfl ?_
    refine g_getR (pc := 10) (a := 0) (b := (hA b)) dX10_join_10 rfl fX10_19 rfl (rc_0_1 hR) ?_
    refine g_iload_n (pc := 13) dX10_join_13 rfl 2 rfl ?_
    refine g_callV (pc := 14) (M' := mX2_danceAt) (n := 1) (a := (hA b)) (as := [.int a2]) (st := []) dX10_join_14 rfl kX10_113 vX2_danceAt (Nat.le_of_ble_eq_true rfl) (sh_h b) qX2 rfl rfl (Nat.le_of_ble_eq_true rfl) ?_
    refine h_danceAt (c := b) (d := a2) (w := w) (hR := hR) (fun qd2 => ?_) (fun qd2 => ?_)
    · have h := h.1 qd2
      show Go SC mX10_join 17 [(0, .ref 0), (1, .int a1), (2, .int a2), (3, .ref (dA (hA b) a1.toNatClampNeg))] [.ref (dA (hA b) a2.toNatClampNeg)] w Q
      refine g_astore (pc := 17) (lv2 := [(0, .ref 0), (1, .int a1), (2, .int a2), (3, .ref (dA (hA b) a1.toNatClampNeg)), (4, .ref (dA (hA b) a2.toNatClampNeg))]) dX10_join_17 (Nat.le_of_ble_eq_true rfl) rfl ?_
      refine g_aload_n (pc := 19) dX10_join_19 rfl 3 rfl ?_
      refine g_ifnullR (pc := 20) dX10_join_20 ?_
      refine g_aload (pc := 23) dX10_join_23 4 rfl ?_
      refine g_ifnullR (pc := 25) dX10_join_25 ?_
      refine g_iload_n (pc := 28) dX10_join_28 rfl 1 rfl ?_
      refine g_iload_n (pc := 29) dX10_join_29 rfl 2 rfl ?_
      refine g_icmp_ne (pc := 30) (tgt := 40) dX10_join_30 (by decide) (fun q => ?_) (fun q => ?_)
      · have h := h.2 q
        refine g_aload_n (pc := 40) dX10_join_40 rfl 3 rfl ?_
        refine g_getR (pc := 41) (a := (dA (hA b) a1.toNatClampNeg)) (b := (dA (hA b) a1.toNatClampNeg + 2)) dX10_join_41 rfl fX10_118 (sh_d b (lt5 qd1.1 qd1.2.2)) (rd_4 hR b (lt5 qd1.1 qd1.2.2)) ?_
        refine g_astore (pc := 44) (lv2 := [(0, .ref 0), (1, .int a1), (2, .int a2), (3, .ref (dA (hA b) a1.toNatClampNeg)), (4, .ref (dA (hA b) a2.toNatClampNeg)), (5, .ref (dA (hA b) a1.toNatClampNeg + 2))]) dX10_join_44 (Nat.le_of_ble_eq_true rfl) rfl ?_
        refine g_aload (pc := 46) dX10_join_46 4 rfl ?_
        refine g_getR (pc := 48) (a := (dA (hA b) a2.toNatClampNeg)) (b := (dA (hA b) a2.toNatClampNeg + 2)) dX10_join_48 rfl fX10_118 (sh_d b (lt5 qd2.1 qd2.2.2)) (rd_4 hR b (lt5 qd2.1 qd2.2.2)) ?_
        refine g_astore (pc := 51) (lv2 := [(0, .ref 0), (1, .int a1), (2, .int a2), (3, .ref (dA (hA b) a1.toNatClampNeg)), (4, .ref (dA (hA b) a2.toNatClampNeg)), (5, .ref (dA (hA b) a1.toNatClampNeg + 2)), (6, .ref (dA (hA b) a2.toNatClampNeg + 2))]) dX10_join_51 (Nat.le_of_ble_eq_true rfl) rfl ?_
        refine g_aload (pc := 53) dX10_join_53 6 rfl ?_
        refine g_getI (pc := 55) (a := (dA (hA b) a2.toNatClampNeg + 2)) dX10_join_55 rfl fX10_126 (sh_dn b (lt5 qd2.1 qd2.2.2)) ?_
        refine g_iconst (pc := 58) dX10_join_58 c_1 ?_
        refine g_icmp_ne (pc := 59) (tgt := 78) dX10_join_59 (by decide) (fun q => ?_) (fun q => ?_)
        · have h := h.2 q
          refine g_aload_n (pc := 78) dX10_join_78 rfl 0 rfl ?_
          refine g_iconst (pc := 79) dX10_join_79 c_5 ?_
          refine g_iconst (pc := 80) dX10_join_80 cN_1 ?_
          refine g_callV (pc := 81) (M' := mX10_refuse) (n := 2) (a := 0) (as := [.int 5, .int (-1)]) (st := []) dX10_join_81 rfl kX10_83 vX10_refuse (Nat.le_of_ble_eq_true rfl) rfl qX10 rfl rfl (Nat.le_of_ble_eq_true rfl) ?_
          refine zX10_refuse (a1 := 5) (a2 := (-1)) (w := w) (b := b) (hR := hR) ?_
          show Go SC mX10_join 84 [(0, .ref 0), (1, .int a1), (2, .int a2), (3, .ref (dA (hA b) a1.toNatClampNeg)), (4, .ref (dA (hA b) a2.toNatClampNeg)), (5, .ref (dA (hA b) a1.toNatClampNeg + 2)), (6, .ref (dA (hA b) a2.toNatClampNeg + 2))] [.int (vXX10_refuse 5 (-1))] (wXX10_refuse 5 (-1) w) Q
          exact g_iret (pc := 84) dX10_join_84 rfl h
        · have h := h.1 q
          refine g_aload (pc := 62) dX10_join_62 6 rfl ?_
          refine g_getI (pc := 64) (a := (dA (hA b) a2.toNatClampNeg + 2)) dX10_join_64 rfl fX10_123 (sh_dn b (lt5 qd2.1 qd2.2.2)) ?_
          refine g_if_eq (pc := 67) (tgt := 78) dX10_join_67 (by decide) (fun q => ?_) (fun q => ?_)
          · have h := h.1 q
            refine g_aload_n (pc := 78) dX10_join_78 rfl 0 rfl ?_
            refine g_iconst (pc := 79) dX10_join_79 c_5 ?_
            refine g_iconst (pc := 80) dX10_join_80 cN_1 ?_
            refine g_callV (pc := 81) (M' := mX10_refuse) (n := 2) (a := 0) (as := [.int 5, .int (-1)]) (st := []) dX10_join_81 rfl kX10_83 vX10_refuse (Nat.le_of_ble_eq_true rfl) rfl qX10 rfl rfl (Nat.le_of_ble_eq_true rfl) ?_
            refine zX10_refuse (a1 := 5) (a2 := (-1)) (w := w) (b := b) (hR := hR) ?_
            show Go SC mX10_join 84 [(0, .ref 0), (1, .int a1), (2, .int a2), (3, .ref (dA (hA b) a1.toNatClampNeg)), (4, .ref (dA (hA b) a2.toNatClampNeg)), (5, .ref (dA (hA b) a1.toNatClampNeg + 2)), (6, .ref (dA (hA b) a2.toNatClampNeg + 2))] [.int (vXX10_refuse 5 (-1))] (wXX10_refuse 5 (-1) w) Q
            exact g_iret (pc := 84) dX10_join_84 rfl h
          · have h := h.2 q
            refine g_aload (pc := 70) dX10_join_70 5 rfl ?_
            refine g_getI (pc := 72) (a := (dA (hA b) a1.toNatClampNeg + 2)) dX10_join_72 rfl fX10_126 (sh_dn b (lt5 qd1.1 qd1.2.2)) ?_
            refine g_if_ne (pc := 75) (tgt := 85) dX10_join_75 (by decide) (fun q => ?_) (fun q => ?_)
            · have h := h.2 q
              refine g_aload (pc := 85) dX10_join_85 5 rfl ?_
              refine g_getI (pc := 87) (a := (dA (hA b) a1.toNatClampNeg + 2)) dX10_join_87 rfl fX10_123 (sh_dn b (lt5 qd1.1 qd1.2.2)) ?_
              refine g_aload (pc := 90) dX10_join_90 6 rfl ?_
              refine g_getI (pc := 92) (a := (dA (hA b) a2.toNatClampNeg + 2)) dX10_join_92 rfl fX10_123 (sh_dn b (lt5 qd2.1 qd2.2.2)) ?_
              refine g_aload (pc := 95) dX10_join_95 5 rfl ?_
              refine g_getI (pc := 97) (a := (dA (hA b) a1.toNatClampNeg + 2)) dX10_join_97 rfl fX10_126 (sh_dn b (lt5 qd1.1 qd1.2.2)) ?_
              refine g_imul (pc := 100) dX10_join_100 ?_
              refine g_iadd (pc := 101) dX10_join_101 ?_
              refine g_istore (pc := 102) (lv2 := [(0, .ref 0), (1, .int a1), (2, .int a2), (3, .ref (dA (hA b) a1.toNatClampNeg)), (4, .ref (dA (hA b) a2.toNatClampNeg)), (5, .ref (dA (hA b) a1.toNatClampNeg + 2)), (6, .ref (dA (hA b) a2.toNatClampNeg + 2)), (7, .int ((wi w (dA (hA b) a1.toNatClampNeg + 2) 0) + ((wi w (dA (hA b) a2.toNatClampNeg + 2) 0) * (wi w (dA (hA b) a1.toNatClampNeg + 2) 1))))]) dX10_join_102 (Nat.le_of_ble_eq_true rfl) rfl ?_
              refine g_iload (pc := 104) dX10_join_104 7 rfl ?_
              refine g_aload (pc := 106) dX10_join_106 5 rfl ?_
              refine g_getI (pc := 108) (a := (dA (hA b) a1.toNatClampNeg + 2)) dX10_join_108 rfl fX10_126 (sh_dn b (lt5 qd1.1 qd1.2.2)) ?_
              refine g_callS (pc := 111) (M' := mX7_isTooGreat) (n := 2) (as := [.int ((wi w (dA (hA b) a1.toNatClampNeg + 2) 0) + ((wi w (dA (hA b) a2.toNatClampNeg + 2) 0) * (wi w (dA (hA b) a1.toNatClampNeg + 2) 1))), .int (wi w (dA (hA b) a1.toNatClampNeg + 2) 1)]) (st := []) dX10_join_111 rfl kX10_321 sX7_isTooGreat (Nat.le_of_ble_eq_true rfl) rfl rfl (Nat.le_of_ble_eq_true rfl) ?_
              refine zX7_isTooGreat (a1 := ((wi w (dA (hA b) a1.toNatClampNeg + 2) 0) + ((wi w (dA (hA b) a2.toNatClampNeg + 2) 0) * (wi w (dA (hA b) a1.toNatClampNeg + 2) 1)))) (a2 := (wi w (dA (hA b) a1.toNatClampNeg + 2) 1)) (w := w) (b := b) (hR := hR) ?_
              show Go SC mX10_join 114 [(0, .ref 0), (1, .int a1), (2, .int a2), (3, .ref (dA (hA b) a1.toNatClampNeg)), (4, .ref (dA (hA b) a2.toNatClampNeg)), (5, .ref (dA (hA b) a1.toNatClampNeg + 2)), (6, .ref (dA (hA b) a2.toNatClampNeg + 2)), (7, .int ((wi w (dA (hA b) a1.toNatClampNeg + 2) 0) + ((wi w (dA (hA b) a2.toNatClampNeg + 2) 0) * (wi w (dA (hA b) a1.toNatClampNeg + 2) 1))))] [.int (vXX7_isTooGreat ((wi w (dA (hA b) a1.toNatClampNeg + 2) 0) + ((wi w (dA (hA b) a2.toNatClampNeg + 2) 0) * (wi w (dA (hA b) a1.toNatClampNeg + 2) 1))) (wi w (dA (hA b) a1.toNatClampNeg + 2) 1))] w Q
              refine g_if_eq (pc := 114) (tgt := 124) dX10_join_114 (by decide) (fun q => ?_) (fun q => ?_)
              · have h := h.1 q
                refine g_aload_n (pc := 124) dX10_join_124 rfl 0 rfl ?_
                refine g_iload_n (pc := 125) dX10_join_125 rfl 1 rfl ?_
                refine g_aload (pc := 126) dX10_join_126 5 rfl ?_
                refine g_iload (pc := 128) dX10_join_128 7 rfl ?_
                refine g_aload (pc := 130) dX10_join_130 5 rfl ?_
                refine g_getI (pc := 132) (a := (dA (hA b) a1.toNatClampNeg + 2)) dX10_join_132 rfl fX10_126 (sh_dn b (lt5 qd1.1 qd1.2.2)) ?_
                refine g_callV (pc := 135) (M' := mX10_become) (n := 4) (a := 0) (as := [.int a1, .ref (dA (hA b) a1.toNatClampNeg + 2), .int ((wi w (dA (hA b) a1.toNatClampNeg + 2) 0) + ((wi w (dA (hA b) a2.toNatClampNeg + 2) 0) * (wi w (dA (hA b) a1.toNatClampNeg + 2) 1))), .int (wi w (dA (hA b) a1.toNatClampNeg + 2) 1)]) (st := []) dX10_join_135 rfl kX10_324 vX10_become (Nat.le_of_ble_eq_true rfl) rfl qX10 rfl rfl (Nat.le_of_ble_eq_true rfl) ?_
                refine cl_mono (fun r w3 hr => ?_) h
                obtain ⟨rfl, hw3, h⟩ := hr
                show Go SC mX10_join 138 [(0, .ref 0), (1, .int a1), (2, .int a2), (3, .ref (dA (hA b) a1.toNatClampNeg)), (4, .ref (dA (hA b) a2.toNatClampNeg)), (5, .ref (dA (hA b) a1.toNatClampNeg + 2)), (6, .ref (dA (hA b) a2.toNatClampNeg + 2)), (7, .int ((wi w (dA (hA b) a1.toNatClampNeg + 2) 0) + ((wi w (dA (hA b) a2.toNatClampNeg + 2) 0) * (wi w (dA (hA b) a1.toNatClampNeg + 2) 1))))] [] w3 Q
                refine g_aload_n (pc := 138) dX10_join_138 rfl 0 rfl ?_
                refine g_aload (pc := 139) dX10_join_139 5 rfl ?_
                refine g_callV (pc := 141) (M' := mX7_crossed) (n := 0) (a := (dA (hA b) a1.toNatClampNeg + 2)) (as := []) (st := [.ref 0]) dX10_join_141 rfl kX10_143 vX7_crossed (Nat.le_of_ble_eq_true rfl) (sh_dn b (lt5 qd1.1 qd1.2.2)) qX7 rfl rfl (Nat.le_of_ble_eq_true rfl) ?_
                refine cl_mono (fun r w4 hr => ?_) h
                obtain ⟨x5, rfl, hw4, h⟩ := hr
                show Go SC mX10_join 144 [(0, .ref 0), (1, .int a1), (2, .int a2), (3, .ref (dA (hA b) a1.toNatClampNeg)), (4, .ref (dA (hA b) a2.toNatClampNeg)), (5, .ref (dA (hA b) a1.toNatClampNeg + 2)), (6, .ref (dA (hA b) a2.toNatClampNeg + 2)), (7, .int ((wi w (dA (hA b) a1.toNatClampNeg + 2) 0) + ((wi w (dA (hA b) a2.toNatClampNeg + 2) 0) * (wi w (dA (hA b) a1.toNatClampNeg + 2) 1))))] [.int x5, .ref 0] w4 Q
                refine g_callV (pc := 144) (M' := mX10_accept) (n := 1) (a := 0) (as := [.int x5]) (st := []) dX10_join_144 rfl kX10_100 vX10_accept (Nat.le_of_ble_eq_true rfl) rfl qX10 rfl rfl (Nat.le_of_ble_eq_true rfl) ?_
                refine zX10_accept (a1 := x5) (w := w4) (b := b) (hR := hw4) ?_
                show Go SC mX10_join 147 [(0, .ref 0), (1, .int a1), (2, .int a2), (3, .ref (dA (hA b) a1.toNatClampNeg)), (4, .ref (dA (hA b) a2.toNatClampNeg)), (5, .ref (dA (hA b) a1.toNatClampNeg + 2)), (6, .ref (dA (hA b) a2.toNatClampNeg + 2)), (7, .int ((wi w (dA (hA b) a1.toNatClampNeg + 2) 0) + ((wi w (dA (hA b) a2.toNatClampNeg + 2) 0) * (wi w (dA (hA b) a1.toNatClampNeg + 2) 1))))] [.int (vXX10_accept x5)] (wXX10_accept x5 w4) Q
                exact g_iret (pc := 147) dX10_join_147 rfl h
              · have h := h.2 q
                refine g_aload_n (pc := 117) dX10_join_117 rfl 0 rfl ?_
                refine g_iconst (pc := 118) dX10_join_118 c_3 ?_
                refine g_iconst (pc := 119) dX10_join_119 cN_1 ?_
                refine g_callV (pc := 120) (M' := mX10_refuse) (n := 2) (a := 0) (as := [.int 3, .int (-1)]) (st := []) dX10_join_120 rfl kX10_83 vX10_refuse (Nat.le_of_ble_eq_true rfl) rfl qX10 rfl rfl (Nat.le_of_ble_eq_true rfl) ?_
                refine zX10_refuse (a1 := 3) (a2 := (-1)) (w := w) (b := b) (hR := hR) ?_
                show Go SC mX10_join 123 [(0, .ref 0), (1, .int a1), (2, .int a2), (3, .ref (dA (hA b) a1.toNatClampNeg)), (4, .ref (dA (hA b) a2.toNatClampNeg)), (5, .ref (dA (hA b) a1.toNatClampNeg + 2)), (6, .ref (dA (hA b) a2.toNatClampNeg + 2)), (7, .int ((wi w (dA (hA b) a1.toNatClampNeg + 2) 0) + ((wi w (dA (hA b) a2.toNatClampNeg + 2) 0) * (wi w (dA (hA b) a1.toNatClampNeg + 2) 1))))] [.int (vXX10_refuse 3 (-1))] (wXX10_refuse 3 (-1) w) Q
                exact g_iret (pc := 123) dX10_join_123 rfl h
            · have h := h.1 q
              refine g_aload_n (pc := 78) dX10_join_78 rfl 0 rfl ?_
              refine g_iconst (pc := 79) dX10_join_79 c_5 ?_
              refine g_iconst (pc := 80) dX10_join_80 cN_1 ?_
              refine g_callV (pc := 81) (M' := mX10_refuse) (n := 2) (a := 0) (as := [.int 5, .int (-1)]) (st := []) dX10_join_81 rfl kX10_83 vX10_refuse (Nat.le_of_ble_eq_true rfl) rfl qX10 rfl rfl (Nat.le_of_ble_eq_true rfl) ?_
              refine zX10_refuse (a1 := 5) (a2 := (-1)) (w := w) (b := b) (hR := hR) ?_
              show Go SC mX10_join 84 [(0, .ref 0), (1, .int a1), (2, .int a2), (3, .ref (dA (hA b) a1.toNatClampNeg)), (4, .ref (dA (hA b) a2.toNatClampNeg)), (5, .ref (dA (hA b) a1.toNatClampNeg + 2)), (6, .ref (dA (hA b) a2.toNatClampNeg + 2))] [.int (vXX10_refuse 5 (-1))] (wXX10_refuse 5 (-1) w) Q
              exact g_iret (pc := 84) dX10_join_84 rfl h
      · have h := h.1 q
        refine g_aload_n (pc := 33) dX10_join_33 rfl 0 rfl ?_
        refine g_iconst (pc := 34) dX10_join_34 c_1 ?_
        refine g_iconst (pc := 35) dX10_join_35 cN_1 ?_
        refine g_callV (pc := 36) (M' := mX10_refuse) (n := 2) (a := 0) (as := [.int 1, .int (-1)]) (st := []) dX10_join_36 rfl kX10_83 vX10_refuse (Nat.le_of_ble_eq_true rfl) rfl qX10 rfl rfl (Nat.le_of_ble_eq_true rfl) ?_
        refine zX10_refuse (a1 := 1) (a2 := (-1)) (w := w) (b := b) (hR := hR) ?_
        show Go SC mX10_join 39 [(0, .ref 0), (1, .int a1), (2, .int a2), (3, .ref (dA (hA b) a1.toNatClampNeg)), (4, .ref (dA (hA b) a2.toNatClampNeg))] [.int (vXX10_refuse 1 (-1))] (wXX10_refuse 1 (-1) w) Q
        exact g_iret (pc := 39) dX10_join_39 rfl h
    · have h := h.2 qd2
      show Go SC mX10_join 17 [(0, .ref 0), (1, .int a1), (2, .int a2), (3, .ref (dA (hA b) a1.toNatClampNeg))] [.null] w Q
      refine g_astoreN (pc := 17) (lv2 := [(0, .ref 0), (1, .int a1), (2, .int a2), (3, .ref (dA (hA b) a1.toNatClampNeg)), (4, .null)]) dX10_join_17 (Nat.le_of_ble_eq_true rfl) rfl ?_
      refine g_aload_n (pc := 19) dX10_join_19 rfl 3 rfl ?_
      refine g_ifnullR (pc := 20) dX10_join_20 ?_
      refine g_aloadN (pc := 23) dX10_join_23 4 rfl ?_
      refine g_ifnullN (pc := 25) (tgt := 33) dX10_join_25 (by decide) ?_
      refine g_aload_n (pc := 33) dX10_join_33 rfl 0 rfl ?_
      refine g_iconst (pc := 34) dX10_join_34 c_1 ?_
      refine g_iconst (pc := 35) dX10_join_35 cN_1 ?_
      refine g_callV (pc := 36) (M' := mX10_refuse) (n := 2) (a := 0) (as := [.int 1, .int (-1)]) (st := []) dX10_join_36 rfl kX10_83 vX10_refuse (Nat.le_of_ble_eq_true rfl) rfl qX10 rfl rfl (Nat.le_of_ble_eq_true rfl) ?_
      refine zX10_refuse (a1 := 1) (a2 := (-1)) (w := w) (b := b) (hR := hR) ?_
      show Go SC mX10_join 39 [(0, .ref 0), (1, .int a1), (2, .int a2), (3, .ref (dA (hA b) a1.toNatClampNeg)), (4, .null)] [.int (vXX10_refuse 1 (-1))] (wXX10_refuse 1 (-1) w) Q
      exact g_iret (pc := 39) dX10_join_39 rfl h
  · have h := h.2 qd1
    show Go SC mX10_join 8 [(0, .ref 0), (1, .int a1), (2, .int a2)] [.null] w Q
    refine g_astore_nN (pc := 8) (lv2 := [(0, .ref 0), (1, .int a1), (2, .int a2), (3, .null)]) dX10_join_8 rfl (Nat.le_of_ble_eq_true rfl) rfl ?_
    refine g_aload_n (pc := 9) dX10_join_9 rfl 0 rfl ?_
    refine g_getR (pc := 10) (a := 0) (b := (hA b)) dX10_join_10 rfl fX10_19 rfl (rc_0_1 hR) ?_
    refine g_iload_n (pc := 13) dX10_join_13 rfl 2 rfl ?_
    refine g_callV (pc := 14) (M' := mX2_danceAt) (n := 1) (a := (hA b)) (as := [.int a2]) (st := []) dX10_join_14 rfl kX10_113 vX2_danceAt (Nat.le_of_ble_eq_true rfl) (sh_h b) qX2 rfl rfl (Nat.le_of_ble_eq_true rfl) ?_
    refine h_danceAt (c := b) (d := a2) (w := w) (hR := hR) (fun qd6 => ?_) (fun qd6 => ?_)
    · have h := h.1 qd6
      show Go SC mX10_join 17 [(0, .ref 0), (1, .int a1), (2, .int a2), (3, .null)] [.ref (dA (hA b) a2.toNatClampNeg)] w Q
      refine g_astore (pc := 17) (lv2 := [(0, .ref 0), (1, .int a1), (2, .int a2), (3, .null), (4, .ref (dA (hA b) a2.toNatClampNeg))]) dX10_join_17 (Nat.le_of_ble_eq_true rfl) rfl ?_
      refine g_aload_nN (pc := 19) dX10_join_19 rfl 3 rfl ?_
      refine g_ifnullN (pc := 20) (tgt := 33) dX10_join_20 (by decide) ?_
      refine g_aload_n (pc := 33) dX10_join_33 rfl 0 rfl ?_
      refine g_iconst (pc := 34) dX10_join_34 c_1 ?_
      refine g_iconst (pc := 35) dX10_join_35 cN_1 ?_
      refine g_callV (pc := 36) (M' := mX10_refuse) (n := 2) (a := 0) (as := [.int 1, .int (-1)]) (st := []) dX10_join_36 rfl kX10_83 vX10_refuse (Nat.le_of_ble_eq_true rfl) rfl qX10 rfl rfl (Nat.le_of_ble_eq_true rfl) ?_
      refine zX10_refuse (a1 := 1) (a2 := (-1)) (w := w) (b := b) (hR := hR) ?_
      show Go SC mX10_join 39 [(0, .ref 0), (1, .int a1), (2, .int a2), (3, .null), (4, .ref (dA (hA b) a2.toNatClampNeg))] [.int (vXX10_refuse 1 (-1))] (wXX10_refuse 1 (-1) w) Q
      exact g_iret (pc := 39) dX10_join_39 rfl h
    · have h := h.2 qd6
      show Go SC mX10_join 17 [(0, .ref 0), (1, .int a1), (2, .int a2), (3, .null)] [.null] w Q
      refine g_astoreN (pc := 17) (lv2 := [(0, .ref 0), (1, .int a1), (2, .int a2), (3, .null), (4, .null)]) dX10_join_17 (Nat.le_of_ble_eq_true rfl) rfl ?_
      refine g_aload_nN (pc := 19) dX10_join_19 rfl 3 rfl ?_
      refine g_ifnullN (pc := 20) (tgt := 33) dX10_join_20 (by decide) ?_
      refine g_aload_n (pc := 33) dX10_join_33 rfl 0 rfl ?_
      refine g_iconst (pc := 34) dX10_join_34 c_1 ?_
      refine g_iconst (pc := 35) dX10_join_35 cN_1 ?_
      refine g_callV (pc := 36) (M' := mX10_refuse) (n := 2) (a := 0) (as := [.int 1, .int (-1)]) (st := []) dX10_join_36 rfl kX10_83 vX10_refuse (Nat.le_of_ble_eq_true rfl) rfl qX10 rfl rfl (Nat.le_of_ble_eq_true rfl) ?_
      refine zX10_refuse (a1 := 1) (a2 := (-1)) (w := w) (b := b) (hR := hR) ?_
      show Go SC mX10_join 39 [(0, .ref 0), (1, .int a1), (2, .int a2), (3, .null), (4, .null)] [.int (vXX10_refuse 1 (-1))] (wXX10_refuse 1 (-1) w) Q
      exact g_iret (pc := 39) dX10_join_39 rfl h
set_option maxHeartbeats 4000000 in
set_option maxRecDepth 100000 in
theorem TX10_undo  (w : Wd) (b : Bool) (hR : w.2.2 = RTab b) (Q : Option Value → Wd → Prop) (h : (((wi w 49 3) = 0 → Q (some (.int (vXX10_deny 6))) (wXX10_deny 6 w)) ∧ (¬ ((wi w 49 3) = 0) → ClV SC mX4_takeBack [.ref 49, .ref (hA b)] w (fun w1 => w1.2.2 = RTab b ∧ Q (some (.int vXX10_grant)) (wXX10_grant w1))))) : Cl SC mX10_undo [.ref 0] w Q := by
  refine cl_of (by decide) (Nat.le_of_ble_eq_true rfl) ?_
  show Go SC mX10_undo 0 [(0, .ref 0)] [] w Q
  refine g_aload_n (pc := 0) dX10_undo_0 rfl 0 rfl ?_
  refine g_getR (pc := 1) (a := 0) (b := 49) dX10_undo_1 rfl fX10_29 rfl (rc_0_3 hR) ?_
  refine g_getI (pc := 4) (a := 49) dX10_undo_4 rfl fX10_334 rfl ?_
  refine g_if_ne (pc := 7) (tgt := 17) dX10_undo_7 (by decide) (fun q => ?_) (fun q => ?_)
  · have h := h.2 q
    refine g_aload_n (pc := 17) dX10_undo_17 rfl 0 rfl ?_
    refine g_getR (pc := 18) (a := 0) (b := 49) dX10_undo_18 rfl fX10_29 rfl (rc_0_3 hR) ?_
    refine g_aload_n (pc := 21) dX10_undo_21 rfl 0 rfl ?_
    refine g_getR (pc := 22) (a := 0) (b := (hA b)) dX10_undo_22 rfl fX10_19 rfl (rc_0_1 hR) ?_
    refine g_callV (pc := 25) (M' := mX4_takeBack) (n := 1) (a := 49) (as := [.ref (hA b)]) (st := []) dX10_undo_25 rfl kX10_337 vX4_takeBack (Nat.le_of_ble_eq_true rfl) rfl qX4 rfl rfl (Nat.le_of_ble_eq_true rfl) ?_
    refine cl_mono (fun r w1 hr => ?_) h
    obtain ⟨rfl, hw1, h⟩ := hr
    show Go SC mX10_undo 28 [(0, .ref 0)] [] w1 Q
    refine g_aload_n (pc := 28) dX10_undo_28 rfl 0 rfl ?_
    refine g_callV (pc := 29) (M' := mX10_grant) (n := 0) (a := 0) (as := []) (st := []) dX10_undo_29 rfl kX10_331 vX10_grant (Nat.le_of_ble_eq_true rfl) rfl qX10 rfl rfl (Nat.le_of_ble_eq_true rfl) ?_
    refine zX10_grant (w := w1) (b := b) (hR := hw1) ?_
    show Go SC mX10_undo 32 [(0, .ref 0)] [.int vXX10_grant] (wXX10_grant w1) Q
    exact g_bret (pc := 32) dX10_undo_32 rfl (zzX10_grant) h
  · have h := h.1 q
    refine g_aload_n (pc := 10) dX10_undo_10 rfl 0 rfl ?_
    refine g_bipush (pc := 11) (v := 6) dX10_undo_11 (by decide) ?_
    refine g_callV (pc := 13) (M' := mX10_deny) (n := 1) (a := 0) (as := [.int 6]) (st := []) dX10_undo_13 rfl kX10_328 vX10_deny (Nat.le_of_ble_eq_true rfl) rfl qX10 rfl rfl (Nat.le_of_ble_eq_true rfl) ?_
    refine zX10_deny (a1 := 6) (w := w) (b := b) (hR := hR) ?_
    show Go SC mX10_undo 16 [(0, .ref 0)] [.int (vXX10_deny 6)] (wXX10_deny 6 w) Q
    exact g_bret (pc := 16) dX10_undo_16 rfl (zzX10_deny 6) h
set_option maxHeartbeats 4000000 in
set_option maxRecDepth 100000 in
theorem TX10_image  (w : Wd) (b : Bool) (hR : w.2.2 = RTab b) (Q : Option Value → Wd → Prop) (h : (((vXX10_hasHall w b) = 0 → Q (some (.int (vXX10_refuse 1 (-1)))) (wXX10_refuse 1 (-1) w)) ∧ (¬ ((vXX10_hasHall w b) = 0) → (((wi w 49 6) < 3 → ClV SC mX4_draw [.ref 49, .ref (hA b)] w (fun w1 => w1.2.2 = RTab b ∧ Q (some (.int (vXX10_accept ((wi w1 49 6) - 1)))) (wXX10_accept ((wi w1 49 6) - 1) w1))) ∧ (¬ ((wi w 49 6) < 3) → Q (some (.int (vXX10_refuse 3 (-1)))) (wXX10_refuse 3 (-1) w)))))) : Cl SC mX10_image [.ref 0] w Q := by
  refine cl_of (by decide) (Nat.le_of_ble_eq_true rfl) ?_
  show Go SC mX10_image 0 [(0, .ref 0)] [] w Q
  refine g_aload_n (pc := 0) dX10_image_0 rfl 0 rfl ?_
  refine g_callV (pc := 1) (M' := mX10_hasHall) (n := 0) (a := 0) (as := []) (st := []) dX10_image_1 rfl kX10_255 vX10_hasHall (Nat.le_of_ble_eq_true rfl) rfl qX10 rfl rfl (Nat.le_of_ble_eq_true rfl) ?_
  refine zX10_hasHall (w := w) (b := b) (hR := hR) ?_
  show Go SC mX10_image 4 [(0, .ref 0)] [.int (vXX10_hasHall w b)] w Q
  refine g_if_ne (pc := 4) (tgt := 14) dX10_image_4 (by decide) (fun q => ?_) (fun q => ?_)
  · have h := h.2 q
    refine g_aload_n (pc := 14) dX10_image_14 rfl 0 rfl ?_
    refine g_getR (pc := 15) (a := 0) (b := 49) dX10_image_15 rfl fX10_29 rfl (rc_0_3 hR) ?_
    refine g_getI (pc := 18) (a := 49) dX10_image_18 rfl fX10_341 rfl ?_
    refine g_iconst (pc := 21) dX10_image_21 c_3 ?_
    refine g_icmp_lt (pc := 22) (tgt := 32) dX10_image_22 (by decide) (fun q => ?_) (fun q => ?_)
    · have h := h.1 q
      refine g_aload_n (pc := 32) dX10_image_32 rfl 0 rfl ?_
      refine g_getR (pc := 33) (a := 0) (b := 49) dX10_image_33 rfl fX10_29 rfl (rc_0_3 hR) ?_
      refine g_aload_n (pc := 36) dX10_image_36 rfl 0 rfl ?_
      refine g_getR (pc := 37) (a := 0) (b := (hA b)) dX10_image_37 rfl fX10_19 rfl (rc_0_1 hR) ?_
      refine g_callV (pc := 40) (M' := mX4_draw) (n := 1) (a := 49) (as := [.ref (hA b)]) (st := []) dX10_image_40 rfl kX10_344 vX4_draw (Nat.le_of_ble_eq_true rfl) rfl qX4 rfl rfl (Nat.le_of_ble_eq_true rfl) ?_
      refine cl_mono (fun r w1 hr => ?_) h
      obtain ⟨rfl, hw1, h⟩ := hr
      show Go SC mX10_image 43 [(0, .ref 0)] [] w1 Q
      refine g_aload_n (pc := 43) dX10_image_43 rfl 0 rfl ?_
      refine g_aload_n (pc := 44) dX10_image_44 rfl 0 rfl ?_
      refine g_getR (pc := 45) (a := 0) (b := 49) dX10_image_45 rfl fX10_29 rfl (rc_0_3 hw1) ?_
      refine g_getI (pc := 48) (a := 49) dX10_image_48 rfl fX10_341 rfl ?_
      refine g_iconst (pc := 51) dX10_image_51 c_1 ?_
      refine g_isub (pc := 52) dX10_image_52 ?_
      refine g_callV (pc := 53) (M' := mX10_accept) (n := 1) (a := 0) (as := [.int ((wi w1 49 6) - 1)]) (st := []) dX10_image_53 rfl kX10_100 vX10_accept (Nat.le_of_ble_eq_true rfl) rfl qX10 rfl rfl (Nat.le_of_ble_eq_true rfl) ?_
      refine zX10_accept (a1 := ((wi w1 49 6) - 1)) (w := w1) (b := b) (hR := hw1) ?_
      show Go SC mX10_image 56 [(0, .ref 0)] [.int (vXX10_accept ((wi w1 49 6) - 1))] (wXX10_accept ((wi w1 49 6) - 1) w1) Q
      exact g_iret (pc := 56) dX10_image_56 rfl h
    · have h := h.2 q
      refine g_aload_n (pc := 25) dX10_image_25 rfl 0 rfl ?_
      refine g_iconst (pc := 26) dX10_image_26 c_3 ?_
      refine g_iconst (pc := 27) dX10_image_27 cN_1 ?_
      refine g_callV (pc := 28) (M' := mX10_refuse) (n := 2) (a := 0) (as := [.int 3, .int (-1)]) (st := []) dX10_image_28 rfl kX10_83 vX10_refuse (Nat.le_of_ble_eq_true rfl) rfl qX10 rfl rfl (Nat.le_of_ble_eq_true rfl) ?_
      refine zX10_refuse (a1 := 3) (a2 := (-1)) (w := w) (b := b) (hR := hR) ?_
      show Go SC mX10_image 31 [(0, .ref 0)] [.int (vXX10_refuse 3 (-1))] (wXX10_refuse 3 (-1) w) Q
      exact g_iret (pc := 31) dX10_image_31 rfl h
  · have h := h.1 q
    refine g_aload_n (pc := 7) dX10_image_7 rfl 0 rfl ?_
    refine g_iconst (pc := 8) dX10_image_8 c_1 ?_
    refine g_iconst (pc := 9) dX10_image_9 cN_1 ?_
    refine g_callV (pc := 10) (M' := mX10_refuse) (n := 2) (a := 0) (as := [.int 1, .int (-1)]) (st := []) dX10_image_10 rfl kX10_83 vX10_refuse (Nat.le_of_ble_eq_true rfl) rfl qX10 rfl rfl (Nat.le_of_ble_eq_true rfl) ?_
    refine zX10_refuse (a1 := 1) (a2 := (-1)) (w := w) (b := b) (hR := hR) ?_
    show Go SC mX10_image 13 [(0, .ref 0)] [.int (vXX10_refuse 1 (-1))] (wXX10_refuse 1 (-1) w) Q
    exact g_iret (pc := 13) dX10_image_13 rfl h
set_option maxHeartbeats 4000000 in
set_option maxRecDepth 100000 in
theorem TX10_back (a1 : Int32) (w : Wd) (b : Bool) (hR : w.2.2 = RTab b) (Q : Option Value → Wd → Prop) (h : ((a1 < 0 → Q (some (.int (vXX10_deny 1))) (wXX10_deny 1 w)) ∧ (¬ (a1 < 0) → ((a1 < (wi w 49 6) → ClV SC mX4_goBack [.ref 49, .int a1, .ref (hA b)] w (fun w1 => w1.2.2 = RTab b ∧ Q (some (.int vXX10_grant)) (wXX10_grant w1))) ∧ (¬ (a1 < (wi w 49 6)) → Q (some (.int (vXX10_deny 1))) (wXX10_deny 1 w)))))) : Cl SC mX10_back [.ref 0, .int a1] w Q := by
  refine cl_of (by decide) (Nat.le_of_ble_eq_true rfl) ?_
  show Go SC mX10_back 0 [(0, .ref 0), (1, .int a1)] [] w Q
  refine g_iload_n (pc := 0) dX10_back_0 rfl 1 rfl ?_
  refine g_if_lt (pc := 1) (tgt := 15) dX10_back_1 (by decide) (fun q => ?_) (fun q => ?_)
  · have h := h.1 q
    refine g_aload_n (pc := 15) dX10_back_15 rfl 0 rfl ?_
    refine g_iconst (pc := 16) dX10_back_16 c_1 ?_
    refine g_callV (pc := 17) (M' := mX10_deny) (n := 1) (a := 0) (as := [.int 1]) (st := []) dX10_back_17 rfl kX10_328 vX10_deny (Nat.le_of_ble_eq_true rfl) rfl qX10 rfl rfl (Nat.le_of_ble_eq_true rfl) ?_
    refine zX10_deny (a1 := 1) (w := w) (b := b) (hR := hR) ?_
    show Go SC mX10_back 20 [(0, .ref 0), (1, .int a1)] [.int (vXX10_deny 1)] (wXX10_deny 1 w) Q
    exact g_bret (pc := 20) dX10_back_20 rfl (zzX10_deny 1) h
  · have h := h.2 q
    refine g_iload_n (pc := 4) dX10_back_4 rfl 1 rfl ?_
    refine g_aload_n (pc := 5) dX10_back_5 rfl 0 rfl ?_
    refine g_getR (pc := 6) (a := 0) (b := 49) dX10_back_6 rfl fX10_29 rfl (rc_0_3 hR) ?_
    refine g_getI (pc := 9) (a := 49) dX10_back_9 rfl fX10_341 rfl ?_
    refine g_icmp_lt (pc := 12) (tgt := 21) dX10_back_12 (by decide) (fun q => ?_) (fun q => ?_)
    · have h := h.1 q
      refine g_aload_n (pc := 21) dX10_back_21 rfl 0 rfl ?_
      refine g_getR (pc := 22) (a := 0) (b := 49) dX10_back_22 rfl fX10_29 rfl (rc_0_3 hR) ?_
      refine g_iload_n (pc := 25) dX10_back_25 rfl 1 rfl ?_
      refine g_aload_n (pc := 26) dX10_back_26 rfl 0 rfl ?_
      refine g_getR (pc := 27) (a := 0) (b := (hA b)) dX10_back_27 rfl fX10_19 rfl (rc_0_1 hR) ?_
      refine g_callV (pc := 30) (M' := mX4_goBack) (n := 2) (a := 49) (as := [.int a1, .ref (hA b)]) (st := []) dX10_back_30 rfl kX10_347 vX4_goBack (Nat.le_of_ble_eq_true rfl) rfl qX4 rfl rfl (Nat.le_of_ble_eq_true rfl) ?_
      refine cl_mono (fun r w1 hr => ?_) h
      obtain ⟨rfl, hw1, h⟩ := hr
      show Go SC mX10_back 33 [(0, .ref 0), (1, .int a1)] [] w1 Q
      refine g_aload_n (pc := 33) dX10_back_33 rfl 0 rfl ?_
      refine g_callV (pc := 34) (M' := mX10_grant) (n := 0) (a := 0) (as := []) (st := []) dX10_back_34 rfl kX10_331 vX10_grant (Nat.le_of_ble_eq_true rfl) rfl qX10 rfl rfl (Nat.le_of_ble_eq_true rfl) ?_
      refine zX10_grant (w := w1) (b := b) (hR := hw1) ?_
      show Go SC mX10_back 37 [(0, .ref 0), (1, .int a1)] [.int vXX10_grant] (wXX10_grant w1) Q
      exact g_bret (pc := 37) dX10_back_37 rfl (zzX10_grant) h
    · have h := h.2 q
      refine g_aload_n (pc := 15) dX10_back_15 rfl 0 rfl ?_
      refine g_iconst (pc := 16) dX10_back_16 c_1 ?_
      refine g_callV (pc := 17) (M' := mX10_deny) (n := 1) (a := 0) (as := [.int 1]) (st := []) dX10_back_17 rfl kX10_328 vX10_deny (Nat.le_of_ble_eq_true rfl) rfl qX10 rfl rfl (Nat.le_of_ble_eq_true rfl) ?_
      refine zX10_deny (a1 := 1) (w := w) (b := b) (hR := hR) ?_
      show Go SC mX10_back 20 [(0, .ref 0), (1, .int a1)] [.int (vXX10_deny 1)] (wXX10_deny 1 w) Q
      exact g_bret (pc := 20) dX10_back_20 rfl (zzX10_deny 1) h
set_option maxHeartbeats 4000000 in
set_option maxRecDepth 100000 in
theorem TX10_size (a1 : Int32) (w : Wd) (b : Bool) (hR : w.2.2 = RTab b) (Q : Option Value → Wd → Prop) (h : ((a1 = 0 → Q (some (.int (wi w (hA b) 0))) w) ∧ (a1 = 1 → Q (some (.int (wi w (hA b) 2))) w) ∧ (a1 = 2 → Q (some (.int (wi w (hA b) 5))) w) ∧ (a1 = 3 → Q (some (.int (wi w (hA b) 10))) w) ∧ (a1 = 4 → Q (some (.int (wi w 49 3))) w) ∧ (a1 = 5 → Q (some (.int (wi w 49 6))) w) ∧ (a1 = 6 → Q (some (.int (wi w 1 1))) w) ∧ (¬ a1 = 0 ∧ ¬ a1 = 1 ∧ ¬ a1 = 2 ∧ ¬ a1 = 3 ∧ ¬ a1 = 4 ∧ ¬ a1 = 5 ∧ ¬ a1 = 6 → Q (some (.int (-1))) w))) : Cl SC mX10_size [.ref 0, .int a1] w Q := by
  refine cl_of (by decide) (Nat.le_of_ble_eq_true rfl) ?_
  show Go SC mX10_size 0 [(0, .ref 0), (1, .int a1)] [] w Q
  refine g_iload_n (pc := 0) dX10_size_0 rfl 1 rfl ?_
  obtain ⟨h0, h1, h2, h3, h4, h5, h6, hdef⟩ := h
  by_cases q0 : a1 = 0
  · have h := h0 q0
    refine g_tabIn (pc := 1) (tgt := 44) dX10_size_1 (by rw [q0]; decide) (by rw [q0]; decide) (by rw [q0]; rfl) (by decide) ?_
    refine g_aload_n (pc := 44) dX10_size_44 rfl 0 rfl ?_
    refine g_getR (pc := 45) (a := 0) (b := (hA b)) dX10_size_45 rfl fX10_19 rfl (rc_0_1 hR) ?_
    refine g_getI (pc := 48) (a := (hA b)) dX10_size_48 rfl fX10_354 (sh_h b) ?_
    exact g_iret (pc := 51) dX10_size_51 rfl h
  by_cases q1 : a1 = 1
  · have h := h1 q1
    refine g_tabIn (pc := 1) (tgt := 52) dX10_size_1 (by rw [q1]; decide) (by rw [q1]; decide) (by rw [q1]; rfl) (by decide) ?_
    refine g_aload_n (pc := 52) dX10_size_52 rfl 0 rfl ?_
    refine g_getR (pc := 53) (a := 0) (b := (hA b)) dX10_size_53 rfl fX10_19 rfl (rc_0_1 hR) ?_
    refine g_getI (pc := 56) (a := (hA b)) dX10_size_56 rfl fX10_97 (sh_h b) ?_
    exact g_iret (pc := 59) dX10_size_59 rfl h
  by_cases q2 : a1 = 2
  · have h := h2 q2
    refine g_tabIn (pc := 1) (tgt := 60) dX10_size_1 (by rw [q2]; decide) (by rw [q2]; decide) (by rw [q2]; rfl) (by decide) ?_
    refine g_aload_n (pc := 60) dX10_size_60 rfl 0 rfl ?_
    refine g_getR (pc := 61) (a := 0) (b := (hA b)) dX10_size_61 rfl fX10_19 rfl (rc_0_1 hR) ?_
    refine g_getI (pc := 64) (a := (hA b)) dX10_size_64 rfl fX10_357 (sh_h b) ?_
    exact g_iret (pc := 67) dX10_size_67 rfl h
  by_cases q3 : a1 = 3
  · have h := h3 q3
    refine g_tabIn (pc := 1) (tgt := 68) dX10_size_1 (by rw [q3]; decide) (by rw [q3]; decide) (by rw [q3]; rfl) (by decide) ?_
    refine g_aload_n (pc := 68) dX10_size_68 rfl 0 rfl ?_
    refine g_getR (pc := 69) (a := 0) (b := (hA b)) dX10_size_69 rfl fX10_19 rfl (rc_0_1 hR) ?_
    refine g_getI (pc := 72) (a := (hA b)) dX10_size_72 rfl fX10_279 (sh_h b) ?_
    exact g_iret (pc := 75) dX10_size_75 rfl h
  by_cases q4 : a1 = 4
  · have h := h4 q4
    refine g_tabIn (pc := 1) (tgt := 76) dX10_size_1 (by rw [q4]; decide) (by rw [q4]; decide) (by rw [q4]; rfl) (by decide) ?_
    refine g_aload_n (pc := 76) dX10_size_76 rfl 0 rfl ?_
    refine g_getR (pc := 77) (a := 0) (b := 49) dX10_size_77 rfl fX10_29 rfl (rc_0_3 hR) ?_
    refine g_getI (pc := 80) (a := 49) dX10_size_80 rfl fX10_334 rfl ?_
    exact g_iret (pc := 83) dX10_size_83 rfl h
  by_cases q5 : a1 = 5
  · have h := h5 q5
    refine g_tabIn (pc := 1) (tgt := 84) dX10_size_1 (by rw [q5]; decide) (by rw [q5]; decide) (by rw [q5]; rfl) (by decide) ?_
    refine g_aload_n (pc := 84) dX10_size_84 rfl 0 rfl ?_
    refine g_getR (pc := 85) (a := 0) (b := 49) dX10_size_85 rfl fX10_29 rfl (rc_0_3 hR) ?_
    refine g_getI (pc := 88) (a := 49) dX10_size_88 rfl fX10_341 rfl ?_
    exact g_iret (pc := 91) dX10_size_91 rfl h
  by_cases q6 : a1 = 6
  · have h := h6 q6
    refine g_tabIn (pc := 1) (tgt := 92) dX10_size_1 (by rw [q6]; decide) (by rw [q6]; decide) (by rw [q6]; rfl) (by decide) ?_
    refine g_aload_n (pc := 92) dX10_size_92 rfl 0 rfl ?_
    refine g_getR (pc := 93) (a := 0) (b := 1) dX10_size_93 rfl fX10_10 rfl (rc_0_0 hR) ?_
    refine g_getI (pc := 96) (a := 1) dX10_size_96 rfl fX10_79 rfl ?_
    exact g_iret (pc := 99) dX10_size_99 rfl h
  have h := hdef ⟨q0, q1, q2, q3, q4, q5, q6⟩
  refine g_tabOut (pc := 1) (tgt := 100) dX10_size_1 (sw_out 6 (by decide) (fun v h2 => by rcases (show v = 0 ∨ v = 1 ∨ v = 2 ∨ v = 3 ∨ v = 4 ∨ v = 5 ∨ v = 6 by omega) with rfl | rfl | rfl | rfl | rfl | rfl | rfl <;> first | exact q0 | exact q1 | exact q2 | exact q3 | exact q4 | exact q5 | exact q6)) (by decide) ?_
  refine g_iconst (pc := 100) dX10_size_100 cN_1 ?_
  exact g_iret (pc := 101) dX10_size_101 rfl h
