set_option maxHeartbeats 4000000 in
set_option maxRecDepth 100000 in
theorem TX10_figures (a1 : Int32) (w : Wd) (b : Bool) (hR : w.2.2 = RTab b) (Q : Option Value → Wd → Prop) (h : ((0 ≤ a1 ∧ a1 < wi w (hA b) 2 ∧ a1 < 5 → Q (some (.int (vXX10_accept (wi w (dA (hA b) a1.toNatClampNeg) 1)))) (wXX10_accept (wi w (dA (hA b) a1.toNatClampNeg) 1) w)) ∧ (¬ (0 ≤ a1 ∧ a1 < wi w (hA b) 2 ∧ a1 < 5) → Q (some (.int (vXX10_refuse 1 (-1)))) (wXX10_refuse 1 (-1) w)))) : Cl SC mX10_figures [.ref 0, .int a1] w Q := by
  refine cl_of (by decide) (Nat.le_of_ble_eq_true rfl) ?_
  show Go SC mX10_figures 0 [(0, .ref 0), (1, .int a1)] [] w Q
  refine g_aload_n (pc := 0) dX10_figures_0 rfl 0 rfl ?_
  refine g_getR (pc := 1) (a := 0) (b := (hA b)) dX10_figures_1 rfl fX10_19 rfl (rc_0_1 hR) ?_
  refine g_iload_n (pc := 4) dX10_figures_4 rfl 1 rfl ?_
  refine g_callV (pc := 5) (M' := mX2_danceAt) (n := 1) (a := (hA b)) (as := [.int a1]) (st := []) dX10_figures_5 rfl kX10_113 vX2_danceAt (Nat.le_of_ble_eq_true rfl) (sh_h b) qX2 rfl rfl (Nat.le_of_ble_eq_true rfl) ?_
  refine h_danceAt (c := b) (d := a1) (w := w) (hR := hR) (fun qd1 => ?_) (fun qd1 => ?_)
  · have h := h.1 qd1
    show Go SC mX10_figures 8 [(0, .ref 0), (1, .int a1)] [.ref (dA (hA b) a1.toNatClampNeg)] w Q
    refine g_astore_n (pc := 8) (lv2 := [(0, .ref 0), (1, .int a1), (2, .ref (dA (hA b) a1.toNatClampNeg))]) dX10_figures_8 rfl (Nat.le_of_ble_eq_true rfl) rfl ?_
    refine g_aload_n (pc := 9) dX10_figures_9 rfl 2 rfl ?_
    refine g_ifnonnullR (pc := 10) (tgt := 20) dX10_figures_10 (by decide) ?_
    refine g_aload_n (pc := 20) dX10_figures_20 rfl 0 rfl ?_
    refine g_aload_n (pc := 21) dX10_figures_21 rfl 2 rfl ?_
    refine g_getI (pc := 22) (a := (dA (hA b) a1.toNatClampNeg)) dX10_figures_22 rfl fX10_146 (sh_d b (lt5 qd1.1 qd1.2.2)) ?_
    refine g_callV (pc := 25) (M' := mX10_accept) (n := 1) (a := 0) (as := [.int (wi w (dA (hA b) a1.toNatClampNeg) 1)]) (st := []) dX10_figures_25 rfl kX10_100 vX10_accept (Nat.le_of_ble_eq_true rfl) rfl qX10 rfl rfl (Nat.le_of_ble_eq_true rfl) ?_
    refine zX10_accept (a1 := (wi w (dA (hA b) a1.toNatClampNeg) 1)) (w := w) (b := b) (hR := hR) ?_
    show Go SC mX10_figures 28 [(0, .ref 0), (1, .int a1), (2, .ref (dA (hA b) a1.toNatClampNeg))] [.int (vXX10_accept (wi w (dA (hA b) a1.toNatClampNeg) 1))] (wXX10_accept (wi w (dA (hA b) a1.toNatClampNeg) 1) w) Q
    exact g_iret (pc := 28) dX10_figures_28 rfl h
  · have h := h.2 qd1
    show Go SC mX10_figures 8 [(0, .ref 0), (1, .int a1)] [.null] w Q
    refine g_astore_nN (pc := 8) (lv2 := [(0, .ref 0), (1, .int a1), (2, .null)]) dX10_figures_8 rfl (Nat.le_of_ble_eq_true rfl) rfl ?_
    refine g_aload_nN (pc := 9) dX10_figures_9 rfl 2 rfl ?_
    refine g_ifnonnullN (pc := 10) dX10_figures_10 ?_
    refine g_aload_n (pc := 13) dX10_figures_13 rfl 0 rfl ?_
    refine g_iconst (pc := 14) dX10_figures_14 c_1 ?_
    refine g_iconst (pc := 15) dX10_figures_15 cN_1 ?_
    refine g_callV (pc := 16) (M' := mX10_refuse) (n := 2) (a := 0) (as := [.int 1, .int (-1)]) (st := []) dX10_figures_16 rfl kX10_83 vX10_refuse (Nat.le_of_ble_eq_true rfl) rfl qX10 rfl rfl (Nat.le_of_ble_eq_true rfl) ?_
    refine zX10_refuse (a1 := 1) (a2 := (-1)) (w := w) (b := b) (hR := hR) ?_
    show Go SC mX10_figures 19 [(0, .ref 0), (1, .int a1), (2, .null)] [.int (vXX10_refuse 1 (-1))] (wXX10_refuse 1 (-1) w) Q
    exact g_iret (pc := 19) dX10_figures_19 rfl h
set_option maxHeartbeats 4000000 in
set_option maxRecDepth 100000 in
theorem TX10_figure (a1 : Int32) (a2 : Int32) (w : Wd) (b : Bool) (hR : w.2.2 = RTab b) (Q : Option Value → Wd → Prop) (h : ((0 ≤ a1 ∧ a1 < wi w (hA b) 2 ∧ a1 < 5 → ((a2 < 0 → Q (some (.int (vXX10_refuse 1 (-1)))) (wXX10_refuse 1 (-1) w)) ∧ (¬ (a2 < 0) → ((a2 < (wi w (dA (hA b) a1.toNatClampNeg) 1) → Q (some (.int (vXX10_accept (vXX1_figureAt b a1.toNatClampNeg a2 w)))) (wXX10_accept (vXX1_figureAt b a1.toNatClampNeg a2 w) w)) ∧ (¬ (a2 < (wi w (dA (hA b) a1.toNatClampNeg) 1)) → Q (some (.int (vXX10_refuse 1 (-1)))) (wXX10_refuse 1 (-1) w)))))) ∧ (¬ (0 ≤ a1 ∧ a1 < wi w (hA b) 2 ∧ a1 < 5) → Q (some (.int (vXX10_refuse 1 (-1)))) (wXX10_refuse 1 (-1) w)))) : Cl SC mX10_figure [.ref 0, .int a1, .int a2] w Q := by
  refine cl_of (by decide) (Nat.le_of_ble_eq_true rfl) ?_
  show Go SC mX10_figure 0 [(0, .ref 0), (1, .int a1), (2, .int a2)] [] w Q
  refine g_aload_n (pc := 0) dX10_figure_0 rfl 0 rfl ?_
  refine g_getR (pc := 1) (a := 0) (b := (hA b)) dX10_figure_1 rfl fX10_19 rfl (rc_0_1 hR) ?_
  refine g_iload_n (pc := 4) dX10_figure_4 rfl 1 rfl ?_
  refine g_callV (pc := 5) (M' := mX2_danceAt) (n := 1) (a := (hA b)) (as := [.int a1]) (st := []) dX10_figure_5 rfl kX10_113 vX2_danceAt (Nat.le_of_ble_eq_true rfl) (sh_h b) qX2 rfl rfl (Nat.le_of_ble_eq_true rfl) ?_
  refine h_danceAt (c := b) (d := a1) (w := w) (hR := hR) (fun qd1 => ?_) (fun qd1 => ?_)
  · have h := h.1 qd1
    show Go SC mX10_figure 8 [(0, .ref 0), (1, .int a1), (2, .int a2)] [.ref (dA (hA b) a1.toNatClampNeg)] w Q
    refine g_astore_n (pc := 8) (lv2 := [(0, .ref 0), (1, .int a1), (2, .int a2), (3, .ref (dA (hA b) a1.toNatClampNeg))]) dX10_figure_8 rfl (Nat.le_of_ble_eq_true rfl) rfl ?_
    refine g_aload_n (pc := 9) dX10_figure_9 rfl 3 rfl ?_
    refine g_ifnullR (pc := 10) dX10_figure_10 ?_
    refine g_iload_n (pc := 13) dX10_figure_13 rfl 2 rfl ?_
    refine g_if_lt (pc := 14) (tgt := 25) dX10_figure_14 (by decide) (fun q => ?_) (fun q => ?_)
    · have h := h.1 q
      refine g_aload_n (pc := 25) dX10_figure_25 rfl 0 rfl ?_
      refine g_iconst (pc := 26) dX10_figure_26 c_1 ?_
      refine g_iconst (pc := 27) dX10_figure_27 cN_1 ?_
      refine g_callV (pc := 28) (M' := mX10_refuse) (n := 2) (a := 0) (as := [.int 1, .int (-1)]) (st := []) dX10_figure_28 rfl kX10_83 vX10_refuse (Nat.le_of_ble_eq_true rfl) rfl qX10 rfl rfl (Nat.le_of_ble_eq_true rfl) ?_
      refine zX10_refuse (a1 := 1) (a2 := (-1)) (w := w) (b := b) (hR := hR) ?_
      show Go SC mX10_figure 31 [(0, .ref 0), (1, .int a1), (2, .int a2), (3, .ref (dA (hA b) a1.toNatClampNeg))] [.int (vXX10_refuse 1 (-1))] (wXX10_refuse 1 (-1) w) Q
      exact g_iret (pc := 31) dX10_figure_31 rfl h
    · have h := h.2 q
      refine g_iload_n (pc := 17) dX10_figure_17 rfl 2 rfl ?_
      refine g_aload_n (pc := 18) dX10_figure_18 rfl 3 rfl ?_
      refine g_getI (pc := 19) (a := (dA (hA b) a1.toNatClampNeg)) dX10_figure_19 rfl fX10_146 (sh_d b (lt5 qd1.1 qd1.2.2)) ?_
      refine g_icmp_lt (pc := 22) (tgt := 32) dX10_figure_22 (by decide) (fun q => ?_) (fun q => ?_)
      · have h := h.1 q
        refine g_aload_n (pc := 32) dX10_figure_32 rfl 0 rfl ?_
        refine g_aload_n (pc := 33) dX10_figure_33 rfl 3 rfl ?_
        refine g_iload_n (pc := 34) dX10_figure_34 rfl 2 rfl ?_
        refine g_callV (pc := 35) (M' := mX1_figureAt) (n := 1) (a := (dA (hA b) a1.toNatClampNeg)) (as := [.int a2]) (st := [.ref 0]) dX10_figure_35 rfl kX10_149 vX1_figureAt (Nat.le_of_ble_eq_true rfl) (sh_d b (lt5 qd1.1 qd1.2.2)) qX1 rfl rfl (Nat.le_of_ble_eq_true rfl) ?_
        refine zX1_figureAt (c := b) (k := a1.toNatClampNeg) (a1 := a2) (w := w) (b := b) (hR := hR) (hk := (lt5 qd1.1 qd1.2.2)) ?_
        show Go SC mX10_figure 38 [(0, .ref 0), (1, .int a1), (2, .int a2), (3, .ref (dA (hA b) a1.toNatClampNeg))] [.int (vXX1_figureAt b a1.toNatClampNeg a2 w), .ref 0] w Q
        refine g_callV (pc := 38) (M' := mX10_accept) (n := 1) (a := 0) (as := [.int (vXX1_figureAt b a1.toNatClampNeg a2 w)]) (st := []) dX10_figure_38 rfl kX10_100 vX10_accept (Nat.le_of_ble_eq_true rfl) rfl qX10 rfl rfl (Nat.le_of_ble_eq_true rfl) ?_
        refine zX10_accept (a1 := (vXX1_figureAt b a1.toNatClampNeg a2 w)) (w := w) (b := b) (hR := hR) ?_
        show Go SC mX10_figure 41 [(0, .ref 0), (1, .int a1), (2, .int a2), (3, .ref (dA (hA b) a1.toNatClampNeg))] [.int (vXX10_accept (vXX1_figureAt b a1.toNatClampNeg a2 w))] (wXX10_accept (vXX1_figureAt b a1.toNatClampNeg a2 w) w) Q
        exact g_iret (pc := 41) dX10_figure_41 rfl h
      · have h := h.2 q
        refine g_aload_n (pc := 25) dX10_figure_25 rfl 0 rfl ?_
        refine g_iconst (pc := 26) dX10_figure_26 c_1 ?_
        refine g_iconst (pc := 27) dX10_figure_27 cN_1 ?_
        refine g_callV (pc := 28) (M' := mX10_refuse) (n := 2) (a := 0) (as := [.int 1, .int (-1)]) (st := []) dX10_figure_28 rfl kX10_83 vX10_refuse (Nat.le_of_ble_eq_true rfl) rfl qX10 rfl rfl (Nat.le_of_ble_eq_true rfl) ?_
        refine zX10_refuse (a1 := 1) (a2 := (-1)) (w := w) (b := b) (hR := hR) ?_
        show Go SC mX10_figure 31 [(0, .ref 0), (1, .int a1), (2, .int a2), (3, .ref (dA (hA b) a1.toNatClampNeg))] [.int (vXX10_refuse 1 (-1))] (wXX10_refuse 1 (-1) w) Q
        exact g_iret (pc := 31) dX10_figure_31 rfl h
  · have h := h.2 qd1
    show Go SC mX10_figure 8 [(0, .ref 0), (1, .int a1), (2, .int a2)] [.null] w Q
    refine g_astore_nN (pc := 8) (lv2 := [(0, .ref 0), (1, .int a1), (2, .int a2), (3, .null)]) dX10_figure_8 rfl (Nat.le_of_ble_eq_true rfl) rfl ?_
    refine g_aload_nN (pc := 9) dX10_figure_9 rfl 3 rfl ?_
    refine g_ifnullN (pc := 10) (tgt := 25) dX10_figure_10 (by decide) ?_
    refine g_aload_n (pc := 25) dX10_figure_25 rfl 0 rfl ?_
    refine g_iconst (pc := 26) dX10_figure_26 c_1 ?_
    refine g_iconst (pc := 27) dX10_figure_27 cN_1 ?_
    refine g_callV (pc := 28) (M' := mX10_refuse) (n := 2) (a := 0) (as := [.int 1, .int (-1)]) (st := []) dX10_figure_28 rfl kX10_83 vX10_refuse (Nat.le_of_ble_eq_true rfl) rfl qX10 rfl rfl (Nat.le_of_ble_eq_true rfl) ?_
    refine zX10_refuse (a1 := 1) (a2 := (-1)) (w := w) (b := b) (hR := hR) ?_
    show Go SC mX10_figure 31 [(0, .ref 0), (1, .int a1), (2, .int a2), (3, .null)] [.int (vXX10_refuse 1 (-1))] (wXX10_refuse 1 (-1) w) Q
    exact g_iret (pc := 31) dX10_figure_31 rfl h
set_option maxHeartbeats 4000000 in
set_option maxRecDepth 100000 in
theorem TX10_walkTrouble (a1 : Int32) (a2 : Int32) (w : Wd) (b : Bool) (hR : w.2.2 = RTab b) (Q : Option Value → Wd → Prop) (h : ((0 ≤ a1 ∧ a1 < wi w (hA b) 2 ∧ a1 < 5 → ((a2 < 0 → Q (some (.int 2)) w) ∧ (¬ (a2 < 0) → ((a2 ≤ (wi w (dA (hA b) a1.toNatClampNeg) 1) → ClV SC mX1_walk [.ref (dA (hA b) a1.toNatClampNeg), .int a2, .int 0, .ref 55] w (fun w2 => w2.2.2 = RTab b ∧ Q (some (.int 0)) w2)) ∧ (¬ (a2 ≤ (wi w (dA (hA b) a1.toNatClampNeg) 1)) → Q (some (.int 2)) w))))) ∧ (¬ (0 ≤ a1 ∧ a1 < wi w (hA b) 2 ∧ a1 < 5) → Q (some (.int 1)) w))) : Cl SC mX10_walkTrouble [.ref 0, .int a1, .int a2] w Q := by
  refine cl_of (by decide) (Nat.le_of_ble_eq_true rfl) ?_
  show Go SC mX10_walkTrouble 0 [(0, .ref 0), (1, .int a1), (2, .int a2)] [] w Q
  refine g_aload_n (pc := 0) dX10_walkTrouble_0 rfl 0 rfl ?_
  refine g_getR (pc := 1) (a := 0) (b := (hA b)) dX10_walkTrouble_1 rfl fX10_19 rfl (rc_0_1 hR) ?_
  refine g_iload_n (pc := 4) dX10_walkTrouble_4 rfl 1 rfl ?_
  refine g_callV (pc := 5) (M' := mX2_danceAt) (n := 1) (a := (hA b)) (as := [.int a1]) (st := []) dX10_walkTrouble_5 rfl kX10_113 vX2_danceAt (Nat.le_of_ble_eq_true rfl) (sh_h b) qX2 rfl rfl (Nat.le_of_ble_eq_true rfl) ?_
  refine h_danceAt (c := b) (d := a1) (w := w) (hR := hR) (fun qd1 => ?_) (fun qd1 => ?_)
  · have h := h.1 qd1
    show Go SC mX10_walkTrouble 8 [(0, .ref 0), (1, .int a1), (2, .int a2)] [.ref (dA (hA b) a1.toNatClampNeg)] w Q
    refine g_astore_n (pc := 8) (lv2 := [(0, .ref 0), (1, .int a1), (2, .int a2), (3, .ref (dA (hA b) a1.toNatClampNeg))]) dX10_walkTrouble_8 rfl (Nat.le_of_ble_eq_true rfl) rfl ?_
    refine g_aload_n (pc := 9) dX10_walkTrouble_9 rfl 3 rfl ?_
    refine g_ifnonnullR (pc := 10) (tgt := 15) dX10_walkTrouble_10 (by decide) ?_
    refine g_iload_n (pc := 15) dX10_walkTrouble_15 rfl 2 rfl ?_
    refine g_if_lt (pc := 16) (tgt := 27) dX10_walkTrouble_16 (by decide) (fun q => ?_) (fun q => ?_)
    · have h := h.1 q
      refine g_iconst (pc := 27) dX10_walkTrouble_27 c_2 ?_
      exact g_iret (pc := 28) dX10_walkTrouble_28 rfl h
    · have h := h.2 q
      refine g_iload_n (pc := 19) dX10_walkTrouble_19 rfl 2 rfl ?_
      refine g_aload_n (pc := 20) dX10_walkTrouble_20 rfl 3 rfl ?_
      refine g_getI (pc := 21) (a := (dA (hA b) a1.toNatClampNeg)) dX10_walkTrouble_21 rfl fX10_146 (sh_d b (lt5 qd1.1 qd1.2.2)) ?_
      refine g_icmp_le (pc := 24) (tgt := 29) dX10_walkTrouble_24 (by decide) (fun q => ?_) (fun q => ?_)
      · have h := h.1 q
        refine g_aload_n (pc := 29) dX10_walkTrouble_29 rfl 3 rfl ?_
        refine g_iload_n (pc := 30) dX10_walkTrouble_30 rfl 2 rfl ?_
        refine g_iconst (pc := 31) dX10_walkTrouble_31 c_0 ?_
        refine g_aload_n (pc := 32) dX10_walkTrouble_32 rfl 0 rfl ?_
        refine g_getR (pc := 33) (a := 0) (b := 55) dX10_walkTrouble_33 rfl fX10_36 rfl (rc_0_4 hR) ?_
        refine g_callV (pc := 36) (M' := mX1_walk) (n := 3) (a := (dA (hA b) a1.toNatClampNeg)) (as := [.int a2, .int 0, .ref 55]) (st := []) dX10_walkTrouble_36 rfl kX10_155 vX1_walk (Nat.le_of_ble_eq_true rfl) (sh_d b (lt5 qd1.1 qd1.2.2)) qX1 rfl rfl (Nat.le_of_ble_eq_true rfl) ?_
        refine cl_mono (fun r w2 hr => ?_) h
        obtain ⟨rfl, hw2, h⟩ := hr
        show Go SC mX10_walkTrouble 39 [(0, .ref 0), (1, .int a1), (2, .int a2), (3, .ref (dA (hA b) a1.toNatClampNeg))] [] w2 Q
        refine g_iconst (pc := 39) dX10_walkTrouble_39 c_0 ?_
        exact g_iret (pc := 40) dX10_walkTrouble_40 rfl h
      · have h := h.2 q
        refine g_iconst (pc := 27) dX10_walkTrouble_27 c_2 ?_
        exact g_iret (pc := 28) dX10_walkTrouble_28 rfl h
  · have h := h.2 qd1
    show Go SC mX10_walkTrouble 8 [(0, .ref 0), (1, .int a1), (2, .int a2)] [.null] w Q
    refine g_astore_nN (pc := 8) (lv2 := [(0, .ref 0), (1, .int a1), (2, .int a2), (3, .null)]) dX10_walkTrouble_8 rfl (Nat.le_of_ble_eq_true rfl) rfl ?_
    refine g_aload_nN (pc := 9) dX10_walkTrouble_9 rfl 3 rfl ?_
    refine g_ifnonnullN (pc := 10) dX10_walkTrouble_10 ?_
    refine g_iconst (pc := 13) dX10_walkTrouble_13 c_1 ?_
    exact g_iret (pc := 14) dX10_walkTrouble_14 rfl h
set_option maxHeartbeats 4000000 in
set_option maxRecDepth 100000 in
theorem TX10_upperAfter (a1 : Int32) (a2 : Int32) (w : Wd) (b : Bool) (hR : w.2.2 = RTab b) (Q : Option Value → Wd → Prop) (h : ClI SC mX10_walkTrouble [.ref 0, .int a1, .int a2] w (fun x2 w1 => w1.2.2 = RTab b ∧ ((x2 = 0 → Q (some (.int (vXX10_accept (wi w1 55 0)))) (wXX10_accept (wi w1 55 0) w1)) ∧ (¬ (x2 = 0) → Q (some (.int (vXX10_refuse x2 (-100000)))) (wXX10_refuse x2 (-100000) w1))))) : Cl SC mX10_upperAfter [.ref 0, .int a1, .int a2] w Q := by
  refine cl_of (by decide) (Nat.le_of_ble_eq_true rfl) ?_
  show Go SC mX10_upperAfter 0 [(0, .ref 0), (1, .int a1), (2, .int a2)] [] w Q
  refine g_aload_n (pc := 0) dX10_upperAfter_0 rfl 0 rfl ?_
  refine g_iload_n (pc := 1) dX10_upperAfter_1 rfl 1 rfl ?_
  refine g_iload_n (pc := 2) dX10_upperAfter_2 rfl 2 rfl ?_
  refine g_callV (pc := 3) (M' := mX10_walkTrouble) (n := 2) (a := 0) (as := [.int a1, .int a2]) (st := []) dX10_upperAfter_3 rfl kX10_152 vX10_walkTrouble (Nat.le_of_ble_eq_true rfl) rfl qX10 rfl rfl (Nat.le_of_ble_eq_true rfl) ?_
  refine cl_mono (fun r w1 hr => ?_) h
  obtain ⟨x2, rfl, hw1, h⟩ := hr
  show Go SC mX10_upperAfter 6 [(0, .ref 0), (1, .int a1), (2, .int a2)] [.int x2] w1 Q
  refine g_istore_n (pc := 6) (lv2 := [(0, .ref 0), (1, .int a1), (2, .int a2), (3, .int x2)]) dX10_upperAfter_6 rfl (Nat.le_of_ble_eq_true rfl) rfl ?_
  refine g_iload_n (pc := 7) dX10_upperAfter_7 rfl 3 rfl ?_
  refine g_if_ne (pc := 8) (tgt := 25) dX10_upperAfter_8 (by decide) (fun q => ?_) (fun q => ?_)
  · have h := h.2 q
    refine g_aload_n (pc := 25) dX10_upperAfter_25 rfl 0 rfl ?_
    refine g_iload_n (pc := 26) dX10_upperAfter_26 rfl 3 rfl ?_
    refine g_ldc (pc := 27) dX10_upperAfter_27 rfl nX10_117 ?_
    refine g_callV (pc := 29) (M' := mX10_refuse) (n := 2) (a := 0) (as := [.int x2, .int (-100000)]) (st := []) dX10_upperAfter_29 rfl kX10_83 vX10_refuse (Nat.le_of_ble_eq_true rfl) rfl qX10 rfl rfl (Nat.le_of_ble_eq_true rfl) ?_
    refine zX10_refuse (a1 := x2) (a2 := (-100000)) (w := w1) (b := b) (hR := hw1) ?_
    show Go SC mX10_upperAfter 32 [(0, .ref 0), (1, .int a1), (2, .int a2), (3, .int x2)] [.int (vXX10_refuse x2 (-100000))] (wXX10_refuse x2 (-100000) w1) Q
    exact g_iret (pc := 32) dX10_upperAfter_32 rfl h
  · have h := h.1 q
    refine g_aload_n (pc := 11) dX10_upperAfter_11 rfl 0 rfl ?_
    refine g_aload_n (pc := 12) dX10_upperAfter_12 rfl 0 rfl ?_
    refine g_getR (pc := 13) (a := 0) (b := 55) dX10_upperAfter_13 rfl fX10_36 rfl (rc_0_4 hw1) ?_
    refine g_getI (pc := 16) (a := 55) dX10_upperAfter_16 rfl fX10_123 rfl ?_
    refine g_callV (pc := 19) (M' := mX10_accept) (n := 1) (a := 0) (as := [.int (wi w1 55 0)]) (st := []) dX10_upperAfter_19 rfl kX10_100 vX10_accept (Nat.le_of_ble_eq_true rfl) rfl qX10 rfl rfl (Nat.le_of_ble_eq_true rfl) ?_
    refine zX10_accept (a1 := (wi w1 55 0)) (w := w1) (b := b) (hR := hw1) ?_
    show Go SC mX10_upperAfter 22 [(0, .ref 0), (1, .int a1), (2, .int a2), (3, .int x2)] [.int (vXX10_accept (wi w1 55 0))] (wXX10_accept (wi w1 55 0) w1) Q
    refine g_goto (pc := 22) (tgt := 32) dX10_upperAfter_22 (by decide) ?_
    exact g_iret (pc := 32) dX10_upperAfter_32 rfl h
set_option maxHeartbeats 4000000 in
set_option maxRecDepth 100000 in
theorem TX10_lowerAfter (a1 : Int32) (a2 : Int32) (w : Wd) (b : Bool) (hR : w.2.2 = RTab b) (Q : Option Value → Wd → Prop) (h : ClI SC mX10_walkTrouble [.ref 0, .int a1, .int a2] w (fun x2 w1 => w1.2.2 = RTab b ∧ ((x2 = 0 → Q (some (.int (vXX10_accept (wi w1 55 1)))) (wXX10_accept (wi w1 55 1) w1)) ∧ (¬ (x2 = 0) → Q (some (.int (vXX10_refuse x2 (-1)))) (wXX10_refuse x2 (-1) w1))))) : Cl SC mX10_lowerAfter [.ref 0, .int a1, .int a2] w Q := by
  refine cl_of (by decide) (Nat.le_of_ble_eq_true rfl) ?_
  show Go SC mX10_lowerAfter 0 [(0, .ref 0), (1, .int a1), (2, .int a2)] [] w Q
  refine g_aload_n (pc := 0) dX10_lowerAfter_0 rfl 0 rfl ?_
  refine g_iload_n (pc := 1) dX10_lowerAfter_1 rfl 1 rfl ?_
  refine g_iload_n (pc := 2) dX10_lowerAfter_2 rfl 2 rfl ?_
  refine g_callV (pc := 3) (M' := mX10_walkTrouble) (n := 2) (a := 0) (as := [.int a1, .int a2]) (st := []) dX10_lowerAfter_3 rfl kX10_152 vX10_walkTrouble (Nat.le_of_ble_eq_true rfl) rfl qX10 rfl rfl (Nat.le_of_ble_eq_true rfl) ?_
  refine cl_mono (fun r w1 hr => ?_) h
  obtain ⟨x2, rfl, hw1, h⟩ := hr
  show Go SC mX10_lowerAfter 6 [(0, .ref 0), (1, .int a1), (2, .int a2)] [.int x2] w1 Q
  refine g_istore_n (pc := 6) (lv2 := [(0, .ref 0), (1, .int a1), (2, .int a2), (3, .int x2)]) dX10_lowerAfter_6 rfl (Nat.le_of_ble_eq_true rfl) rfl ?_
  refine g_iload_n (pc := 7) dX10_lowerAfter_7 rfl 3 rfl ?_
  refine g_if_ne (pc := 8) (tgt := 25) dX10_lowerAfter_8 (by decide) (fun q => ?_) (fun q => ?_)
  · have h := h.2 q
    refine g_aload_n (pc := 25) dX10_lowerAfter_25 rfl 0 rfl ?_
    refine g_iload_n (pc := 26) dX10_lowerAfter_26 rfl 3 rfl ?_
    refine g_iconst (pc := 27) dX10_lowerAfter_27 cN_1 ?_
    refine g_callV (pc := 28) (M' := mX10_refuse) (n := 2) (a := 0) (as := [.int x2, .int (-1)]) (st := []) dX10_lowerAfter_28 rfl kX10_83 vX10_refuse (Nat.le_of_ble_eq_true rfl) rfl qX10 rfl rfl (Nat.le_of_ble_eq_true rfl) ?_
    refine zX10_refuse (a1 := x2) (a2 := (-1)) (w := w1) (b := b) (hR := hw1) ?_
    show Go SC mX10_lowerAfter 31 [(0, .ref 0), (1, .int a1), (2, .int a2), (3, .int x2)] [.int (vXX10_refuse x2 (-1))] (wXX10_refuse x2 (-1) w1) Q
    exact g_iret (pc := 31) dX10_lowerAfter_31 rfl h
  · have h := h.1 q
    refine g_aload_n (pc := 11) dX10_lowerAfter_11 rfl 0 rfl ?_
    refine g_aload_n (pc := 12) dX10_lowerAfter_12 rfl 0 rfl ?_
    refine g_getR (pc := 13) (a := 0) (b := 55) dX10_lowerAfter_13 rfl fX10_36 rfl (rc_0_4 hw1) ?_
    refine g_getI (pc := 16) (a := 55) dX10_lowerAfter_16 rfl fX10_126 rfl ?_
    refine g_callV (pc := 19) (M' := mX10_accept) (n := 1) (a := 0) (as := [.int (wi w1 55 1)]) (st := []) dX10_lowerAfter_19 rfl kX10_100 vX10_accept (Nat.le_of_ble_eq_true rfl) rfl qX10 rfl rfl (Nat.le_of_ble_eq_true rfl) ?_
    refine zX10_accept (a1 := (wi w1 55 1)) (w := w1) (b := b) (hR := hw1) ?_
    show Go SC mX10_lowerAfter 22 [(0, .ref 0), (1, .int a1), (2, .int a2), (3, .int x2)] [.int (vXX10_accept (wi w1 55 1))] (wXX10_accept (wi w1 55 1) w1) Q
    refine g_goto (pc := 22) (tgt := 31) dX10_lowerAfter_22 (by decide) ?_
    exact g_iret (pc := 31) dX10_lowerAfter_31 rfl h
set_option maxHeartbeats 4000000 in
set_option maxRecDepth 100000 in
theorem TX10_mostAt (a1 : Int32) (w : Wd) (b : Bool) (hR : w.2.2 = RTab b) (Q : Option Value → Wd → Prop) (h : ((0 ≤ a1 ∧ a1 < wi w (hA b) 2 ∧ a1 < 5 → Go SC mX10_mostAt 28 [(0, .ref 0), (1, .int a1), (2, .ref (dA (hA b) a1.toNatClampNeg)), (3, .int 0), (4, .int (-1)), (5, .int 0)] [] w Q) ∧ (¬ (0 ≤ a1 ∧ a1 < wi w (hA b) 2 ∧ a1 < 5) → Q (some (.int (vXX10_refuse 1 (-1)))) (wXX10_refuse 1 (-1) w)))) : Cl SC mX10_mostAt [.ref 0, .int a1] w Q := by
  refine cl_of (by decide) (Nat.le_of_ble_eq_true rfl) ?_
  show Go SC mX10_mostAt 0 [(0, .ref 0), (1, .int a1)] [] w Q
  refine g_aload_n (pc := 0) dX10_mostAt_0 rfl 0 rfl ?_
  refine g_getR (pc := 1) (a := 0) (b := (hA b)) dX10_mostAt_1 rfl fX10_19 rfl (rc_0_1 hR) ?_
  refine g_iload_n (pc := 4) dX10_mostAt_4 rfl 1 rfl ?_
  refine g_callV (pc := 5) (M' := mX2_danceAt) (n := 1) (a := (hA b)) (as := [.int a1]) (st := []) dX10_mostAt_5 rfl kX10_113 vX2_danceAt (Nat.le_of_ble_eq_true rfl) (sh_h b) qX2 rfl rfl (Nat.le_of_ble_eq_true rfl) ?_
  refine h_danceAt (c := b) (d := a1) (w := w) (hR := hR) (fun qd1 => ?_) (fun qd1 => ?_)
  · have h := h.1 qd1
    show Go SC mX10_mostAt 8 [(0, .ref 0), (1, .int a1)] [.ref (dA (hA b) a1.toNatClampNeg)] w Q
    refine g_astore_n (pc := 8) (lv2 := [(0, .ref 0), (1, .int a1), (2, .ref (dA (hA b) a1.toNatClampNeg))]) dX10_mostAt_8 rfl (Nat.le_of_ble_eq_true rfl) rfl ?_
    refine g_aload_n (pc := 9) dX10_mostAt_9 rfl 2 rfl ?_
    refine g_ifnonnullR (pc := 10) (tgt := 20) dX10_mostAt_10 (by decide) ?_
    refine g_iconst (pc := 20) dX10_mostAt_20 c_0 ?_
    refine g_istore_n (pc := 21) (lv2 := [(0, .ref 0), (1, .int a1), (2, .ref (dA (hA b) a1.toNatClampNeg)), (3, .int 0)]) dX10_mostAt_21 rfl (Nat.le_of_ble_eq_true rfl) rfl ?_
    refine g_iconst (pc := 22) dX10_mostAt_22 cN_1 ?_
    refine g_istore (pc := 23) (lv2 := [(0, .ref 0), (1, .int a1), (2, .ref (dA (hA b) a1.toNatClampNeg)), (3, .int 0), (4, .int (-1))]) dX10_mostAt_23 (Nat.le_of_ble_eq_true rfl) rfl ?_
    refine g_iconst (pc := 25) dX10_mostAt_25 c_0 ?_
    refine g_istore (pc := 26) (lv2 := [(0, .ref 0), (1, .int a1), (2, .ref (dA (hA b) a1.toNatClampNeg)), (3, .int 0), (4, .int (-1)), (5, .int 0)]) dX10_mostAt_26 (Nat.le_of_ble_eq_true rfl) rfl ?_
    exact h
  · have h := h.2 qd1
    show Go SC mX10_mostAt 8 [(0, .ref 0), (1, .int a1)] [.null] w Q
    refine g_astore_nN (pc := 8) (lv2 := [(0, .ref 0), (1, .int a1), (2, .null)]) dX10_mostAt_8 rfl (Nat.le_of_ble_eq_true rfl) rfl ?_
    refine g_aload_nN (pc := 9) dX10_mostAt_9 rfl 2 rfl ?_
    refine g_ifnonnullN (pc := 10) dX10_mostAt_10 ?_
    refine g_aload_n (pc := 13) dX10_mostAt_13 rfl 0 rfl ?_
    refine g_iconst (pc := 14) dX10_mostAt_14 c_1 ?_
    refine g_iconst (pc := 15) dX10_mostAt_15 cN_1 ?_
    refine g_callV (pc := 16) (M' := mX10_refuse) (n := 2) (a := 0) (as := [.int 1, .int (-1)]) (st := []) dX10_mostAt_16 rfl kX10_83 vX10_refuse (Nat.le_of_ble_eq_true rfl) rfl qX10 rfl rfl (Nat.le_of_ble_eq_true rfl) ?_
    refine zX10_refuse (a1 := 1) (a2 := (-1)) (w := w) (b := b) (hR := hR) ?_
    show Go SC mX10_mostAt 19 [(0, .ref 0), (1, .int a1), (2, .null)] [.int (vXX10_refuse 1 (-1))] (wXX10_refuse 1 (-1) w) Q
    exact g_iret (pc := 19) dX10_mostAt_19 rfl h
set_option maxHeartbeats 4000000 in
set_option maxRecDepth 100000 in
theorem BX10_mostAt_28  (l1 : Int32) (k2 : Nat) (hk2 : k2 < 5) (l3 : Int32) (l4 : Int32) (l5 : Int32) (w : Wd) (b : Bool) (hR : w.2.2 = RTab b) (Q : Option Value → Wd → Prop) (h : (((wi w (dA (hA b) k2) 1) < l5 → Q (some (.int (vXX10_accept l3))) (wXX10_accept l3 w)) ∧ (¬ ((wi w (dA (hA b) k2) 1) < l5) → ClV SC mX1_walk [.ref (dA (hA b) k2), .int l5, .int 0, .ref 55] w (fun w1 => w1.2.2 = RTab b ∧ ClI SC mX7_crossed [.ref 55] w1 (fun x3 w2 => w2.2.2 = RTab b ∧ Go SC mX10_mostAt 28 [(0, .ref 0), (1, .int l1), (2, .ref (dA (hA b) k2)), (3, .int (if x3 ≤ l4 then l3 else l5 : Int32)), (4, .int (if x3 ≤ l4 then l4 else x3 : Int32)), (5, .int (l5 + 1))] [] w2 Q))))) : Go SC mX10_mostAt 28 [(0, .ref 0), (1, .int l1), (2, .ref (dA (hA b) k2)), (3, .int l3), (4, .int l4), (5, .int l5)] [] w Q := by
  refine g_iload (pc := 28) dX10_mostAt_28 5 rfl ?_
  refine g_aload_n (pc := 30) dX10_mostAt_30 rfl 2 rfl ?_
  refine g_getI (pc := 31) (a := (dA (hA b) k2)) dX10_mostAt_31 rfl fX10_146 (sh_d b hk2) ?_
  refine g_icmp_gt (pc := 34) (tgt := 77) dX10_mostAt_34 (by decide) (fun q => ?_) (fun q => ?_)
  · have h := h.1 q
    refine g_aload_n (pc := 77) dX10_mostAt_77 rfl 0 rfl ?_
    refine g_iload_n (pc := 78) dX10_mostAt_78 rfl 3 rfl ?_
    refine g_callV (pc := 79) (M' := mX10_accept) (n := 1) (a := 0) (as := [.int l3]) (st := []) dX10_mostAt_79 rfl kX10_100 vX10_accept (Nat.le_of_ble_eq_true rfl) rfl qX10 rfl rfl (Nat.le_of_ble_eq_true rfl) ?_
    refine zX10_accept (a1 := l3) (w := w) (b := b) (hR := hR) ?_
    show Go SC mX10_mostAt 82 [(0, .ref 0), (1, .int l1), (2, .ref (dA (hA b) k2)), (3, .int l3), (4, .int l4), (5, .int l5)] [.int (vXX10_accept l3)] (wXX10_accept l3 w) Q
    exact g_iret (pc := 82) dX10_mostAt_82 rfl h
  · have h := h.2 q
    refine g_aload_n (pc := 37) dX10_mostAt_37 rfl 2 rfl ?_
    refine g_iload (pc := 38) dX10_mostAt_38 5 rfl ?_
    refine g_iconst (pc := 40) dX10_mostAt_40 c_0 ?_
    refine g_aload_n (pc := 41) dX10_mostAt_41 rfl 0 rfl ?_
    refine g_getR (pc := 42) (a := 0) (b := 55) dX10_mostAt_42 rfl fX10_36 rfl (rc_0_4 hR) ?_
    refine g_callV (pc := 45) (M' := mX1_walk) (n := 3) (a := (dA (hA b) k2)) (as := [.int l5, .int 0, .ref 55]) (st := []) dX10_mostAt_45 rfl kX10_155 vX1_walk (Nat.le_of_ble_eq_true rfl) (sh_d b hk2) qX1 rfl rfl (Nat.le_of_ble_eq_true rfl) ?_
    refine cl_mono (fun r w1 hr => ?_) h
    obtain ⟨rfl, hw1, h⟩ := hr
    show Go SC mX10_mostAt 48 [(0, .ref 0), (1, .int l1), (2, .ref (dA (hA b) k2)), (3, .int l3), (4, .int l4), (5, .int l5)] [] w1 Q
    refine g_aload_n (pc := 48) dX10_mostAt_48 rfl 0 rfl ?_
    refine g_getR (pc := 49) (a := 0) (b := 55) dX10_mostAt_49 rfl fX10_36 rfl (rc_0_4 hw1) ?_
    refine g_callV (pc := 52) (M' := mX7_crossed) (n := 0) (a := 55) (as := []) (st := []) dX10_mostAt_52 rfl kX10_143 vX7_crossed (Nat.le_of_ble_eq_true rfl) rfl qX7 rfl rfl (Nat.le_of_ble_eq_true rfl) ?_
    refine cl_mono (fun r w2 hr => ?_) h
    obtain ⟨x3, rfl, hw2, h⟩ := hr
    show Go SC mX10_mostAt 55 [(0, .ref 0), (1, .int l1), (2, .ref (dA (hA b) k2)), (3, .int l3), (4, .int l4), (5, .int l5)] [.int x3] w2 Q
    refine g_istore (pc := 55) (lv2 := [(0, .ref 0), (1, .int l1), (2, .ref (dA (hA b) k2)), (3, .int l3), (4, .int l4), (5, .int l5), (6, .int x3)]) dX10_mostAt_55 (Nat.le_of_ble_eq_true rfl) rfl ?_
    refine g_iload (pc := 57) dX10_mostAt_57 6 rfl ?_
    refine g_iload (pc := 59) dX10_mostAt_59 4 rfl ?_
    have hJ : Go SC mX10_mostAt 71 [(0, .ref 0), (1, .int l1), (2, .ref (dA (hA b) k2)), (3, .int (if x3 ≤ l4 then l3 else l5 : Int32)), (4, .int (if x3 ≤ l4 then l4 else x3 : Int32)), (5, .int l5), (6, .int x3)] [] w2 Q := by
      refine g_iinc (pc := 71) (v := l5 + 1) (lv2 := [(0, .ref 0), (1, .int l1), (2, .ref (dA (hA b) k2)), (3, .int (if x3 ≤ l4 then l3 else l5 : Int32)), (4, .int (if x3 ≤ l4 then l4 else x3 : Int32)), (5, .int (l5 + 1)), (6, .int x3)]) dX10_mostAt_71 5 rfl (Nat.le_of_ble_eq_true rfl) rfl rfl ?_
      refine g_goto (pc := 74) (tgt := 28) dX10_mostAt_74 (by decide) ?_
      refine g_sub (lv2 := [(0, .ref 0), (1, .int l1), (2, .ref (dA (hA b) k2)), (3, .int (if x3 ≤ l4 then l3 else l5 : Int32)), (4, .int (if x3 ≤ l4 then l4 else x3 : Int32)), (5, .int (l5 + 1))]) [0, 1, 2, 3, 4, 5] rfl ?_
      exact h
    refine g_icmp_le (pc := 61) (tgt := 71) dX10_mostAt_61 (by decide) (fun q61 => ?_) (fun q61 => ?_)
    · first | (exfalso; contradiction) | exact cast (by simp only [if_pos q61]) hJ
    · refine g_iload (pc := 64) dX10_mostAt_64 6 rfl ?_
      refine g_istore (pc := 66) (lv2 := [(0, .ref 0), (1, .int l1), (2, .ref (dA (hA b) k2)), (3, .int l3), (4, .int x3), (5, .int l5), (6, .int x3)]) dX10_mostAt_66 (Nat.le_of_ble_eq_true rfl) rfl ?_
      refine g_iload (pc := 68) dX10_mostAt_68 5 rfl ?_
      refine g_istore_n (pc := 70) (lv2 := [(0, .ref 0), (1, .int l1), (2, .ref (dA (hA b) k2)), (3, .int l5), (4, .int x3), (5, .int l5), (6, .int x3)]) dX10_mostAt_70 rfl (Nat.le_of_ble_eq_true rfl) rfl ?_
      first | (exfalso; contradiction) | exact cast (by simp only [if_neg q61]) hJ
set_option maxHeartbeats 4000000 in
set_option maxRecDepth 100000 in
theorem TX10_goesFirst (a1 : Int32) (a2 : Int32) (a3 : Int32) (w : Wd) (b : Bool) (hR : w.2.2 = RTab b) (Q : Option Value → Wd → Prop) (h : ((0 ≤ a1 ∧ a1 < wi w (hA b) 2 ∧ a1 < 5 → (((vXX10_isRope a2 a3) = 0 → Q (some (.int (vXX10_refuse 1 (-1)))) (wXX10_refuse 1 (-1) w)) ∧ (¬ ((vXX10_isRope a2 a3) = 0) → Go SC mX10_goesFirst 33 [(0, .ref 0), (1, .int a1), (2, .int a2), (3, .int a3), (4, .ref (dA (hA b) a1.toNatClampNeg)), (5, .int 0)] [] w Q))) ∧ (¬ (0 ≤ a1 ∧ a1 < wi w (hA b) 2 ∧ a1 < 5) → Q (some (.int (vXX10_refuse 1 (-1)))) (wXX10_refuse 1 (-1) w)))) : Cl SC mX10_goesFirst [.ref 0, .int a1, .int a2, .int a3] w Q := by
  refine cl_of (by decide) (Nat.le_of_ble_eq_true rfl) ?_
  show Go SC mX10_goesFirst 0 [(0, .ref 0), (1, .int a1), (2, .int a2), (3, .int a3)] [] w Q
  refine g_aload_n (pc := 0) dX10_goesFirst_0 rfl 0 rfl ?_
  refine g_getR (pc := 1) (a := 0) (b := (hA b)) dX10_goesFirst_1 rfl fX10_19 rfl (rc_0_1 hR) ?_
  refine g_iload_n (pc := 4) dX10_goesFirst_4 rfl 1 rfl ?_
  refine g_callV (pc := 5) (M' := mX2_danceAt) (n := 1) (a := (hA b)) (as := [.int a1]) (st := []) dX10_goesFirst_5 rfl kX10_113 vX2_danceAt (Nat.le_of_ble_eq_true rfl) (sh_h b) qX2 rfl rfl (Nat.le_of_ble_eq_true rfl) ?_
  refine h_danceAt (c := b) (d := a1) (w := w) (hR := hR) (fun qd1 => ?_) (fun qd1 => ?_)
  · have h := h.1 qd1
    show Go SC mX10_goesFirst 8 [(0, .ref 0), (1, .int a1), (2, .int a2), (3, .int a3)] [.ref (dA (hA b) a1.toNatClampNeg)] w Q
    refine g_astore (pc := 8) (lv2 := [(0, .ref 0), (1, .int a1), (2, .int a2), (3, .int a3), (4, .ref (dA (hA b) a1.toNatClampNeg))]) dX10_goesFirst_8 (Nat.le_of_ble_eq_true rfl) rfl ?_
    refine g_aload (pc := 10) dX10_goesFirst_10 4 rfl ?_
    refine g_ifnullR (pc := 12) dX10_goesFirst_12 ?_
    refine g_iload_n (pc := 15) dX10_goesFirst_15 rfl 2 rfl ?_
    refine g_iload_n (pc := 16) dX10_goesFirst_16 rfl 3 rfl ?_
    refine g_callS (pc := 17) (M' := mX10_isRope) (n := 2) (as := [.int a2, .int a3]) (st := []) dX10_goesFirst_17 rfl kX10_159 sX10_isRope (Nat.le_of_ble_eq_true rfl) rfl rfl (Nat.le_of_ble_eq_true rfl) ?_
    refine zX10_isRope (a1 := a2) (a2 := a3) (w := w) (b := b) (hR := hR) ?_
    show Go SC mX10_goesFirst 20 [(0, .ref 0), (1, .int a1), (2, .int a2), (3, .int a3), (4, .ref (dA (hA b) a1.toNatClampNeg))] [.int (vXX10_isRope a2 a3)] w Q
    refine g_if_ne (pc := 20) (tgt := 30) dX10_goesFirst_20 (by decide) (fun q => ?_) (fun q => ?_)
    · have h := h.2 q
      refine g_iconst (pc := 30) dX10_goesFirst_30 c_0 ?_
      refine g_istore (pc := 31) (lv2 := [(0, .ref 0), (1, .int a1), (2, .int a2), (3, .int a3), (4, .ref (dA (hA b) a1.toNatClampNeg)), (5, .int 0)]) dX10_goesFirst_31 (Nat.le_of_ble_eq_true rfl) rfl ?_
      exact h
    · have h := h.1 q
      refine g_aload_n (pc := 23) dX10_goesFirst_23 rfl 0 rfl ?_
      refine g_iconst (pc := 24) dX10_goesFirst_24 c_1 ?_
      refine g_iconst (pc := 25) dX10_goesFirst_25 cN_1 ?_
      refine g_callV (pc := 26) (M' := mX10_refuse) (n := 2) (a := 0) (as := [.int 1, .int (-1)]) (st := []) dX10_goesFirst_26 rfl kX10_83 vX10_refuse (Nat.le_of_ble_eq_true rfl) rfl qX10 rfl rfl (Nat.le_of_ble_eq_true rfl) ?_
      refine zX10_refuse (a1 := 1) (a2 := (-1)) (w := w) (b := b) (hR := hR) ?_
      show Go SC mX10_goesFirst 29 [(0, .ref 0), (1, .int a1), (2, .int a2), (3, .int a3), (4, .ref (dA (hA b) a1.toNatClampNeg))] [.int (vXX10_refuse 1 (-1))] (wXX10_refuse 1 (-1) w) Q
      exact g_iret (pc := 29) dX10_goesFirst_29 rfl h
  · have h := h.2 qd1
    show Go SC mX10_goesFirst 8 [(0, .ref 0), (1, .int a1), (2, .int a2), (3, .int a3)] [.null] w Q
    refine g_astoreN (pc := 8) (lv2 := [(0, .ref 0), (1, .int a1), (2, .int a2), (3, .int a3), (4, .null)]) dX10_goesFirst_8 (Nat.le_of_ble_eq_true rfl) rfl ?_
    refine g_aloadN (pc := 10) dX10_goesFirst_10 4 rfl ?_
    refine g_ifnullN (pc := 12) (tgt := 23) dX10_goesFirst_12 (by decide) ?_
    refine g_aload_n (pc := 23) dX10_goesFirst_23 rfl 0 rfl ?_
    refine g_iconst (pc := 24) dX10_goesFirst_24 c_1 ?_
    refine g_iconst (pc := 25) dX10_goesFirst_25 cN_1 ?_
    refine g_callV (pc := 26) (M' := mX10_refuse) (n := 2) (a := 0) (as := [.int 1, .int (-1)]) (st := []) dX10_goesFirst_26 rfl kX10_83 vX10_refuse (Nat.le_of_ble_eq_true rfl) rfl qX10 rfl rfl (Nat.le_of_ble_eq_true rfl) ?_
    refine zX10_refuse (a1 := 1) (a2 := (-1)) (w := w) (b := b) (hR := hR) ?_
    show Go SC mX10_goesFirst 29 [(0, .ref 0), (1, .int a1), (2, .int a2), (3, .int a3), (4, .null)] [.int (vXX10_refuse 1 (-1))] (wXX10_refuse 1 (-1) w) Q
    exact g_iret (pc := 29) dX10_goesFirst_29 rfl h
set_option maxHeartbeats 4000000 in
set_option maxRecDepth 100000 in
theorem BX10_goesFirst_33  (l1 : Int32) (l2 : Int32) (l3 : Int32) (k4 : Nat) (hk4 : k4 < 5) (l5 : Int32) (w : Wd) (b : Bool) (hR : w.2.2 = RTab b) (Q : Option Value → Wd → Prop) (h : (((wi w (dA (hA b) k4) 1) < l5 → Q (some (.int (vXX10_accept (-2)))) (wXX10_accept (-2) w)) ∧ (¬ ((wi w (dA (hA b) k4) 1) < l5) → ClV SC mX1_walk [.ref (dA (hA b) k4), .int l5, .int 0, .ref 55] w (fun w1 => w1.2.2 = RTab b ∧ (((vXX7_goalOf 55 l2 w1) = l3 → Q (some (.int (vXX10_accept l5))) (wXX10_accept l5 w1)) ∧ (¬ ((vXX7_goalOf 55 l2 w1) = l3) → Go SC mX10_goesFirst 33 [(0, .ref 0), (1, .int l1), (2, .int l2), (3, .int l3), (4, .ref (dA (hA b) k4)), (5, .int (l5 + 1))] [] w1 Q)))))) : Go SC mX10_goesFirst 33 [(0, .ref 0), (1, .int l1), (2, .int l2), (3, .int l3), (4, .ref (dA (hA b) k4)), (5, .int l5)] [] w Q := by
  refine g_iload (pc := 33) dX10_goesFirst_33 5 rfl ?_
  refine g_aload (pc := 35) dX10_goesFirst_35 4 rfl ?_
  refine g_getI (pc := 37) (a := (dA (hA b) k4)) dX10_goesFirst_37 rfl fX10_146 (sh_d b hk4) ?_
  refine g_icmp_gt (pc := 40) (tgt := 80) dX10_goesFirst_40 (by decide) (fun q => ?_) (fun q => ?_)
  · have h := h.1 q
    refine g_aload_n (pc := 80) dX10_goesFirst_80 rfl 0 rfl ?_
    refine g_bipush (pc := 81) (v := (-2)) dX10_goesFirst_81 (by decide) ?_
    refine g_callV (pc := 83) (M' := mX10_accept) (n := 1) (a := 0) (as := [.int (-2)]) (st := []) dX10_goesFirst_83 rfl kX10_100 vX10_accept (Nat.le_of_ble_eq_true rfl) rfl qX10 rfl rfl (Nat.le_of_ble_eq_true rfl) ?_
    refine zX10_accept (a1 := (-2)) (w := w) (b := b) (hR := hR) ?_
    show Go SC mX10_goesFirst 86 [(0, .ref 0), (1, .int l1), (2, .int l2), (3, .int l3), (4, .ref (dA (hA b) k4)), (5, .int l5)] [.int (vXX10_accept (-2))] (wXX10_accept (-2) w) Q
    exact g_iret (pc := 86) dX10_goesFirst_86 rfl h
  · have h := h.2 q
    refine g_aload (pc := 43) dX10_goesFirst_43 4 rfl ?_
    refine g_iload (pc := 45) dX10_goesFirst_45 5 rfl ?_
    refine g_iconst (pc := 47) dX10_goesFirst_47 c_0 ?_
    refine g_aload_n (pc := 48) dX10_goesFirst_48 rfl 0 rfl ?_
    refine g_getR (pc := 49) (a := 0) (b := 55) dX10_goesFirst_49 rfl fX10_36 rfl (rc_0_4 hR) ?_
    refine g_callV (pc := 52) (M' := mX1_walk) (n := 3) (a := (dA (hA b) k4)) (as := [.int l5, .int 0, .ref 55]) (st := []) dX10_goesFirst_52 rfl kX10_155 vX1_walk (Nat.le_of_ble_eq_true rfl) (sh_d b hk4) qX1 rfl rfl (Nat.le_of_ble_eq_true rfl) ?_
    refine cl_mono (fun r w1 hr => ?_) h
    obtain ⟨rfl, hw1, h⟩ := hr
    show Go SC mX10_goesFirst 55 [(0, .ref 0), (1, .int l1), (2, .int l2), (3, .int l3), (4, .ref (dA (hA b) k4)), (5, .int l5)] [] w1 Q
    refine g_aload_n (pc := 55) dX10_goesFirst_55 rfl 0 rfl ?_
    refine g_getR (pc := 56) (a := 0) (b := 55) dX10_goesFirst_56 rfl fX10_36 rfl (rc_0_4 hw1) ?_
    refine g_iload_n (pc := 59) dX10_goesFirst_59 rfl 2 rfl ?_
    refine g_callV (pc := 60) (M' := mX7_goalOf) (n := 1) (a := 55) (as := [.int l2]) (st := []) dX10_goesFirst_60 rfl kX10_133 vX7_goalOf (Nat.le_of_ble_eq_true rfl) rfl qX7 rfl rfl (Nat.le_of_ble_eq_true rfl) ?_
    refine zX7_goalOf (t := 55) (a1 := l2) (w := w1) (b := b) (hR := hw1) (ht := rfl) ?_
    show Go SC mX10_goesFirst 63 [(0, .ref 0), (1, .int l1), (2, .int l2), (3, .int l3), (4, .ref (dA (hA b) k4)), (5, .int l5)] [.int (vXX7_goalOf 55 l2 w1)] w1 Q
    refine g_iload_n (pc := 63) dX10_goesFirst_63 rfl 3 rfl ?_
    refine g_icmp_ne (pc := 64) (tgt := 74) dX10_goesFirst_64 (by decide) (fun q => ?_) (fun q => ?_)
    · have h := h.2 q
      refine g_iinc (pc := 74) (v := l5 + 1) (lv2 := [(0, .ref 0), (1, .int l1), (2, .int l2), (3, .int l3), (4, .ref (dA (hA b) k4)), (5, .int (l5 + 1))]) dX10_goesFirst_74 5 rfl (Nat.le_of_ble_eq_true rfl) rfl rfl ?_
      refine g_goto (pc := 77) (tgt := 33) dX10_goesFirst_77 (by decide) ?_
      exact h
    · have h := h.1 q
      refine g_aload_n (pc := 67) dX10_goesFirst_67 rfl 0 rfl ?_
      refine g_iload (pc := 68) dX10_goesFirst_68 5 rfl ?_
      refine g_callV (pc := 70) (M' := mX10_accept) (n := 1) (a := 0) (as := [.int l5]) (st := []) dX10_goesFirst_70 rfl kX10_100 vX10_accept (Nat.le_of_ble_eq_true rfl) rfl qX10 rfl rfl (Nat.le_of_ble_eq_true rfl) ?_
      refine zX10_accept (a1 := l5) (w := w1) (b := b) (hR := hw1) ?_
      show Go SC mX10_goesFirst 73 [(0, .ref 0), (1, .int l1), (2, .int l2), (3, .int l3), (4, .ref (dA (hA b) k4)), (5, .int l5)] [.int (vXX10_accept l5)] (wXX10_accept l5 w1) Q
      exact g_iret (pc := 73) dX10_goesFirst_73 rfl h
set_option maxHeartbeats 4000000 in
set_option maxRecDepth 100000 in
theorem TX10_again (a1 : Int32) (w : Wd) (b : Bool) (hR : w.2.2 = RTab b) (Q : Option Value → Wd → Prop) (h : ((0 ≤ a1 ∧ a1 < wi w (hA b) 2 ∧ a1 < 5 → Go SC mX10_again 31 [(0, .ref 0), (1, .int a1), (2, .ref (dA (hA b) a1.toNatClampNeg)), (3, .int 1)] [] (wXX7_put 55 0 1 w) Q) ∧ (¬ (0 ≤ a1 ∧ a1 < wi w (hA b) 2 ∧ a1 < 5) → Q (some (.int (vXX10_refuse 1 (-1)))) (wXX10_refuse 1 (-1) w)))) : Cl SC mX10_again [.ref 0, .int a1] w Q := by
  refine cl_of (by decide) (Nat.le_of_ble_eq_true rfl) ?_
  show Go SC mX10_again 0 [(0, .ref 0), (1, .int a1)] [] w Q
  refine g_aload_n (pc := 0) dX10_again_0 rfl 0 rfl ?_
  refine g_getR (pc := 1) (a := 0) (b := (hA b)) dX10_again_1 rfl fX10_19 rfl (rc_0_1 hR) ?_
  refine g_iload_n (pc := 4) dX10_again_4 rfl 1 rfl ?_
  refine g_callV (pc := 5) (M' := mX2_danceAt) (n := 1) (a := (hA b)) (as := [.int a1]) (st := []) dX10_again_5 rfl kX10_113 vX2_danceAt (Nat.le_of_ble_eq_true rfl) (sh_h b) qX2 rfl rfl (Nat.le_of_ble_eq_true rfl) ?_
  refine h_danceAt (c := b) (d := a1) (w := w) (hR := hR) (fun qd1 => ?_) (fun qd1 => ?_)
  · have h := h.1 qd1
    show Go SC mX10_again 8 [(0, .ref 0), (1, .int a1)] [.ref (dA (hA b) a1.toNatClampNeg)] w Q
    refine g_astore_n (pc := 8) (lv2 := [(0, .ref 0), (1, .int a1), (2, .ref (dA (hA b) a1.toNatClampNeg))]) dX10_again_8 rfl (Nat.le_of_ble_eq_true rfl) rfl ?_
    refine g_aload_n (pc := 9) dX10_again_9 rfl 2 rfl ?_
    refine g_ifnonnullR (pc := 10) (tgt := 20) dX10_again_10 (by decide) ?_
    refine g_aload_n (pc := 20) dX10_again_20 rfl 0 rfl ?_
    refine g_getR (pc := 21) (a := 0) (b := 55) dX10_again_21 rfl fX10_36 rfl (rc_0_4 hR) ?_
    refine g_iconst (pc := 24) dX10_again_24 c_0 ?_
    refine g_iconst (pc := 25) dX10_again_25 c_1 ?_
    refine g_callV (pc := 26) (M' := mX7_put) (n := 2) (a := 55) (as := [.int 0, .int 1]) (st := []) dX10_again_26 rfl kX10_163 vX7_put (Nat.le_of_ble_eq_true rfl) rfl qX7 rfl rfl (Nat.le_of_ble_eq_true rfl) ?_
    refine zX7_put (t := 55) (a1 := 0) (a2 := 1) (w := w) (b := b) (hR := hR) (ht := rfl) ?_
    show Go SC mX10_again 29 [(0, .ref 0), (1, .int a1), (2, .ref (dA (hA b) a1.toNatClampNeg))] [] (wXX7_put 55 0 1 w) Q
    refine g_iconst (pc := 29) dX10_again_29 c_1 ?_
    refine g_istore_n (pc := 30) (lv2 := [(0, .ref 0), (1, .int a1), (2, .ref (dA (hA b) a1.toNatClampNeg)), (3, .int 1)]) dX10_again_30 rfl (Nat.le_of_ble_eq_true rfl) rfl ?_
    exact h
  · have h := h.2 qd1
    show Go SC mX10_again 8 [(0, .ref 0), (1, .int a1)] [.null] w Q
    refine g_astore_nN (pc := 8) (lv2 := [(0, .ref 0), (1, .int a1), (2, .null)]) dX10_again_8 rfl (Nat.le_of_ble_eq_true rfl) rfl ?_
    refine g_aload_nN (pc := 9) dX10_again_9 rfl 2 rfl ?_
    refine g_ifnonnullN (pc := 10) dX10_again_10 ?_
    refine g_aload_n (pc := 13) dX10_again_13 rfl 0 rfl ?_
    refine g_iconst (pc := 14) dX10_again_14 c_1 ?_
    refine g_iconst (pc := 15) dX10_again_15 cN_1 ?_
    refine g_callV (pc := 16) (M' := mX10_refuse) (n := 2) (a := 0) (as := [.int 1, .int (-1)]) (st := []) dX10_again_16 rfl kX10_83 vX10_refuse (Nat.le_of_ble_eq_true rfl) rfl qX10 rfl rfl (Nat.le_of_ble_eq_true rfl) ?_
    refine zX10_refuse (a1 := 1) (a2 := (-1)) (w := w) (b := b) (hR := hR) ?_
    show Go SC mX10_again 19 [(0, .ref 0), (1, .int a1), (2, .null)] [.int (vXX10_refuse 1 (-1))] (wXX10_refuse 1 (-1) w) Q
    exact g_iret (pc := 19) dX10_again_19 rfl h
set_option maxHeartbeats 4000000 in
set_option maxRecDepth 100000 in
theorem BX10_again_31  (l1 : Int32) (k2 : Nat) (hk2 : k2 < 5) (l3 : Int32) (w : Wd) (b : Bool) (hR : w.2.2 = RTab b) (Q : Option Value → Wd → Prop) (h : ((60 < l3 → Q (some (.int (vXX10_accept (-2)))) (wXX10_accept (-2) w)) ∧ (¬ (60 < l3) → ClI SC mX1_danceWithin [.ref (dA (hA b) k2), .ref 55] w (fun x2 w1 => w1.2.2 = RTab b ∧ ((x2 = 0 → Q (some (.int (vXX10_accept (-2)))) (wXX10_accept (-2) w1)) ∧ (¬ (x2 = 0) → (((vXX7_isUntied 55 w1) = 0 → Go SC mX10_again 31 [(0, .ref 0), (1, .int l1), (2, .ref (dA (hA b) k2)), (3, .int (l3 + 1))] [] w1 Q) ∧ (¬ ((vXX7_isUntied 55 w1) = 0) → Q (some (.int (vXX10_accept l3))) (wXX10_accept l3 w1))))))))) : Go SC mX10_again 31 [(0, .ref 0), (1, .int l1), (2, .ref (dA (hA b) k2)), (3, .int l3)] [] w Q := by
  refine g_iload_n (pc := 31) dX10_again_31 rfl 3 rfl ?_
  refine g_bipush (pc := 32) (v := 60) dX10_again_32 (by decide) ?_
  refine g_icmp_gt (pc := 34) (tgt := 77) dX10_again_34 (by decide) (fun q => ?_) (fun q => ?_)
  · have h := h.1 q
    refine g_aload_n (pc := 77) dX10_again_77 rfl 0 rfl ?_
    refine g_bipush (pc := 78) (v := (-2)) dX10_again_78 (by decide) ?_
    refine g_callV (pc := 80) (M' := mX10_accept) (n := 1) (a := 0) (as := [.int (-2)]) (st := []) dX10_again_80 rfl kX10_100 vX10_accept (Nat.le_of_ble_eq_true rfl) rfl qX10 rfl rfl (Nat.le_of_ble_eq_true rfl) ?_
    refine zX10_accept (a1 := (-2)) (w := w) (b := b) (hR := hR) ?_
    show Go SC mX10_again 83 [(0, .ref 0), (1, .int l1), (2, .ref (dA (hA b) k2)), (3, .int l3)] [.int (vXX10_accept (-2))] (wXX10_accept (-2) w) Q
    exact g_iret (pc := 83) dX10_again_83 rfl h
  · have h := h.2 q
    refine g_aload_n (pc := 37) dX10_again_37 rfl 2 rfl ?_
    refine g_aload_n (pc := 38) dX10_again_38 rfl 0 rfl ?_
    refine g_getR (pc := 39) (a := 0) (b := 55) dX10_again_39 rfl fX10_36 rfl (rc_0_4 hR) ?_
    refine g_callV (pc := 42) (M' := mX1_danceWithin) (n := 1) (a := (dA (hA b) k2)) (as := [.ref 55]) (st := []) dX10_again_42 rfl kX10_167 vX1_danceWithin (Nat.le_of_ble_eq_true rfl) (sh_d b hk2) qX1 rfl rfl (Nat.le_of_ble_eq_true rfl) ?_
    refine cl_mono (fun r w1 hr => ?_) h
    obtain ⟨x2, rfl, hw1, h⟩ := hr
    show Go SC mX10_again 45 [(0, .ref 0), (1, .int l1), (2, .ref (dA (hA b) k2)), (3, .int l3)] [.int x2] w1 Q
    refine g_if_ne (pc := 45) (tgt := 55) dX10_again_45 (by decide) (fun q => ?_) (fun q => ?_)
    · have h := h.2 q
      refine g_aload_n (pc := 55) dX10_again_55 rfl 0 rfl ?_
      refine g_getR (pc := 56) (a := 0) (b := 55) dX10_again_56 rfl fX10_36 rfl (rc_0_4 hw1) ?_
      refine g_callV (pc := 59) (M' := mX7_isUntied) (n := 0) (a := 55) (as := []) (st := []) dX10_again_59 rfl kX10_171 vX7_isUntied (Nat.le_of_ble_eq_true rfl) rfl qX7 rfl rfl (Nat.le_of_ble_eq_true rfl) ?_
      refine zX7_isUntied (t := 55) (w := w1) (b := b) (hR := hw1) (ht := rfl) ?_
      show Go SC mX10_again 62 [(0, .ref 0), (1, .int l1), (2, .ref (dA (hA b) k2)), (3, .int l3)] [.int (vXX7_isUntied 55 w1)] w1 Q
      refine g_if_eq (pc := 62) (tgt := 71) dX10_again_62 (by decide) (fun q => ?_) (fun q => ?_)
      · have h := h.1 q
        refine g_iinc (pc := 71) (v := l3 + 1) (lv2 := [(0, .ref 0), (1, .int l1), (2, .ref (dA (hA b) k2)), (3, .int (l3 + 1))]) dX10_again_71 3 rfl (Nat.le_of_ble_eq_true rfl) rfl rfl ?_
        refine g_goto (pc := 74) (tgt := 31) dX10_again_74 (by decide) ?_
        exact h
      · have h := h.2 q
        refine g_aload_n (pc := 65) dX10_again_65 rfl 0 rfl ?_
        refine g_iload_n (pc := 66) dX10_again_66 rfl 3 rfl ?_
        refine g_callV (pc := 67) (M' := mX10_accept) (n := 1) (a := 0) (as := [.int l3]) (st := []) dX10_again_67 rfl kX10_100 vX10_accept (Nat.le_of_ble_eq_true rfl) rfl qX10 rfl rfl (Nat.le_of_ble_eq_true rfl) ?_
        refine zX10_accept (a1 := l3) (w := w1) (b := b) (hR := hw1) ?_
        show Go SC mX10_again 70 [(0, .ref 0), (1, .int l1), (2, .ref (dA (hA b) k2)), (3, .int l3)] [.int (vXX10_accept l3)] (wXX10_accept l3 w1) Q
        exact g_iret (pc := 70) dX10_again_70 rfl h
    · have h := h.1 q
      refine g_aload_n (pc := 48) dX10_again_48 rfl 0 rfl ?_
      refine g_bipush (pc := 49) (v := (-2)) dX10_again_49 (by decide) ?_
      refine g_callV (pc := 51) (M' := mX10_accept) (n := 1) (a := 0) (as := [.int (-2)]) (st := []) dX10_again_51 rfl kX10_100 vX10_accept (Nat.le_of_ble_eq_true rfl) rfl qX10 rfl rfl (Nat.le_of_ble_eq_true rfl) ?_
      refine zX10_accept (a1 := (-2)) (w := w1) (b := b) (hR := hw1) ?_
      show Go SC mX10_again 54 [(0, .ref 0), (1, .int l1), (2, .ref (dA (hA b) k2)), (3, .int l3)] [.int (vXX10_accept (-2))] (wXX10_accept (-2) w1) Q
      exact g_iret (pc := 54) dX10_again_54 rfl h
set_option maxHeartbeats 4000000 in
set_option maxRecDepth 100000 in
theorem TX10_trace (a1 : Int32) (w : Wd) (b : Bool) (hR : w.2.2 = RTab b) (Q : Option Value → Wd → Prop) (h : ((0 ≤ a1 ∧ a1 < wi w (hA b) 2 ∧ a1 < 5 → ClV SC mX5_follow [.ref 56, .ref (dA (hA b) a1.toNatClampNeg)] w (fun w2 => w2.2.2 = RTab b ∧ Q (some (.int (vXX10_accept (vXJ9_abs_0f7a4 ((wi w2 56 0) + (wi w2 56 3)))))) (wXX10_accept (vXJ9_abs_0f7a4 ((wi w2 56 0) + (wi w2 56 3))) w2))) ∧ (¬ (0 ≤ a1 ∧ a1 < wi w (hA b) 2 ∧ a1 < 5) → Q (some (.int (vXX10_refuse 1 (-1)))) (wXX10_refuse 1 (-1) w)))) : Cl SC mX10_trace [.ref 0, .int a1] w Q := by
  refine cl_of (by decide) (Nat.le_of_ble_eq_true rfl) ?_
  show Go SC mX10_trace 0 [(0, .ref 0), (1, .int a1)] [] w Q
  refine g_aload_n (pc := 0) dX10_trace_0 rfl 0 rfl ?_
  refine g_getR (pc := 1) (a := 0) (b := (hA b)) dX10_trace_1 rfl fX10_19 rfl (rc_0_1 hR) ?_
  refine g_iload_n (pc := 4) dX10_trace_4 rfl 1 rfl ?_
  refine g_callV (pc := 5) (M' := mX2_danceAt) (n := 1) (a := (hA b)) (as := [.int a1]) (st := []) dX10_trace_5 rfl kX10_113 vX2_danceAt (Nat.le_of_ble_eq_true rfl) (sh_h b) qX2 rfl rfl (Nat.le_of_ble_eq_true rfl) ?_
  refine h_danceAt (c := b) (d := a1) (w := w) (hR := hR) (fun qd1 => ?_) (fun qd1 => ?_)
  · have h := h.1 qd1
    show Go SC mX10_trace 8 [(0, .ref 0), (1, .int a1)] [.ref (dA (hA b) a1.toNatClampNeg)] w Q
    refine g_astore_n (pc := 8) (lv2 := [(0, .ref 0), (1, .int a1), (2, .ref (dA (hA b) a1.toNatClampNeg))]) dX10_trace_8 rfl (Nat.le_of_ble_eq_true rfl) rfl ?_
    refine g_aload_n (pc := 9) dX10_trace_9 rfl 2 rfl ?_
    refine g_ifnonnullR (pc := 10) (tgt := 20) dX10_trace_10 (by decide) ?_
    refine g_aload_n (pc := 20) dX10_trace_20 rfl 0 rfl ?_
    refine g_getR (pc := 21) (a := 0) (b := 56) dX10_trace_21 rfl fX10_43 rfl (rc_0_5 hR) ?_
    refine g_aload_n (pc := 24) dX10_trace_24 rfl 2 rfl ?_
    refine g_callV (pc := 25) (M' := mX5_follow) (n := 1) (a := 56) (as := [.ref (dA (hA b) a1.toNatClampNeg)]) (st := []) dX10_trace_25 rfl kX10_174 vX5_follow (Nat.le_of_ble_eq_true rfl) rfl qX5 rfl rfl (Nat.le_of_ble_eq_true rfl) ?_
    refine cl_mono (fun r w2 hr => ?_) h
    obtain ⟨rfl, hw2, h⟩ := hr
    show Go SC mX10_trace 28 [(0, .ref 0), (1, .int a1), (2, .ref (dA (hA b) a1.toNatClampNeg))] [] w2 Q
    refine g_aload_n (pc := 28) dX10_trace_28 rfl 0 rfl ?_
    refine g_aload_n (pc := 29) dX10_trace_29 rfl 0 rfl ?_
    refine g_getR (pc := 30) (a := 0) (b := 56) dX10_trace_30 rfl fX10_43 rfl (rc_0_5 hw2) ?_
    refine g_getI (pc := 33) (a := 56) dX10_trace_33 rfl fX10_178 rfl ?_
    refine g_aload_n (pc := 36) dX10_trace_36 rfl 0 rfl ?_
    refine g_getR (pc := 37) (a := 0) (b := 56) dX10_trace_37 rfl fX10_43 rfl (rc_0_5 hw2) ?_
    refine g_getI (pc := 40) (a := 56) dX10_trace_40 rfl fX10_181 rfl ?_
    refine g_iadd (pc := 43) dX10_trace_43 ?_
    refine g_callS (pc := 44) (M' := mJ9_abs_0f7a4) (n := 1) (as := [.int ((wi w2 56 0) + (wi w2 56 3))]) (st := [.ref 0]) dX10_trace_44 rfl kX10_184 sJ9_abs_0f7a4 (Nat.le_of_ble_eq_true rfl) rfl rfl (Nat.le_of_ble_eq_true rfl) ?_
    refine zJ9_abs_0f7a4 (a1 := ((wi w2 56 0) + (wi w2 56 3))) (w := w2) (b := b) (hR := hw2) ?_
    show Go SC mX10_trace 47 [(0, .ref 0), (1, .int a1), (2, .ref (dA (hA b) a1.toNatClampNeg))] [.int (vXJ9_abs_0f7a4 ((wi w2 56 0) + (wi w2 56 3))), .ref 0] w2 Q
    refine g_callV (pc := 47) (M' := mX10_accept) (n := 1) (a := 0) (as := [.int (vXJ9_abs_0f7a4 ((wi w2 56 0) + (wi w2 56 3)))]) (st := []) dX10_trace_47 rfl kX10_100 vX10_accept (Nat.le_of_ble_eq_true rfl) rfl qX10 rfl rfl (Nat.le_of_ble_eq_true rfl) ?_
    refine zX10_accept (a1 := (vXJ9_abs_0f7a4 ((wi w2 56 0) + (wi w2 56 3)))) (w := w2) (b := b) (hR := hw2) ?_
    show Go SC mX10_trace 50 [(0, .ref 0), (1, .int a1), (2, .ref (dA (hA b) a1.toNatClampNeg))] [.int (vXX10_accept (vXJ9_abs_0f7a4 ((wi w2 56 0) + (wi w2 56 3))))] (wXX10_accept (vXJ9_abs_0f7a4 ((wi w2 56 0) + (wi w2 56 3))) w2) Q
    exact g_iret (pc := 50) dX10_trace_50 rfl h
  · have h := h.2 qd1
    show Go SC mX10_trace 8 [(0, .ref 0), (1, .int a1)] [.null] w Q
    refine g_astore_nN (pc := 8) (lv2 := [(0, .ref 0), (1, .int a1), (2, .null)]) dX10_trace_8 rfl (Nat.le_of_ble_eq_true rfl) rfl ?_
    refine g_aload_nN (pc := 9) dX10_trace_9 rfl 2 rfl ?_
    refine g_ifnonnullN (pc := 10) dX10_trace_10 ?_
    refine g_aload_n (pc := 13) dX10_trace_13 rfl 0 rfl ?_
    refine g_iconst (pc := 14) dX10_trace_14 c_1 ?_
    refine g_iconst (pc := 15) dX10_trace_15 cN_1 ?_
    refine g_callV (pc := 16) (M' := mX10_refuse) (n := 2) (a := 0) (as := [.int 1, .int (-1)]) (st := []) dX10_trace_16 rfl kX10_83 vX10_refuse (Nat.le_of_ble_eq_true rfl) rfl qX10 rfl rfl (Nat.le_of_ble_eq_true rfl) ?_
    refine zX10_refuse (a1 := 1) (a2 := (-1)) (w := w) (b := b) (hR := hR) ?_
    show Go SC mX10_trace 19 [(0, .ref 0), (1, .int a1), (2, .null)] [.int (vXX10_refuse 1 (-1))] (wXX10_refuse 1 (-1) w) Q
    exact g_iret (pc := 19) dX10_trace_19 rfl h
set_option maxHeartbeats 4000000 in
set_option maxRecDepth 100000 in
theorem TX10_sameDance (a1 : Int32) (a2 : Int32) (w : Wd) (b : Bool) (hR : w.2.2 = RTab b) (Q : Option Value → Wd → Prop) (h : ((0 ≤ a1 ∧ a1 < wi w (hA b) 2 ∧ a1 < 5 → ((0 ≤ a2 ∧ a2 < wi w (hA b) 2 ∧ a2 < 5 → ClV SC mX5_follow [.ref 56, .ref (dA (hA b) a1.toNatClampNeg)] w (fun w3 => w3.2.2 = RTab b ∧ ClV SC mX5_follow [.ref 57, .ref (dA (hA b) a2.toNatClampNeg)] w3 (fun w4 => w4.2.2 = RTab b ∧ Q (some (.int (vXX10_accept (if (vXX5_isSame 56 57 w4) = 0 then 0 else 1 : Int32)))) (wXX10_accept (if (vXX5_isSame 56 57 w4) = 0 then 0 else 1 : Int32) w4)))) ∧ (¬ (0 ≤ a2 ∧ a2 < wi w (hA b) 2 ∧ a2 < 5) → Q (some (.int (vXX10_refuse 1 (-1)))) (wXX10_refuse 1 (-1) w)))) ∧ (¬ (0 ≤ a1 ∧ a1 < wi w (hA b) 2 ∧ a1 < 5) → ((0 ≤ a2 ∧ a2 < wi w (hA b) 2 ∧ a2 < 5 → Q (some (.int (vXX10_refuse 1 (-1)))) (wXX10_refuse 1 (-1) w)) ∧ (¬ (0 ≤ a2 ∧ a2 < wi w (hA b) 2 ∧ a2 < 5) → Q (some (.int (vXX10_refuse 1 (-1)))) (wXX10_refuse 1 (-1) w)))))) : Cl SC mX10_sameDance [.ref 0, .int a1, .int a2] w Q := by
  refine cl_of (by decide) (Nat.le_of_ble_eq_true rfl) ?_
  show Go SC mX10_sameDance 0 [(0, .ref 0), (1, .int a1), (2, .int a2)] [] w Q
  refine g_aload_n (pc := 0) dX10_sameDance_0 rfl 0 rfl ?_
  refine g_getR (pc := 1) (a := 0) (b := (hA b)) dX10_sameDance_1 rfl fX10_19 rfl (rc_0_1 hR) ?_
  refine g_iload_n (pc := 4) dX10_sameDance_4 rfl 1 rfl ?_
  refine g_callV (pc := 5) (M' := mX2_danceAt) (n := 1) (a := (hA b)) (as := [.int a1]) (st := []) dX10_sameDance_5 rfl kX10_113 vX2_danceAt (Nat.le_of_ble_eq_true rfl) (sh_h b) qX2 rfl rfl (Nat.le_of_ble_eq_true rfl) ?_
  refine h_danceAt (c := b) (d := a1) (w := w) (hR := hR) (fun qd1 => ?_) (fun qd1 => ?_)
  · have h := h.1 qd1
    show Go SC mX10_sameDance 8 [(0, .ref 0), (1, .int a1), (2, .int a2)] [.ref (dA (hA b) a1.toNatClampNeg)] w Q
    refine g_astore_n (pc := 8) (lv2 := [(0, .ref 0), (1, .int a1), (2, .int a2), (3, .ref (dA (hA b) a1.toNatClampNeg))]) dX10_sameDance_8 rfl (Nat.le_of_ble_eq_true rfl) rfl ?_
    refine g_aload_n (pc := 9) dX10_sameDance_9 rfl 0 rfl ?_
    refine g_getR (pc := 10) (a := 0) (b := (hA b)) dX10_sameDance_10 rfl fX10_19 rfl (rc_0_1 hR) ?_
    refine g_iload_n (pc := 13) dX10_sameDance_13 rfl 2 rfl ?_
    refine g_callV (pc := 14) (M' := mX2_danceAt) (n := 1) (a := (hA b)) (as := [.int a2]) (st := []) dX10_sameDance_14 rfl kX10_113 vX2_danceAt (Nat.le_of_ble_eq_true rfl) (sh_h b) qX2 rfl rfl (Nat.le_of_ble_eq_true rfl) ?_
    refine h_danceAt (c := b) (d := a2) (w := w) (hR := hR) (fun qd2 => ?_) (fun qd2 => ?_)
    · have h := h.1 qd2
      show Go SC mX10_sameDance 17 [(0, .ref 0), (1, .int a1), (2, .int a2), (3, .ref (dA (hA b) a1.toNatClampNeg))] [.ref (dA (hA b) a2.toNatClampNeg)] w Q
      refine g_astore (pc := 17) (lv2 := [(0, .ref 0), (1, .int a1), (2, .int a2), (3, .ref (dA (hA b) a1.toNatClampNeg)), (4, .ref (dA (hA b) a2.toNatClampNeg))]) dX10_sameDance_17 (Nat.le_of_ble_eq_true rfl) rfl ?_
      refine g_aload_n (pc := 19) dX10_sameDance_19 rfl 3 rfl ?_
      refine g_ifnullR (pc := 20) dX10_sameDance_20 ?_
      refine g_aload (pc := 23) dX10_sameDance_23 4 rfl ?_
      refine g_ifnonnullR (pc := 25) (tgt := 35) dX10_sameDance_25 (by decide) ?_
      refine g_aload_n (pc := 35) dX10_sameDance_35 rfl 0 rfl ?_
      refine g_getR (pc := 36) (a := 0) (b := 56) dX10_sameDance_36 rfl fX10_43 rfl (rc_0_5 hR) ?_
      refine g_aload_n (pc := 39) dX10_sameDance_39 rfl 3 rfl ?_
      refine g_callV (pc := 40) (M' := mX5_follow) (n := 1) (a := 56) (as := [.ref (dA (hA b) a1.toNatClampNeg)]) (st := []) dX10_sameDance_40 rfl kX10_174 vX5_follow (Nat.le_of_ble_eq_true rfl) rfl qX5 rfl rfl (Nat.le_of_ble_eq_true rfl) ?_
      refine cl_mono (fun r w3 hr => ?_) h
      obtain ⟨rfl, hw3, h⟩ := hr
      show Go SC mX10_sameDance 43 [(0, .ref 0), (1, .int a1), (2, .int a2), (3, .ref (dA (hA b) a1.toNatClampNeg)), (4, .ref (dA (hA b) a2.toNatClampNeg))] [] w3 Q
      refine g_aload_n (pc := 43) dX10_sameDance_43 rfl 0 rfl ?_
      refine g_getR (pc := 44) (a := 0) (b := 57) dX10_sameDance_44 rfl fX10_47 rfl (rc_0_6 hw3) ?_
      refine g_aload (pc := 47) dX10_sameDance_47 4 rfl ?_
      refine g_callV (pc := 49) (M' := mX5_follow) (n := 1) (a := 57) (as := [.ref (dA (hA b) a2.toNatClampNeg)]) (st := []) dX10_sameDance_49 rfl kX10_174 vX5_follow (Nat.le_of_ble_eq_true rfl) rfl qX5 rfl rfl (Nat.le_of_ble_eq_true rfl) ?_
      refine cl_mono (fun r w4 hr => ?_) h
      obtain ⟨rfl, hw4, h⟩ := hr
      show Go SC mX10_sameDance 52 [(0, .ref 0), (1, .int a1), (2, .int a2), (3, .ref (dA (hA b) a1.toNatClampNeg)), (4, .ref (dA (hA b) a2.toNatClampNeg))] [] w4 Q
      refine g_aload_n (pc := 52) dX10_sameDance_52 rfl 0 rfl ?_
      refine g_aload_n (pc := 53) dX10_sameDance_53 rfl 0 rfl ?_
      refine g_getR (pc := 54) (a := 0) (b := 56) dX10_sameDance_54 rfl fX10_43 rfl (rc_0_5 hw4) ?_
      refine g_aload_n (pc := 57) dX10_sameDance_57 rfl 0 rfl ?_
      refine g_getR (pc := 58) (a := 0) (b := 57) dX10_sameDance_58 rfl fX10_47 rfl (rc_0_6 hw4) ?_
      refine g_callV (pc := 61) (M' := mX5_isSame) (n := 1) (a := 56) (as := [.ref 57]) (st := [.ref 0]) dX10_sameDance_61 rfl kX10_189 vX5_isSame (Nat.le_of_ble_eq_true rfl) rfl qX5 rfl rfl (Nat.le_of_ble_eq_true rfl) ?_
      refine zX5_isSame (t := 56) (a1 := 57) (w := w4) (b := b) (hR := hw4) (ht := rfl) (ha1 := rfl) ?_
      show Go SC mX10_sameDance 64 [(0, .ref 0), (1, .int a1), (2, .int a2), (3, .ref (dA (hA b) a1.toNatClampNeg)), (4, .ref (dA (hA b) a2.toNatClampNeg))] [.int (vXX5_isSame 56 57 w4), .ref 0] w4 Q
      have hJ : Go SC mX10_sameDance 72 [(0, .ref 0), (1, .int a1), (2, .int a2), (3, .ref (dA (hA b) a1.toNatClampNeg)), (4, .ref (dA (hA b) a2.toNatClampNeg))] [.int (if (vXX5_isSame 56 57 w4) = 0 then 0 else 1 : Int32), .ref 0] w4 Q := by
        refine g_callV (pc := 72) (M' := mX10_accept) (n := 1) (a := 0) (as := [.int (if (vXX5_isSame 56 57 w4) = 0 then 0 else 1 : Int32)]) (st := []) dX10_sameDance_72 rfl kX10_100 vX10_accept (Nat.le_of_ble_eq_true rfl) rfl qX10 rfl rfl (Nat.le_of_ble_eq_true rfl) ?_
        refine zX10_accept (a1 := (if (vXX5_isSame 56 57 w4) = 0 then 0 else 1 : Int32)) (w := w4) (b := b) (hR := hw4) ?_
        show Go SC mX10_sameDance 75 [(0, .ref 0), (1, .int a1), (2, .int a2), (3, .ref (dA (hA b) a1.toNatClampNeg)), (4, .ref (dA (hA b) a2.toNatClampNeg))] [.int (vXX10_accept (if (vXX5_isSame 56 57 w4) = 0 then 0 else 1 : Int32))] (wXX10_accept (if (vXX5_isSame 56 57 w4) = 0 then 0 else 1 : Int32) w4) Q
        exact g_iret (pc := 75) dX10_sameDance_75 rfl h
      refine g_if_eq (pc := 64) (tgt := 71) dX10_sameDance_64 (by decide) (fun q64 => ?_) (fun q64 => ?_)
      · refine g_iconst (pc := 71) dX10_sameDance_71 c_0 ?_
        first | (exfalso; contradiction) | exact cast (by simp only [if_pos q64]) hJ
      · refine g_iconst (pc := 67) dX10_sameDance_67 c_1 ?_
        refine g_goto (pc := 68) (tgt := 72) dX10_sameDance_68 (by decide) ?_
        first | (exfalso; contradiction) | exact cast (by simp only [if_neg q64]) hJ
    · have h := h.2 qd2
      show Go SC mX10_sameDance 17 [(0, .ref 0), (1, .int a1), (2, .int a2), (3, .ref (dA (hA b) a1.toNatClampNeg))] [.null] w Q
      refine g_astoreN (pc := 17) (lv2 := [(0, .ref 0), (1, .int a1), (2, .int a2), (3, .ref (dA (hA b) a1.toNatClampNeg)), (4, .null)]) dX10_sameDance_17 (Nat.le_of_ble_eq_true rfl) rfl ?_
      refine g_aload_n (pc := 19) dX10_sameDance_19 rfl 3 rfl ?_
      refine g_ifnullR (pc := 20) dX10_sameDance_20 ?_
      refine g_aloadN (pc := 23) dX10_sameDance_23 4 rfl ?_
      refine g_ifnonnullN (pc := 25) dX10_sameDance_25 ?_
      refine g_aload_n (pc := 28) dX10_sameDance_28 rfl 0 rfl ?_
      refine g_iconst (pc := 29) dX10_sameDance_29 c_1 ?_
      refine g_iconst (pc := 30) dX10_sameDance_30 cN_1 ?_
      refine g_callV (pc := 31) (M' := mX10_refuse) (n := 2) (a := 0) (as := [.int 1, .int (-1)]) (st := []) dX10_sameDance_31 rfl kX10_83 vX10_refuse (Nat.le_of_ble_eq_true rfl) rfl qX10 rfl rfl (Nat.le_of_ble_eq_true rfl) ?_
      refine zX10_refuse (a1 := 1) (a2 := (-1)) (w := w) (b := b) (hR := hR) ?_
      show Go SC mX10_sameDance 34 [(0, .ref 0), (1, .int a1), (2, .int a2), (3, .ref (dA (hA b) a1.toNatClampNeg)), (4, .null)] [.int (vXX10_refuse 1 (-1))] (wXX10_refuse 1 (-1) w) Q
      exact g_iret (pc := 34) dX10_sameDance_34 rfl h
  · have h := h.2 qd1
    show Go SC mX10_sameDance 8 [(0, .ref 0), (1, .int a1), (2, .int a2)] [.null] w Q
    refine g_astore_nN (pc := 8) (lv2 := [(0, .ref 0), (1, .int a1), (2, .int a2), (3, .null)]) dX10_sameDance_8 rfl (Nat.le_of_ble_eq_true rfl) rfl ?_
    refine g_aload_n (pc := 9) dX10_sameDance_9 rfl 0 rfl ?_
    refine g_getR (pc := 10) (a := 0) (b := (hA b)) dX10_sameDance_10 rfl fX10_19 rfl (rc_0_1 hR) ?_
    refine g_iload_n (pc := 13) dX10_sameDance_13 rfl 2 rfl ?_
    refine g_callV (pc := 14) (M' := mX2_danceAt) (n := 1) (a := (hA b)) (as := [.int a2]) (st := []) dX10_sameDance_14 rfl kX10_113 vX2_danceAt (Nat.le_of_ble_eq_true rfl) (sh_h b) qX2 rfl rfl (Nat.le_of_ble_eq_true rfl) ?_
    refine h_danceAt (c := b) (d := a2) (w := w) (hR := hR) (fun qd5 => ?_) (fun qd5 => ?_)
    · have h := h.1 qd5
      show Go SC mX10_sameDance 17 [(0, .ref 0), (1, .int a1), (2, .int a2), (3, .null)] [.ref (dA (hA b) a2.toNatClampNeg)] w Q
      refine g_astore (pc := 17) (lv2 := [(0, .ref 0), (1, .int a1), (2, .int a2), (3, .null), (4, .ref (dA (hA b) a2.toNatClampNeg))]) dX10_sameDance_17 (Nat.le_of_ble_eq_true rfl) rfl ?_
      refine g_aload_nN (pc := 19) dX10_sameDance_19 rfl 3 rfl ?_
      refine g_ifnullN (pc := 20) (tgt := 28) dX10_sameDance_20 (by decide) ?_
      refine g_aload_n (pc := 28) dX10_sameDance_28 rfl 0 rfl ?_
      refine g_iconst (pc := 29) dX10_sameDance_29 c_1 ?_
      refine g_iconst (pc := 30) dX10_sameDance_30 cN_1 ?_
      refine g_callV (pc := 31) (M' := mX10_refuse) (n := 2) (a := 0) (as := [.int 1, .int (-1)]) (st := []) dX10_sameDance_31 rfl kX10_83 vX10_refuse (Nat.le_of_ble_eq_true rfl) rfl qX10 rfl rfl (Nat.le_of_ble_eq_true rfl) ?_
      refine zX10_refuse (a1 := 1) (a2 := (-1)) (w := w) (b := b) (hR := hR) ?_
      show Go SC mX10_sameDance 34 [(0, .ref 0), (1, .int a1), (2, .int a2), (3, .null), (4, .ref (dA (hA b) a2.toNatClampNeg))] [.int (vXX10_refuse 1 (-1))] (wXX10_refuse 1 (-1) w) Q
      exact g_iret (pc := 34) dX10_sameDance_34 rfl h
    · have h := h.2 qd5
      show Go SC mX10_sameDance 17 [(0, .ref 0), (1, .int a1), (2, .int a2), (3, .null)] [.null] w Q
      refine g_astoreN (pc := 17) (lv2 := [(0, .ref 0), (1, .int a1), (2, .int a2), (3, .null), (4, .null)]) dX10_sameDance_17 (Nat.le_of_ble_eq_true rfl) rfl ?_
      refine g_aload_nN (pc := 19) dX10_sameDance_19 rfl 3 rfl ?_
      refine g_ifnullN (pc := 20) (tgt := 28) dX10_sameDance_20 (by decide) ?_
      refine g_aload_n (pc := 28) dX10_sameDance_28 rfl 0 rfl ?_
      refine g_iconst (pc := 29) dX10_sameDance_29 c_1 ?_
      refine g_iconst (pc := 30) dX10_sameDance_30 cN_1 ?_
      refine g_callV (pc := 31) (M' := mX10_refuse) (n := 2) (a := 0) (as := [.int 1, .int (-1)]) (st := []) dX10_sameDance_31 rfl kX10_83 vX10_refuse (Nat.le_of_ble_eq_true rfl) rfl qX10 rfl rfl (Nat.le_of_ble_eq_true rfl) ?_
      refine zX10_refuse (a1 := 1) (a2 := (-1)) (w := w) (b := b) (hR := hR) ?_
      show Go SC mX10_sameDance 34 [(0, .ref 0), (1, .int a1), (2, .int a2), (3, .null), (4, .null)] [.int (vXX10_refuse 1 (-1))] (wXX10_refuse 1 (-1) w) Q
      exact g_iret (pc := 34) dX10_sameDance_34 rfl h
set_option maxHeartbeats 4000000 in
set_option maxRecDepth 100000 in
theorem TX10_untieBy (ca1 : Bool) (ka1 : Nat) (hka1 : ka1 < 5) (a2 : Int32) (w : Wd) (b : Bool) (hR : w.2.2 = RTab b) (Q : Option Value → Wd → Prop) (h : Go SC mX10_untieBy 13 [(0, .ref 0), (1, .ref (dA (hA ca1) ka1)), (2, .int a2), (3, .int 0)] [] (wXX7_copy 55 (dA (hA ca1) ka1 + 2) w) Q) : Cl SC mX10_untieBy [.ref 0, .ref (dA (hA ca1) ka1), .int a2] w Q := by
  refine cl_of (by decide) (Nat.le_of_ble_eq_true rfl) ?_
  show Go SC mX10_untieBy 0 [(0, .ref 0), (1, .ref (dA (hA ca1) ka1)), (2, .int a2)] [] w Q
  refine g_aload_n (pc := 0) dX10_untieBy_0 rfl 0 rfl ?_
  refine g_getR (pc := 1) (a := 0) (b := 55) dX10_untieBy_1 rfl fX10_36 rfl (rc_0_4 hR) ?_
  refine g_aload_n (pc := 4) dX10_untieBy_4 rfl 1 rfl ?_
  refine g_getR (pc := 5) (a := (dA (hA ca1) ka1)) (b := (dA (hA ca1) ka1 + 2)) dX10_untieBy_5 rfl fX10_118 (sh_d ca1 hka1) (rd_4 hR ca1 hka1) ?_
  refine g_callV (pc := 8) (M' := mX7_copy) (n := 1) (a := 55) (as := [.ref (dA (hA ca1) ka1 + 2)]) (st := []) dX10_untieBy_8 rfl kX10_198 vX7_copy (Nat.le_of_ble_eq_true rfl) rfl qX7 rfl rfl (Nat.le_of_ble_eq_true rfl) ?_
  refine zX7_copy (t := 55) (a1 := (dA (hA ca1) ka1 + 2)) (w := w) (b := b) (hR := hR) (ht := rfl) (ha1 := (sh_dn ca1 hka1)) ?_
  show Go SC mX10_untieBy 11 [(0, .ref 0), (1, .ref (dA (hA ca1) ka1)), (2, .int a2)] [] (wXX7_copy 55 (dA (hA ca1) ka1 + 2) w) Q
  refine g_iconst (pc := 11) dX10_untieBy_11 c_0 ?_
  refine g_istore_n (pc := 12) (lv2 := [(0, .ref 0), (1, .ref (dA (hA ca1) ka1)), (2, .int a2), (3, .int 0)]) dX10_untieBy_12 rfl (Nat.le_of_ble_eq_true rfl) rfl ?_
  exact h
set_option maxHeartbeats 4000000 in
set_option maxRecDepth 100000 in
theorem BX10_untieBy_13 (ca1 : Bool) (ka1 : Nat) (hka1 : ka1 < 5) (l2 : Int32) (l3 : Int32) (w : Wd) (b : Bool) (hR : w.2.2 = RTab b) (Q : Option Value → Wd → Prop) (h : ((1000000 ≤ l3 → Q (some (.int l3)) w) ∧ (¬ (1000000 ≤ l3) → ((l2 ≤ l3 → Q (some (.int l3)) w) ∧ (¬ (l2 ≤ l3) → (((vXX7_isUntied 55 w) = 0 → Go SC mX10_untieBy 13 [(0, .ref 0), (1, .ref (dA (hA ca1) ka1)), (2, .int l2), (3, .int (l3 + 1))] [] (wXX7_step 55 (vXX7_untying 55 w) w) Q) ∧ (¬ ((vXX7_isUntied 55 w) = 0) → Q (some (.int l3)) w))))))) : Go SC mX10_untieBy 13 [(0, .ref 0), (1, .ref (dA (hA ca1) ka1)), (2, .int l2), (3, .int l3)] [] w Q := by
  refine g_iload_n (pc := 13) dX10_untieBy_13 rfl 3 rfl ?_
  refine g_ldc (pc := 14) dX10_untieBy_14 rfl nX10_193 ?_
  refine g_icmp_ge (pc := 16) (tgt := 54) dX10_untieBy_16 (by decide) (fun q => ?_) (fun q => ?_)
  · have h := h.1 q
    refine g_iload_n (pc := 54) dX10_untieBy_54 rfl 3 rfl ?_
    exact g_iret (pc := 55) dX10_untieBy_55 rfl h
  · have h := h.2 q
    refine g_iload_n (pc := 19) dX10_untieBy_19 rfl 3 rfl ?_
    refine g_iload_n (pc := 20) dX10_untieBy_20 rfl 2 rfl ?_
    refine g_icmp_ge (pc := 21) (tgt := 54) dX10_untieBy_21 (by decide) (fun q => ?_) (fun q => ?_)
    · have h := h.1 q
      refine g_iload_n (pc := 54) dX10_untieBy_54 rfl 3 rfl ?_
      exact g_iret (pc := 55) dX10_untieBy_55 rfl h
    · have h := h.2 q
      refine g_aload_n (pc := 24) dX10_untieBy_24 rfl 0 rfl ?_
      refine g_getR (pc := 25) (a := 0) (b := 55) dX10_untieBy_25 rfl fX10_36 rfl (rc_0_4 hR) ?_
      refine g_callV (pc := 28) (M' := mX7_isUntied) (n := 0) (a := 55) (as := []) (st := []) dX10_untieBy_28 rfl kX10_171 vX7_isUntied (Nat.le_of_ble_eq_true rfl) rfl qX7 rfl rfl (Nat.le_of_ble_eq_true rfl) ?_
      refine zX7_isUntied (t := 55) (w := w) (b := b) (hR := hR) (ht := rfl) ?_
      show Go SC mX10_untieBy 31 [(0, .ref 0), (1, .ref (dA (hA ca1) ka1)), (2, .int l2), (3, .int l3)] [.int (vXX7_isUntied 55 w)] w Q
      refine g_if_ne (pc := 31) (tgt := 54) dX10_untieBy_31 (by decide) (fun q => ?_) (fun q => ?_)
      · have h := h.2 q
        refine g_iload_n (pc := 54) dX10_untieBy_54 rfl 3 rfl ?_
        exact g_iret (pc := 55) dX10_untieBy_55 rfl h
      · have h := h.1 q
        refine g_aload_n (pc := 34) dX10_untieBy_34 rfl 0 rfl ?_
        refine g_getR (pc := 35) (a := 0) (b := 55) dX10_untieBy_35 rfl fX10_36 rfl (rc_0_4 hR) ?_
        refine g_aload_n (pc := 38) dX10_untieBy_38 rfl 0 rfl ?_
        refine g_getR (pc := 39) (a := 0) (b := 55) dX10_untieBy_39 rfl fX10_36 rfl (rc_0_4 hR) ?_
        refine g_callV (pc := 42) (M' := mX7_untying) (n := 0) (a := 55) (as := []) (st := [.ref 55]) dX10_untieBy_42 rfl kX10_202 vX7_untying (Nat.le_of_ble_eq_true rfl) rfl qX7 rfl rfl (Nat.le_of_ble_eq_true rfl) ?_
        refine zX7_untying (t := 55) (w := w) (b := b) (hR := hR) (ht := rfl) ?_
        show Go SC mX10_untieBy 45 [(0, .ref 0), (1, .ref (dA (hA ca1) ka1)), (2, .int l2), (3, .int l3)] [.int (vXX7_untying 55 w), .ref 55] w Q
        refine g_callV (pc := 45) (M' := mX7_step) (n := 1) (a := 55) (as := [.int (vXX7_untying 55 w)]) (st := []) dX10_untieBy_45 rfl kX10_205 vX7_step (Nat.le_of_ble_eq_true rfl) rfl qX7 rfl rfl (Nat.le_of_ble_eq_true rfl) ?_
        refine zX7_step (t := 55) (a1 := (vXX7_untying 55 w)) (w := w) (b := b) (hR := hR) (ht := rfl) ?_
        show Go SC mX10_untieBy 48 [(0, .ref 0), (1, .ref (dA (hA ca1) ka1)), (2, .int l2), (3, .int l3)] [] (wXX7_step 55 (vXX7_untying 55 w) w) Q
        refine g_iinc (pc := 48) (v := l3 + 1) (lv2 := [(0, .ref 0), (1, .ref (dA (hA ca1) ka1)), (2, .int l2), (3, .int (l3 + 1))]) dX10_untieBy_48 3 rfl (Nat.le_of_ble_eq_true rfl) rfl rfl ?_
        refine g_goto (pc := 51) (tgt := 13) dX10_untieBy_51 (by decide) ?_
        exact h
set_option maxHeartbeats 4000000 in
set_option maxRecDepth 100000 in
theorem TX10_untie (a1 : Int32) (w : Wd) (b : Bool) (hR : w.2.2 = RTab b) (Q : Option Value → Wd → Prop) (h : ((0 ≤ a1 ∧ a1 < wi w (hA b) 2 ∧ a1 < 5 → ClI SC mX10_untieBy [.ref 0, .ref (dA (hA b) a1.toNatClampNeg), .int 1000000] w (fun x3 w2 => w2.2.2 = RTab b ∧ Q (some (.int (vXX10_accept x3))) (wXX10_accept x3 w2))) ∧ (¬ (0 ≤ a1 ∧ a1 < wi w (hA b) 2 ∧ a1 < 5) → Q (some (.int (vXX10_refuse 1 (-1)))) (wXX10_refuse 1 (-1) w)))) : Cl SC mX10_untie [.ref 0, .int a1] w Q := by
  refine cl_of (by decide) (Nat.le_of_ble_eq_true rfl) ?_
  show Go SC mX10_untie 0 [(0, .ref 0), (1, .int a1)] [] w Q
  refine g_aload_n (pc := 0) dX10_untie_0 rfl 0 rfl ?_
  refine g_getR (pc := 1) (a := 0) (b := (hA b)) dX10_untie_1 rfl fX10_19 rfl (rc_0_1 hR) ?_
  refine g_iload_n (pc := 4) dX10_untie_4 rfl 1 rfl ?_
  refine g_callV (pc := 5) (M' := mX2_danceAt) (n := 1) (a := (hA b)) (as := [.int a1]) (st := []) dX10_untie_5 rfl kX10_113 vX2_danceAt (Nat.le_of_ble_eq_true rfl) (sh_h b) qX2 rfl rfl (Nat.le_of_ble_eq_true rfl) ?_
  refine h_danceAt (c := b) (d := a1) (w := w) (hR := hR) (fun qd1 => ?_) (fun qd1 => ?_)
  · have h := h.1 qd1
    show Go SC mX10_untie 8 [(0, .ref 0), (1, .int a1)] [.ref (dA (hA b) a1.toNatClampNeg)] w Q
    refine g_astore_n (pc := 8) (lv2 := [(0, .ref 0), (1, .int a1), (2, .ref (dA (hA b) a1.toNatClampNeg))]) dX10_untie_8 rfl (Nat.le_of_ble_eq_true rfl) rfl ?_
    refine g_aload_n (pc := 9) dX10_untie_9 rfl 2 rfl ?_
    refine g_ifnonnullR (pc := 10) (tgt := 20) dX10_untie_10 (by decide) ?_
    refine g_aload_n (pc := 20) dX10_untie_20 rfl 0 rfl ?_
    refine g_aload_n (pc := 21) dX10_untie_21 rfl 0 rfl ?_
    refine g_aload_n (pc := 22) dX10_untie_22 rfl 2 rfl ?_
    refine g_ldc (pc := 23) dX10_untie_23 rfl nX10_193 ?_
    refine g_callV (pc := 25) (M' := mX10_untieBy) (n := 2) (a := 0) (as := [.ref (dA (hA b) a1.toNatClampNeg), .int 1000000]) (st := [.ref 0]) dX10_untie_25 rfl kX10_194 vX10_untieBy (Nat.le_of_ble_eq_true rfl) rfl qX10 rfl rfl (Nat.le_of_ble_eq_true rfl) ?_
    refine cl_mono (fun r w2 hr => ?_) h
    obtain ⟨x3, rfl, hw2, h⟩ := hr
    show Go SC mX10_untie 28 [(0, .ref 0), (1, .int a1), (2, .ref (dA (hA b) a1.toNatClampNeg))] [.int x3, .ref 0] w2 Q
    refine g_callV (pc := 28) (M' := mX10_accept) (n := 1) (a := 0) (as := [.int x3]) (st := []) dX10_untie_28 rfl kX10_100 vX10_accept (Nat.le_of_ble_eq_true rfl) rfl qX10 rfl rfl (Nat.le_of_ble_eq_true rfl) ?_
    refine zX10_accept (a1 := x3) (w := w2) (b := b) (hR := hw2) ?_
    show Go SC mX10_untie 31 [(0, .ref 0), (1, .int a1), (2, .ref (dA (hA b) a1.toNatClampNeg))] [.int (vXX10_accept x3)] (wXX10_accept x3 w2) Q
    exact g_iret (pc := 31) dX10_untie_31 rfl h
  · have h := h.2 qd1
    show Go SC mX10_untie 8 [(0, .ref 0), (1, .int a1)] [.null] w Q
    refine g_astore_nN (pc := 8) (lv2 := [(0, .ref 0), (1, .int a1), (2, .null)]) dX10_untie_8 rfl (Nat.le_of_ble_eq_true rfl) rfl ?_
    refine g_aload_nN (pc := 9) dX10_untie_9 rfl 2 rfl ?_
    refine g_ifnonnullN (pc := 10) dX10_untie_10 ?_
    refine g_aload_n (pc := 13) dX10_untie_13 rfl 0 rfl ?_
    refine g_iconst (pc := 14) dX10_untie_14 c_1 ?_
    refine g_iconst (pc := 15) dX10_untie_15 cN_1 ?_
    refine g_callV (pc := 16) (M' := mX10_refuse) (n := 2) (a := 0) (as := [.int 1, .int (-1)]) (st := []) dX10_untie_16 rfl kX10_83 vX10_refuse (Nat.le_of_ble_eq_true rfl) rfl qX10 rfl rfl (Nat.le_of_ble_eq_true rfl) ?_
    refine zX10_refuse (a1 := 1) (a2 := (-1)) (w := w) (b := b) (hR := hR) ?_
    show Go SC mX10_untie 19 [(0, .ref 0), (1, .int a1), (2, .null)] [.int (vXX10_refuse 1 (-1))] (wXX10_refuse 1 (-1) w) Q
    exact g_iret (pc := 19) dX10_untie_19 rfl h
set_option maxHeartbeats 4000000 in
set_option maxRecDepth 100000 in
theorem TX10_turnsOf (a1 : Int32) (w : Wd) (b : Bool) (hR : w.2.2 = RTab b) (Q : Option Value → Wd → Prop) (h : ((0 ≤ a1 ∧ a1 < wi w (hA b) 2 ∧ a1 < 5 → Go SC mX10_turnsOf 36 [(0, .ref 0), (1, .int a1), (2, .ref (dA (hA b) a1.toNatClampNeg)), (3, .int 0), (4, .int 0)] [] (wXX7_copy 55 (dA (hA b) a1.toNatClampNeg + 2) w) Q) ∧ (¬ (0 ≤ a1 ∧ a1 < wi w (hA b) 2 ∧ a1 < 5) → Q (some (.int (vXX10_refuse 1 (-1)))) (wXX10_refuse 1 (-1) w)))) : Cl SC mX10_turnsOf [.ref 0, .int a1] w Q := by
  refine cl_of (by decide) (Nat.le_of_ble_eq_true rfl) ?_
  show Go SC mX10_turnsOf 0 [(0, .ref 0), (1, .int a1)] [] w Q
  refine g_aload_n (pc := 0) dX10_turnsOf_0 rfl 0 rfl ?_
  refine g_getR (pc := 1) (a := 0) (b := (hA b)) dX10_turnsOf_1 rfl fX10_19 rfl (rc_0_1 hR) ?_
  refine g_iload_n (pc := 4) dX10_turnsOf_4 rfl 1 rfl ?_
  refine g_callV (pc := 5) (M' := mX2_danceAt) (n := 1) (a := (hA b)) (as := [.int a1]) (st := []) dX10_turnsOf_5 rfl kX10_113 vX2_danceAt (Nat.le_of_ble_eq_true rfl) (sh_h b) qX2 rfl rfl (Nat.le_of_ble_eq_true rfl) ?_
  refine h_danceAt (c := b) (d := a1) (w := w) (hR := hR) (fun qd1 => ?_) (fun qd1 => ?_)
  · have h := h.1 qd1
    show Go SC mX10_turnsOf 8 [(0, .ref 0), (1, .int a1)] [.ref (dA (hA b) a1.toNatClampNeg)] w Q
    refine g_astore_n (pc := 8) (lv2 := [(0, .ref 0), (1, .int a1), (2, .ref (dA (hA b) a1.toNatClampNeg))]) dX10_turnsOf_8 rfl (Nat.le_of_ble_eq_true rfl) rfl ?_
    refine g_aload_n (pc := 9) dX10_turnsOf_9 rfl 2 rfl ?_
    refine g_ifnonnullR (pc := 10) (tgt := 20) dX10_turnsOf_10 (by decide) ?_
    refine g_aload_n (pc := 20) dX10_turnsOf_20 rfl 0 rfl ?_
    refine g_getR (pc := 21) (a := 0) (b := 55) dX10_turnsOf_21 rfl fX10_36 rfl (rc_0_4 hR) ?_
    refine g_aload_n (pc := 24) dX10_turnsOf_24 rfl 2 rfl ?_
    refine g_getR (pc := 25) (a := (dA (hA b) a1.toNatClampNeg)) (b := (dA (hA b) a1.toNatClampNeg + 2)) dX10_turnsOf_25 rfl fX10_118 (sh_d b (lt5 qd1.1 qd1.2.2)) (rd_4 hR b (lt5 qd1.1 qd1.2.2)) ?_
    refine g_callV (pc := 28) (M' := mX7_copy) (n := 1) (a := 55) (as := [.ref (dA (hA b) a1.toNatClampNeg + 2)]) (st := []) dX10_turnsOf_28 rfl kX10_198 vX7_copy (Nat.le_of_ble_eq_true rfl) rfl qX7 rfl rfl (Nat.le_of_ble_eq_true rfl) ?_
    refine zX7_copy (t := 55) (a1 := (dA (hA b) a1.toNatClampNeg + 2)) (w := w) (b := b) (hR := hR) (ht := rfl) (ha1 := (sh_dn b (lt5 qd1.1 qd1.2.2))) ?_
    show Go SC mX10_turnsOf 31 [(0, .ref 0), (1, .int a1), (2, .ref (dA (hA b) a1.toNatClampNeg))] [] (wXX7_copy 55 (dA (hA b) a1.toNatClampNeg + 2) w) Q
    refine g_iconst (pc := 31) dX10_turnsOf_31 c_0 ?_
    refine g_istore_n (pc := 32) (lv2 := [(0, .ref 0), (1, .int a1), (2, .ref (dA (hA b) a1.toNatClampNeg)), (3, .int 0)]) dX10_turnsOf_32 rfl (Nat.le_of_ble_eq_true rfl) rfl ?_
    refine g_iconst (pc := 33) dX10_turnsOf_33 c_0 ?_
    refine g_istore (pc := 34) (lv2 := [(0, .ref 0), (1, .int a1), (2, .ref (dA (hA b) a1.toNatClampNeg)), (3, .int 0), (4, .int 0)]) dX10_turnsOf_34 (Nat.le_of_ble_eq_true rfl) rfl ?_
    exact h
  · have h := h.2 qd1
    show Go SC mX10_turnsOf 8 [(0, .ref 0), (1, .int a1)] [.null] w Q
    refine g_astore_nN (pc := 8) (lv2 := [(0, .ref 0), (1, .int a1), (2, .null)]) dX10_turnsOf_8 rfl (Nat.le_of_ble_eq_true rfl) rfl ?_
    refine g_aload_nN (pc := 9) dX10_turnsOf_9 rfl 2 rfl ?_
    refine g_ifnonnullN (pc := 10) dX10_turnsOf_10 ?_
    refine g_aload_n (pc := 13) dX10_turnsOf_13 rfl 0 rfl ?_
    refine g_iconst (pc := 14) dX10_turnsOf_14 c_1 ?_
    refine g_iconst (pc := 15) dX10_turnsOf_15 cN_1 ?_
    refine g_callV (pc := 16) (M' := mX10_refuse) (n := 2) (a := 0) (as := [.int 1, .int (-1)]) (st := []) dX10_turnsOf_16 rfl kX10_83 vX10_refuse (Nat.le_of_ble_eq_true rfl) rfl qX10 rfl rfl (Nat.le_of_ble_eq_true rfl) ?_
    refine zX10_refuse (a1 := 1) (a2 := (-1)) (w := w) (b := b) (hR := hR) ?_
    show Go SC mX10_turnsOf 19 [(0, .ref 0), (1, .int a1), (2, .null)] [.int (vXX10_refuse 1 (-1))] (wXX10_refuse 1 (-1) w) Q
    exact g_iret (pc := 19) dX10_turnsOf_19 rfl h
set_option maxHeartbeats 4000000 in
set_option maxRecDepth 100000 in
theorem BX10_turnsOf_36  (l1 : Int32) (k2 : Nat) (hk2 : k2 < 5) (l3 : Int32) (l4 : Int32) (w : Wd) (b : Bool) (hR : w.2.2 = RTab b) (Q : Option Value → Wd → Prop) (h : ((1000000 ≤ l4 → Q (some (.int (vXX10_accept l3))) (wXX10_accept l3 w)) ∧ (¬ (1000000 ≤ l4) → (((vXX7_isUntied 55 w) = 0 → Go SC mX10_turnsOf 36 [(0, .ref 0), (1, .int l1), (2, .ref (dA (hA b) k2)), (3, .int (if (vXX7_untying 55 w) = 2 then l3 + 1 else l3 : Int32)), (4, .int (l4 + 1))] [] (wXX7_step 55 (vXX7_untying 55 w) w) Q) ∧ (¬ ((vXX7_isUntied 55 w) = 0) → Q (some (.int (vXX10_accept l3))) (wXX10_accept l3 w)))))) : Go SC mX10_turnsOf 36 [(0, .ref 0), (1, .int l1), (2, .ref (dA (hA b) k2)), (3, .int l3), (4, .int l4)] [] w Q := by
  refine g_iload (pc := 36) dX10_turnsOf_36 4 rfl ?_
  refine g_ldc (pc := 38) dX10_turnsOf_38 rfl nX10_193 ?_
  refine g_icmp_ge (pc := 40) (tgt := 86) dX10_turnsOf_40 (by decide) (fun q => ?_) (fun q => ?_)
  · have h := h.1 q
    refine g_aload_n (pc := 86) dX10_turnsOf_86 rfl 0 rfl ?_
    refine g_iload_n (pc := 87) dX10_turnsOf_87 rfl 3 rfl ?_
    refine g_callV (pc := 88) (M' := mX10_accept) (n := 1) (a := 0) (as := [.int l3]) (st := []) dX10_turnsOf_88 rfl kX10_100 vX10_accept (Nat.le_of_ble_eq_true rfl) rfl qX10 rfl rfl (Nat.le_of_ble_eq_true rfl) ?_
    refine zX10_accept (a1 := l3) (w := w) (b := b) (hR := hR) ?_
    show Go SC mX10_turnsOf 91 [(0, .ref 0), (1, .int l1), (2, .ref (dA (hA b) k2)), (3, .int l3), (4, .int l4)] [.int (vXX10_accept l3)] (wXX10_accept l3 w) Q
    exact g_iret (pc := 91) dX10_turnsOf_91 rfl h
  · have h := h.2 q
    refine g_aload_n (pc := 43) dX10_turnsOf_43 rfl 0 rfl ?_
    refine g_getR (pc := 44) (a := 0) (b := 55) dX10_turnsOf_44 rfl fX10_36 rfl (rc_0_4 hR) ?_
    refine g_callV (pc := 47) (M' := mX7_isUntied) (n := 0) (a := 55) (as := []) (st := []) dX10_turnsOf_47 rfl kX10_171 vX7_isUntied (Nat.le_of_ble_eq_true rfl) rfl qX7 rfl rfl (Nat.le_of_ble_eq_true rfl) ?_
    refine zX7_isUntied (t := 55) (w := w) (b := b) (hR := hR) (ht := rfl) ?_
    show Go SC mX10_turnsOf 50 [(0, .ref 0), (1, .int l1), (2, .ref (dA (hA b) k2)), (3, .int l3), (4, .int l4)] [.int (vXX7_isUntied 55 w)] w Q
    refine g_if_ne (pc := 50) (tgt := 86) dX10_turnsOf_50 (by decide) (fun q => ?_) (fun q => ?_)
    · have h := h.2 q
      refine g_aload_n (pc := 86) dX10_turnsOf_86 rfl 0 rfl ?_
      refine g_iload_n (pc := 87) dX10_turnsOf_87 rfl 3 rfl ?_
      refine g_callV (pc := 88) (M' := mX10_accept) (n := 1) (a := 0) (as := [.int l3]) (st := []) dX10_turnsOf_88 rfl kX10_100 vX10_accept (Nat.le_of_ble_eq_true rfl) rfl qX10 rfl rfl (Nat.le_of_ble_eq_true rfl) ?_
      refine zX10_accept (a1 := l3) (w := w) (b := b) (hR := hR) ?_
      show Go SC mX10_turnsOf 91 [(0, .ref 0), (1, .int l1), (2, .ref (dA (hA b) k2)), (3, .int l3), (4, .int l4)] [.int (vXX10_accept l3)] (wXX10_accept l3 w) Q
      exact g_iret (pc := 91) dX10_turnsOf_91 rfl h
    · have h := h.1 q
      refine g_aload_n (pc := 53) dX10_turnsOf_53 rfl 0 rfl ?_
      refine g_getR (pc := 54) (a := 0) (b := 55) dX10_turnsOf_54 rfl fX10_36 rfl (rc_0_4 hR) ?_
      refine g_callV (pc := 57) (M' := mX7_untying) (n := 0) (a := 55) (as := []) (st := []) dX10_turnsOf_57 rfl kX10_202 vX7_untying (Nat.le_of_ble_eq_true rfl) rfl qX7 rfl rfl (Nat.le_of_ble_eq_true rfl) ?_
      refine zX7_untying (t := 55) (w := w) (b := b) (hR := hR) (ht := rfl) ?_
      show Go SC mX10_turnsOf 60 [(0, .ref 0), (1, .int l1), (2, .ref (dA (hA b) k2)), (3, .int l3), (4, .int l4)] [.int (vXX7_untying 55 w)] w Q
      refine g_istore (pc := 60) (lv2 := [(0, .ref 0), (1, .int l1), (2, .ref (dA (hA b) k2)), (3, .int l3), (4, .int l4), (5, .int (vXX7_untying 55 w))]) dX10_turnsOf_60 (Nat.le_of_ble_eq_true rfl) rfl ?_
      refine g_iload (pc := 62) dX10_turnsOf_62 5 rfl ?_
      refine g_iconst (pc := 64) dX10_turnsOf_64 c_2 ?_
      have hJ : Go SC mX10_turnsOf 71 [(0, .ref 0), (1, .int l1), (2, .ref (dA (hA b) k2)), (3, .int (if (vXX7_untying 55 w) = 2 then l3 + 1 else l3 : Int32)), (4, .int l4), (5, .int (vXX7_untying 55 w))] [] w Q := by
        refine g_aload_n (pc := 71) dX10_turnsOf_71 rfl 0 rfl ?_
        refine g_getR (pc := 72) (a := 0) (b := 55) dX10_turnsOf_72 rfl fX10_36 rfl (rc_0_4 hR) ?_
        refine g_iload (pc := 75) dX10_turnsOf_75 5 rfl ?_
        refine g_callV (pc := 77) (M' := mX7_step) (n := 1) (a := 55) (as := [.int (vXX7_untying 55 w)]) (st := []) dX10_turnsOf_77 rfl kX10_205 vX7_step (Nat.le_of_ble_eq_true rfl) rfl qX7 rfl rfl (Nat.le_of_ble_eq_true rfl) ?_
        refine zX7_step (t := 55) (a1 := (vXX7_untying 55 w)) (w := w) (b := b) (hR := hR) (ht := rfl) ?_
        show Go SC mX10_turnsOf 80 [(0, .ref 0), (1, .int l1), (2, .ref (dA (hA b) k2)), (3, .int (if (vXX7_untying 55 w) = 2 then l3 + 1 else l3 : Int32)), (4, .int l4), (5, .int (vXX7_untying 55 w))] [] (wXX7_step 55 (vXX7_untying 55 w) w) Q
        refine g_iinc (pc := 80) (v := l4 + 1) (lv2 := [(0, .ref 0), (1, .int l1), (2, .ref (dA (hA b) k2)), (3, .int (if (vXX7_untying 55 w) = 2 then l3 + 1 else l3 : Int32)), (4, .int (l4 + 1)), (5, .int (vXX7_untying 55 w))]) dX10_turnsOf_80 4 rfl (Nat.le_of_ble_eq_true rfl) rfl rfl ?_
        refine g_goto (pc := 83) (tgt := 36) dX10_turnsOf_83 (by decide) ?_
        refine g_sub (lv2 := [(0, .ref 0), (1, .int l1), (2, .ref (dA (hA b) k2)), (3, .int (if (vXX7_untying 55 w) = 2 then l3 + 1 else l3 : Int32)), (4, .int (l4 + 1))]) [0, 1, 2, 3, 4] rfl ?_
        exact h
      refine g_icmp_ne (pc := 65) (tgt := 71) dX10_turnsOf_65 (by decide) (fun q65 => ?_) (fun q65 => ?_)
      · first | (exfalso; contradiction) | exact cast (by simp only [if_neg q65]) hJ
      · refine g_iinc (pc := 68) (v := l3 + 1) (lv2 := [(0, .ref 0), (1, .int l1), (2, .ref (dA (hA b) k2)), (3, .int (l3 + 1)), (4, .int l4), (5, .int (vXX7_untying 55 w))]) dX10_turnsOf_68 3 rfl (Nat.le_of_ble_eq_true rfl) rfl rfl ?_
        first | (exfalso; contradiction) | exact cast (by simp only [if_pos q65]) hJ
set_option maxHeartbeats 4000000 in
set_option maxRecDepth 100000 in
theorem TX10_untieAt (a1 : Int32) (a2 : Int32) (w : Wd) (b : Bool) (hR : w.2.2 = RTab b) (Q : Option Value → Wd → Prop) (h : ((0 ≤ a1 ∧ a1 < wi w (hA b) 2 ∧ a1 < 5 → ((a2 < 0 → Q (some (.int (vXX10_refuse 1 (-1)))) (wXX10_refuse 1 (-1) w)) ∧ (¬ (a2 < 0) → ClI SC mX10_untieBy [.ref 0, .ref (dA (hA b) a1.toNatClampNeg), .int a2] w (fun x3 w2 => w2.2.2 = RTab b ∧ ((x3 < a2 → Q (some (.int (vXX10_refuse 1 (-1)))) (wXX10_refuse 1 (-1) w2)) ∧ (¬ (x3 < a2) → (((vXX7_isUntied 55 w2) = 0 → Q (some (.int (vXX10_accept (vXX7_untying 55 w2)))) (wXX10_accept (vXX7_untying 55 w2) w2)) ∧ (¬ ((vXX7_isUntied 55 w2) = 0) → Q (some (.int (vXX10_refuse 1 (-1)))) (wXX10_refuse 1 (-1) w2))))))))) ∧ (¬ (0 ≤ a1 ∧ a1 < wi w (hA b) 2 ∧ a1 < 5) → Q (some (.int (vXX10_refuse 1 (-1)))) (wXX10_refuse 1 (-1) w)))) : Cl SC mX10_untieAt [.ref 0, .int a1, .int a2] w Q := by
  refine cl_of (by decide) (Nat.le_of_ble_eq_true rfl) ?_
  show Go SC mX10_untieAt 0 [(0, .ref 0), (1, .int a1), (2, .int a2)] [] w Q
  refine g_aload_n (pc := 0) dX10_untieAt_0 rfl 0 rfl ?_
  refine g_getR (pc := 1) (a := 0) (b := (hA b)) dX10_untieAt_1 rfl fX10_19 rfl (rc_0_1 hR) ?_
  refine g_iload_n (pc := 4) dX10_untieAt_4 rfl 1 rfl ?_
  refine g_callV (pc := 5) (M' := mX2_danceAt) (n := 1) (a := (hA b)) (as := [.int a1]) (st := []) dX10_untieAt_5 rfl kX10_113 vX2_danceAt (Nat.le_of_ble_eq_true rfl) (sh_h b) qX2 rfl rfl (Nat.le_of_ble_eq_true rfl) ?_
  refine h_danceAt (c := b) (d := a1) (w := w) (hR := hR) (fun qd1 => ?_) (fun qd1 => ?_)
  · have h := h.1 qd1
    show Go SC mX10_untieAt 8 [(0, .ref 0), (1, .int a1), (2, .int a2)] [.ref (dA (hA b) a1.toNatClampNeg)] w Q
    refine g_astore_n (pc := 8) (lv2 := [(0, .ref 0), (1, .int a1), (2, .int a2), (3, .ref (dA (hA b) a1.toNatClampNeg))]) dX10_untieAt_8 rfl (Nat.le_of_ble_eq_true rfl) rfl ?_
    refine g_aload_n (pc := 9) dX10_untieAt_9 rfl 3 rfl ?_
    refine g_ifnullR (pc := 10) dX10_untieAt_10 ?_
    refine g_iload_n (pc := 13) dX10_untieAt_13 rfl 2 rfl ?_
    refine g_if_lt (pc := 14) (tgt := 37) dX10_untieAt_14 (by decide) (fun q => ?_) (fun q => ?_)
    · have h := h.1 q
      refine g_aload_n (pc := 37) dX10_untieAt_37 rfl 0 rfl ?_
      refine g_iconst (pc := 38) dX10_untieAt_38 c_1 ?_
      refine g_iconst (pc := 39) dX10_untieAt_39 cN_1 ?_
      refine g_callV (pc := 40) (M' := mX10_refuse) (n := 2) (a := 0) (as := [.int 1, .int (-1)]) (st := []) dX10_untieAt_40 rfl kX10_83 vX10_refuse (Nat.le_of_ble_eq_true rfl) rfl qX10 rfl rfl (Nat.le_of_ble_eq_true rfl) ?_
      refine zX10_refuse (a1 := 1) (a2 := (-1)) (w := w) (b := b) (hR := hR) ?_
      show Go SC mX10_untieAt 43 [(0, .ref 0), (1, .int a1), (2, .int a2), (3, .ref (dA (hA b) a1.toNatClampNeg))] [.int (vXX10_refuse 1 (-1))] (wXX10_refuse 1 (-1) w) Q
      exact g_iret (pc := 43) dX10_untieAt_43 rfl h
    · have h := h.2 q
      refine g_aload_n (pc := 17) dX10_untieAt_17 rfl 0 rfl ?_
      refine g_aload_n (pc := 18) dX10_untieAt_18 rfl 3 rfl ?_
      refine g_iload_n (pc := 19) dX10_untieAt_19 rfl 2 rfl ?_
      refine g_callV (pc := 20) (M' := mX10_untieBy) (n := 2) (a := 0) (as := [.ref (dA (hA b) a1.toNatClampNeg), .int a2]) (st := []) dX10_untieAt_20 rfl kX10_194 vX10_untieBy (Nat.le_of_ble_eq_true rfl) rfl qX10 rfl rfl (Nat.le_of_ble_eq_true rfl) ?_
      refine cl_mono (fun r w2 hr => ?_) h
      obtain ⟨x3, rfl, hw2, h⟩ := hr
      show Go SC mX10_untieAt 23 [(0, .ref 0), (1, .int a1), (2, .int a2), (3, .ref (dA (hA b) a1.toNatClampNeg))] [.int x3] w2 Q
      refine g_iload_n (pc := 23) dX10_untieAt_23 rfl 2 rfl ?_
      refine g_icmp_lt (pc := 24) (tgt := 37) dX10_untieAt_24 (by decide) (fun q => ?_) (fun q => ?_)
      · have h := h.1 q
        refine g_aload_n (pc := 37) dX10_untieAt_37 rfl 0 rfl ?_
        refine g_iconst (pc := 38) dX10_untieAt_38 c_1 ?_
        refine g_iconst (pc := 39) dX10_untieAt_39 cN_1 ?_
        refine g_callV (pc := 40) (M' := mX10_refuse) (n := 2) (a := 0) (as := [.int 1, .int (-1)]) (st := []) dX10_untieAt_40 rfl kX10_83 vX10_refuse (Nat.le_of_ble_eq_true rfl) rfl qX10 rfl rfl (Nat.le_of_ble_eq_true rfl) ?_
        refine zX10_refuse (a1 := 1) (a2 := (-1)) (w := w2) (b := b) (hR := hw2) ?_
        show Go SC mX10_untieAt 43 [(0, .ref 0), (1, .int a1), (2, .int a2), (3, .ref (dA (hA b) a1.toNatClampNeg))] [.int (vXX10_refuse 1 (-1))] (wXX10_refuse 1 (-1) w2) Q
        exact g_iret (pc := 43) dX10_untieAt_43 rfl h
      · have h := h.2 q
        refine g_aload_n (pc := 27) dX10_untieAt_27 rfl 0 rfl ?_
        refine g_getR (pc := 28) (a := 0) (b := 55) dX10_untieAt_28 rfl fX10_36 rfl (rc_0_4 hw2) ?_
        refine g_callV (pc := 31) (M' := mX7_isUntied) (n := 0) (a := 55) (as := []) (st := []) dX10_untieAt_31 rfl kX10_171 vX7_isUntied (Nat.le_of_ble_eq_true rfl) rfl qX7 rfl rfl (Nat.le_of_ble_eq_true rfl) ?_
        refine zX7_isUntied (t := 55) (w := w2) (b := b) (hR := hw2) (ht := rfl) ?_
        show Go SC mX10_untieAt 34 [(0, .ref 0), (1, .int a1), (2, .int a2), (3, .ref (dA (hA b) a1.toNatClampNeg))] [.int (vXX7_isUntied 55 w2)] w2 Q
        refine g_if_eq (pc := 34) (tgt := 44) dX10_untieAt_34 (by decide) (fun q => ?_) (fun q => ?_)
        · have h := h.1 q
          refine g_aload_n (pc := 44) dX10_untieAt_44 rfl 0 rfl ?_
          refine g_aload_n (pc := 45) dX10_untieAt_45 rfl 0 rfl ?_
          refine g_getR (pc := 46) (a := 0) (b := 55) dX10_untieAt_46 rfl fX10_36 rfl (rc_0_4 hw2) ?_
          refine g_callV (pc := 49) (M' := mX7_untying) (n := 0) (a := 55) (as := []) (st := [.ref 0]) dX10_untieAt_49 rfl kX10_202 vX7_untying (Nat.le_of_ble_eq_true rfl) rfl qX7 rfl rfl (Nat.le_of_ble_eq_true rfl) ?_
          refine zX7_untying (t := 55) (w := w2) (b := b) (hR := hw2) (ht := rfl) ?_
          show Go SC mX10_untieAt 52 [(0, .ref 0), (1, .int a1), (2, .int a2), (3, .ref (dA (hA b) a1.toNatClampNeg))] [.int (vXX7_untying 55 w2), .ref 0] w2 Q
          refine g_callV (pc := 52) (M' := mX10_accept) (n := 1) (a := 0) (as := [.int (vXX7_untying 55 w2)]) (st := []) dX10_untieAt_52 rfl kX10_100 vX10_accept (Nat.le_of_ble_eq_true rfl) rfl qX10 rfl rfl (Nat.le_of_ble_eq_true rfl) ?_
          refine zX10_accept (a1 := (vXX7_untying 55 w2)) (w := w2) (b := b) (hR := hw2) ?_
          show Go SC mX10_untieAt 55 [(0, .ref 0), (1, .int a1), (2, .int a2), (3, .ref (dA (hA b) a1.toNatClampNeg))] [.int (vXX10_accept (vXX7_untying 55 w2))] (wXX10_accept (vXX7_untying 55 w2) w2) Q
          exact g_iret (pc := 55) dX10_untieAt_55 rfl h
        · have h := h.2 q
          refine g_aload_n (pc := 37) dX10_untieAt_37 rfl 0 rfl ?_
          refine g_iconst (pc := 38) dX10_untieAt_38 c_1 ?_
          refine g_iconst (pc := 39) dX10_untieAt_39 cN_1 ?_
          refine g_callV (pc := 40) (M' := mX10_refuse) (n := 2) (a := 0) (as := [.int 1, .int (-1)]) (st := []) dX10_untieAt_40 rfl kX10_83 vX10_refuse (Nat.le_of_ble_eq_true rfl) rfl qX10 rfl rfl (Nat.le_of_ble_eq_true rfl) ?_
          refine zX10_refuse (a1 := 1) (a2 := (-1)) (w := w2) (b := b) (hR := hw2) ?_
          show Go SC mX10_untieAt 43 [(0, .ref 0), (1, .int a1), (2, .int a2), (3, .ref (dA (hA b) a1.toNatClampNeg))] [.int (vXX10_refuse 1 (-1))] (wXX10_refuse 1 (-1) w2) Q
          exact g_iret (pc := 43) dX10_untieAt_43 rfl h
  · have h := h.2 qd1
    show Go SC mX10_untieAt 8 [(0, .ref 0), (1, .int a1), (2, .int a2)] [.null] w Q
    refine g_astore_nN (pc := 8) (lv2 := [(0, .ref 0), (1, .int a1), (2, .int a2), (3, .null)]) dX10_untieAt_8 rfl (Nat.le_of_ble_eq_true rfl) rfl ?_
    refine g_aload_nN (pc := 9) dX10_untieAt_9 rfl 3 rfl ?_
    refine g_ifnullN (pc := 10) (tgt := 37) dX10_untieAt_10 (by decide) ?_
    refine g_aload_n (pc := 37) dX10_untieAt_37 rfl 0 rfl ?_
    refine g_iconst (pc := 38) dX10_untieAt_38 c_1 ?_
    refine g_iconst (pc := 39) dX10_untieAt_39 cN_1 ?_
    refine g_callV (pc := 40) (M' := mX10_refuse) (n := 2) (a := 0) (as := [.int 1, .int (-1)]) (st := []) dX10_untieAt_40 rfl kX10_83 vX10_refuse (Nat.le_of_ble_eq_true rfl) rfl qX10 rfl rfl (Nat.le_of_ble_eq_true rfl) ?_
    refine zX10_refuse (a1 := 1) (a2 := (-1)) (w := w) (b := b) (hR := hR) ?_
    show Go SC mX10_untieAt 43 [(0, .ref 0), (1, .int a1), (2, .int a2), (3, .null)] [.int (vXX10_refuse 1 (-1))] (wXX10_refuse 1 (-1) w) Q
    exact g_iret (pc := 43) dX10_untieAt_43 rfl h
set_option maxHeartbeats 4000000 in
set_option maxRecDepth 100000 in
theorem TX10_widest (a1 : Int32) (w : Wd) (b : Bool) (hR : w.2.2 = RTab b) (Q : Option Value → Wd → Prop) (h : ((0 ≤ a1 ∧ a1 < wi w (hA b) 2 ∧ a1 < 5 → Go SC mX10_widest 42 [(0, .ref 0), (1, .int a1), (2, .ref (dA (hA b) a1.toNatClampNeg)), (3, .int (wi (wXX7_copy 55 (dA (hA b) a1.toNatClampNeg + 2) w) 55 1)), (4, .int 0)] [] (wXX7_copy 55 (dA (hA b) a1.toNatClampNeg + 2) w) Q) ∧ (¬ (0 ≤ a1 ∧ a1 < wi w (hA b) 2 ∧ a1 < 5) → Q (some (.int (vXX10_refuse 1 (-1)))) (wXX10_refuse 1 (-1) w)))) : Cl SC mX10_widest [.ref 0, .int a1] w Q := by
  refine cl_of (by decide) (Nat.le_of_ble_eq_true rfl) ?_
  show Go SC mX10_widest 0 [(0, .ref 0), (1, .int a1)] [] w Q
  refine g_aload_n (pc := 0) dX10_widest_0 rfl 0 rfl ?_
  refine g_getR (pc := 1) (a := 0) (b := (hA b)) dX10_widest_1 rfl fX10_19 rfl (rc_0_1 hR) ?_
  refine g_iload_n (pc := 4) dX10_widest_4 rfl 1 rfl ?_
  refine g_callV (pc := 5) (M' := mX2_danceAt) (n := 1) (a := (hA b)) (as := [.int a1]) (st := []) dX10_widest_5 rfl kX10_113 vX2_danceAt (Nat.le_of_ble_eq_true rfl) (sh_h b) qX2 rfl rfl (Nat.le_of_ble_eq_true rfl) ?_
  refine h_danceAt (c := b) (d := a1) (w := w) (hR := hR) (fun qd1 => ?_) (fun qd1 => ?_)
  · have h := h.1 qd1
    show Go SC mX10_widest 8 [(0, .ref 0), (1, .int a1)] [.ref (dA (hA b) a1.toNatClampNeg)] w Q
    refine g_astore_n (pc := 8) (lv2 := [(0, .ref 0), (1, .int a1), (2, .ref (dA (hA b) a1.toNatClampNeg))]) dX10_widest_8 rfl (Nat.le_of_ble_eq_true rfl) rfl ?_
    refine g_aload_n (pc := 9) dX10_widest_9 rfl 2 rfl ?_
    refine g_ifnonnullR (pc := 10) (tgt := 20) dX10_widest_10 (by decide) ?_
    refine g_aload_n (pc := 20) dX10_widest_20 rfl 0 rfl ?_
    refine g_getR (pc := 21) (a := 0) (b := 55) dX10_widest_21 rfl fX10_36 rfl (rc_0_4 hR) ?_
    refine g_aload_n (pc := 24) dX10_widest_24 rfl 2 rfl ?_
    refine g_getR (pc := 25) (a := (dA (hA b) a1.toNatClampNeg)) (b := (dA (hA b) a1.toNatClampNeg + 2)) dX10_widest_25 rfl fX10_118 (sh_d b (lt5 qd1.1 qd1.2.2)) (rd_4 hR b (lt5 qd1.1 qd1.2.2)) ?_
    refine g_callV (pc := 28) (M' := mX7_copy) (n := 1) (a := 55) (as := [.ref (dA (hA b) a1.toNatClampNeg + 2)]) (st := []) dX10_widest_28 rfl kX10_198 vX7_copy (Nat.le_of_ble_eq_true rfl) rfl qX7 rfl rfl (Nat.le_of_ble_eq_true rfl) ?_
    refine zX7_copy (t := 55) (a1 := (dA (hA b) a1.toNatClampNeg + 2)) (w := w) (b := b) (hR := hR) (ht := rfl) (ha1 := (sh_dn b (lt5 qd1.1 qd1.2.2))) ?_
    show Go SC mX10_widest 31 [(0, .ref 0), (1, .int a1), (2, .ref (dA (hA b) a1.toNatClampNeg))] [] (wXX7_copy 55 (dA (hA b) a1.toNatClampNeg + 2) w) Q
    refine g_aload_n (pc := 31) dX10_widest_31 rfl 0 rfl ?_
    refine g_getR (pc := 32) (a := 0) (b := 55) dX10_widest_32 rfl fX10_36 rfl (rc_0_4 hR) ?_
    refine g_getI (pc := 35) (a := 55) dX10_widest_35 rfl fX10_126 rfl ?_
    refine g_istore_n (pc := 38) (lv2 := [(0, .ref 0), (1, .int a1), (2, .ref (dA (hA b) a1.toNatClampNeg)), (3, .int (wi (wXX7_copy 55 (dA (hA b) a1.toNatClampNeg + 2) w) 55 1))]) dX10_widest_38 rfl (Nat.le_of_ble_eq_true rfl) rfl ?_
    refine g_iconst (pc := 39) dX10_widest_39 c_0 ?_
    refine g_istore (pc := 40) (lv2 := [(0, .ref 0), (1, .int a1), (2, .ref (dA (hA b) a1.toNatClampNeg)), (3, .int (wi (wXX7_copy 55 (dA (hA b) a1.toNatClampNeg + 2) w) 55 1)), (4, .int 0)]) dX10_widest_40 (Nat.le_of_ble_eq_true rfl) rfl ?_
    exact h
  · have h := h.2 qd1
    show Go SC mX10_widest 8 [(0, .ref 0), (1, .int a1)] [.null] w Q
    refine g_astore_nN (pc := 8) (lv2 := [(0, .ref 0), (1, .int a1), (2, .null)]) dX10_widest_8 rfl (Nat.le_of_ble_eq_true rfl) rfl ?_
    refine g_aload_nN (pc := 9) dX10_widest_9 rfl 2 rfl ?_
    refine g_ifnonnullN (pc := 10) dX10_widest_10 ?_
    refine g_aload_n (pc := 13) dX10_widest_13 rfl 0 rfl ?_
    refine g_iconst (pc := 14) dX10_widest_14 c_1 ?_
    refine g_iconst (pc := 15) dX10_widest_15 cN_1 ?_
    refine g_callV (pc := 16) (M' := mX10_refuse) (n := 2) (a := 0) (as := [.int 1, .int (-1)]) (st := []) dX10_widest_16 rfl kX10_83 vX10_refuse (Nat.le_of_ble_eq_true rfl) rfl qX10 rfl rfl (Nat.le_of_ble_eq_true rfl) ?_
    refine zX10_refuse (a1 := 1) (a2 := (-1)) (w := w) (b := b) (hR := hR) ?_
    show Go SC mX10_widest 19 [(0, .ref 0), (1, .int a1), (2, .null)] [.int (vXX10_refuse 1 (-1))] (wXX10_refuse 1 (-1) w) Q
    exact g_iret (pc := 19) dX10_widest_19 rfl h
set_option maxHeartbeats 4000000 in
set_option maxRecDepth 100000 in
theorem BX10_widest_42  (l1 : Int32) (k2 : Nat) (hk2 : k2 < 5) (l3 : Int32) (l4 : Int32) (w : Wd) (b : Bool) (hR : w.2.2 = RTab b) (Q : Option Value → Wd → Prop) (h : ((1000000 ≤ l4 → Q (some (.int (vXX10_accept l3))) (wXX10_accept l3 w)) ∧ (¬ (1000000 ≤ l4) → (((vXX7_isUntied 55 w) = 0 → Go SC mX10_widest 42 [(0, .ref 0), (1, .int l1), (2, .ref (dA (hA b) k2)), (3, .int (vXJ9_max_7cf53 l3 (wi (wXX7_step 55 (vXX7_untying 55 w) w) 55 1))), (4, .int (l4 + 1))] [] (wXX7_step 55 (vXX7_untying 55 w) w) Q) ∧ (¬ ((vXX7_isUntied 55 w) = 0) → Q (some (.int (vXX10_accept l3))) (wXX10_accept l3 w)))))) : Go SC mX10_widest 42 [(0, .ref 0), (1, .int l1), (2, .ref (dA (hA b) k2)), (3, .int l3), (4, .int l4)] [] w Q := by
  refine g_iload (pc := 42) dX10_widest_42 4 rfl ?_
  refine g_ldc (pc := 44) dX10_widest_44 rfl nX10_193 ?_
  refine g_icmp_ge (pc := 46) (tgt := 91) dX10_widest_46 (by decide) (fun q => ?_) (fun q => ?_)
  · have h := h.1 q
    refine g_aload_n (pc := 91) dX10_widest_91 rfl 0 rfl ?_
    refine g_iload_n (pc := 92) dX10_widest_92 rfl 3 rfl ?_
    refine g_callV (pc := 93) (M' := mX10_accept) (n := 1) (a := 0) (as := [.int l3]) (st := []) dX10_widest_93 rfl kX10_100 vX10_accept (Nat.le_of_ble_eq_true rfl) rfl qX10 rfl rfl (Nat.le_of_ble_eq_true rfl) ?_
    refine zX10_accept (a1 := l3) (w := w) (b := b) (hR := hR) ?_
    show Go SC mX10_widest 96 [(0, .ref 0), (1, .int l1), (2, .ref (dA (hA b) k2)), (3, .int l3), (4, .int l4)] [.int (vXX10_accept l3)] (wXX10_accept l3 w) Q
    exact g_iret (pc := 96) dX10_widest_96 rfl h
  · have h := h.2 q
    refine g_aload_n (pc := 49) dX10_widest_49 rfl 0 rfl ?_
    refine g_getR (pc := 50) (a := 0) (b := 55) dX10_widest_50 rfl fX10_36 rfl (rc_0_4 hR) ?_
    refine g_callV (pc := 53) (M' := mX7_isUntied) (n := 0) (a := 55) (as := []) (st := []) dX10_widest_53 rfl kX10_171 vX7_isUntied (Nat.le_of_ble_eq_true rfl) rfl qX7 rfl rfl (Nat.le_of_ble_eq_true rfl) ?_
    refine zX7_isUntied (t := 55) (w := w) (b := b) (hR := hR) (ht := rfl) ?_
    show Go SC mX10_widest 56 [(0, .ref 0), (1, .int l1), (2, .ref (dA (hA b) k2)), (3, .int l3), (4, .int l4)] [.int (vXX7_isUntied 55 w)] w Q
    refine g_if_ne (pc := 56) (tgt := 91) dX10_widest_56 (by decide) (fun q => ?_) (fun q => ?_)
    · have h := h.2 q
      refine g_aload_n (pc := 91) dX10_widest_91 rfl 0 rfl ?_
      refine g_iload_n (pc := 92) dX10_widest_92 rfl 3 rfl ?_
      refine g_callV (pc := 93) (M' := mX10_accept) (n := 1) (a := 0) (as := [.int l3]) (st := []) dX10_widest_93 rfl kX10_100 vX10_accept (Nat.le_of_ble_eq_true rfl) rfl qX10 rfl rfl (Nat.le_of_ble_eq_true rfl) ?_
      refine zX10_accept (a1 := l3) (w := w) (b := b) (hR := hR) ?_
      show Go SC mX10_widest 96 [(0, .ref 0), (1, .int l1), (2, .ref (dA (hA b) k2)), (3, .int l3), (4, .int l4)] [.int (vXX10_accept l3)] (wXX10_accept l3 w) Q
      exact g_iret (pc := 96) dX10_widest_96 rfl h
    · have h := h.1 q
      refine g_aload_n (pc := 59) dX10_widest_59 rfl 0 rfl ?_
      refine g_getR (pc := 60) (a := 0) (b := 55) dX10_widest_60 rfl fX10_36 rfl (rc_0_4 hR) ?_
      refine g_aload_n (pc := 63) dX10_widest_63 rfl 0 rfl ?_
      refine g_getR (pc := 64) (a := 0) (b := 55) dX10_widest_64 rfl fX10_36 rfl (rc_0_4 hR) ?_
      refine g_callV (pc := 67) (M' := mX7_untying) (n := 0) (a := 55) (as := []) (st := [.ref 55]) dX10_widest_67 rfl kX10_202 vX7_untying (Nat.le_of_ble_eq_true rfl) rfl qX7 rfl rfl (Nat.le_of_ble_eq_true rfl) ?_
      refine zX7_untying (t := 55) (w := w) (b := b) (hR := hR) (ht := rfl) ?_
      show Go SC mX10_widest 70 [(0, .ref 0), (1, .int l1), (2, .ref (dA (hA b) k2)), (3, .int l3), (4, .int l4)] [.int (vXX7_untying 55 w), .ref 55] w Q
      refine g_callV (pc := 70) (M' := mX7_step) (n := 1) (a := 55) (as := [.int (vXX7_untying 55 w)]) (st := []) dX10_widest_70 rfl kX10_205 vX7_step (Nat.le_of_ble_eq_true rfl) rfl qX7 rfl rfl (Nat.le_of_ble_eq_true rfl) ?_
      refine zX7_step (t := 55) (a1 := (vXX7_untying 55 w)) (w := w) (b := b) (hR := hR) (ht := rfl) ?_
      show Go SC mX10_widest 73 [(0, .ref 0), (1, .int l1), (2, .ref (dA (hA b) k2)), (3, .int l3), (4, .int l4)] [] (wXX7_step 55 (vXX7_untying 55 w) w) Q
      refine g_iload_n (pc := 73) dX10_widest_73 rfl 3 rfl ?_
      refine g_aload_n (pc := 74) dX10_widest_74 rfl 0 rfl ?_
      refine g_getR (pc := 75) (a := 0) (b := 55) dX10_widest_75 rfl fX10_36 rfl (rc_0_4 hR) ?_
      refine g_getI (pc := 78) (a := 55) dX10_widest_78 rfl fX10_126 rfl ?_
      refine g_callS (pc := 81) (M' := mJ9_max_7cf53) (n := 2) (as := [.int l3, .int (wi (wXX7_step 55 (vXX7_untying 55 w) w) 55 1)]) (st := []) dX10_widest_81 rfl kX10_208 sJ9_max_7cf53 (Nat.le_of_ble_eq_true rfl) rfl rfl (Nat.le_of_ble_eq_true rfl) ?_
      refine zJ9_max_7cf53 (a1 := l3) (a2 := (wi (wXX7_step 55 (vXX7_untying 55 w) w) 55 1)) (w := wXX7_step 55 (vXX7_untying 55 w) w) (b := b) (hR := hR) ?_
      show Go SC mX10_widest 84 [(0, .ref 0), (1, .int l1), (2, .ref (dA (hA b) k2)), (3, .int l3), (4, .int l4)] [.int (vXJ9_max_7cf53 l3 (wi (wXX7_step 55 (vXX7_untying 55 w) w) 55 1))] (wXX7_step 55 (vXX7_untying 55 w) w) Q
      refine g_istore_n (pc := 84) (lv2 := [(0, .ref 0), (1, .int l1), (2, .ref (dA (hA b) k2)), (3, .int (vXJ9_max_7cf53 l3 (wi (wXX7_step 55 (vXX7_untying 55 w) w) 55 1))), (4, .int l4)]) dX10_widest_84 rfl (Nat.le_of_ble_eq_true rfl) rfl ?_
      refine g_iinc (pc := 85) (v := l4 + 1) (lv2 := [(0, .ref 0), (1, .int l1), (2, .ref (dA (hA b) k2)), (3, .int (vXJ9_max_7cf53 l3 (wi (wXX7_step 55 (vXX7_untying 55 w) w) 55 1))), (4, .int (l4 + 1))]) dX10_widest_85 4 rfl (Nat.le_of_ble_eq_true rfl) rfl rfl ?_
      refine g_goto (pc := 88) (tgt := 42) dX10_widest_88 (by decide) ?_
      exact h
set_option maxHeartbeats 4000000 in
set_option maxRecDepth 100000 in
theorem TX10_digits (a1 : Int32) (w : Wd) (b : Bool) (hR : w.2.2 = RTab b) (Q : Option Value → Wd → Prop) (h : Go SC mX10_digits 4 [(0, .int a1), (1, .int 0), (2, .int a1)] [] w Q) : Cl SC mX10_digits [.int a1] w Q := by
  refine cl_of (by decide) (Nat.le_of_ble_eq_true rfl) ?_
  show Go SC mX10_digits 0 [(0, .int a1)] [] w Q
  refine g_iconst (pc := 0) dX10_digits_0 c_0 ?_
  refine g_istore_n (pc := 1) (lv2 := [(0, .int a1), (1, .int 0)]) dX10_digits_1 rfl (Nat.le_of_ble_eq_true rfl) rfl ?_
  refine g_iload_n (pc := 2) dX10_digits_2 rfl 0 rfl ?_
  refine g_istore_n (pc := 3) (lv2 := [(0, .int a1), (1, .int 0), (2, .int a1)]) dX10_digits_3 rfl (Nat.le_of_ble_eq_true rfl) rfl ?_
  exact h
set_option maxHeartbeats 4000000 in
set_option maxRecDepth 100000 in
theorem BX10_digits_4  (l0 : Int32) (l1 : Int32) (l2 : Int32) (w : Wd) (b : Bool) (hR : w.2.2 = RTab b) (Q : Option Value → Wd → Prop) (h : ((l2 ≤ 0 → Q (some (.int l1)) w) ∧ (¬ (l2 ≤ 0) → Go SC mX10_digits 4 [(0, .int l0), (1, .int (l1 + 1)), (2, .int (l2 / 10))] [] w Q))) : Go SC mX10_digits 4 [(0, .int l0), (1, .int l1), (2, .int l2)] [] w Q := by
  refine g_iload_n (pc := 4) dX10_digits_4 rfl 2 rfl ?_
  refine g_if_le (pc := 5) (tgt := 19) dX10_digits_5 (by decide) (fun q => ?_) (fun q => ?_)
  · have h := h.1 q
    refine g_iload_n (pc := 19) dX10_digits_19 rfl 1 rfl ?_
    exact g_iret (pc := 20) dX10_digits_20 rfl h
  · have h := h.2 q
    refine g_iinc (pc := 8) (v := l1 + 1) (lv2 := [(0, .int l0), (1, .int (l1 + 1)), (2, .int l2)]) dX10_digits_8 1 rfl (Nat.le_of_ble_eq_true rfl) rfl rfl ?_
    refine g_iload_n (pc := 11) dX10_digits_11 rfl 2 rfl ?_
    refine g_bipush (pc := 12) (v := 10) dX10_digits_12 (by decide) ?_
    refine g_idiv (pc := 14) dX10_digits_14 (by decide) ?_
    refine g_istore_n (pc := 15) (lv2 := [(0, .int l0), (1, .int (l1 + 1)), (2, .int (l2 / 10))]) dX10_digits_15 rfl (Nat.le_of_ble_eq_true rfl) rfl ?_
    refine g_goto (pc := 16) (tgt := 4) dX10_digits_16 (by decide) ?_
    exact h
set_option maxHeartbeats 4000000 in
set_option maxRecDepth 100000 in
theorem TX10_isFraction (a1 : Int32) (a2 : Int32) (w : Wd) (b : Bool) (hR : w.2.2 = RTab b) (Q : Option Value → Wd → Prop) (h : ((a2 < 0 → Q (some (.int 0)) w) ∧ (¬ (a2 < 0) → (((vXX7_isTooGreat a1 a2) = 0 → ((a2 = 0 → Q (some (.int (if a1 = 1 then 1 else 0 : Int32))) w) ∧ (¬ (a2 = 0) → ClL SC mX10_shared [.long a1.toInt64, .long a2.toInt64] w (fun x2 w1 => w1.2.2 = RTab b ∧ Q (some (.int (if (lg_cmp x2 1) = 0 then 1 else 0 : Int32))) w1)))) ∧ (¬ ((vXX7_isTooGreat a1 a2) = 0) → Q (some (.int 0)) w))))) : Cl SC mX10_isFraction [.int a1, .int a2] w Q := by
  refine cl_of (by decide) (Nat.le_of_ble_eq_true rfl) ?_
  show Go SC mX10_isFraction 0 [(0, .int a1), (1, .int a2)] [] w Q
  refine g_iload_n (pc := 0) dX10_isFraction_0 rfl 1 rfl ?_
  refine g_if_lt (pc := 1) (tgt := 12) dX10_isFraction_1 (by decide) (fun q => ?_) (fun q => ?_)
  · have h := h.1 q
    refine g_iconst (pc := 12) dX10_isFraction_12 c_0 ?_
    exact g_bret (pc := 13) dX10_isFraction_13 rfl (Or.inl rfl) h
  · have h := h.2 q
    refine g_iload_n (pc := 4) dX10_isFraction_4 rfl 0 rfl ?_
    refine g_iload_n (pc := 5) dX10_isFraction_5 rfl 1 rfl ?_
    refine g_callS (pc := 6) (M' := mX7_isTooGreat) (n := 2) (as := [.int a1, .int a2]) (st := []) dX10_isFraction_6 rfl kX10_321 sX7_isTooGreat (Nat.le_of_ble_eq_true rfl) rfl rfl (Nat.le_of_ble_eq_true rfl) ?_
    refine zX7_isTooGreat (a1 := a1) (a2 := a2) (w := w) (b := b) (hR := hR) ?_
    show Go SC mX10_isFraction 9 [(0, .int a1), (1, .int a2)] [.int (vXX7_isTooGreat a1 a2)] w Q
    refine g_if_eq (pc := 9) (tgt := 14) dX10_isFraction_9 (by decide) (fun q => ?_) (fun q => ?_)
    · have h := h.1 q
      refine g_iload_n (pc := 14) dX10_isFraction_14 rfl 1 rfl ?_
      refine g_if_ne (pc := 15) (tgt := 31) dX10_isFraction_15 (by decide) (fun q => ?_) (fun q => ?_)
      · have h := h.2 q
        refine g_iload_n (pc := 31) dX10_isFraction_31 rfl 0 rfl ?_
        refine g_i2l (pc := 32) dX10_isFraction_32 ?_
        refine g_iload_n (pc := 33) dX10_isFraction_33 rfl 1 rfl ?_
        refine g_i2l (pc := 34) dX10_isFraction_34 ?_
        refine g_callS (pc := 35) (M' := mX10_shared) (n := 2) (as := [.long a1.toInt64, .long a2.toInt64]) (st := []) dX10_isFraction_35 rfl kX10_244 sX10_shared (Nat.le_of_ble_eq_true rfl) rfl rfl (Nat.le_of_ble_eq_true rfl) ?_
        refine cl_mono (fun r w1 hr => ?_) h
        obtain ⟨x2, rfl, hw1, h⟩ := hr
        show Go SC mX10_isFraction 38 [(0, .int a1), (1, .int a2)] [.long x2] w1 Q
        refine g_lconst (pc := 38) (v := 1) dX10_isFraction_38 (by decide) ?_
        refine g_lcmp (pc := 39) dX10_isFraction_39 ?_
        have hJ : Go SC mX10_isFraction 48 [(0, .int a1), (1, .int a2)] [.int (if (lg_cmp x2 1) = 0 then 1 else 0 : Int32)] w1 Q := by
          exact g_bret (pc := 48) dX10_isFraction_48 rfl (z_ite (Or.inr rfl) (Or.inl rfl)) h
        refine g_if_ne (pc := 40) (tgt := 47) dX10_isFraction_40 (by decide) (fun q40 => ?_) (fun q40 => ?_)
        · refine g_iconst (pc := 47) dX10_isFraction_47 c_0 ?_
          first | (exfalso; contradiction) | exact cast (by simp only [if_neg q40]) hJ
        · refine g_iconst (pc := 43) dX10_isFraction_43 c_1 ?_
          refine g_goto (pc := 44) (tgt := 48) dX10_isFraction_44 (by decide) ?_
          first | (exfalso; contradiction) | exact cast (by simp only [if_pos q40]) hJ
      · have h := h.1 q
        refine g_iload_n (pc := 18) dX10_isFraction_18 rfl 0 rfl ?_
        refine g_iconst (pc := 19) dX10_isFraction_19 c_1 ?_
        have hJ : Go SC mX10_isFraction 48 [(0, .int a1), (1, .int a2)] [.int (if a1 = 1 then 1 else 0 : Int32)] w Q := by
          exact g_bret (pc := 48) dX10_isFraction_48 rfl (z_ite (Or.inr rfl) (Or.inl rfl)) h
        refine g_icmp_ne (pc := 20) (tgt := 27) dX10_isFraction_20 (by decide) (fun q20 => ?_) (fun q20 => ?_)
        · refine g_iconst (pc := 27) dX10_isFraction_27 c_0 ?_
          refine g_goto (pc := 28) (tgt := 48) dX10_isFraction_28 (by decide) ?_
          first | (exfalso; contradiction) | exact cast (by simp only [if_neg q20]) hJ
        · refine g_iconst (pc := 23) dX10_isFraction_23 c_1 ?_
          refine g_goto (pc := 24) (tgt := 48) dX10_isFraction_24 (by decide) ?_
          first | (exfalso; contradiction) | exact cast (by simp only [if_pos q20]) hJ
    · have h := h.2 q
      refine g_iconst (pc := 12) dX10_isFraction_12 c_0 ?_
      exact g_bret (pc := 13) dX10_isFraction_13 rfl (Or.inl rfl) h
set_option maxHeartbeats 4000000 in
set_option maxRecDepth 100000 in
theorem TX10_goalTrouble (a1 : Int32) (a2 : Int32) (a3 : Int32) (w : Wd) (b : Bool) (hR : w.2.2 = RTab b) (Q : Option Value → Wd → Prop) (h : ((0 ≤ a1 ∧ a1 < wi w (hA b) 2 ∧ a1 < 5 → ClI SC mX10_isFraction [.int a2, .int a3] w (fun x3 w2 => w2.2.2 = RTab b ∧ Q (some (.int (if x3 = 0 then 2 else 0 : Int32))) w2)) ∧ (¬ (0 ≤ a1 ∧ a1 < wi w (hA b) 2 ∧ a1 < 5) → Q (some (.int 1)) w))) : Cl SC mX10_goalTrouble [.ref 0, .int a1, .int a2, .int a3] w Q := by
  refine cl_of (by decide) (Nat.le_of_ble_eq_true rfl) ?_
  show Go SC mX10_goalTrouble 0 [(0, .ref 0), (1, .int a1), (2, .int a2), (3, .int a3)] [] w Q
  refine g_aload_n (pc := 0) dX10_goalTrouble_0 rfl 0 rfl ?_
  refine g_getR (pc := 1) (a := 0) (b := (hA b)) dX10_goalTrouble_1 rfl fX10_19 rfl (rc_0_1 hR) ?_
  refine g_iload_n (pc := 4) dX10_goalTrouble_4 rfl 1 rfl ?_
  refine g_callV (pc := 5) (M' := mX2_danceAt) (n := 1) (a := (hA b)) (as := [.int a1]) (st := []) dX10_goalTrouble_5 rfl kX10_113 vX2_danceAt (Nat.le_of_ble_eq_true rfl) (sh_h b) qX2 rfl rfl (Nat.le_of_ble_eq_true rfl) ?_
  refine h_danceAt (c := b) (d := a1) (w := w) (hR := hR) (fun qd1 => ?_) (fun qd1 => ?_)
  · have h := h.1 qd1
    show Go SC mX10_goalTrouble 8 [(0, .ref 0), (1, .int a1), (2, .int a2), (3, .int a3)] [.ref (dA (hA b) a1.toNatClampNeg)] w Q
    refine g_ifnonnullR (pc := 8) (tgt := 13) dX10_goalTrouble_8 (by decide) ?_
    refine g_iload_n (pc := 13) dX10_goalTrouble_13 rfl 2 rfl ?_
    refine g_iload_n (pc := 14) dX10_goalTrouble_14 rfl 3 rfl ?_
    refine g_callS (pc := 15) (M' := mX10_isFraction) (n := 2) (as := [.int a2, .int a3]) (st := []) dX10_goalTrouble_15 rfl kX10_360 sX10_isFraction (Nat.le_of_ble_eq_true rfl) rfl rfl (Nat.le_of_ble_eq_true rfl) ?_
    refine cl_mono (fun r w2 hr => ?_) h
    obtain ⟨x3, rfl, hw2, h⟩ := hr
    show Go SC mX10_goalTrouble 18 [(0, .ref 0), (1, .int a1), (2, .int a2), (3, .int a3)] [.int x3] w2 Q
    have hJ : Go SC mX10_goalTrouble 26 [(0, .ref 0), (1, .int a1), (2, .int a2), (3, .int a3)] [.int (if x3 = 0 then 2 else 0 : Int32)] w2 Q := by
      exact g_iret (pc := 26) dX10_goalTrouble_26 rfl h
    refine g_if_eq (pc := 18) (tgt := 25) dX10_goalTrouble_18 (by decide) (fun q18 => ?_) (fun q18 => ?_)
    · refine g_iconst (pc := 25) dX10_goalTrouble_25 c_2 ?_
      first | (exfalso; contradiction) | exact cast (by simp only [if_pos q18]) hJ
    · refine g_iconst (pc := 21) dX10_goalTrouble_21 c_0 ?_
      refine g_goto (pc := 22) (tgt := 26) dX10_goalTrouble_22 (by decide) ?_
      first | (exfalso; contradiction) | exact cast (by simp only [if_neg q18]) hJ
  · have h := h.2 qd1
    show Go SC mX10_goalTrouble 8 [(0, .ref 0), (1, .int a1), (2, .int a2), (3, .int a3)] [.null] w Q
    refine g_ifnonnullN (pc := 8) dX10_goalTrouble_8 ?_
    refine g_iconst (pc := 11) dX10_goalTrouble_11 c_1 ?_
    exact g_iret (pc := 12) dX10_goalTrouble_12 rfl h
set_option maxHeartbeats 4000000 in
set_option maxRecDepth 100000 in
theorem TX10_rowFrom (a1 : Int32) (a2 : Int32) (a3 : Int32) (w : Wd) (b : Bool) (hR : w.2.2 = RTab b) (Q : Option Value → Wd → Prop) (h : ((0 ≤ a1 ∧ a1 < wi w (hA b) 2 ∧ a1 < 5 → ClI SC mX9_fewest [.ref (dA (hA b) a1.toNatClampNeg + 2), .int a2, .int a3] w (fun x3 w2 => w2.2.2 = RTab b ∧ Q (some (.int x3)) w2)) ∧ (¬ (0 ≤ a1 ∧ a1 < wi w (hA b) 2 ∧ a1 < 5) → Q (some (.int (-2))) w))) : Cl SC mX10_rowFrom [.ref 0, .int a1, .int a2, .int a3] w Q := by
  refine cl_of (by decide) (Nat.le_of_ble_eq_true rfl) ?_
  show Go SC mX10_rowFrom 0 [(0, .ref 0), (1, .int a1), (2, .int a2), (3, .int a3)] [] w Q
  refine g_aload_n (pc := 0) dX10_rowFrom_0 rfl 0 rfl ?_
  refine g_getR (pc := 1) (a := 0) (b := (hA b)) dX10_rowFrom_1 rfl fX10_19 rfl (rc_0_1 hR) ?_
  refine g_iload_n (pc := 4) dX10_rowFrom_4 rfl 1 rfl ?_
  refine g_callV (pc := 5) (M' := mX2_danceAt) (n := 1) (a := (hA b)) (as := [.int a1]) (st := []) dX10_rowFrom_5 rfl kX10_113 vX2_danceAt (Nat.le_of_ble_eq_true rfl) (sh_h b) qX2 rfl rfl (Nat.le_of_ble_eq_true rfl) ?_
  refine h_danceAt (c := b) (d := a1) (w := w) (hR := hR) (fun qd1 => ?_) (fun qd1 => ?_)
  · have h := h.1 qd1
    show Go SC mX10_rowFrom 8 [(0, .ref 0), (1, .int a1), (2, .int a2), (3, .int a3)] [.ref (dA (hA b) a1.toNatClampNeg)] w Q
    refine g_astore (pc := 8) (lv2 := [(0, .ref 0), (1, .int a1), (2, .int a2), (3, .int a3), (4, .ref (dA (hA b) a1.toNatClampNeg))]) dX10_rowFrom_8 (Nat.le_of_ble_eq_true rfl) rfl ?_
    refine g_aload (pc := 10) dX10_rowFrom_10 4 rfl ?_
    refine g_ifnonnullR (pc := 12) (tgt := 20) dX10_rowFrom_12 (by decide) ?_
    refine g_aload (pc := 20) dX10_rowFrom_20 4 rfl ?_
    refine g_getR (pc := 22) (a := (dA (hA b) a1.toNatClampNeg)) (b := (dA (hA b) a1.toNatClampNeg + 2)) dX10_rowFrom_22 rfl fX10_118 (sh_d b (lt5 qd1.1 qd1.2.2)) (rd_4 hR b (lt5 qd1.1 qd1.2.2)) ?_
    refine g_iload_n (pc := 25) dX10_rowFrom_25 rfl 2 rfl ?_
    refine g_iload_n (pc := 26) dX10_rowFrom_26 rfl 3 rfl ?_
    refine g_callS (pc := 27) (M' := mX9_fewest) (n := 3) (as := [.ref (dA (hA b) a1.toNatClampNeg + 2), .int a2, .int a3]) (st := []) dX10_rowFrom_27 rfl kX10_374 sX9_fewest (Nat.le_of_ble_eq_true rfl) rfl rfl (Nat.le_of_ble_eq_true rfl) ?_
    refine cl_mono (fun r w2 hr => ?_) h
    obtain ⟨x3, rfl, hw2, h⟩ := hr
    show Go SC mX10_rowFrom 30 [(0, .ref 0), (1, .int a1), (2, .int a2), (3, .int a3), (4, .ref (dA (hA b) a1.toNatClampNeg))] [.int x3] w2 Q
    exact g_iret (pc := 30) dX10_rowFrom_30 rfl h
  · have h := h.2 qd1
    show Go SC mX10_rowFrom 8 [(0, .ref 0), (1, .int a1), (2, .int a2), (3, .int a3)] [.null] w Q
    refine g_astoreN (pc := 8) (lv2 := [(0, .ref 0), (1, .int a1), (2, .int a2), (3, .int a3), (4, .null)]) dX10_rowFrom_8 (Nat.le_of_ble_eq_true rfl) rfl ?_
    refine g_aloadN (pc := 10) dX10_rowFrom_10 4 rfl ?_
    refine g_ifnonnullN (pc := 12) dX10_rowFrom_12 ?_
    refine g_bipush (pc := 15) (v := (-2)) dX10_rowFrom_15 (by decide) ?_
    refine g_goto (pc := 17) (tgt := 30) dX10_rowFrom_17 (by decide) ?_
    exact g_iret (pc := 30) dX10_rowFrom_30 rfl h
set_option maxHeartbeats 4000000 in
set_option maxRecDepth 100000 in
theorem TX10_come (a1 : Int32) (a2 : Int32) (a3 : Int32) (w : Wd) (b : Bool) (hR : w.2.2 = RTab b) (Q : Option Value → Wd → Prop) (h : ClI SC mX10_goalTrouble [.ref 0, .int a1, .int a2, .int a3] w (fun x2 w1 => w1.2.2 = RTab b ∧ ((x2 = 0 → ClI SC mX10_rowFrom [.ref 0, .int a1, .int a2, .int a3] w1 (fun x4 w3 => w3.2.2 = RTab b ∧ ((x4 = (-2) → Q (some (.int (vXX10_accept (-2)))) (wXX10_accept (-2) w3)) ∧ (¬ (x4 = (-2)) → ClI SC mX10_digits [.int x4] w3 (fun x6 w5 => w5.2.2 = RTab b ∧ Q (some (.int (vXX10_accept x6))) (wXX10_accept x6 w5)))))) ∧ (¬ (x2 = 0) → Q (some (.int (vXX10_refuse x2 (-1)))) (wXX10_refuse x2 (-1) w1))))) : Cl SC mX10_come [.ref 0, .int a1, .int a2, .int a3] w Q := by
  refine cl_of (by decide) (Nat.le_of_ble_eq_true rfl) ?_
  show Go SC mX10_come 0 [(0, .ref 0), (1, .int a1), (2, .int a2), (3, .int a3)] [] w Q
  refine g_aload_n (pc := 0) dX10_come_0 rfl 0 rfl ?_
  refine g_iload_n (pc := 1) dX10_come_1 rfl 1 rfl ?_
  refine g_iload_n (pc := 2) dX10_come_2 rfl 2 rfl ?_
  refine g_iload_n (pc := 3) dX10_come_3 rfl 3 rfl ?_
  refine g_callV (pc := 4) (M' := mX10_goalTrouble) (n := 3) (a := 0) (as := [.int a1, .int a2, .int a3]) (st := []) dX10_come_4 rfl kX10_211 vX10_goalTrouble (Nat.le_of_ble_eq_true rfl) rfl qX10 rfl rfl (Nat.le_of_ble_eq_true rfl) ?_
  refine cl_mono (fun r w1 hr => ?_) h
  obtain ⟨x2, rfl, hw1, h⟩ := hr
  show Go SC mX10_come 7 [(0, .ref 0), (1, .int a1), (2, .int a2), (3, .int a3)] [.int x2] w1 Q
  refine g_istore (pc := 7) (lv2 := [(0, .ref 0), (1, .int a1), (2, .int a2), (3, .int a3), (4, .int x2)]) dX10_come_7 (Nat.le_of_ble_eq_true rfl) rfl ?_
  refine g_iload (pc := 9) dX10_come_9 4 rfl ?_
  refine g_if_eq (pc := 11) (tgt := 22) dX10_come_11 (by decide) (fun q => ?_) (fun q => ?_)
  · have h := h.1 q
    refine g_aload_n (pc := 22) dX10_come_22 rfl 0 rfl ?_
    refine g_iload_n (pc := 23) dX10_come_23 rfl 1 rfl ?_
    refine g_iload_n (pc := 24) dX10_come_24 rfl 2 rfl ?_
    refine g_iload_n (pc := 25) dX10_come_25 rfl 3 rfl ?_
    refine g_callV (pc := 26) (M' := mX10_rowFrom) (n := 3) (a := 0) (as := [.int a1, .int a2, .int a3]) (st := []) dX10_come_26 rfl kX10_215 vX10_rowFrom (Nat.le_of_ble_eq_true rfl) rfl qX10 rfl rfl (Nat.le_of_ble_eq_true rfl) ?_
    refine cl_mono (fun r w3 hr => ?_) h
    obtain ⟨x4, rfl, hw3, h⟩ := hr
    show Go SC mX10_come 29 [(0, .ref 0), (1, .int a1), (2, .int a2), (3, .int a3), (4, .int x2)] [.int x4] w3 Q
    refine g_istore (pc := 29) (lv2 := [(0, .ref 0), (1, .int a1), (2, .int a2), (3, .int a3), (4, .int x2), (5, .int x4)]) dX10_come_29 (Nat.le_of_ble_eq_true rfl) rfl ?_
    refine g_aload_n (pc := 31) dX10_come_31 rfl 0 rfl ?_
    refine g_iload (pc := 32) dX10_come_32 5 rfl ?_
    refine g_bipush (pc := 34) (v := (-2)) dX10_come_34 (by decide) ?_
    refine g_icmp_ne (pc := 36) (tgt := 44) dX10_come_36 (by decide) (fun q => ?_) (fun q => ?_)
    · have h := h.2 q
      refine g_iload (pc := 44) dX10_come_44 5 rfl ?_
      refine g_callS (pc := 46) (M' := mX10_digits) (n := 1) (as := [.int x4]) (st := [.ref 0]) dX10_come_46 rfl kX10_218 sX10_digits (Nat.le_of_ble_eq_true rfl) rfl rfl (Nat.le_of_ble_eq_true rfl) ?_
      refine cl_mono (fun r w5 hr => ?_) h
      obtain ⟨x6, rfl, hw5, h⟩ := hr
      show Go SC mX10_come 49 [(0, .ref 0), (1, .int a1), (2, .int a2), (3, .int a3), (4, .int x2), (5, .int x4)] [.int x6, .ref 0] w5 Q
      refine g_callV (pc := 49) (M' := mX10_accept) (n := 1) (a := 0) (as := [.int x6]) (st := []) dX10_come_49 rfl kX10_100 vX10_accept (Nat.le_of_ble_eq_true rfl) rfl qX10 rfl rfl (Nat.le_of_ble_eq_true rfl) ?_
      refine zX10_accept (a1 := x6) (w := w5) (b := b) (hR := hw5) ?_
      show Go SC mX10_come 52 [(0, .ref 0), (1, .int a1), (2, .int a2), (3, .int a3), (4, .int x2), (5, .int x4)] [.int (vXX10_accept x6)] (wXX10_accept x6 w5) Q
      exact g_iret (pc := 52) dX10_come_52 rfl h
    · have h := h.1 q
      refine g_bipush (pc := 39) (v := (-2)) dX10_come_39 (by decide) ?_
      refine g_goto (pc := 41) (tgt := 49) dX10_come_41 (by decide) ?_
      refine g_callV (pc := 49) (M' := mX10_accept) (n := 1) (a := 0) (as := [.int (-2)]) (st := []) dX10_come_49 rfl kX10_100 vX10_accept (Nat.le_of_ble_eq_true rfl) rfl qX10 rfl rfl (Nat.le_of_ble_eq_true rfl) ?_
      refine zX10_accept (a1 := (-2)) (w := w3) (b := b) (hR := hw3) ?_
      show Go SC mX10_come 52 [(0, .ref 0), (1, .int a1), (2, .int a2), (3, .int a3), (4, .int x2), (5, .int x4)] [.int (vXX10_accept (-2))] (wXX10_accept (-2) w3) Q
      exact g_iret (pc := 52) dX10_come_52 rfl h
  · have h := h.2 q
    refine g_aload_n (pc := 14) dX10_come_14 rfl 0 rfl ?_
    refine g_iload (pc := 15) dX10_come_15 4 rfl ?_
    refine g_iconst (pc := 17) dX10_come_17 cN_1 ?_
    refine g_callV (pc := 18) (M' := mX10_refuse) (n := 2) (a := 0) (as := [.int x2, .int (-1)]) (st := []) dX10_come_18 rfl kX10_83 vX10_refuse (Nat.le_of_ble_eq_true rfl) rfl qX10 rfl rfl (Nat.le_of_ble_eq_true rfl) ?_
    refine zX10_refuse (a1 := x2) (a2 := (-1)) (w := w1) (b := b) (hR := hw1) ?_
    show Go SC mX10_come 21 [(0, .ref 0), (1, .int a1), (2, .int a2), (3, .int a3), (4, .int x2)] [.int (vXX10_refuse x2 (-1))] (wXX10_refuse x2 (-1) w1) Q
    exact g_iret (pc := 21) dX10_come_21 rfl h
set_option maxHeartbeats 4000000 in
set_option maxRecDepth 100000 in
theorem TX10_comeRow (a1 : Int32) (a2 : Int32) (a3 : Int32) (w : Wd) (b : Bool) (hR : w.2.2 = RTab b) (Q : Option Value → Wd → Prop) (h : ClI SC mX10_goalTrouble [.ref 0, .int a1, .int a2, .int a3] w (fun x2 w1 => w1.2.2 = RTab b ∧ ((x2 = 0 → ClI SC mX10_rowFrom [.ref 0, .int a1, .int a2, .int a3] w1 (fun x4 w3 => w3.2.2 = RTab b ∧ Q (some (.int (vXX10_accept x4))) (wXX10_accept x4 w3))) ∧ (¬ (x2 = 0) → Q (some (.int (vXX10_refuse x2 (-1)))) (wXX10_refuse x2 (-1) w1))))) : Cl SC mX10_comeRow [.ref 0, .int a1, .int a2, .int a3] w Q := by
  refine cl_of (by decide) (Nat.le_of_ble_eq_true rfl) ?_
  show Go SC mX10_comeRow 0 [(0, .ref 0), (1, .int a1), (2, .int a2), (3, .int a3)] [] w Q
  refine g_aload_n (pc := 0) dX10_comeRow_0 rfl 0 rfl ?_
  refine g_iload_n (pc := 1) dX10_comeRow_1 rfl 1 rfl ?_
  refine g_iload_n (pc := 2) dX10_comeRow_2 rfl 2 rfl ?_
  refine g_iload_n (pc := 3) dX10_comeRow_3 rfl 3 rfl ?_
  refine g_callV (pc := 4) (M' := mX10_goalTrouble) (n := 3) (a := 0) (as := [.int a1, .int a2, .int a3]) (st := []) dX10_comeRow_4 rfl kX10_211 vX10_goalTrouble (Nat.le_of_ble_eq_true rfl) rfl qX10 rfl rfl (Nat.le_of_ble_eq_true rfl) ?_
  refine cl_mono (fun r w1 hr => ?_) h
  obtain ⟨x2, rfl, hw1, h⟩ := hr
  show Go SC mX10_comeRow 7 [(0, .ref 0), (1, .int a1), (2, .int a2), (3, .int a3)] [.int x2] w1 Q
  refine g_istore (pc := 7) (lv2 := [(0, .ref 0), (1, .int a1), (2, .int a2), (3, .int a3), (4, .int x2)]) dX10_comeRow_7 (Nat.le_of_ble_eq_true rfl) rfl ?_
  refine g_iload (pc := 9) dX10_comeRow_9 4 rfl ?_
  refine g_if_eq (pc := 11) (tgt := 22) dX10_comeRow_11 (by decide) (fun q => ?_) (fun q => ?_)
  · have h := h.1 q
    refine g_aload_n (pc := 22) dX10_comeRow_22 rfl 0 rfl ?_
    refine g_aload_n (pc := 23) dX10_comeRow_23 rfl 0 rfl ?_
    refine g_iload_n (pc := 24) dX10_comeRow_24 rfl 1 rfl ?_
    refine g_iload_n (pc := 25) dX10_comeRow_25 rfl 2 rfl ?_
    refine g_iload_n (pc := 26) dX10_comeRow_26 rfl 3 rfl ?_
    refine g_callV (pc := 27) (M' := mX10_rowFrom) (n := 3) (a := 0) (as := [.int a1, .int a2, .int a3]) (st := [.ref 0]) dX10_comeRow_27 rfl kX10_215 vX10_rowFrom (Nat.le_of_ble_eq_true rfl) rfl qX10 rfl rfl (Nat.le_of_ble_eq_true rfl) ?_
    refine cl_mono (fun r w3 hr => ?_) h
    obtain ⟨x4, rfl, hw3, h⟩ := hr
    show Go SC mX10_comeRow 30 [(0, .ref 0), (1, .int a1), (2, .int a2), (3, .int a3), (4, .int x2)] [.int x4, .ref 0] w3 Q
    refine g_callV (pc := 30) (M' := mX10_accept) (n := 1) (a := 0) (as := [.int x4]) (st := []) dX10_comeRow_30 rfl kX10_100 vX10_accept (Nat.le_of_ble_eq_true rfl) rfl qX10 rfl rfl (Nat.le_of_ble_eq_true rfl) ?_
    refine zX10_accept (a1 := x4) (w := w3) (b := b) (hR := hw3) ?_
    show Go SC mX10_comeRow 33 [(0, .ref 0), (1, .int a1), (2, .int a2), (3, .int a3), (4, .int x2)] [.int (vXX10_accept x4)] (wXX10_accept x4 w3) Q
    exact g_iret (pc := 33) dX10_comeRow_33 rfl h
  · have h := h.2 q
    refine g_aload_n (pc := 14) dX10_comeRow_14 rfl 0 rfl ?_
    refine g_iload (pc := 15) dX10_comeRow_15 4 rfl ?_
    refine g_iconst (pc := 17) dX10_comeRow_17 cN_1 ?_
    refine g_callV (pc := 18) (M' := mX10_refuse) (n := 2) (a := 0) (as := [.int x2, .int (-1)]) (st := []) dX10_comeRow_18 rfl kX10_83 vX10_refuse (Nat.le_of_ble_eq_true rfl) rfl qX10 rfl rfl (Nat.le_of_ble_eq_true rfl) ?_
    refine zX10_refuse (a1 := x2) (a2 := (-1)) (w := w1) (b := b) (hR := hw1) ?_
    show Go SC mX10_comeRow 21 [(0, .ref 0), (1, .int a1), (2, .int a2), (3, .int a3), (4, .int x2)] [.int (vXX10_refuse x2 (-1))] (wXX10_refuse x2 (-1) w1) Q
    exact g_iret (pc := 21) dX10_comeRow_21 rfl h
set_option maxHeartbeats 4000000 in
set_option maxRecDepth 100000 in
theorem TX10_reach (a1 : Int32) (w : Wd) (b : Bool) (hR : w.2.2 = RTab b) (Q : Option Value → Wd → Prop) (h : (((vXX10_numberTrouble a1 0 7 w b) = 0 → ClI SC mX9_spread [.ref 58, .int a1] w (fun x2 w1 => w1.2.2 = RTab b ∧ Q (some (.int (vXX10_accept x2))) (wXX10_accept x2 w1))) ∧ (¬ ((vXX10_numberTrouble a1 0 7 w b) = 0) → Q (some (.int (vXX10_refuse (vXX10_numberTrouble a1 0 7 w b) (-1)))) (wXX10_refuse (vXX10_numberTrouble a1 0 7 w b) (-1) w)))) : Cl SC mX10_reach [.ref 0, .int a1] w Q := by
  refine cl_of (by decide) (Nat.le_of_ble_eq_true rfl) ?_
  show Go SC mX10_reach 0 [(0, .ref 0), (1, .int a1)] [] w Q
  refine g_aload_n (pc := 0) dX10_reach_0 rfl 0 rfl ?_
  refine g_iload_n (pc := 1) dX10_reach_1 rfl 1 rfl ?_
  refine g_iconst (pc := 2) dX10_reach_2 c_0 ?_
  refine g_bipush (pc := 3) (v := 7) dX10_reach_3 (by decide) ?_
  refine g_callV (pc := 5) (M' := mX10_numberTrouble) (n := 3) (a := 0) (as := [.int a1, .int 0, .int 7]) (st := []) dX10_reach_5 rfl kX10_221 vX10_numberTrouble (Nat.le_of_ble_eq_true rfl) rfl qX10 rfl rfl (Nat.le_of_ble_eq_true rfl) ?_
  refine zX10_numberTrouble (a1 := a1) (a2 := 0) (a3 := 7) (w := w) (b := b) (hR := hR) ?_
  show Go SC mX10_reach 8 [(0, .ref 0), (1, .int a1)] [.int (vXX10_numberTrouble a1 0 7 w b)] w Q
  refine g_istore_n (pc := 8) (lv2 := [(0, .ref 0), (1, .int a1), (2, .int (vXX10_numberTrouble a1 0 7 w b))]) dX10_reach_8 rfl (Nat.le_of_ble_eq_true rfl) rfl ?_
  refine g_iload_n (pc := 9) dX10_reach_9 rfl 2 rfl ?_
  refine g_if_ne (pc := 10) (tgt := 28) dX10_reach_10 (by decide) (fun q => ?_) (fun q => ?_)
  · have h := h.2 q
    refine g_aload_n (pc := 28) dX10_reach_28 rfl 0 rfl ?_
    refine g_iload_n (pc := 29) dX10_reach_29 rfl 2 rfl ?_
    refine g_iconst (pc := 30) dX10_reach_30 cN_1 ?_
    refine g_callV (pc := 31) (M' := mX10_refuse) (n := 2) (a := 0) (as := [.int (vXX10_numberTrouble a1 0 7 w b), .int (-1)]) (st := []) dX10_reach_31 rfl kX10_83 vX10_refuse (Nat.le_of_ble_eq_true rfl) rfl qX10 rfl rfl (Nat.le_of_ble_eq_true rfl) ?_
    refine zX10_refuse (a1 := (vXX10_numberTrouble a1 0 7 w b)) (a2 := (-1)) (w := w) (b := b) (hR := hR) ?_
    show Go SC mX10_reach 34 [(0, .ref 0), (1, .int a1), (2, .int (vXX10_numberTrouble a1 0 7 w b))] [.int (vXX10_refuse (vXX10_numberTrouble a1 0 7 w b) (-1))] (wXX10_refuse (vXX10_numberTrouble a1 0 7 w b) (-1) w) Q
    exact g_iret (pc := 34) dX10_reach_34 rfl h
  · have h := h.1 q
    refine g_aload_n (pc := 13) dX10_reach_13 rfl 0 rfl ?_
    refine g_aload_n (pc := 14) dX10_reach_14 rfl 0 rfl ?_
    refine g_getR (pc := 15) (a := 0) (b := 58) dX10_reach_15 rfl fX10_53 rfl (rc_0_7 hR) ?_
    refine g_iload_n (pc := 18) dX10_reach_18 rfl 1 rfl ?_
    refine g_callV (pc := 19) (M' := mX9_spread) (n := 1) (a := 58) (as := [.int a1]) (st := [.ref 0]) dX10_reach_19 rfl kX10_224 vX9_spread (Nat.le_of_ble_eq_true rfl) rfl qX9 rfl rfl (Nat.le_of_ble_eq_true rfl) ?_
    refine cl_mono (fun r w1 hr => ?_) h
    obtain ⟨x2, rfl, hw1, h⟩ := hr
    show Go SC mX10_reach 22 [(0, .ref 0), (1, .int a1), (2, .int (vXX10_numberTrouble a1 0 7 w b))] [.int x2, .ref 0] w1 Q
    refine g_callV (pc := 22) (M' := mX10_accept) (n := 1) (a := 0) (as := [.int x2]) (st := []) dX10_reach_22 rfl kX10_100 vX10_accept (Nat.le_of_ble_eq_true rfl) rfl qX10 rfl rfl (Nat.le_of_ble_eq_true rfl) ?_
    refine zX10_accept (a1 := x2) (w := w1) (b := b) (hR := hw1) ?_
    show Go SC mX10_reach 25 [(0, .ref 0), (1, .int a1), (2, .int (vXX10_numberTrouble a1 0 7 w b))] [.int (vXX10_accept x2)] (wXX10_accept x2 w1) Q
    refine g_goto (pc := 25) (tgt := 34) dX10_reach_25 (by decide) ?_
    exact g_iret (pc := 34) dX10_reach_34 rfl h
set_option maxHeartbeats 4000000 in
set_option maxRecDepth 100000 in
theorem TX10_apart (a1 : Int32) (a2 : Int32) (w : Wd) (b : Bool) (hR : w.2.2 = RTab b) (Q : Option Value → Wd → Prop) (h : ((0 ≤ a1 ∧ a1 < wi w (hA b) 2 ∧ a1 < 5 → ((0 ≤ a2 ∧ a2 < wi w (hA b) 2 ∧ a2 < 5 → Q (some (.int (vXX10_accept (vXJ9_abs_0f7a4 (((wi w (dA (hA b) a1.toNatClampNeg + 2) 0) * (wi w (dA (hA b) a2.toNatClampNeg + 2) 1)) - ((wi w (dA (hA b) a2.toNatClampNeg + 2) 0) * (wi w (dA (hA b) a1.toNatClampNeg + 2) 1))))))) (wXX10_accept (vXJ9_abs_0f7a4 (((wi w (dA (hA b) a1.toNatClampNeg + 2) 0) * (wi w (dA (hA b) a2.toNatClampNeg + 2) 1)) - ((wi w (dA (hA b) a2.toNatClampNeg + 2) 0) * (wi w (dA (hA b) a1.toNatClampNeg + 2) 1)))) w)) ∧ (¬ (0 ≤ a2 ∧ a2 < wi w (hA b) 2 ∧ a2 < 5) → Q (some (.int (vXX10_refuse 1 (-1)))) (wXX10_refuse 1 (-1) w)))) ∧ (¬ (0 ≤ a1 ∧ a1 < wi w (hA b) 2 ∧ a1 < 5) → ((0 ≤ a2 ∧ a2 < wi w (hA b) 2 ∧ a2 < 5 → Q (some (.int (vXX10_refuse 1 (-1)))) (wXX10_refuse 1 (-1) w)) ∧ (¬ (0 ≤ a2 ∧ a2 < wi w (hA b) 2 ∧ a2 < 5) → Q (some (.int (vXX10_refuse 1 (-1)))) (wXX10_refuse 1 (-1) w)))))) : Cl SC mX10_apart [.ref 0, .int a1, .int a2] w Q := by
  refine cl_of (by decide) (Nat.le_of_ble_eq_true rfl) ?_
  show Go SC mX10_apart 0 [(0, .ref 0), (1, .int a1), (2, .int a2)] [] w Q
  refine g_aload_n (pc := 0) dX10_apart_0 rfl 0 rfl ?_
  refine g_getR (pc := 1) (a := 0) (b := (hA b)) dX10_apart_1 rfl fX10_19 rfl (rc_0_1 hR) ?_
  refine g_iload_n (pc := 4) dX10_apart_4 rfl 1 rfl ?_
  refine g_callV (pc := 5) (M' := mX2_danceAt) (n := 1) (a := (hA b)) (as := [.int a1]) (st := []) dX10_apart_5 rfl kX10_113 vX2_danceAt (Nat.le_of_ble_eq_true rfl) (sh_h b) qX2 rfl rfl (Nat.le_of_ble_eq_true rfl) ?_
  refine h_danceAt (c := b) (d := a1) (w := w) (hR := hR) (fun qd1 => ?_) (fun qd1 => ?_)
  · have h := h.1 qd1
    show Go SC mX10_apart 8 [(0, .ref 0), (1, .int a1), (2, .int a2)] [.ref (dA (hA b) a1.toNatClampNeg)] w Q
    refine g_astore_n (pc := 8) (lv2 := [(0, .ref 0), (1, .int a1), (2, .int a2), (3, .ref (dA (hA b) a1.toNatClampNeg))]) dX10_apart_8 rfl (Nat.le_of_ble_eq_true rfl) rfl ?_
    refine g_aload_n (pc := 9) dX10_apart_9 rfl 0 rfl ?_
    refine g_getR (pc := 10) (a := 0) (b := (hA b)) dX10_apart_10 rfl fX10_19 rfl (rc_0_1 hR) ?_
    refine g_iload_n (pc := 13) dX10_apart_13 rfl 2 rfl ?_
    refine g_callV (pc := 14) (M' := mX2_danceAt) (n := 1) (a := (hA b)) (as := [.int a2]) (st := []) dX10_apart_14 rfl kX10_113 vX2_danceAt (Nat.le_of_ble_eq_true rfl) (sh_h b) qX2 rfl rfl (Nat.le_of_ble_eq_true rfl) ?_
    refine h_danceAt (c := b) (d := a2) (w := w) (hR := hR) (fun qd2 => ?_) (fun qd2 => ?_)
    · have h := h.1 qd2
      show Go SC mX10_apart 17 [(0, .ref 0), (1, .int a1), (2, .int a2), (3, .ref (dA (hA b) a1.toNatClampNeg))] [.ref (dA (hA b) a2.toNatClampNeg)] w Q
      refine g_astore (pc := 17) (lv2 := [(0, .ref 0), (1, .int a1), (2, .int a2), (3, .ref (dA (hA b) a1.toNatClampNeg)), (4, .ref (dA (hA b) a2.toNatClampNeg))]) dX10_apart_17 (Nat.le_of_ble_eq_true rfl) rfl ?_
      refine g_aload_n (pc := 19) dX10_apart_19 rfl 3 rfl ?_
      refine g_ifnullR (pc := 20) dX10_apart_20 ?_
      refine g_aload (pc := 23) dX10_apart_23 4 rfl ?_
      refine g_ifnonnullR (pc := 25) (tgt := 35) dX10_apart_25 (by decide) ?_
      refine g_aload_n (pc := 35) dX10_apart_35 rfl 3 rfl ?_
      refine g_getR (pc := 36) (a := (dA (hA b) a1.toNatClampNeg)) (b := (dA (hA b) a1.toNatClampNeg + 2)) dX10_apart_36 rfl fX10_118 (sh_d b (lt5 qd1.1 qd1.2.2)) (rd_4 hR b (lt5 qd1.1 qd1.2.2)) ?_
      refine g_getI (pc := 39) (a := (dA (hA b) a1.toNatClampNeg + 2)) dX10_apart_39 rfl fX10_123 (sh_dn b (lt5 qd1.1 qd1.2.2)) ?_
      refine g_aload (pc := 42) dX10_apart_42 4 rfl ?_
      refine g_getR (pc := 44) (a := (dA (hA b) a2.toNatClampNeg)) (b := (dA (hA b) a2.toNatClampNeg + 2)) dX10_apart_44 rfl fX10_118 (sh_d b (lt5 qd2.1 qd2.2.2)) (rd_4 hR b (lt5 qd2.1 qd2.2.2)) ?_
      refine g_getI (pc := 47) (a := (dA (hA b) a2.toNatClampNeg + 2)) dX10_apart_47 rfl fX10_126 (sh_dn b (lt5 qd2.1 qd2.2.2)) ?_
      refine g_imul (pc := 50) dX10_apart_50 ?_
      refine g_istore (pc := 51) (lv2 := [(0, .ref 0), (1, .int a1), (2, .int a2), (3, .ref (dA (hA b) a1.toNatClampNeg)), (4, .ref (dA (hA b) a2.toNatClampNeg)), (5, .int ((wi w (dA (hA b) a1.toNatClampNeg + 2) 0) * (wi w (dA (hA b) a2.toNatClampNeg + 2) 1)))]) dX10_apart_51 (Nat.le_of_ble_eq_true rfl) rfl ?_
      refine g_aload (pc := 53) dX10_apart_53 4 rfl ?_
      refine g_getR (pc := 55) (a := (dA (hA b) a2.toNatClampNeg)) (b := (dA (hA b) a2.toNatClampNeg + 2)) dX10_apart_55 rfl fX10_118 (sh_d b (lt5 qd2.1 qd2.2.2)) (rd_4 hR b (lt5 qd2.1 qd2.2.2)) ?_
      refine g_getI (pc := 58) (a := (dA (hA b) a2.toNatClampNeg + 2)) dX10_apart_58 rfl fX10_123 (sh_dn b (lt5 qd2.1 qd2.2.2)) ?_
      refine g_aload_n (pc := 61) dX10_apart_61 rfl 3 rfl ?_
      refine g_getR (pc := 62) (a := (dA (hA b) a1.toNatClampNeg)) (b := (dA (hA b) a1.toNatClampNeg + 2)) dX10_apart_62 rfl fX10_118 (sh_d b (lt5 qd1.1 qd1.2.2)) (rd_4 hR b (lt5 qd1.1 qd1.2.2)) ?_
      refine g_getI (pc := 65) (a := (dA (hA b) a1.toNatClampNeg + 2)) dX10_apart_65 rfl fX10_126 (sh_dn b (lt5 qd1.1 qd1.2.2)) ?_
      refine g_imul (pc := 68) dX10_apart_68 ?_
      refine g_istore (pc := 69) (lv2 := [(0, .ref 0), (1, .int a1), (2, .int a2), (3, .ref (dA (hA b) a1.toNatClampNeg)), (4, .ref (dA (hA b) a2.toNatClampNeg)), (5, .int ((wi w (dA (hA b) a1.toNatClampNeg + 2) 0) * (wi w (dA (hA b) a2.toNatClampNeg + 2) 1))), (6, .int ((wi w (dA (hA b) a2.toNatClampNeg + 2) 0) * (wi w (dA (hA b) a1.toNatClampNeg + 2) 1)))]) dX10_apart_69 (Nat.le_of_ble_eq_true rfl) rfl ?_
      refine g_aload_n (pc := 71) dX10_apart_71 rfl 0 rfl ?_
      refine g_iload (pc := 72) dX10_apart_72 5 rfl ?_
      refine g_iload (pc := 74) dX10_apart_74 6 rfl ?_
      refine g_isub (pc := 76) dX10_apart_76 ?_
      refine g_callS (pc := 77) (M' := mJ9_abs_0f7a4) (n := 1) (as := [.int (((wi w (dA (hA b) a1.toNatClampNeg + 2) 0) * (wi w (dA (hA b) a2.toNatClampNeg + 2) 1)) - ((wi w (dA (hA b) a2.toNatClampNeg + 2) 0) * (wi w (dA (hA b) a1.toNatClampNeg + 2) 1)))]) (st := [.ref 0]) dX10_apart_77 rfl kX10_184 sJ9_abs_0f7a4 (Nat.le_of_ble_eq_true rfl) rfl rfl (Nat.le_of_ble_eq_true rfl) ?_
      refine zJ9_abs_0f7a4 (a1 := (((wi w (dA (hA b) a1.toNatClampNeg + 2) 0) * (wi w (dA (hA b) a2.toNatClampNeg + 2) 1)) - ((wi w (dA (hA b) a2.toNatClampNeg + 2) 0) * (wi w (dA (hA b) a1.toNatClampNeg + 2) 1)))) (w := w) (b := b) (hR := hR) ?_
      show Go SC mX10_apart 80 [(0, .ref 0), (1, .int a1), (2, .int a2), (3, .ref (dA (hA b) a1.toNatClampNeg)), (4, .ref (dA (hA b) a2.toNatClampNeg)), (5, .int ((wi w (dA (hA b) a1.toNatClampNeg + 2) 0) * (wi w (dA (hA b) a2.toNatClampNeg + 2) 1))), (6, .int ((wi w (dA (hA b) a2.toNatClampNeg + 2) 0) * (wi w (dA (hA b) a1.toNatClampNeg + 2) 1)))] [.int (vXJ9_abs_0f7a4 (((wi w (dA (hA b) a1.toNatClampNeg + 2) 0) * (wi w (dA (hA b) a2.toNatClampNeg + 2) 1)) - ((wi w (dA (hA b) a2.toNatClampNeg + 2) 0) * (wi w (dA (hA b) a1.toNatClampNeg + 2) 1)))), .ref 0] w Q
      refine g_callV (pc := 80) (M' := mX10_accept) (n := 1) (a := 0) (as := [.int (vXJ9_abs_0f7a4 (((wi w (dA (hA b) a1.toNatClampNeg + 2) 0) * (wi w (dA (hA b) a2.toNatClampNeg + 2) 1)) - ((wi w (dA (hA b) a2.toNatClampNeg + 2) 0) * (wi w (dA (hA b) a1.toNatClampNeg + 2) 1))))]) (st := []) dX10_apart_80 rfl kX10_100 vX10_accept (Nat.le_of_ble_eq_true rfl) rfl qX10 rfl rfl (Nat.le_of_ble_eq_true rfl) ?_
      refine zX10_accept (a1 := (vXJ9_abs_0f7a4 (((wi w (dA (hA b) a1.toNatClampNeg + 2) 0) * (wi w (dA (hA b) a2.toNatClampNeg + 2) 1)) - ((wi w (dA (hA b) a2.toNatClampNeg + 2) 0) * (wi w (dA (hA b) a1.toNatClampNeg + 2) 1))))) (w := w) (b := b) (hR := hR) ?_
      show Go SC mX10_apart 83 [(0, .ref 0), (1, .int a1), (2, .int a2), (3, .ref (dA (hA b) a1.toNatClampNeg)), (4, .ref (dA (hA b) a2.toNatClampNeg)), (5, .int ((wi w (dA (hA b) a1.toNatClampNeg + 2) 0) * (wi w (dA (hA b) a2.toNatClampNeg + 2) 1))), (6, .int ((wi w (dA (hA b) a2.toNatClampNeg + 2) 0) * (wi w (dA (hA b) a1.toNatClampNeg + 2) 1)))] [.int (vXX10_accept (vXJ9_abs_0f7a4 (((wi w (dA (hA b) a1.toNatClampNeg + 2) 0) * (wi w (dA (hA b) a2.toNatClampNeg + 2) 1)) - ((wi w (dA (hA b) a2.toNatClampNeg + 2) 0) * (wi w (dA (hA b) a1.toNatClampNeg + 2) 1)))))] (wXX10_accept (vXJ9_abs_0f7a4 (((wi w (dA (hA b) a1.toNatClampNeg + 2) 0) * (wi w (dA (hA b) a2.toNatClampNeg + 2) 1)) - ((wi w (dA (hA b) a2.toNatClampNeg + 2) 0) * (wi w (dA (hA b) a1.toNatClampNeg + 2) 1)))) w) Q
      exact g_iret (pc := 83) dX10_apart_83 rfl h
    · have h := h.2 qd2
      show Go SC mX10_apart 17 [(0, .ref 0), (1, .int a1), (2, .int a2), (3, .ref (dA (hA b) a1.toNatClampNeg))] [.null] w Q
      refine g_astoreN (pc := 17) (lv2 := [(0, .ref 0), (1, .int a1), (2, .int a2), (3, .ref (dA (hA b) a1.toNatClampNeg)), (4, .null)]) dX10_apart_17 (Nat.le_of_ble_eq_true rfl) rfl ?_
      refine g_aload_n (pc := 19) dX10_apart_19 rfl 3 rfl ?_
      refine g_ifnullR (pc := 20) dX10_apart_20 ?_
      refine g_aloadN (pc := 23) dX10_apart_23 4 rfl ?_
      refine g_ifnonnullN (pc := 25) dX10_apart_25 ?_
      refine g_aload_n (pc := 28) dX10_apart_28 rfl 0 rfl ?_
      refine g_iconst (pc := 29) dX10_apart_29 c_1 ?_
      refine g_iconst (pc := 30) dX10_apart_30 cN_1 ?_
      refine g_callV (pc := 31) (M' := mX10_refuse) (n := 2) (a := 0) (as := [.int 1, .int (-1)]) (st := []) dX10_apart_31 rfl kX10_83 vX10_refuse (Nat.le_of_ble_eq_true rfl) rfl qX10 rfl rfl (Nat.le_of_ble_eq_true rfl) ?_
      refine zX10_refuse (a1 := 1) (a2 := (-1)) (w := w) (b := b) (hR := hR) ?_
      show Go SC mX10_apart 34 [(0, .ref 0), (1, .int a1), (2, .int a2), (3, .ref (dA (hA b) a1.toNatClampNeg)), (4, .null)] [.int (vXX10_refuse 1 (-1))] (wXX10_refuse 1 (-1) w) Q
      exact g_iret (pc := 34) dX10_apart_34 rfl h
  · have h := h.2 qd1
    show Go SC mX10_apart 8 [(0, .ref 0), (1, .int a1), (2, .int a2)] [.null] w Q
    refine g_astore_nN (pc := 8) (lv2 := [(0, .ref 0), (1, .int a1), (2, .int a2), (3, .null)]) dX10_apart_8 rfl (Nat.le_of_ble_eq_true rfl) rfl ?_
    refine g_aload_n (pc := 9) dX10_apart_9 rfl 0 rfl ?_
    refine g_getR (pc := 10) (a := 0) (b := (hA b)) dX10_apart_10 rfl fX10_19 rfl (rc_0_1 hR) ?_
    refine g_iload_n (pc := 13) dX10_apart_13 rfl 2 rfl ?_
    refine g_callV (pc := 14) (M' := mX2_danceAt) (n := 1) (a := (hA b)) (as := [.int a2]) (st := []) dX10_apart_14 rfl kX10_113 vX2_danceAt (Nat.le_of_ble_eq_true rfl) (sh_h b) qX2 rfl rfl (Nat.le_of_ble_eq_true rfl) ?_
    refine h_danceAt (c := b) (d := a2) (w := w) (hR := hR) (fun qd3 => ?_) (fun qd3 => ?_)
    · have h := h.1 qd3
      show Go SC mX10_apart 17 [(0, .ref 0), (1, .int a1), (2, .int a2), (3, .null)] [.ref (dA (hA b) a2.toNatClampNeg)] w Q
      refine g_astore (pc := 17) (lv2 := [(0, .ref 0), (1, .int a1), (2, .int a2), (3, .null), (4, .ref (dA (hA b) a2.toNatClampNeg))]) dX10_apart_17 (Nat.le_of_ble_eq_true rfl) rfl ?_
      refine g_aload_nN (pc := 19) dX10_apart_19 rfl 3 rfl ?_
      refine g_ifnullN (pc := 20) (tgt := 28) dX10_apart_20 (by decide) ?_
      refine g_aload_n (pc := 28) dX10_apart_28 rfl 0 rfl ?_
      refine g_iconst (pc := 29) dX10_apart_29 c_1 ?_
      refine g_iconst (pc := 30) dX10_apart_30 cN_1 ?_
      refine g_callV (pc := 31) (M' := mX10_refuse) (n := 2) (a := 0) (as := [.int 1, .int (-1)]) (st := []) dX10_apart_31 rfl kX10_83 vX10_refuse (Nat.le_of_ble_eq_true rfl) rfl qX10 rfl rfl (Nat.le_of_ble_eq_true rfl) ?_
      refine zX10_refuse (a1 := 1) (a2 := (-1)) (w := w) (b := b) (hR := hR) ?_
      show Go SC mX10_apart 34 [(0, .ref 0), (1, .int a1), (2, .int a2), (3, .null), (4, .ref (dA (hA b) a2.toNatClampNeg))] [.int (vXX10_refuse 1 (-1))] (wXX10_refuse 1 (-1) w) Q
      exact g_iret (pc := 34) dX10_apart_34 rfl h
    · have h := h.2 qd3
      show Go SC mX10_apart 17 [(0, .ref 0), (1, .int a1), (2, .int a2), (3, .null)] [.null] w Q
      refine g_astoreN (pc := 17) (lv2 := [(0, .ref 0), (1, .int a1), (2, .int a2), (3, .null), (4, .null)]) dX10_apart_17 (Nat.le_of_ble_eq_true rfl) rfl ?_
      refine g_aload_nN (pc := 19) dX10_apart_19 rfl 3 rfl ?_
      refine g_ifnullN (pc := 20) (tgt := 28) dX10_apart_20 (by decide) ?_
      refine g_aload_n (pc := 28) dX10_apart_28 rfl 0 rfl ?_
      refine g_iconst (pc := 29) dX10_apart_29 c_1 ?_
      refine g_iconst (pc := 30) dX10_apart_30 cN_1 ?_
      refine g_callV (pc := 31) (M' := mX10_refuse) (n := 2) (a := 0) (as := [.int 1, .int (-1)]) (st := []) dX10_apart_31 rfl kX10_83 vX10_refuse (Nat.le_of_ble_eq_true rfl) rfl qX10 rfl rfl (Nat.le_of_ble_eq_true rfl) ?_
      refine zX10_refuse (a1 := 1) (a2 := (-1)) (w := w) (b := b) (hR := hR) ?_
      show Go SC mX10_apart 34 [(0, .ref 0), (1, .int a1), (2, .int a2), (3, .null), (4, .null)] [.int (vXX10_refuse 1 (-1))] (wXX10_refuse 1 (-1) w) Q
      exact g_iret (pc := 34) dX10_apart_34 rfl h
set_option maxHeartbeats 4000000 in
set_option maxRecDepth 100000 in
theorem TX10_betweenTrouble (a1 : Int32) (a2 : Int32) (w : Wd) (b : Bool) (hR : w.2.2 = RTab b) (Q : Option Value → Wd → Prop) (h : ((0 ≤ a1 ∧ a1 < wi w (hA b) 2 ∧ a1 < 5 → ((0 ≤ a2 ∧ a2 < wi w (hA b) 2 ∧ a2 < 5 → ((a1 = a2 → Q (some (.int 1)) w) ∧ (¬ (a1 = a2) → (((wi w (dA (hA b) a1.toNatClampNeg + 2) 1) = 0 → Q (some (.int 5)) w) ∧ (¬ ((wi w (dA (hA b) a1.toNatClampNeg + 2) 1) = 0) → (((wi w (dA (hA b) a2.toNatClampNeg + 2) 1) = 0 → Q (some (.int 5)) w) ∧ (¬ ((wi w (dA (hA b) a2.toNatClampNeg + 2) 1) = 0) → (((vXX7_isLike (dA (hA b) a1.toNatClampNeg + 2) (dA (hA b) a2.toNatClampNeg + 2) w) = 0 → ((((wi w (dA (hA b) a2.toNatClampNeg + 2) 0) * (wi w (dA (hA b) a1.toNatClampNeg + 2) 1)) ≤ ((wi w (dA (hA b) a1.toNatClampNeg + 2) 0) * (wi w (dA (hA b) a2.toNatClampNeg + 2) 1)) → ClV SC mX3_between [.ref (dA (hA b) a2.toNatClampNeg + 2), .ref (dA (hA b) a1.toNatClampNeg + 2), .ref 55] w (fun w3 => w3.2.2 = RTab b ∧ Q (some (.int 0)) w3)) ∧ (¬ (((wi w (dA (hA b) a2.toNatClampNeg + 2) 0) * (wi w (dA (hA b) a1.toNatClampNeg + 2) 1)) ≤ ((wi w (dA (hA b) a1.toNatClampNeg + 2) 0) * (wi w (dA (hA b) a2.toNatClampNeg + 2) 1))) → ClV SC mX3_between [.ref (dA (hA b) a1.toNatClampNeg + 2), .ref (dA (hA b) a2.toNatClampNeg + 2), .ref 55] w (fun w4 => w4.2.2 = RTab b ∧ Q (some (.int 0)) w4)))) ∧ (¬ ((vXX7_isLike (dA (hA b) a1.toNatClampNeg + 2) (dA (hA b) a2.toNatClampNeg + 2) w) = 0) → Q (some (.int 5)) w))))))))) ∧ (¬ (0 ≤ a2 ∧ a2 < wi w (hA b) 2 ∧ a2 < 5) → Q (some (.int 1)) w))) ∧ (¬ (0 ≤ a1 ∧ a1 < wi w (hA b) 2 ∧ a1 < 5) → ((0 ≤ a2 ∧ a2 < wi w (hA b) 2 ∧ a2 < 5 → Q (some (.int 1)) w) ∧ (¬ (0 ≤ a2 ∧ a2 < wi w (hA b) 2 ∧ a2 < 5) → Q (some (.int 1)) w))))) : Cl SC mX10_betweenTrouble [.ref 0, .int a1, .int a2] w Q := by
  refine cl_of (by decide) (Nat.le_of_ble_eq_true rfl) ?_
  show Go SC mX10_betweenTrouble 0 [(0, .ref 0), (1, .int a1), (2, .int a2)] [] w Q
  refine g_aload_n (pc := 0) dX10_betweenTrouble_0 rfl 0 rfl ?_
  refine g_getR (pc := 1) (a := 0) (b := (hA b)) dX10_betweenTrouble_1 rfl fX10_19 rfl (rc_0_1 hR) ?_
  refine g_iload_n (pc := 4) dX10_betweenTrouble_4 rfl 1 rfl ?_
  refine g_callV (pc := 5) (M' := mX2_danceAt) (n := 1) (a := (hA b)) (as := [.int a1]) (st := []) dX10_betweenTrouble_5 rfl kX10_113 vX2_danceAt (Nat.le_of_ble_eq_true rfl) (sh_h b) qX2 rfl rfl (Nat.le_of_ble_eq_true rfl) ?_
  refine h_danceAt (c := b) (d := a1) (w := w) (hR := hR) (fun qd1 => ?_) (fun qd1 => ?_)
  · have h := h.1 qd1
    show Go SC mX10_betweenTrouble 8 [(0, .ref 0), (1, .int a1), (2, .int a2)] [.ref (dA (hA b) a1.toNatClampNeg)] w Q
    refine g_astore_n (pc := 8) (lv2 := [(0, .ref 0), (1, .int a1), (2, .int a2), (3, .ref (dA (hA b) a1.toNatClampNeg))]) dX10_betweenTrouble_8 rfl (Nat.le_of_ble_eq_true rfl) rfl ?_
    refine g_aload_n (pc := 9) dX10_betweenTrouble_9 rfl 0 rfl ?_
    refine g_getR (pc := 10) (a := 0) (b := (hA b)) dX10_betweenTrouble_10 rfl fX10_19 rfl (rc_0_1 hR) ?_
    refine g_iload_n (pc := 13) dX10_betweenTrouble_13 rfl 2 rfl ?_
    refine g_callV (pc := 14) (M' := mX2_danceAt) (n := 1) (a := (hA b)) (as := [.int a2]) (st := []) dX10_betweenTrouble_14 rfl kX10_113 vX2_danceAt (Nat.le_of_ble_eq_true rfl) (sh_h b) qX2 rfl rfl (Nat.le_of_ble_eq_true rfl) ?_
    refine h_danceAt (c := b) (d := a2) (w := w) (hR := hR) (fun qd2 => ?_) (fun qd2 => ?_)
    · have h := h.1 qd2
      show Go SC mX10_betweenTrouble 17 [(0, .ref 0), (1, .int a1), (2, .int a2), (3, .ref (dA (hA b) a1.toNatClampNeg))] [.ref (dA (hA b) a2.toNatClampNeg)] w Q
      refine g_astore (pc := 17) (lv2 := [(0, .ref 0), (1, .int a1), (2, .int a2), (3, .ref (dA (hA b) a1.toNatClampNeg)), (4, .ref (dA (hA b) a2.toNatClampNeg))]) dX10_betweenTrouble_17 (Nat.le_of_ble_eq_true rfl) rfl ?_
      refine g_aload_n (pc := 19) dX10_betweenTrouble_19 rfl 3 rfl ?_
      refine g_ifnullR (pc := 20) dX10_betweenTrouble_20 ?_
      refine g_aload (pc := 23) dX10_betweenTrouble_23 4 rfl ?_
      refine g_ifnullR (pc := 25) dX10_betweenTrouble_25 ?_
      refine g_iload_n (pc := 28) dX10_betweenTrouble_28 rfl 1 rfl ?_
      refine g_iload_n (pc := 29) dX10_betweenTrouble_29 rfl 2 rfl ?_
      refine g_icmp_ne (pc := 30) (tgt := 35) dX10_betweenTrouble_30 (by decide) (fun q => ?_) (fun q => ?_)
      · have h := h.2 q
        refine g_aload_n (pc := 35) dX10_betweenTrouble_35 rfl 3 rfl ?_
        refine g_getR (pc := 36) (a := (dA (hA b) a1.toNatClampNeg)) (b := (dA (hA b) a1.toNatClampNeg + 2)) dX10_betweenTrouble_36 rfl fX10_118 (sh_d b (lt5 qd1.1 qd1.2.2)) (rd_4 hR b (lt5 qd1.1 qd1.2.2)) ?_
        refine g_astore (pc := 39) (lv2 := [(0, .ref 0), (1, .int a1), (2, .int a2), (3, .ref (dA (hA b) a1.toNatClampNeg)), (4, .ref (dA (hA b) a2.toNatClampNeg)), (5, .ref (dA (hA b) a1.toNatClampNeg + 2))]) dX10_betweenTrouble_39 (Nat.le_of_ble_eq_true rfl) rfl ?_
        refine g_aload (pc := 41) dX10_betweenTrouble_41 4 rfl ?_
        refine g_getR (pc := 43) (a := (dA (hA b) a2.toNatClampNeg)) (b := (dA (hA b) a2.toNatClampNeg + 2)) dX10_betweenTrouble_43 rfl fX10_118 (sh_d b (lt5 qd2.1 qd2.2.2)) (rd_4 hR b (lt5 qd2.1 qd2.2.2)) ?_
        refine g_astore (pc := 46) (lv2 := [(0, .ref 0), (1, .int a1), (2, .int a2), (3, .ref (dA (hA b) a1.toNatClampNeg)), (4, .ref (dA (hA b) a2.toNatClampNeg)), (5, .ref (dA (hA b) a1.toNatClampNeg + 2)), (6, .ref (dA (hA b) a2.toNatClampNeg + 2))]) dX10_betweenTrouble_46 (Nat.le_of_ble_eq_true rfl) rfl ?_
        refine g_aload (pc := 48) dX10_betweenTrouble_48 5 rfl ?_
        refine g_getI (pc := 50) (a := (dA (hA b) a1.toNatClampNeg + 2)) dX10_betweenTrouble_50 rfl fX10_126 (sh_dn b (lt5 qd1.1 qd1.2.2)) ?_
        refine g_if_eq (pc := 53) (tgt := 74) dX10_betweenTrouble_53 (by decide) (fun q => ?_) (fun q => ?_)
        · have h := h.1 q
          refine g_iconst (pc := 74) dX10_betweenTrouble_74 c_5 ?_
          exact g_iret (pc := 75) dX10_betweenTrouble_75 rfl h
        · have h := h.2 q
          refine g_aload (pc := 56) dX10_betweenTrouble_56 6 rfl ?_
          refine g_getI (pc := 58) (a := (dA (hA b) a2.toNatClampNeg + 2)) dX10_betweenTrouble_58 rfl fX10_126 (sh_dn b (lt5 qd2.1 qd2.2.2)) ?_
          refine g_if_eq (pc := 61) (tgt := 74) dX10_betweenTrouble_61 (by decide) (fun q => ?_) (fun q => ?_)
          · have h := h.1 q
            refine g_iconst (pc := 74) dX10_betweenTrouble_74 c_5 ?_
            exact g_iret (pc := 75) dX10_betweenTrouble_75 rfl h
          · have h := h.2 q
            refine g_aload (pc := 64) dX10_betweenTrouble_64 5 rfl ?_
            refine g_aload (pc := 66) dX10_betweenTrouble_66 6 rfl ?_
            refine g_callV (pc := 68) (M' := mX7_isLike) (n := 1) (a := (dA (hA b) a1.toNatClampNeg + 2)) (as := [.ref (dA (hA b) a2.toNatClampNeg + 2)]) (st := []) dX10_betweenTrouble_68 rfl kX10_363 vX7_isLike (Nat.le_of_ble_eq_true rfl) (sh_dn b (lt5 qd1.1 qd1.2.2)) qX7 rfl rfl (Nat.le_of_ble_eq_true rfl) ?_
            refine zX7_isLike (t := (dA (hA b) a1.toNatClampNeg + 2)) (a1 := (dA (hA b) a2.toNatClampNeg + 2)) (w := w) (b := b) (hR := hR) (ht := (sh_dn b (lt5 qd1.1 qd1.2.2))) (ha1 := (sh_dn b (lt5 qd2.1 qd2.2.2))) ?_
            show Go SC mX10_betweenTrouble 71 [(0, .ref 0), (1, .int a1), (2, .int a2), (3, .ref (dA (hA b) a1.toNatClampNeg)), (4, .ref (dA (hA b) a2.toNatClampNeg)), (5, .ref (dA (hA b) a1.toNatClampNeg + 2)), (6, .ref (dA (hA b) a2.toNatClampNeg + 2))] [.int (vXX7_isLike (dA (hA b) a1.toNatClampNeg + 2) (dA (hA b) a2.toNatClampNeg + 2) w)] w Q
            refine g_if_eq (pc := 71) (tgt := 76) dX10_betweenTrouble_71 (by decide) (fun q => ?_) (fun q => ?_)
            · have h := h.1 q
              refine g_aload (pc := 76) dX10_betweenTrouble_76 5 rfl ?_
              refine g_getI (pc := 78) (a := (dA (hA b) a1.toNatClampNeg + 2)) dX10_betweenTrouble_78 rfl fX10_123 (sh_dn b (lt5 qd1.1 qd1.2.2)) ?_
              refine g_aload (pc := 81) dX10_betweenTrouble_81 6 rfl ?_
              refine g_getI (pc := 83) (a := (dA (hA b) a2.toNatClampNeg + 2)) dX10_betweenTrouble_83 rfl fX10_126 (sh_dn b (lt5 qd2.1 qd2.2.2)) ?_
              refine g_imul (pc := 86) dX10_betweenTrouble_86 ?_
              refine g_aload (pc := 87) dX10_betweenTrouble_87 6 rfl ?_
              refine g_getI (pc := 89) (a := (dA (hA b) a2.toNatClampNeg + 2)) dX10_betweenTrouble_89 rfl fX10_123 (sh_dn b (lt5 qd2.1 qd2.2.2)) ?_
              refine g_aload (pc := 92) dX10_betweenTrouble_92 5 rfl ?_
              refine g_getI (pc := 94) (a := (dA (hA b) a1.toNatClampNeg + 2)) dX10_betweenTrouble_94 rfl fX10_126 (sh_dn b (lt5 qd1.1 qd1.2.2)) ?_
              refine g_imul (pc := 97) dX10_betweenTrouble_97 ?_
              refine g_icmp_ge (pc := 98) (tgt := 115) dX10_betweenTrouble_98 (by decide) (fun q => ?_) (fun q => ?_)
              · have h := h.1 q
                refine g_aload (pc := 115) dX10_betweenTrouble_115 6 rfl ?_
                refine g_aload (pc := 117) dX10_betweenTrouble_117 5 rfl ?_
                refine g_aload_n (pc := 119) dX10_betweenTrouble_119 rfl 0 rfl ?_
                refine g_getR (pc := 120) (a := 0) (b := 55) dX10_betweenTrouble_120 rfl fX10_36 rfl (rc_0_4 hR) ?_
                refine g_callS (pc := 123) (M' := mX3_between) (n := 3) (as := [.ref (dA (hA b) a2.toNatClampNeg + 2), .ref (dA (hA b) a1.toNatClampNeg + 2), .ref 55]) (st := []) dX10_betweenTrouble_123 rfl kX10_366 sX3_between (Nat.le_of_ble_eq_true rfl) rfl rfl (Nat.le_of_ble_eq_true rfl) ?_
                refine cl_mono (fun r w3 hr => ?_) h
                obtain ⟨rfl, hw3, h⟩ := hr
                show Go SC mX10_betweenTrouble 126 [(0, .ref 0), (1, .int a1), (2, .int a2), (3, .ref (dA (hA b) a1.toNatClampNeg)), (4, .ref (dA (hA b) a2.toNatClampNeg)), (5, .ref (dA (hA b) a1.toNatClampNeg + 2)), (6, .ref (dA (hA b) a2.toNatClampNeg + 2))] [] w3 Q
                refine g_iconst (pc := 126) dX10_betweenTrouble_126 c_0 ?_
                exact g_iret (pc := 127) dX10_betweenTrouble_127 rfl h
              · have h := h.2 q
                refine g_aload (pc := 101) dX10_betweenTrouble_101 5 rfl ?_
                refine g_aload (pc := 103) dX10_betweenTrouble_103 6 rfl ?_
                refine g_aload_n (pc := 105) dX10_betweenTrouble_105 rfl 0 rfl ?_
                refine g_getR (pc := 106) (a := 0) (b := 55) dX10_betweenTrouble_106 rfl fX10_36 rfl (rc_0_4 hR) ?_
                refine g_callS (pc := 109) (M' := mX3_between) (n := 3) (as := [.ref (dA (hA b) a1.toNatClampNeg + 2), .ref (dA (hA b) a2.toNatClampNeg + 2), .ref 55]) (st := []) dX10_betweenTrouble_109 rfl kX10_366 sX3_between (Nat.le_of_ble_eq_true rfl) rfl rfl (Nat.le_of_ble_eq_true rfl) ?_
                refine cl_mono (fun r w4 hr => ?_) h
                obtain ⟨rfl, hw4, h⟩ := hr
                show Go SC mX10_betweenTrouble 112 [(0, .ref 0), (1, .int a1), (2, .int a2), (3, .ref (dA (hA b) a1.toNatClampNeg)), (4, .ref (dA (hA b) a2.toNatClampNeg)), (5, .ref (dA (hA b) a1.toNatClampNeg + 2)), (6, .ref (dA (hA b) a2.toNatClampNeg + 2))] [] w4 Q
                refine g_goto (pc := 112) (tgt := 126) dX10_betweenTrouble_112 (by decide) ?_
                refine g_iconst (pc := 126) dX10_betweenTrouble_126 c_0 ?_
                exact g_iret (pc := 127) dX10_betweenTrouble_127 rfl h
            · have h := h.2 q
              refine g_iconst (pc := 74) dX10_betweenTrouble_74 c_5 ?_
              exact g_iret (pc := 75) dX10_betweenTrouble_75 rfl h
      · have h := h.1 q
        refine g_iconst (pc := 33) dX10_betweenTrouble_33 c_1 ?_
        exact g_iret (pc := 34) dX10_betweenTrouble_34 rfl h
    · have h := h.2 qd2
      show Go SC mX10_betweenTrouble 17 [(0, .ref 0), (1, .int a1), (2, .int a2), (3, .ref (dA (hA b) a1.toNatClampNeg))] [.null] w Q
      refine g_astoreN (pc := 17) (lv2 := [(0, .ref 0), (1, .int a1), (2, .int a2), (3, .ref (dA (hA b) a1.toNatClampNeg)), (4, .null)]) dX10_betweenTrouble_17 (Nat.le_of_ble_eq_true rfl) rfl ?_
      refine g_aload_n (pc := 19) dX10_betweenTrouble_19 rfl 3 rfl ?_
      refine g_ifnullR (pc := 20) dX10_betweenTrouble_20 ?_
      refine g_aloadN (pc := 23) dX10_betweenTrouble_23 4 rfl ?_
      refine g_ifnullN (pc := 25) (tgt := 33) dX10_betweenTrouble_25 (by decide) ?_
      refine g_iconst (pc := 33) dX10_betweenTrouble_33 c_1 ?_
      exact g_iret (pc := 34) dX10_betweenTrouble_34 rfl h
  · have h := h.2 qd1
    show Go SC mX10_betweenTrouble 8 [(0, .ref 0), (1, .int a1), (2, .int a2)] [.null] w Q
    refine g_astore_nN (pc := 8) (lv2 := [(0, .ref 0), (1, .int a1), (2, .int a2), (3, .null)]) dX10_betweenTrouble_8 rfl (Nat.le_of_ble_eq_true rfl) rfl ?_
    refine g_aload_n (pc := 9) dX10_betweenTrouble_9 rfl 0 rfl ?_
    refine g_getR (pc := 10) (a := 0) (b := (hA b)) dX10_betweenTrouble_10 rfl fX10_19 rfl (rc_0_1 hR) ?_
    refine g_iload_n (pc := 13) dX10_betweenTrouble_13 rfl 2 rfl ?_
    refine g_callV (pc := 14) (M' := mX2_danceAt) (n := 1) (a := (hA b)) (as := [.int a2]) (st := []) dX10_betweenTrouble_14 rfl kX10_113 vX2_danceAt (Nat.le_of_ble_eq_true rfl) (sh_h b) qX2 rfl rfl (Nat.le_of_ble_eq_true rfl) ?_
    refine h_danceAt (c := b) (d := a2) (w := w) (hR := hR) (fun qd5 => ?_) (fun qd5 => ?_)
    · have h := h.1 qd5
      show Go SC mX10_betweenTrouble 17 [(0, .ref 0), (1, .int a1), (2, .int a2), (3, .null)] [.ref (dA (hA b) a2.toNatClampNeg)] w Q
      refine g_astore (pc := 17) (lv2 := [(0, .ref 0), (1, .int a1), (2, .int a2), (3, .null), (4, .ref (dA (hA b) a2.toNatClampNeg))]) dX10_betweenTrouble_17 (Nat.le_of_ble_eq_true rfl) rfl ?_
      refine g_aload_nN (pc := 19) dX10_betweenTrouble_19 rfl 3 rfl ?_
      refine g_ifnullN (pc := 20) (tgt := 33) dX10_betweenTrouble_20 (by decide) ?_
      refine g_iconst (pc := 33) dX10_betweenTrouble_33 c_1 ?_
      exact g_iret (pc := 34) dX10_betweenTrouble_34 rfl h
    · have h := h.2 qd5
      show Go SC mX10_betweenTrouble 17 [(0, .ref 0), (1, .int a1), (2, .int a2), (3, .null)] [.null] w Q
      refine g_astoreN (pc := 17) (lv2 := [(0, .ref 0), (1, .int a1), (2, .int a2), (3, .null), (4, .null)]) dX10_betweenTrouble_17 (Nat.le_of_ble_eq_true rfl) rfl ?_
      refine g_aload_nN (pc := 19) dX10_betweenTrouble_19 rfl 3 rfl ?_
      refine g_ifnullN (pc := 20) (tgt := 33) dX10_betweenTrouble_20 (by decide) ?_
      refine g_iconst (pc := 33) dX10_betweenTrouble_33 c_1 ?_
      exact g_iret (pc := 34) dX10_betweenTrouble_34 rfl h
set_option maxHeartbeats 4000000 in
set_option maxRecDepth 100000 in
theorem TX10_upperBetween (a1 : Int32) (a2 : Int32) (w : Wd) (b : Bool) (hR : w.2.2 = RTab b) (Q : Option Value → Wd → Prop) (h : ClI SC mX10_betweenTrouble [.ref 0, .int a1, .int a2] w (fun x2 w1 => w1.2.2 = RTab b ∧ ((x2 = 0 → Q (some (.int (vXX10_accept (wi w1 55 0)))) (wXX10_accept (wi w1 55 0) w1)) ∧ (¬ (x2 = 0) → Q (some (.int (vXX10_refuse x2 (-100000)))) (wXX10_refuse x2 (-100000) w1))))) : Cl SC mX10_upperBetween [.ref 0, .int a1, .int a2] w Q := by
  refine cl_of (by decide) (Nat.le_of_ble_eq_true rfl) ?_
  show Go SC mX10_upperBetween 0 [(0, .ref 0), (1, .int a1), (2, .int a2)] [] w Q
  refine g_aload_n (pc := 0) dX10_upperBetween_0 rfl 0 rfl ?_
  refine g_iload_n (pc := 1) dX10_upperBetween_1 rfl 1 rfl ?_
  refine g_iload_n (pc := 2) dX10_upperBetween_2 rfl 2 rfl ?_
  refine g_callV (pc := 3) (M' := mX10_betweenTrouble) (n := 2) (a := 0) (as := [.int a1, .int a2]) (st := []) dX10_upperBetween_3 rfl kX10_227 vX10_betweenTrouble (Nat.le_of_ble_eq_true rfl) rfl qX10 rfl rfl (Nat.le_of_ble_eq_true rfl) ?_
  refine cl_mono (fun r w1 hr => ?_) h
  obtain ⟨x2, rfl, hw1, h⟩ := hr
  show Go SC mX10_upperBetween 6 [(0, .ref 0), (1, .int a1), (2, .int a2)] [.int x2] w1 Q
  refine g_istore_n (pc := 6) (lv2 := [(0, .ref 0), (1, .int a1), (2, .int a2), (3, .int x2)]) dX10_upperBetween_6 rfl (Nat.le_of_ble_eq_true rfl) rfl ?_
  refine g_iload_n (pc := 7) dX10_upperBetween_7 rfl 3 rfl ?_
  refine g_if_ne (pc := 8) (tgt := 25) dX10_upperBetween_8 (by decide) (fun q => ?_) (fun q => ?_)
  · have h := h.2 q
    refine g_aload_n (pc := 25) dX10_upperBetween_25 rfl 0 rfl ?_
    refine g_iload_n (pc := 26) dX10_upperBetween_26 rfl 3 rfl ?_
    refine g_ldc (pc := 27) dX10_upperBetween_27 rfl nX10_117 ?_
    refine g_callV (pc := 29) (M' := mX10_refuse) (n := 2) (a := 0) (as := [.int x2, .int (-100000)]) (st := []) dX10_upperBetween_29 rfl kX10_83 vX10_refuse (Nat.le_of_ble_eq_true rfl) rfl qX10 rfl rfl (Nat.le_of_ble_eq_true rfl) ?_
    refine zX10_refuse (a1 := x2) (a2 := (-100000)) (w := w1) (b := b) (hR := hw1) ?_
    show Go SC mX10_upperBetween 32 [(0, .ref 0), (1, .int a1), (2, .int a2), (3, .int x2)] [.int (vXX10_refuse x2 (-100000))] (wXX10_refuse x2 (-100000) w1) Q
    exact g_iret (pc := 32) dX10_upperBetween_32 rfl h
  · have h := h.1 q
    refine g_aload_n (pc := 11) dX10_upperBetween_11 rfl 0 rfl ?_
    refine g_aload_n (pc := 12) dX10_upperBetween_12 rfl 0 rfl ?_
    refine g_getR (pc := 13) (a := 0) (b := 55) dX10_upperBetween_13 rfl fX10_36 rfl (rc_0_4 hw1) ?_
    refine g_getI (pc := 16) (a := 55) dX10_upperBetween_16 rfl fX10_123 rfl ?_
    refine g_callV (pc := 19) (M' := mX10_accept) (n := 1) (a := 0) (as := [.int (wi w1 55 0)]) (st := []) dX10_upperBetween_19 rfl kX10_100 vX10_accept (Nat.le_of_ble_eq_true rfl) rfl qX10 rfl rfl (Nat.le_of_ble_eq_true rfl) ?_
    refine zX10_accept (a1 := (wi w1 55 0)) (w := w1) (b := b) (hR := hw1) ?_
    show Go SC mX10_upperBetween 22 [(0, .ref 0), (1, .int a1), (2, .int a2), (3, .int x2)] [.int (vXX10_accept (wi w1 55 0))] (wXX10_accept (wi w1 55 0) w1) Q
    refine g_goto (pc := 22) (tgt := 32) dX10_upperBetween_22 (by decide) ?_
    exact g_iret (pc := 32) dX10_upperBetween_32 rfl h
set_option maxHeartbeats 4000000 in
set_option maxRecDepth 100000 in
theorem TX10_lowerBetween (a1 : Int32) (a2 : Int32) (w : Wd) (b : Bool) (hR : w.2.2 = RTab b) (Q : Option Value → Wd → Prop) (h : ClI SC mX10_betweenTrouble [.ref 0, .int a1, .int a2] w (fun x2 w1 => w1.2.2 = RTab b ∧ ((x2 = 0 → Q (some (.int (vXX10_accept (wi w1 55 1)))) (wXX10_accept (wi w1 55 1) w1)) ∧ (¬ (x2 = 0) → Q (some (.int (vXX10_refuse x2 (-1)))) (wXX10_refuse x2 (-1) w1))))) : Cl SC mX10_lowerBetween [.ref 0, .int a1, .int a2] w Q := by
  refine cl_of (by decide) (Nat.le_of_ble_eq_true rfl) ?_
  show Go SC mX10_lowerBetween 0 [(0, .ref 0), (1, .int a1), (2, .int a2)] [] w Q
  refine g_aload_n (pc := 0) dX10_lowerBetween_0 rfl 0 rfl ?_
  refine g_iload_n (pc := 1) dX10_lowerBetween_1 rfl 1 rfl ?_
  refine g_iload_n (pc := 2) dX10_lowerBetween_2 rfl 2 rfl ?_
  refine g_callV (pc := 3) (M' := mX10_betweenTrouble) (n := 2) (a := 0) (as := [.int a1, .int a2]) (st := []) dX10_lowerBetween_3 rfl kX10_227 vX10_betweenTrouble (Nat.le_of_ble_eq_true rfl) rfl qX10 rfl rfl (Nat.le_of_ble_eq_true rfl) ?_
  refine cl_mono (fun r w1 hr => ?_) h
  obtain ⟨x2, rfl, hw1, h⟩ := hr
  show Go SC mX10_lowerBetween 6 [(0, .ref 0), (1, .int a1), (2, .int a2)] [.int x2] w1 Q
  refine g_istore_n (pc := 6) (lv2 := [(0, .ref 0), (1, .int a1), (2, .int a2), (3, .int x2)]) dX10_lowerBetween_6 rfl (Nat.le_of_ble_eq_true rfl) rfl ?_
  refine g_iload_n (pc := 7) dX10_lowerBetween_7 rfl 3 rfl ?_
  refine g_if_ne (pc := 8) (tgt := 25) dX10_lowerBetween_8 (by decide) (fun q => ?_) (fun q => ?_)
  · have h := h.2 q
    refine g_aload_n (pc := 25) dX10_lowerBetween_25 rfl 0 rfl ?_
    refine g_iload_n (pc := 26) dX10_lowerBetween_26 rfl 3 rfl ?_
    refine g_iconst (pc := 27) dX10_lowerBetween_27 cN_1 ?_
    refine g_callV (pc := 28) (M' := mX10_refuse) (n := 2) (a := 0) (as := [.int x2, .int (-1)]) (st := []) dX10_lowerBetween_28 rfl kX10_83 vX10_refuse (Nat.le_of_ble_eq_true rfl) rfl qX10 rfl rfl (Nat.le_of_ble_eq_true rfl) ?_
    refine zX10_refuse (a1 := x2) (a2 := (-1)) (w := w1) (b := b) (hR := hw1) ?_
    show Go SC mX10_lowerBetween 31 [(0, .ref 0), (1, .int a1), (2, .int a2), (3, .int x2)] [.int (vXX10_refuse x2 (-1))] (wXX10_refuse x2 (-1) w1) Q
    exact g_iret (pc := 31) dX10_lowerBetween_31 rfl h
  · have h := h.1 q
    refine g_aload_n (pc := 11) dX10_lowerBetween_11 rfl 0 rfl ?_
    refine g_aload_n (pc := 12) dX10_lowerBetween_12 rfl 0 rfl ?_
    refine g_getR (pc := 13) (a := 0) (b := 55) dX10_lowerBetween_13 rfl fX10_36 rfl (rc_0_4 hw1) ?_
    refine g_getI (pc := 16) (a := 55) dX10_lowerBetween_16 rfl fX10_126 rfl ?_
    refine g_callV (pc := 19) (M' := mX10_accept) (n := 1) (a := 0) (as := [.int (wi w1 55 1)]) (st := []) dX10_lowerBetween_19 rfl kX10_100 vX10_accept (Nat.le_of_ble_eq_true rfl) rfl qX10 rfl rfl (Nat.le_of_ble_eq_true rfl) ?_
    refine zX10_accept (a1 := (wi w1 55 1)) (w := w1) (b := b) (hR := hw1) ?_
    show Go SC mX10_lowerBetween 22 [(0, .ref 0), (1, .int a1), (2, .int a2), (3, .int x2)] [.int (vXX10_accept (wi w1 55 1))] (wXX10_accept (wi w1 55 1) w1) Q
    refine g_goto (pc := 22) (tgt := 31) dX10_lowerBetween_22 (by decide) ?_
    exact g_iret (pc := 31) dX10_lowerBetween_31 rfl h
set_option maxHeartbeats 4000000 in
set_option maxRecDepth 100000 in
theorem TX10_rungs (a1 : Int32) (w : Wd) (b : Bool) (hR : w.2.2 = RTab b) (Q : Option Value → Wd → Prop) (h : (((vXX10_numberTrouble a1 1 200 w b) = 0 → ClI SC mX3_climb [.ref 61, .int a1, .int 1000000] w (fun x2 w1 => w1.2.2 = RTab b ∧ Q (some (.int (vXX10_accept (x2 + 1)))) (wXX10_accept (x2 + 1) w1))) ∧ (¬ ((vXX10_numberTrouble a1 1 200 w b) = 0) → Q (some (.int (vXX10_refuse (vXX10_numberTrouble a1 1 200 w b) (-1)))) (wXX10_refuse (vXX10_numberTrouble a1 1 200 w b) (-1) w)))) : Cl SC mX10_rungs [.ref 0, .int a1] w Q := by
  refine cl_of (by decide) (Nat.le_of_ble_eq_true rfl) ?_
  show Go SC mX10_rungs 0 [(0, .ref 0), (1, .int a1)] [] w Q
  refine g_aload_n (pc := 0) dX10_rungs_0 rfl 0 rfl ?_
  refine g_iload_n (pc := 1) dX10_rungs_1 rfl 1 rfl ?_
  refine g_iconst (pc := 2) dX10_rungs_2 c_1 ?_
  refine g_sipush (pc := 3) (v := 200) dX10_rungs_3 (by decide) ?_
  refine g_callV (pc := 6) (M' := mX10_numberTrouble) (n := 3) (a := 0) (as := [.int a1, .int 1, .int 200]) (st := []) dX10_rungs_6 rfl kX10_221 vX10_numberTrouble (Nat.le_of_ble_eq_true rfl) rfl qX10 rfl rfl (Nat.le_of_ble_eq_true rfl) ?_
  refine zX10_numberTrouble (a1 := a1) (a2 := 1) (a3 := 200) (w := w) (b := b) (hR := hR) ?_
  show Go SC mX10_rungs 9 [(0, .ref 0), (1, .int a1)] [.int (vXX10_numberTrouble a1 1 200 w b)] w Q
  refine g_istore_n (pc := 9) (lv2 := [(0, .ref 0), (1, .int a1), (2, .int (vXX10_numberTrouble a1 1 200 w b))]) dX10_rungs_9 rfl (Nat.le_of_ble_eq_true rfl) rfl ?_
  refine g_iload_n (pc := 10) dX10_rungs_10 rfl 2 rfl ?_
  refine g_if_eq (pc := 11) (tgt := 21) dX10_rungs_11 (by decide) (fun q => ?_) (fun q => ?_)
  · have h := h.1 q
    refine g_aload_n (pc := 21) dX10_rungs_21 rfl 0 rfl ?_
    refine g_aload_n (pc := 22) dX10_rungs_22 rfl 0 rfl ?_
    refine g_getR (pc := 23) (a := 0) (b := 61) dX10_rungs_23 rfl fX10_60 rfl (rc_0_8 hR) ?_
    refine g_iload_n (pc := 26) dX10_rungs_26 rfl 1 rfl ?_
    refine g_ldc (pc := 27) dX10_rungs_27 rfl nX10_193 ?_
    refine g_callV (pc := 29) (M' := mX3_climb) (n := 2) (a := 61) (as := [.int a1, .int 1000000]) (st := [.ref 0]) dX10_rungs_29 rfl kX10_230 vX3_climb (Nat.le_of_ble_eq_true rfl) rfl qX3 rfl rfl (Nat.le_of_ble_eq_true rfl) ?_
    refine cl_mono (fun r w1 hr => ?_) h
    obtain ⟨x2, rfl, hw1, h⟩ := hr
    show Go SC mX10_rungs 32 [(0, .ref 0), (1, .int a1), (2, .int (vXX10_numberTrouble a1 1 200 w b))] [.int x2, .ref 0] w1 Q
    refine g_iconst (pc := 32) dX10_rungs_32 c_1 ?_
    refine g_iadd (pc := 33) dX10_rungs_33 ?_
    refine g_callV (pc := 34) (M' := mX10_accept) (n := 1) (a := 0) (as := [.int (x2 + 1)]) (st := []) dX10_rungs_34 rfl kX10_100 vX10_accept (Nat.le_of_ble_eq_true rfl) rfl qX10 rfl rfl (Nat.le_of_ble_eq_true rfl) ?_
    refine zX10_accept (a1 := (x2 + 1)) (w := w1) (b := b) (hR := hw1) ?_
    show Go SC mX10_rungs 37 [(0, .ref 0), (1, .int a1), (2, .int (vXX10_numberTrouble a1 1 200 w b))] [.int (vXX10_accept (x2 + 1))] (wXX10_accept (x2 + 1) w1) Q
    exact g_iret (pc := 37) dX10_rungs_37 rfl h
  · have h := h.2 q
    refine g_aload_n (pc := 14) dX10_rungs_14 rfl 0 rfl ?_
    refine g_iload_n (pc := 15) dX10_rungs_15 rfl 2 rfl ?_
    refine g_iconst (pc := 16) dX10_rungs_16 cN_1 ?_
    refine g_callV (pc := 17) (M' := mX10_refuse) (n := 2) (a := 0) (as := [.int (vXX10_numberTrouble a1 1 200 w b), .int (-1)]) (st := []) dX10_rungs_17 rfl kX10_83 vX10_refuse (Nat.le_of_ble_eq_true rfl) rfl qX10 rfl rfl (Nat.le_of_ble_eq_true rfl) ?_
    refine zX10_refuse (a1 := (vXX10_numberTrouble a1 1 200 w b)) (a2 := (-1)) (w := w) (b := b) (hR := hR) ?_
    show Go SC mX10_rungs 20 [(0, .ref 0), (1, .int a1), (2, .int (vXX10_numberTrouble a1 1 200 w b))] [.int (vXX10_refuse (vXX10_numberTrouble a1 1 200 w b) (-1))] (wXX10_refuse (vXX10_numberTrouble a1 1 200 w b) (-1) w) Q
    exact g_iret (pc := 20) dX10_rungs_20 rfl h
set_option maxHeartbeats 4000000 in
set_option maxRecDepth 100000 in
theorem TX10_rungTrouble (a1 : Int32) (a2 : Int32) (w : Wd) (b : Bool) (hR : w.2.2 = RTab b) (Q : Option Value → Wd → Prop) (h : (((vXX10_numberTrouble a1 1 200 w b) = 0 → ((a2 < 0 → Q (some (.int 6)) w) ∧ (¬ (a2 < 0) → ClI SC mX3_climb [.ref 61, .int a1, .int a2] w (fun x2 w1 => w1.2.2 = RTab b ∧ Q (some (.int (if a2 ≤ x2 then 0 else 6 : Int32))) w1)))) ∧ (¬ ((vXX10_numberTrouble a1 1 200 w b) = 0) → Q (some (.int (vXX10_numberTrouble a1 1 200 w b))) w))) : Cl SC mX10_rungTrouble [.ref 0, .int a1, .int a2] w Q := by
  refine cl_of (by decide) (Nat.le_of_ble_eq_true rfl) ?_
  show Go SC mX10_rungTrouble 0 [(0, .ref 0), (1, .int a1), (2, .int a2)] [] w Q
  refine g_aload_n (pc := 0) dX10_rungTrouble_0 rfl 0 rfl ?_
  refine g_iload_n (pc := 1) dX10_rungTrouble_1 rfl 1 rfl ?_
  refine g_iconst (pc := 2) dX10_rungTrouble_2 c_1 ?_
  refine g_sipush (pc := 3) (v := 200) dX10_rungTrouble_3 (by decide) ?_
  refine g_callV (pc := 6) (M' := mX10_numberTrouble) (n := 3) (a := 0) (as := [.int a1, .int 1, .int 200]) (st := []) dX10_rungTrouble_6 rfl kX10_221 vX10_numberTrouble (Nat.le_of_ble_eq_true rfl) rfl qX10 rfl rfl (Nat.le_of_ble_eq_true rfl) ?_
  refine zX10_numberTrouble (a1 := a1) (a2 := 1) (a3 := 200) (w := w) (b := b) (hR := hR) ?_
  show Go SC mX10_rungTrouble 9 [(0, .ref 0), (1, .int a1), (2, .int a2)] [.int (vXX10_numberTrouble a1 1 200 w b)] w Q
  refine g_istore_n (pc := 9) (lv2 := [(0, .ref 0), (1, .int a1), (2, .int a2), (3, .int (vXX10_numberTrouble a1 1 200 w b))]) dX10_rungTrouble_9 rfl (Nat.le_of_ble_eq_true rfl) rfl ?_
  refine g_iload_n (pc := 10) dX10_rungTrouble_10 rfl 3 rfl ?_
  refine g_if_eq (pc := 11) (tgt := 16) dX10_rungTrouble_11 (by decide) (fun q => ?_) (fun q => ?_)
  · have h := h.1 q
    refine g_iload_n (pc := 16) dX10_rungTrouble_16 rfl 2 rfl ?_
    refine g_if_lt (pc := 17) (tgt := 33) dX10_rungTrouble_17 (by decide) (fun q => ?_) (fun q => ?_)
    · have h := h.1 q
      refine g_bipush (pc := 33) (v := 6) dX10_rungTrouble_33 (by decide) ?_
      refine g_goto (pc := 35) (tgt := 39) dX10_rungTrouble_35 (by decide) ?_
      exact g_iret (pc := 39) dX10_rungTrouble_39 rfl h
    · have h := h.2 q
      refine g_aload_n (pc := 20) dX10_rungTrouble_20 rfl 0 rfl ?_
      refine g_getR (pc := 21) (a := 0) (b := 61) dX10_rungTrouble_21 rfl fX10_60 rfl (rc_0_8 hR) ?_
      refine g_iload_n (pc := 24) dX10_rungTrouble_24 rfl 1 rfl ?_
      refine g_iload_n (pc := 25) dX10_rungTrouble_25 rfl 2 rfl ?_
      refine g_callV (pc := 26) (M' := mX3_climb) (n := 2) (a := 61) (as := [.int a1, .int a2]) (st := []) dX10_rungTrouble_26 rfl kX10_230 vX3_climb (Nat.le_of_ble_eq_true rfl) rfl qX3 rfl rfl (Nat.le_of_ble_eq_true rfl) ?_
      refine cl_mono (fun r w1 hr => ?_) h
      obtain ⟨x2, rfl, hw1, h⟩ := hr
      show Go SC mX10_rungTrouble 29 [(0, .ref 0), (1, .int a1), (2, .int a2), (3, .int (vXX10_numberTrouble a1 1 200 w b))] [.int x2] w1 Q
      refine g_iload_n (pc := 29) dX10_rungTrouble_29 rfl 2 rfl ?_
      have hJ : Go SC mX10_rungTrouble 39 [(0, .ref 0), (1, .int a1), (2, .int a2), (3, .int (vXX10_numberTrouble a1 1 200 w b))] [.int (if a2 ≤ x2 then 0 else 6 : Int32)] w1 Q := by
        exact g_iret (pc := 39) dX10_rungTrouble_39 rfl h
      refine g_icmp_ge (pc := 30) (tgt := 38) dX10_rungTrouble_30 (by decide) (fun q30 => ?_) (fun q30 => ?_)
      · refine g_iconst (pc := 38) dX10_rungTrouble_38 c_0 ?_
        first | (exfalso; contradiction) | exact cast (by simp only [if_pos q30]) hJ
      · refine g_bipush (pc := 33) (v := 6) dX10_rungTrouble_33 (by decide) ?_
        refine g_goto (pc := 35) (tgt := 39) dX10_rungTrouble_35 (by decide) ?_
        first | (exfalso; contradiction) | exact cast (by simp only [if_neg q30]) hJ
  · have h := h.2 q
    refine g_iload_n (pc := 14) dX10_rungTrouble_14 rfl 3 rfl ?_
    exact g_iret (pc := 15) dX10_rungTrouble_15 rfl h
set_option maxHeartbeats 4000000 in
set_option maxRecDepth 100000 in
theorem TX10_rungUpper (a1 : Int32) (a2 : Int32) (w : Wd) (b : Bool) (hR : w.2.2 = RTab b) (Q : Option Value → Wd → Prop) (h : ClI SC mX10_rungTrouble [.ref 0, .int a1, .int a2] w (fun x2 w1 => w1.2.2 = RTab b ∧ ((x2 = 0 → Q (some (.int (vXX10_accept (wi w1 61 0)))) (wXX10_accept (wi w1 61 0) w1)) ∧ (¬ (x2 = 0) → Q (some (.int (vXX10_refuse x2 (-1)))) (wXX10_refuse x2 (-1) w1))))) : Cl SC mX10_rungUpper [.ref 0, .int a1, .int a2] w Q := by
  refine cl_of (by decide) (Nat.le_of_ble_eq_true rfl) ?_
  show Go SC mX10_rungUpper 0 [(0, .ref 0), (1, .int a1), (2, .int a2)] [] w Q
  refine g_aload_n (pc := 0) dX10_rungUpper_0 rfl 0 rfl ?_
  refine g_iload_n (pc := 1) dX10_rungUpper_1 rfl 1 rfl ?_
  refine g_iload_n (pc := 2) dX10_rungUpper_2 rfl 2 rfl ?_
  refine g_callV (pc := 3) (M' := mX10_rungTrouble) (n := 2) (a := 0) (as := [.int a1, .int a2]) (st := []) dX10_rungUpper_3 rfl kX10_233 vX10_rungTrouble (Nat.le_of_ble_eq_true rfl) rfl qX10 rfl rfl (Nat.le_of_ble_eq_true rfl) ?_
  refine cl_mono (fun r w1 hr => ?_) h
  obtain ⟨x2, rfl, hw1, h⟩ := hr
  show Go SC mX10_rungUpper 6 [(0, .ref 0), (1, .int a1), (2, .int a2)] [.int x2] w1 Q
  refine g_istore_n (pc := 6) (lv2 := [(0, .ref 0), (1, .int a1), (2, .int a2), (3, .int x2)]) dX10_rungUpper_6 rfl (Nat.le_of_ble_eq_true rfl) rfl ?_
  refine g_iload_n (pc := 7) dX10_rungUpper_7 rfl 3 rfl ?_
  refine g_if_ne (pc := 8) (tgt := 25) dX10_rungUpper_8 (by decide) (fun q => ?_) (fun q => ?_)
  · have h := h.2 q
    refine g_aload_n (pc := 25) dX10_rungUpper_25 rfl 0 rfl ?_
    refine g_iload_n (pc := 26) dX10_rungUpper_26 rfl 3 rfl ?_
    refine g_iconst (pc := 27) dX10_rungUpper_27 cN_1 ?_
    refine g_callV (pc := 28) (M' := mX10_refuse) (n := 2) (a := 0) (as := [.int x2, .int (-1)]) (st := []) dX10_rungUpper_28 rfl kX10_83 vX10_refuse (Nat.le_of_ble_eq_true rfl) rfl qX10 rfl rfl (Nat.le_of_ble_eq_true rfl) ?_
    refine zX10_refuse (a1 := x2) (a2 := (-1)) (w := w1) (b := b) (hR := hw1) ?_
    show Go SC mX10_rungUpper 31 [(0, .ref 0), (1, .int a1), (2, .int a2), (3, .int x2)] [.int (vXX10_refuse x2 (-1))] (wXX10_refuse x2 (-1) w1) Q
    exact g_iret (pc := 31) dX10_rungUpper_31 rfl h
  · have h := h.1 q
    refine g_aload_n (pc := 11) dX10_rungUpper_11 rfl 0 rfl ?_
    refine g_aload_n (pc := 12) dX10_rungUpper_12 rfl 0 rfl ?_
    refine g_getR (pc := 13) (a := 0) (b := 61) dX10_rungUpper_13 rfl fX10_60 rfl (rc_0_8 hw1) ?_
    refine g_getI (pc := 16) (a := 61) dX10_rungUpper_16 rfl fX10_236 rfl ?_
    refine g_callV (pc := 19) (M' := mX10_accept) (n := 1) (a := 0) (as := [.int (wi w1 61 0)]) (st := []) dX10_rungUpper_19 rfl kX10_100 vX10_accept (Nat.le_of_ble_eq_true rfl) rfl qX10 rfl rfl (Nat.le_of_ble_eq_true rfl) ?_
    refine zX10_accept (a1 := (wi w1 61 0)) (w := w1) (b := b) (hR := hw1) ?_
    show Go SC mX10_rungUpper 22 [(0, .ref 0), (1, .int a1), (2, .int a2), (3, .int x2)] [.int (vXX10_accept (wi w1 61 0))] (wXX10_accept (wi w1 61 0) w1) Q
    refine g_goto (pc := 22) (tgt := 31) dX10_rungUpper_22 (by decide) ?_
    exact g_iret (pc := 31) dX10_rungUpper_31 rfl h
set_option maxHeartbeats 4000000 in
set_option maxRecDepth 100000 in
theorem TX10_rungLower (a1 : Int32) (a2 : Int32) (w : Wd) (b : Bool) (hR : w.2.2 = RTab b) (Q : Option Value → Wd → Prop) (h : ClI SC mX10_rungTrouble [.ref 0, .int a1, .int a2] w (fun x2 w1 => w1.2.2 = RTab b ∧ ((x2 = 0 → Q (some (.int (vXX10_accept (wi w1 61 1)))) (wXX10_accept (wi w1 61 1) w1)) ∧ (¬ (x2 = 0) → Q (some (.int (vXX10_refuse x2 (-1)))) (wXX10_refuse x2 (-1) w1))))) : Cl SC mX10_rungLower [.ref 0, .int a1, .int a2] w Q := by
  refine cl_of (by decide) (Nat.le_of_ble_eq_true rfl) ?_
  show Go SC mX10_rungLower 0 [(0, .ref 0), (1, .int a1), (2, .int a2)] [] w Q
  refine g_aload_n (pc := 0) dX10_rungLower_0 rfl 0 rfl ?_
  refine g_iload_n (pc := 1) dX10_rungLower_1 rfl 1 rfl ?_
  refine g_iload_n (pc := 2) dX10_rungLower_2 rfl 2 rfl ?_
  refine g_callV (pc := 3) (M' := mX10_rungTrouble) (n := 2) (a := 0) (as := [.int a1, .int a2]) (st := []) dX10_rungLower_3 rfl kX10_233 vX10_rungTrouble (Nat.le_of_ble_eq_true rfl) rfl qX10 rfl rfl (Nat.le_of_ble_eq_true rfl) ?_
  refine cl_mono (fun r w1 hr => ?_) h
  obtain ⟨x2, rfl, hw1, h⟩ := hr
  show Go SC mX10_rungLower 6 [(0, .ref 0), (1, .int a1), (2, .int a2)] [.int x2] w1 Q
  refine g_istore_n (pc := 6) (lv2 := [(0, .ref 0), (1, .int a1), (2, .int a2), (3, .int x2)]) dX10_rungLower_6 rfl (Nat.le_of_ble_eq_true rfl) rfl ?_
  refine g_iload_n (pc := 7) dX10_rungLower_7 rfl 3 rfl ?_
  refine g_if_ne (pc := 8) (tgt := 25) dX10_rungLower_8 (by decide) (fun q => ?_) (fun q => ?_)
  · have h := h.2 q
    refine g_aload_n (pc := 25) dX10_rungLower_25 rfl 0 rfl ?_
    refine g_iload_n (pc := 26) dX10_rungLower_26 rfl 3 rfl ?_
    refine g_iconst (pc := 27) dX10_rungLower_27 cN_1 ?_
    refine g_callV (pc := 28) (M' := mX10_refuse) (n := 2) (a := 0) (as := [.int x2, .int (-1)]) (st := []) dX10_rungLower_28 rfl kX10_83 vX10_refuse (Nat.le_of_ble_eq_true rfl) rfl qX10 rfl rfl (Nat.le_of_ble_eq_true rfl) ?_
    refine zX10_refuse (a1 := x2) (a2 := (-1)) (w := w1) (b := b) (hR := hw1) ?_
    show Go SC mX10_rungLower 31 [(0, .ref 0), (1, .int a1), (2, .int a2), (3, .int x2)] [.int (vXX10_refuse x2 (-1))] (wXX10_refuse x2 (-1) w1) Q
    exact g_iret (pc := 31) dX10_rungLower_31 rfl h
  · have h := h.1 q
    refine g_aload_n (pc := 11) dX10_rungLower_11 rfl 0 rfl ?_
    refine g_aload_n (pc := 12) dX10_rungLower_12 rfl 0 rfl ?_
    refine g_getR (pc := 13) (a := 0) (b := 61) dX10_rungLower_13 rfl fX10_60 rfl (rc_0_8 hw1) ?_
    refine g_getI (pc := 16) (a := 61) dX10_rungLower_16 rfl fX10_237 rfl ?_
    refine g_callV (pc := 19) (M' := mX10_accept) (n := 1) (a := 0) (as := [.int (wi w1 61 1)]) (st := []) dX10_rungLower_19 rfl kX10_100 vX10_accept (Nat.le_of_ble_eq_true rfl) rfl qX10 rfl rfl (Nat.le_of_ble_eq_true rfl) ?_
    refine zX10_accept (a1 := (wi w1 61 1)) (w := w1) (b := b) (hR := hw1) ?_
    show Go SC mX10_rungLower 22 [(0, .ref 0), (1, .int a1), (2, .int a2), (3, .int x2)] [.int (vXX10_accept (wi w1 61 1))] (wXX10_accept (wi w1 61 1) w1) Q
    refine g_goto (pc := 22) (tgt := 31) dX10_rungLower_22 (by decide) ?_
    exact g_iret (pc := 31) dX10_rungLower_31 rfl h
set_option maxHeartbeats 4000000 in
set_option maxRecDepth 100000 in
theorem TX10_knot (a1 : Int32) (a2 : Int32) (w : Wd) (b : Bool) (hR : w.2.2 = RTab b) (Q : Option Value → Wd → Prop) (h : ((0 ≤ a1 ∧ a1 < wi w (hA b) 2 ∧ a1 < 5 → Q (some (.int (vXX10_accept (vXX6_numberOf (dA (hA b) a1.toNatClampNeg + 2) a2 w)))) (wXX10_accept (vXX6_numberOf (dA (hA b) a1.toNatClampNeg + 2) a2 w) w)) ∧ (¬ (0 ≤ a1 ∧ a1 < wi w (hA b) 2 ∧ a1 < 5) → Q (some (.int (vXX10_refuse 1 (-1)))) (wXX10_refuse 1 (-1) w)))) : Cl SC mX10_knot [.ref 0, .int a1, .int a2] w Q := by
  refine cl_of (by decide) (Nat.le_of_ble_eq_true rfl) ?_
  show Go SC mX10_knot 0 [(0, .ref 0), (1, .int a1), (2, .int a2)] [] w Q
  refine g_aload_n (pc := 0) dX10_knot_0 rfl 0 rfl ?_
  refine g_getR (pc := 1) (a := 0) (b := (hA b)) dX10_knot_1 rfl fX10_19 rfl (rc_0_1 hR) ?_
  refine g_iload_n (pc := 4) dX10_knot_4 rfl 1 rfl ?_
  refine g_callV (pc := 5) (M' := mX2_danceAt) (n := 1) (a := (hA b)) (as := [.int a1]) (st := []) dX10_knot_5 rfl kX10_113 vX2_danceAt (Nat.le_of_ble_eq_true rfl) (sh_h b) qX2 rfl rfl (Nat.le_of_ble_eq_true rfl) ?_
  refine h_danceAt (c := b) (d := a1) (w := w) (hR := hR) (fun qd1 => ?_) (fun qd1 => ?_)
  · have h := h.1 qd1
    show Go SC mX10_knot 8 [(0, .ref 0), (1, .int a1), (2, .int a2)] [.ref (dA (hA b) a1.toNatClampNeg)] w Q
    refine g_astore_n (pc := 8) (lv2 := [(0, .ref 0), (1, .int a1), (2, .int a2), (3, .ref (dA (hA b) a1.toNatClampNeg))]) dX10_knot_8 rfl (Nat.le_of_ble_eq_true rfl) rfl ?_
    refine g_aload_n (pc := 9) dX10_knot_9 rfl 3 rfl ?_
    refine g_ifnonnullR (pc := 10) (tgt := 20) dX10_knot_10 (by decide) ?_
    refine g_aload_n (pc := 20) dX10_knot_20 rfl 0 rfl ?_
    refine g_aload_n (pc := 21) dX10_knot_21 rfl 3 rfl ?_
    refine g_getR (pc := 22) (a := (dA (hA b) a1.toNatClampNeg)) (b := (dA (hA b) a1.toNatClampNeg + 2)) dX10_knot_22 rfl fX10_118 (sh_d b (lt5 qd1.1 qd1.2.2)) (rd_4 hR b (lt5 qd1.1 qd1.2.2)) ?_
    refine g_iload_n (pc := 25) dX10_knot_25 rfl 2 rfl ?_
    refine g_callS (pc := 26) (M' := mX6_numberOf) (n := 2) (as := [.ref (dA (hA b) a1.toNatClampNeg + 2), .int a2]) (st := [.ref 0]) dX10_knot_26 rfl kX10_238 sX6_numberOf (Nat.le_of_ble_eq_true rfl) rfl rfl (Nat.le_of_ble_eq_true rfl) ?_
    refine zX6_numberOf (a1 := (dA (hA b) a1.toNatClampNeg + 2)) (a2 := a2) (w := w) (b := b) (hR := hR) (ha1 := (sh_dn b (lt5 qd1.1 qd1.2.2))) ?_
    show Go SC mX10_knot 29 [(0, .ref 0), (1, .int a1), (2, .int a2), (3, .ref (dA (hA b) a1.toNatClampNeg))] [.int (vXX6_numberOf (dA (hA b) a1.toNatClampNeg + 2) a2 w), .ref 0] w Q
    refine g_callV (pc := 29) (M' := mX10_accept) (n := 1) (a := 0) (as := [.int (vXX6_numberOf (dA (hA b) a1.toNatClampNeg + 2) a2 w)]) (st := []) dX10_knot_29 rfl kX10_100 vX10_accept (Nat.le_of_ble_eq_true rfl) rfl qX10 rfl rfl (Nat.le_of_ble_eq_true rfl) ?_
    refine zX10_accept (a1 := (vXX6_numberOf (dA (hA b) a1.toNatClampNeg + 2) a2 w)) (w := w) (b := b) (hR := hR) ?_
    show Go SC mX10_knot 32 [(0, .ref 0), (1, .int a1), (2, .int a2), (3, .ref (dA (hA b) a1.toNatClampNeg))] [.int (vXX10_accept (vXX6_numberOf (dA (hA b) a1.toNatClampNeg + 2) a2 w))] (wXX10_accept (vXX6_numberOf (dA (hA b) a1.toNatClampNeg + 2) a2 w) w) Q
    exact g_iret (pc := 32) dX10_knot_32 rfl h
  · have h := h.2 qd1
    show Go SC mX10_knot 8 [(0, .ref 0), (1, .int a1), (2, .int a2)] [.null] w Q
    refine g_astore_nN (pc := 8) (lv2 := [(0, .ref 0), (1, .int a1), (2, .int a2), (3, .null)]) dX10_knot_8 rfl (Nat.le_of_ble_eq_true rfl) rfl ?_
    refine g_aload_nN (pc := 9) dX10_knot_9 rfl 3 rfl ?_
    refine g_ifnonnullN (pc := 10) dX10_knot_10 ?_
    refine g_aload_n (pc := 13) dX10_knot_13 rfl 0 rfl ?_
    refine g_iconst (pc := 14) dX10_knot_14 c_1 ?_
    refine g_iconst (pc := 15) dX10_knot_15 cN_1 ?_
    refine g_callV (pc := 16) (M' := mX10_refuse) (n := 2) (a := 0) (as := [.int 1, .int (-1)]) (st := []) dX10_knot_16 rfl kX10_83 vX10_refuse (Nat.le_of_ble_eq_true rfl) rfl qX10 rfl rfl (Nat.le_of_ble_eq_true rfl) ?_
    refine zX10_refuse (a1 := 1) (a2 := (-1)) (w := w) (b := b) (hR := hR) ?_
    show Go SC mX10_knot 19 [(0, .ref 0), (1, .int a1), (2, .int a2), (3, .null)] [.int (vXX10_refuse 1 (-1))] (wXX10_refuse 1 (-1) w) Q
    exact g_iret (pc := 19) dX10_knot_19 rfl h
set_option maxHeartbeats 4000000 in
set_option maxRecDepth 100000 in
theorem TX10_rings (a1 : Int32) (a2 : Int32) (w : Wd) (b : Bool) (hR : w.2.2 = RTab b) (Q : Option Value → Wd → Prop) (h : ((0 ≤ a1 ∧ a1 < wi w (hA b) 2 ∧ a1 < 5 → Q (some (.int (vXX10_accept (if ((vXX6_numberOf (dA (hA b) a1.toNatClampNeg + 2) a2 w) % 2) = 0 then 2 else 1 : Int32)))) (wXX10_accept (if ((vXX6_numberOf (dA (hA b) a1.toNatClampNeg + 2) a2 w) % 2) = 0 then 2 else 1 : Int32) w)) ∧ (¬ (0 ≤ a1 ∧ a1 < wi w (hA b) 2 ∧ a1 < 5) → Q (some (.int (vXX10_refuse 1 (-1)))) (wXX10_refuse 1 (-1) w)))) : Cl SC mX10_rings [.ref 0, .int a1, .int a2] w Q := by
  refine cl_of (by decide) (Nat.le_of_ble_eq_true rfl) ?_
  show Go SC mX10_rings 0 [(0, .ref 0), (1, .int a1), (2, .int a2)] [] w Q
  refine g_aload_n (pc := 0) dX10_rings_0 rfl 0 rfl ?_
  refine g_getR (pc := 1) (a := 0) (b := (hA b)) dX10_rings_1 rfl fX10_19 rfl (rc_0_1 hR) ?_
  refine g_iload_n (pc := 4) dX10_rings_4 rfl 1 rfl ?_
  refine g_callV (pc := 5) (M' := mX2_danceAt) (n := 1) (a := (hA b)) (as := [.int a1]) (st := []) dX10_rings_5 rfl kX10_113 vX2_danceAt (Nat.le_of_ble_eq_true rfl) (sh_h b) qX2 rfl rfl (Nat.le_of_ble_eq_true rfl) ?_
  refine h_danceAt (c := b) (d := a1) (w := w) (hR := hR) (fun qd1 => ?_) (fun qd1 => ?_)
  · have h := h.1 qd1
    show Go SC mX10_rings 8 [(0, .ref 0), (1, .int a1), (2, .int a2)] [.ref (dA (hA b) a1.toNatClampNeg)] w Q
    refine g_astore_n (pc := 8) (lv2 := [(0, .ref 0), (1, .int a1), (2, .int a2), (3, .ref (dA (hA b) a1.toNatClampNeg))]) dX10_rings_8 rfl (Nat.le_of_ble_eq_true rfl) rfl ?_
    refine g_aload_n (pc := 9) dX10_rings_9 rfl 3 rfl ?_
    refine g_ifnonnullR (pc := 10) (tgt := 20) dX10_rings_10 (by decide) ?_
    refine g_aload_n (pc := 20) dX10_rings_20 rfl 0 rfl ?_
    refine g_aload_n (pc := 21) dX10_rings_21 rfl 3 rfl ?_
    refine g_getR (pc := 22) (a := (dA (hA b) a1.toNatClampNeg)) (b := (dA (hA b) a1.toNatClampNeg + 2)) dX10_rings_22 rfl fX10_118 (sh_d b (lt5 qd1.1 qd1.2.2)) (rd_4 hR b (lt5 qd1.1 qd1.2.2)) ?_
    refine g_iload_n (pc := 25) dX10_rings_25 rfl 2 rfl ?_
    refine g_callS (pc := 26) (M' := mX6_numberOf) (n := 2) (as := [.ref (dA (hA b) a1.toNatClampNeg + 2), .int a2]) (st := [.ref 0]) dX10_rings_26 rfl kX10_238 sX6_numberOf (Nat.le_of_ble_eq_true rfl) rfl rfl (Nat.le_of_ble_eq_true rfl) ?_
    refine zX6_numberOf (a1 := (dA (hA b) a1.toNatClampNeg + 2)) (a2 := a2) (w := w) (b := b) (hR := hR) (ha1 := (sh_dn b (lt5 qd1.1 qd1.2.2))) ?_
    show Go SC mX10_rings 29 [(0, .ref 0), (1, .int a1), (2, .int a2), (3, .ref (dA (hA b) a1.toNatClampNeg))] [.int (vXX6_numberOf (dA (hA b) a1.toNatClampNeg + 2) a2 w), .ref 0] w Q
    refine g_iconst (pc := 29) dX10_rings_29 c_2 ?_
    refine g_irem (pc := 30) dX10_rings_30 (by decide) ?_
    have hJ : Go SC mX10_rings 39 [(0, .ref 0), (1, .int a1), (2, .int a2), (3, .ref (dA (hA b) a1.toNatClampNeg))] [.int (if ((vXX6_numberOf (dA (hA b) a1.toNatClampNeg + 2) a2 w) % 2) = 0 then 2 else 1 : Int32), .ref 0] w Q := by
      refine g_callV (pc := 39) (M' := mX10_accept) (n := 1) (a := 0) (as := [.int (if ((vXX6_numberOf (dA (hA b) a1.toNatClampNeg + 2) a2 w) % 2) = 0 then 2 else 1 : Int32)]) (st := []) dX10_rings_39 rfl kX10_100 vX10_accept (Nat.le_of_ble_eq_true rfl) rfl qX10 rfl rfl (Nat.le_of_ble_eq_true rfl) ?_
      refine zX10_accept (a1 := (if ((vXX6_numberOf (dA (hA b) a1.toNatClampNeg + 2) a2 w) % 2) = 0 then 2 else 1 : Int32)) (w := w) (b := b) (hR := hR) ?_
      show Go SC mX10_rings 42 [(0, .ref 0), (1, .int a1), (2, .int a2), (3, .ref (dA (hA b) a1.toNatClampNeg))] [.int (vXX10_accept (if ((vXX6_numberOf (dA (hA b) a1.toNatClampNeg + 2) a2 w) % 2) = 0 then 2 else 1 : Int32))] (wXX10_accept (if ((vXX6_numberOf (dA (hA b) a1.toNatClampNeg + 2) a2 w) % 2) = 0 then 2 else 1 : Int32) w) Q
      exact g_iret (pc := 42) dX10_rings_42 rfl h
    refine g_if_ne (pc := 31) (tgt := 38) dX10_rings_31 (by decide) (fun q31 => ?_) (fun q31 => ?_)
    · refine g_iconst (pc := 38) dX10_rings_38 c_1 ?_
      first | (exfalso; contradiction) | exact cast (by simp only [if_neg q31]) hJ
    · refine g_iconst (pc := 34) dX10_rings_34 c_2 ?_
      refine g_goto (pc := 35) (tgt := 39) dX10_rings_35 (by decide) ?_
      first | (exfalso; contradiction) | exact cast (by simp only [if_pos q31]) hJ
  · have h := h.2 qd1
    show Go SC mX10_rings 8 [(0, .ref 0), (1, .int a1), (2, .int a2)] [.null] w Q
    refine g_astore_nN (pc := 8) (lv2 := [(0, .ref 0), (1, .int a1), (2, .int a2), (3, .null)]) dX10_rings_8 rfl (Nat.le_of_ble_eq_true rfl) rfl ?_
    refine g_aload_nN (pc := 9) dX10_rings_9 rfl 3 rfl ?_
    refine g_ifnonnullN (pc := 10) dX10_rings_10 ?_
    refine g_aload_n (pc := 13) dX10_rings_13 rfl 0 rfl ?_
    refine g_iconst (pc := 14) dX10_rings_14 c_1 ?_
    refine g_iconst (pc := 15) dX10_rings_15 cN_1 ?_
    refine g_callV (pc := 16) (M' := mX10_refuse) (n := 2) (a := 0) (as := [.int 1, .int (-1)]) (st := []) dX10_rings_16 rfl kX10_83 vX10_refuse (Nat.le_of_ble_eq_true rfl) rfl qX10 rfl rfl (Nat.le_of_ble_eq_true rfl) ?_
    refine zX10_refuse (a1 := 1) (a2 := (-1)) (w := w) (b := b) (hR := hR) ?_
    show Go SC mX10_rings 19 [(0, .ref 0), (1, .int a1), (2, .int a2), (3, .null)] [.int (vXX10_refuse 1 (-1))] (wXX10_refuse 1 (-1) w) Q
    exact g_iret (pc := 19) dX10_rings_19 rfl h
set_option maxHeartbeats 4000000 in
set_option maxRecDepth 100000 in
theorem TX10_colours (a1 : Int32) (a2 : Int32) (a3 : Int32) (w : Wd) (b : Bool) (hR : w.2.2 = RTab b) (Q : Option Value → Wd → Prop) (h : ((0 ≤ a1 ∧ a1 < wi w (hA b) 2 ∧ a1 < 5 → ((a3 < 2 → Q (some (.int (vXX10_refuse 2 (-1)))) (wXX10_refuse 2 (-1) w)) ∧ (¬ (a3 < 2) → ((a3 ≤ 99 → ClL SC mX10_shared [.long a3.toInt64, .long ((vXX6_numberOf (dA (hA b) a1.toNatClampNeg + 2) a2 w).toInt64)] w (fun x3 w2 => w2.2.2 = RTab b ∧ Q (some (.int (vXX10_accept (a3 * x3.toInt32)))) (wXX10_accept (a3 * x3.toInt32) w2))) ∧ (¬ (a3 ≤ 99) → Q (some (.int (vXX10_refuse 2 (-1)))) (wXX10_refuse 2 (-1) w)))))) ∧ (¬ (0 ≤ a1 ∧ a1 < wi w (hA b) 2 ∧ a1 < 5) → Q (some (.int (vXX10_refuse 1 (-1)))) (wXX10_refuse 1 (-1) w)))) : Cl SC mX10_colours [.ref 0, .int a1, .int a2, .int a3] w Q := by
  refine cl_of (by decide) (Nat.le_of_ble_eq_true rfl) ?_
  show Go SC mX10_colours 0 [(0, .ref 0), (1, .int a1), (2, .int a2), (3, .int a3)] [] w Q
  refine g_aload_n (pc := 0) dX10_colours_0 rfl 0 rfl ?_
  refine g_getR (pc := 1) (a := 0) (b := (hA b)) dX10_colours_1 rfl fX10_19 rfl (rc_0_1 hR) ?_
  refine g_iload_n (pc := 4) dX10_colours_4 rfl 1 rfl ?_
  refine g_callV (pc := 5) (M' := mX2_danceAt) (n := 1) (a := (hA b)) (as := [.int a1]) (st := []) dX10_colours_5 rfl kX10_113 vX2_danceAt (Nat.le_of_ble_eq_true rfl) (sh_h b) qX2 rfl rfl (Nat.le_of_ble_eq_true rfl) ?_
  refine h_danceAt (c := b) (d := a1) (w := w) (hR := hR) (fun qd1 => ?_) (fun qd1 => ?_)
  · have h := h.1 qd1
    show Go SC mX10_colours 8 [(0, .ref 0), (1, .int a1), (2, .int a2), (3, .int a3)] [.ref (dA (hA b) a1.toNatClampNeg)] w Q
    refine g_astore (pc := 8) (lv2 := [(0, .ref 0), (1, .int a1), (2, .int a2), (3, .int a3), (4, .ref (dA (hA b) a1.toNatClampNeg))]) dX10_colours_8 (Nat.le_of_ble_eq_true rfl) rfl ?_
    refine g_aload (pc := 10) dX10_colours_10 4 rfl ?_
    refine g_ifnonnullR (pc := 12) (tgt := 22) dX10_colours_12 (by decide) ?_
    refine g_iload_n (pc := 22) dX10_colours_22 rfl 3 rfl ?_
    refine g_iconst (pc := 23) dX10_colours_23 c_2 ?_
    refine g_icmp_lt (pc := 24) (tgt := 33) dX10_colours_24 (by decide) (fun q => ?_) (fun q => ?_)
    · have h := h.1 q
      refine g_aload_n (pc := 33) dX10_colours_33 rfl 0 rfl ?_
      refine g_iconst (pc := 34) dX10_colours_34 c_2 ?_
      refine g_iconst (pc := 35) dX10_colours_35 cN_1 ?_
      refine g_callV (pc := 36) (M' := mX10_refuse) (n := 2) (a := 0) (as := [.int 2, .int (-1)]) (st := []) dX10_colours_36 rfl kX10_83 vX10_refuse (Nat.le_of_ble_eq_true rfl) rfl qX10 rfl rfl (Nat.le_of_ble_eq_true rfl) ?_
      refine zX10_refuse (a1 := 2) (a2 := (-1)) (w := w) (b := b) (hR := hR) ?_
      show Go SC mX10_colours 39 [(0, .ref 0), (1, .int a1), (2, .int a2), (3, .int a3), (4, .ref (dA (hA b) a1.toNatClampNeg))] [.int (vXX10_refuse 2 (-1))] (wXX10_refuse 2 (-1) w) Q
      exact g_iret (pc := 39) dX10_colours_39 rfl h
    · have h := h.2 q
      refine g_iload_n (pc := 27) dX10_colours_27 rfl 3 rfl ?_
      refine g_bipush (pc := 28) (v := 99) dX10_colours_28 (by decide) ?_
      refine g_icmp_le (pc := 30) (tgt := 40) dX10_colours_30 (by decide) (fun q => ?_) (fun q => ?_)
      · have h := h.1 q
        refine g_aload (pc := 40) dX10_colours_40 4 rfl ?_
        refine g_getR (pc := 42) (a := (dA (hA b) a1.toNatClampNeg)) (b := (dA (hA b) a1.toNatClampNeg + 2)) dX10_colours_42 rfl fX10_118 (sh_d b (lt5 qd1.1 qd1.2.2)) (rd_4 hR b (lt5 qd1.1 qd1.2.2)) ?_
        refine g_iload_n (pc := 45) dX10_colours_45 rfl 2 rfl ?_
        refine g_callS (pc := 46) (M' := mX6_numberOf) (n := 2) (as := [.ref (dA (hA b) a1.toNatClampNeg + 2), .int a2]) (st := []) dX10_colours_46 rfl kX10_238 sX6_numberOf (Nat.le_of_ble_eq_true rfl) rfl rfl (Nat.le_of_ble_eq_true rfl) ?_
        refine zX6_numberOf (a1 := (dA (hA b) a1.toNatClampNeg + 2)) (a2 := a2) (w := w) (b := b) (hR := hR) (ha1 := (sh_dn b (lt5 qd1.1 qd1.2.2))) ?_
        show Go SC mX10_colours 49 [(0, .ref 0), (1, .int a1), (2, .int a2), (3, .int a3), (4, .ref (dA (hA b) a1.toNatClampNeg))] [.int (vXX6_numberOf (dA (hA b) a1.toNatClampNeg + 2) a2 w)] w Q
        refine g_istore (pc := 49) (lv2 := [(0, .ref 0), (1, .int a1), (2, .int a2), (3, .int a3), (4, .ref (dA (hA b) a1.toNatClampNeg)), (5, .int (vXX6_numberOf (dA (hA b) a1.toNatClampNeg + 2) a2 w))]) dX10_colours_49 (Nat.le_of_ble_eq_true rfl) rfl ?_
        refine g_aload_n (pc := 51) dX10_colours_51 rfl 0 rfl ?_
        refine g_iload_n (pc := 52) dX10_colours_52 rfl 3 rfl ?_
        refine g_iload_n (pc := 53) dX10_colours_53 rfl 3 rfl ?_
        refine g_i2l (pc := 54) dX10_colours_54 ?_
        refine g_iload (pc := 55) dX10_colours_55 5 rfl ?_
        refine g_i2l (pc := 57) dX10_colours_57 ?_
        refine g_callS (pc := 58) (M' := mX10_shared) (n := 2) (as := [.long a3.toInt64, .long ((vXX6_numberOf (dA (hA b) a1.toNatClampNeg + 2) a2 w).toInt64)]) (st := [.int a3, .ref 0]) dX10_colours_58 rfl kX10_244 sX10_shared (Nat.le_of_ble_eq_true rfl) rfl rfl (Nat.le_of_ble_eq_true rfl) ?_
        refine cl_mono (fun r w2 hr => ?_) h
        obtain ⟨x3, rfl, hw2, h⟩ := hr
        show Go SC mX10_colours 61 [(0, .ref 0), (1, .int a1), (2, .int a2), (3, .int a3), (4, .ref (dA (hA b) a1.toNatClampNeg)), (5, .int (vXX6_numberOf (dA (hA b) a1.toNatClampNeg + 2) a2 w))] [.long x3, .int a3, .ref 0] w2 Q
        refine g_l2i (pc := 61) dX10_colours_61 ?_
        refine g_imul (pc := 62) dX10_colours_62 ?_
        refine g_callV (pc := 63) (M' := mX10_accept) (n := 1) (a := 0) (as := [.int (a3 * x3.toInt32)]) (st := []) dX10_colours_63 rfl kX10_100 vX10_accept (Nat.le_of_ble_eq_true rfl) rfl qX10 rfl rfl (Nat.le_of_ble_eq_true rfl) ?_
        refine zX10_accept (a1 := (a3 * x3.toInt32)) (w := w2) (b := b) (hR := hw2) ?_
        show Go SC mX10_colours 66 [(0, .ref 0), (1, .int a1), (2, .int a2), (3, .int a3), (4, .ref (dA (hA b) a1.toNatClampNeg)), (5, .int (vXX6_numberOf (dA (hA b) a1.toNatClampNeg + 2) a2 w))] [.int (vXX10_accept (a3 * x3.toInt32))] (wXX10_accept (a3 * x3.toInt32) w2) Q
        exact g_iret (pc := 66) dX10_colours_66 rfl h
      · have h := h.2 q
        refine g_aload_n (pc := 33) dX10_colours_33 rfl 0 rfl ?_
        refine g_iconst (pc := 34) dX10_colours_34 c_2 ?_
        refine g_iconst (pc := 35) dX10_colours_35 cN_1 ?_
        refine g_callV (pc := 36) (M' := mX10_refuse) (n := 2) (a := 0) (as := [.int 2, .int (-1)]) (st := []) dX10_colours_36 rfl kX10_83 vX10_refuse (Nat.le_of_ble_eq_true rfl) rfl qX10 rfl rfl (Nat.le_of_ble_eq_true rfl) ?_
        refine zX10_refuse (a1 := 2) (a2 := (-1)) (w := w) (b := b) (hR := hR) ?_
        show Go SC mX10_colours 39 [(0, .ref 0), (1, .int a1), (2, .int a2), (3, .int a3), (4, .ref (dA (hA b) a1.toNatClampNeg))] [.int (vXX10_refuse 2 (-1))] (wXX10_refuse 2 (-1) w) Q
        exact g_iret (pc := 39) dX10_colours_39 rfl h
  · have h := h.2 qd1
    show Go SC mX10_colours 8 [(0, .ref 0), (1, .int a1), (2, .int a2), (3, .int a3)] [.null] w Q
    refine g_astoreN (pc := 8) (lv2 := [(0, .ref 0), (1, .int a1), (2, .int a2), (3, .int a3), (4, .null)]) dX10_colours_8 (Nat.le_of_ble_eq_true rfl) rfl ?_
    refine g_aloadN (pc := 10) dX10_colours_10 4 rfl ?_
    refine g_ifnonnullN (pc := 12) dX10_colours_12 ?_
    refine g_aload_n (pc := 15) dX10_colours_15 rfl 0 rfl ?_
    refine g_iconst (pc := 16) dX10_colours_16 c_1 ?_
    refine g_iconst (pc := 17) dX10_colours_17 cN_1 ?_
    refine g_callV (pc := 18) (M' := mX10_refuse) (n := 2) (a := 0) (as := [.int 1, .int (-1)]) (st := []) dX10_colours_18 rfl kX10_83 vX10_refuse (Nat.le_of_ble_eq_true rfl) rfl qX10 rfl rfl (Nat.le_of_ble_eq_true rfl) ?_
    refine zX10_refuse (a1 := 1) (a2 := (-1)) (w := w) (b := b) (hR := hR) ?_
    show Go SC mX10_colours 21 [(0, .ref 0), (1, .int a1), (2, .int a2), (3, .int a3), (4, .null)] [.int (vXX10_refuse 1 (-1))] (wXX10_refuse 1 (-1) w) Q
    exact g_iret (pc := 21) dX10_colours_21 rfl h
set_option maxHeartbeats 4000000 in
set_option maxRecDepth 100000 in
theorem TX10_beside (a1 : Int32) (a2 : Int32) (w : Wd) (b : Bool) (hR : w.2.2 = RTab b) (Q : Option Value → Wd → Prop) (h : ((0 ≤ a1 ∧ a1 < wi w (hA b) 2 ∧ a1 < 5 → ((0 ≤ a2 ∧ a2 < wi w (hA b) 2 ∧ a2 < 5 → Q (some (.int (vXX10_accept (vXJ9_abs_0f7a4 (((wi w (dA (hA b) a1.toNatClampNeg + 2) 0) * (wi w (dA (hA b) a2.toNatClampNeg + 2) 1)) + ((wi w (dA (hA b) a2.toNatClampNeg + 2) 0) * (wi w (dA (hA b) a1.toNatClampNeg + 2) 1))))))) (wXX10_accept (vXJ9_abs_0f7a4 (((wi w (dA (hA b) a1.toNatClampNeg + 2) 0) * (wi w (dA (hA b) a2.toNatClampNeg + 2) 1)) + ((wi w (dA (hA b) a2.toNatClampNeg + 2) 0) * (wi w (dA (hA b) a1.toNatClampNeg + 2) 1)))) w)) ∧ (¬ (0 ≤ a2 ∧ a2 < wi w (hA b) 2 ∧ a2 < 5) → Q (some (.int (vXX10_refuse 1 (-1)))) (wXX10_refuse 1 (-1) w)))) ∧ (¬ (0 ≤ a1 ∧ a1 < wi w (hA b) 2 ∧ a1 < 5) → ((0 ≤ a2 ∧ a2 < wi w (hA b) 2 ∧ a2 < 5 → Q (some (.int (vXX10_refuse 1 (-1)))) (wXX10_refuse 1 (-1) w)) ∧ (¬ (0 ≤ a2 ∧ a2 < wi w (hA b) 2 ∧ a2 < 5) → Q (some (.int (vXX10_refuse 1 (-1)))) (wXX10_refuse 1 (-1) w)))))) : Cl SC mX10_beside [.ref 0, .int a1, .int a2] w Q := by
  refine cl_of (by decide) (Nat.le_of_ble_eq_true rfl) ?_
  show Go SC mX10_beside 0 [(0, .ref 0), (1, .int a1), (2, .int a2)] [] w Q
  refine g_aload_n (pc := 0) dX10_beside_0 rfl 0 rfl ?_
  refine g_getR (pc := 1) (a := 0) (b := (hA b)) dX10_beside_1 rfl fX10_19 rfl (rc_0_1 hR) ?_
  refine g_iload_n (pc := 4) dX10_beside_4 rfl 1 rfl ?_
  refine g_callV (pc := 5) (M' := mX2_danceAt) (n := 1) (a := (hA b)) (as := [.int a1]) (st := []) dX10_beside_5 rfl kX10_113 vX2_danceAt (Nat.le_of_ble_eq_true rfl) (sh_h b) qX2 rfl rfl (Nat.le_of_ble_eq_true rfl) ?_
  refine h_danceAt (c := b) (d := a1) (w := w) (hR := hR) (fun qd1 => ?_) (fun qd1 => ?_)
  · have h := h.1 qd1
    show Go SC mX10_beside 8 [(0, .ref 0), (1, .int a1), (2, .int a2)] [.ref (dA (hA b) a1.toNatClampNeg)] w Q
    refine g_astore_n (pc := 8) (lv2 := [(0, .ref 0), (1, .int a1), (2, .int a2), (3, .ref (dA (hA b) a1.toNatClampNeg))]) dX10_beside_8 rfl (Nat.le_of_ble_eq_true rfl) rfl ?_
    refine g_aload_n (pc := 9) dX10_beside_9 rfl 0 rfl ?_
    refine g_getR (pc := 10) (a := 0) (b := (hA b)) dX10_beside_10 rfl fX10_19 rfl (rc_0_1 hR) ?_
    refine g_iload_n (pc := 13) dX10_beside_13 rfl 2 rfl ?_
    refine g_callV (pc := 14) (M' := mX2_danceAt) (n := 1) (a := (hA b)) (as := [.int a2]) (st := []) dX10_beside_14 rfl kX10_113 vX2_danceAt (Nat.le_of_ble_eq_true rfl) (sh_h b) qX2 rfl rfl (Nat.le_of_ble_eq_true rfl) ?_
    refine h_danceAt (c := b) (d := a2) (w := w) (hR := hR) (fun qd2 => ?_) (fun qd2 => ?_)
    · have h := h.1 qd2
      show Go SC mX10_beside 17 [(0, .ref 0), (1, .int a1), (2, .int a2), (3, .ref (dA (hA b) a1.toNatClampNeg))] [.ref (dA (hA b) a2.toNatClampNeg)] w Q
      refine g_astore (pc := 17) (lv2 := [(0, .ref 0), (1, .int a1), (2, .int a2), (3, .ref (dA (hA b) a1.toNatClampNeg)), (4, .ref (dA (hA b) a2.toNatClampNeg))]) dX10_beside_17 (Nat.le_of_ble_eq_true rfl) rfl ?_
      refine g_aload_n (pc := 19) dX10_beside_19 rfl 3 rfl ?_
      refine g_ifnullR (pc := 20) dX10_beside_20 ?_
      refine g_aload (pc := 23) dX10_beside_23 4 rfl ?_
      refine g_ifnonnullR (pc := 25) (tgt := 35) dX10_beside_25 (by decide) ?_
      refine g_aload_n (pc := 35) dX10_beside_35 rfl 3 rfl ?_
      refine g_getR (pc := 36) (a := (dA (hA b) a1.toNatClampNeg)) (b := (dA (hA b) a1.toNatClampNeg + 2)) dX10_beside_36 rfl fX10_118 (sh_d b (lt5 qd1.1 qd1.2.2)) (rd_4 hR b (lt5 qd1.1 qd1.2.2)) ?_
      refine g_getI (pc := 39) (a := (dA (hA b) a1.toNatClampNeg + 2)) dX10_beside_39 rfl fX10_123 (sh_dn b (lt5 qd1.1 qd1.2.2)) ?_
      refine g_aload (pc := 42) dX10_beside_42 4 rfl ?_
      refine g_getR (pc := 44) (a := (dA (hA b) a2.toNatClampNeg)) (b := (dA (hA b) a2.toNatClampNeg + 2)) dX10_beside_44 rfl fX10_118 (sh_d b (lt5 qd2.1 qd2.2.2)) (rd_4 hR b (lt5 qd2.1 qd2.2.2)) ?_
      refine g_getI (pc := 47) (a := (dA (hA b) a2.toNatClampNeg + 2)) dX10_beside_47 rfl fX10_126 (sh_dn b (lt5 qd2.1 qd2.2.2)) ?_
      refine g_imul (pc := 50) dX10_beside_50 ?_
      refine g_istore (pc := 51) (lv2 := [(0, .ref 0), (1, .int a1), (2, .int a2), (3, .ref (dA (hA b) a1.toNatClampNeg)), (4, .ref (dA (hA b) a2.toNatClampNeg)), (5, .int ((wi w (dA (hA b) a1.toNatClampNeg + 2) 0) * (wi w (dA (hA b) a2.toNatClampNeg + 2) 1)))]) dX10_beside_51 (Nat.le_of_ble_eq_true rfl) rfl ?_
      refine g_aload (pc := 53) dX10_beside_53 4 rfl ?_
      refine g_getR (pc := 55) (a := (dA (hA b) a2.toNatClampNeg)) (b := (dA (hA b) a2.toNatClampNeg + 2)) dX10_beside_55 rfl fX10_118 (sh_d b (lt5 qd2.1 qd2.2.2)) (rd_4 hR b (lt5 qd2.1 qd2.2.2)) ?_
      refine g_getI (pc := 58) (a := (dA (hA b) a2.toNatClampNeg + 2)) dX10_beside_58 rfl fX10_123 (sh_dn b (lt5 qd2.1 qd2.2.2)) ?_
      refine g_aload_n (pc := 61) dX10_beside_61 rfl 3 rfl ?_
      refine g_getR (pc := 62) (a := (dA (hA b) a1.toNatClampNeg)) (b := (dA (hA b) a1.toNatClampNeg + 2)) dX10_beside_62 rfl fX10_118 (sh_d b (lt5 qd1.1 qd1.2.2)) (rd_4 hR b (lt5 qd1.1 qd1.2.2)) ?_
      refine g_getI (pc := 65) (a := (dA (hA b) a1.toNatClampNeg + 2)) dX10_beside_65 rfl fX10_126 (sh_dn b (lt5 qd1.1 qd1.2.2)) ?_
      refine g_imul (pc := 68) dX10_beside_68 ?_
      refine g_istore (pc := 69) (lv2 := [(0, .ref 0), (1, .int a1), (2, .int a2), (3, .ref (dA (hA b) a1.toNatClampNeg)), (4, .ref (dA (hA b) a2.toNatClampNeg)), (5, .int ((wi w (dA (hA b) a1.toNatClampNeg + 2) 0) * (wi w (dA (hA b) a2.toNatClampNeg + 2) 1))), (6, .int ((wi w (dA (hA b) a2.toNatClampNeg + 2) 0) * (wi w (dA (hA b) a1.toNatClampNeg + 2) 1)))]) dX10_beside_69 (Nat.le_of_ble_eq_true rfl) rfl ?_
      refine g_aload_n (pc := 71) dX10_beside_71 rfl 0 rfl ?_
      refine g_iload (pc := 72) dX10_beside_72 5 rfl ?_
      refine g_iload (pc := 74) dX10_beside_74 6 rfl ?_
      refine g_iadd (pc := 76) dX10_beside_76 ?_
      refine g_callS (pc := 77) (M' := mJ9_abs_0f7a4) (n := 1) (as := [.int (((wi w (dA (hA b) a1.toNatClampNeg + 2) 0) * (wi w (dA (hA b) a2.toNatClampNeg + 2) 1)) + ((wi w (dA (hA b) a2.toNatClampNeg + 2) 0) * (wi w (dA (hA b) a1.toNatClampNeg + 2) 1)))]) (st := [.ref 0]) dX10_beside_77 rfl kX10_184 sJ9_abs_0f7a4 (Nat.le_of_ble_eq_true rfl) rfl rfl (Nat.le_of_ble_eq_true rfl) ?_
      refine zJ9_abs_0f7a4 (a1 := (((wi w (dA (hA b) a1.toNatClampNeg + 2) 0) * (wi w (dA (hA b) a2.toNatClampNeg + 2) 1)) + ((wi w (dA (hA b) a2.toNatClampNeg + 2) 0) * (wi w (dA (hA b) a1.toNatClampNeg + 2) 1)))) (w := w) (b := b) (hR := hR) ?_
      show Go SC mX10_beside 80 [(0, .ref 0), (1, .int a1), (2, .int a2), (3, .ref (dA (hA b) a1.toNatClampNeg)), (4, .ref (dA (hA b) a2.toNatClampNeg)), (5, .int ((wi w (dA (hA b) a1.toNatClampNeg + 2) 0) * (wi w (dA (hA b) a2.toNatClampNeg + 2) 1))), (6, .int ((wi w (dA (hA b) a2.toNatClampNeg + 2) 0) * (wi w (dA (hA b) a1.toNatClampNeg + 2) 1)))] [.int (vXJ9_abs_0f7a4 (((wi w (dA (hA b) a1.toNatClampNeg + 2) 0) * (wi w (dA (hA b) a2.toNatClampNeg + 2) 1)) + ((wi w (dA (hA b) a2.toNatClampNeg + 2) 0) * (wi w (dA (hA b) a1.toNatClampNeg + 2) 1)))), .ref 0] w Q
      refine g_callV (pc := 80) (M' := mX10_accept) (n := 1) (a := 0) (as := [.int (vXJ9_abs_0f7a4 (((wi w (dA (hA b) a1.toNatClampNeg + 2) 0) * (wi w (dA (hA b) a2.toNatClampNeg + 2) 1)) + ((wi w (dA (hA b) a2.toNatClampNeg + 2) 0) * (wi w (dA (hA b) a1.toNatClampNeg + 2) 1))))]) (st := []) dX10_beside_80 rfl kX10_100 vX10_accept (Nat.le_of_ble_eq_true rfl) rfl qX10 rfl rfl (Nat.le_of_ble_eq_true rfl) ?_
      refine zX10_accept (a1 := (vXJ9_abs_0f7a4 (((wi w (dA (hA b) a1.toNatClampNeg + 2) 0) * (wi w (dA (hA b) a2.toNatClampNeg + 2) 1)) + ((wi w (dA (hA b) a2.toNatClampNeg + 2) 0) * (wi w (dA (hA b) a1.toNatClampNeg + 2) 1))))) (w := w) (b := b) (hR := hR) ?_
      show Go SC mX10_beside 83 [(0, .ref 0), (1, .int a1), (2, .int a2), (3, .ref (dA (hA b) a1.toNatClampNeg)), (4, .ref (dA (hA b) a2.toNatClampNeg)), (5, .int ((wi w (dA (hA b) a1.toNatClampNeg + 2) 0) * (wi w (dA (hA b) a2.toNatClampNeg + 2) 1))), (6, .int ((wi w (dA (hA b) a2.toNatClampNeg + 2) 0) * (wi w (dA (hA b) a1.toNatClampNeg + 2) 1)))] [.int (vXX10_accept (vXJ9_abs_0f7a4 (((wi w (dA (hA b) a1.toNatClampNeg + 2) 0) * (wi w (dA (hA b) a2.toNatClampNeg + 2) 1)) + ((wi w (dA (hA b) a2.toNatClampNeg + 2) 0) * (wi w (dA (hA b) a1.toNatClampNeg + 2) 1)))))] (wXX10_accept (vXJ9_abs_0f7a4 (((wi w (dA (hA b) a1.toNatClampNeg + 2) 0) * (wi w (dA (hA b) a2.toNatClampNeg + 2) 1)) + ((wi w (dA (hA b) a2.toNatClampNeg + 2) 0) * (wi w (dA (hA b) a1.toNatClampNeg + 2) 1)))) w) Q
      exact g_iret (pc := 83) dX10_beside_83 rfl h
    · have h := h.2 qd2
      show Go SC mX10_beside 17 [(0, .ref 0), (1, .int a1), (2, .int a2), (3, .ref (dA (hA b) a1.toNatClampNeg))] [.null] w Q
      refine g_astoreN (pc := 17) (lv2 := [(0, .ref 0), (1, .int a1), (2, .int a2), (3, .ref (dA (hA b) a1.toNatClampNeg)), (4, .null)]) dX10_beside_17 (Nat.le_of_ble_eq_true rfl) rfl ?_
      refine g_aload_n (pc := 19) dX10_beside_19 rfl 3 rfl ?_
      refine g_ifnullR (pc := 20) dX10_beside_20 ?_
      refine g_aloadN (pc := 23) dX10_beside_23 4 rfl ?_
      refine g_ifnonnullN (pc := 25) dX10_beside_25 ?_
      refine g_aload_n (pc := 28) dX10_beside_28 rfl 0 rfl ?_
      refine g_iconst (pc := 29) dX10_beside_29 c_1 ?_
      refine g_iconst (pc := 30) dX10_beside_30 cN_1 ?_
      refine g_callV (pc := 31) (M' := mX10_refuse) (n := 2) (a := 0) (as := [.int 1, .int (-1)]) (st := []) dX10_beside_31 rfl kX10_83 vX10_refuse (Nat.le_of_ble_eq_true rfl) rfl qX10 rfl rfl (Nat.le_of_ble_eq_true rfl) ?_
      refine zX10_refuse (a1 := 1) (a2 := (-1)) (w := w) (b := b) (hR := hR) ?_
      show Go SC mX10_beside 34 [(0, .ref 0), (1, .int a1), (2, .int a2), (3, .ref (dA (hA b) a1.toNatClampNeg)), (4, .null)] [.int (vXX10_refuse 1 (-1))] (wXX10_refuse 1 (-1) w) Q
      exact g_iret (pc := 34) dX10_beside_34 rfl h
  · have h := h.2 qd1
    show Go SC mX10_beside 8 [(0, .ref 0), (1, .int a1), (2, .int a2)] [.null] w Q
    refine g_astore_nN (pc := 8) (lv2 := [(0, .ref 0), (1, .int a1), (2, .int a2), (3, .null)]) dX10_beside_8 rfl (Nat.le_of_ble_eq_true rfl) rfl ?_
    refine g_aload_n (pc := 9) dX10_beside_9 rfl 0 rfl ?_
    refine g_getR (pc := 10) (a := 0) (b := (hA b)) dX10_beside_10 rfl fX10_19 rfl (rc_0_1 hR) ?_
    refine g_iload_n (pc := 13) dX10_beside_13 rfl 2 rfl ?_
    refine g_callV (pc := 14) (M' := mX2_danceAt) (n := 1) (a := (hA b)) (as := [.int a2]) (st := []) dX10_beside_14 rfl kX10_113 vX2_danceAt (Nat.le_of_ble_eq_true rfl) (sh_h b) qX2 rfl rfl (Nat.le_of_ble_eq_true rfl) ?_
    refine h_danceAt (c := b) (d := a2) (w := w) (hR := hR) (fun qd3 => ?_) (fun qd3 => ?_)
    · have h := h.1 qd3
      show Go SC mX10_beside 17 [(0, .ref 0), (1, .int a1), (2, .int a2), (3, .null)] [.ref (dA (hA b) a2.toNatClampNeg)] w Q
      refine g_astore (pc := 17) (lv2 := [(0, .ref 0), (1, .int a1), (2, .int a2), (3, .null), (4, .ref (dA (hA b) a2.toNatClampNeg))]) dX10_beside_17 (Nat.le_of_ble_eq_true rfl) rfl ?_
      refine g_aload_nN (pc := 19) dX10_beside_19 rfl 3 rfl ?_
      refine g_ifnullN (pc := 20) (tgt := 28) dX10_beside_20 (by decide) ?_
      refine g_aload_n (pc := 28) dX10_beside_28 rfl 0 rfl ?_
      refine g_iconst (pc := 29) dX10_beside_29 c_1 ?_
      refine g_iconst (pc := 30) dX10_beside_30 cN_1 ?_
      refine g_callV (pc := 31) (M' := mX10_refuse) (n := 2) (a := 0) (as := [.int 1, .int (-1)]) (st := []) dX10_beside_31 rfl kX10_83 vX10_refuse (Nat.le_of_ble_eq_true rfl) rfl qX10 rfl rfl (Nat.le_of_ble_eq_true rfl) ?_
      refine zX10_refuse (a1 := 1) (a2 := (-1)) (w := w) (b := b) (hR := hR) ?_
      show Go SC mX10_beside 34 [(0, .ref 0), (1, .int a1), (2, .int a2), (3, .null), (4, .ref (dA (hA b) a2.toNatClampNeg))] [.int (vXX10_refuse 1 (-1))] (wXX10_refuse 1 (-1) w) Q
      exact g_iret (pc := 34) dX10_beside_34 rfl h
    · have h := h.2 qd3
      show Go SC mX10_beside 17 [(0, .ref 0), (1, .int a1), (2, .int a2), (3, .null)] [.null] w Q
      refine g_astoreN (pc := 17) (lv2 := [(0, .ref 0), (1, .int a1), (2, .int a2), (3, .null), (4, .null)]) dX10_beside_17 (Nat.le_of_ble_eq_true rfl) rfl ?_
      refine g_aload_nN (pc := 19) dX10_beside_19 rfl 3 rfl ?_
      refine g_ifnullN (pc := 20) (tgt := 28) dX10_beside_20 (by decide) ?_
      refine g_aload_n (pc := 28) dX10_beside_28 rfl 0 rfl ?_
      refine g_iconst (pc := 29) dX10_beside_29 c_1 ?_
      refine g_iconst (pc := 30) dX10_beside_30 cN_1 ?_
      refine g_callV (pc := 31) (M' := mX10_refuse) (n := 2) (a := 0) (as := [.int 1, .int (-1)]) (st := []) dX10_beside_31 rfl kX10_83 vX10_refuse (Nat.le_of_ble_eq_true rfl) rfl qX10 rfl rfl (Nat.le_of_ble_eq_true rfl) ?_
      refine zX10_refuse (a1 := 1) (a2 := (-1)) (w := w) (b := b) (hR := hR) ?_
      show Go SC mX10_beside 34 [(0, .ref 0), (1, .int a1), (2, .int a2), (3, .null), (4, .null)] [.int (vXX10_refuse 1 (-1))] (wXX10_refuse 1 (-1) w) Q
      exact g_iret (pc := 34) dX10_beside_34 rfl h
