/-! led: a dance's place, or an exception -/
theorem xWs_tb : xWs = [19, 1158, 1167, 1169, 1172, 1174, 1159, 1160, 29, 30, 1161, 1166, 1170, 1186, 1148, 1187, 1150, 1188, 1152, 1162, 1164, 1154, 1176, 1177, 1178, 1179, 1139, 1179, 1180, 1181, 1182, 1141, 1182, 1183, 1184, 1159, 1143, 1175, 1137, 1138, 1145, 1146, 1147, 1149, 1151, 1153, 1157, 1156, 1155].filterMap (fun i => tables_1[i]?) := by decide +kernel
theorem xWs_lw : ∀ w ∈ xWs, w ∈ lw_tbl := by
  intro w hw
  rw [xWs_tb] at hw
  obtain ⟨i, -, hi⟩ := List.mem_filterMap.mp hw
  exact List.mem_append_right _ (List.mem_of_getElem? hi)
def xk : Cond → Bool
  | .declares _ => true
  | .castable _ _ => true
  | _ => false
theorem xNG_b : xNG.all xk = true := by decide +kernel
theorem xNG_ot : ∀ w ∈ xNG, w.onTables = true := by
  intro w h
  have h2 := List.all_eq_true.mp xNG_b w h
  cases w <;> first | rfl | exact absurd h2 Bool.false_ne_true
theorem xNG_warm : ∀ w ∈ xNG, ∀ (s U : State), s.WarmedH U.vm → va_Nw w s → va_Nw w U := by
  intro w h s U hW hZ
  have h2 := List.all_eq_true.mp xNG_b w h
  cases w <;> first | exact va_Nw.warmD hW hZ | exact va_Nw.warmC hW hZ | exact absurd h2 Bool.false_ne_true
theorem XSt.moved {S : Sh} {E : En} {s U : State} (hW : s.WarmedH U.vm) (hk : ∀ a : Nat, a < s.heap.size → ¬ eA S E a → U.heap[a]? = s.heap[a]?) (h : XSt S E s) : XSt S E U :=
  ⟨fun w hw => xNG_warm w hw s U hW (h.1 w hw), (h.2.1.moved hW.alike).kept hk, (h.2.2.moved hW.alike).kept hk⟩
theorem XSt.same {S : Sh} {E : En} {s U : State} (hv : s.vm = U.vm) (hh : U.heap = s.heap) (h : XSt S E s) : XSt S E U :=
  ⟨fun w hw => va_Nw.same (xNG_ot w hw) hv (h.1 w hw), by rw [hh]; exact h.2.1.moved (by rw [hv]; exact Vm.Alike.refl _), by rw [hh]; exact h.2.2.moved (by rw [hv]; exact Vm.Alike.refl _)⟩
abbrev mXl : Mth := (yX10_led, cX10_led, 5, (some .int), 20)
theorem xOT_b : (Cond.classLink RX10 351 xNm :: Cond.initialized xNm :: vx_at0 RX10 353 xNm xNs).all vx_ot = true := by decide +kernel
theorem xg_throw {w : Wd} {Q : Option Value → Wd → Prop} {P : Wd → Prop} (hP : P w) {lv : List (Nat × Value)} : GoX SC mXl 60 lv [] w Q P := by
  intro p l e s m args below meth c H locs ls E G h1 h2 h3 hX
  obtain ⟨x1, x2, x3, x4, x5⟩ := hX
  have hT : ∀ w ∈ TBL, w.before args s = true := fun w hw => G.2.2.2.2.2.1 w (List.mem_cons_of_mem _ hw)
  have hat : ∀ w ∈ vx_at0 RX10 353 xNm xNs, w.before args s = true := by
    intro w hw
    by_cases g : goodWord w = true
    · exact hT w (inTB (xWs_lw w hw) g)
    · have hm : w ∈ xNG := by
        refine List.mem_filter.mpr ⟨hw, ?_⟩
        show (!goodWord w) = true
        cases hg : goodWord w
        · rfl
        · exact absurd hg g
      exact va_Nw.use (xNG_ot w hm) (x3 w hm)
  exact vx_throw0 (cc := cX10_led) (own := RX10) (cls := xNm) (names := xNs) (ik := 351) (ic := 353) (mc := 1) (ms := 6) (A := eA SC E) G.1 G.2.1 x1 G.2.2.2.2.1 (by decide +kernel) (by decide +kernel) (hT _ (inT 1136 (by decide +kernel) rfl)) (hT _ (inT 22 (by decide +kernel) rfl)) hat (List.all_eq_true.mp xOT_b) x4 x5 h2 (h3.1.trans G.2.2.2.1.symm) dX10_led_60 dX10_led_63 dX10_led_64 dX10_led_67 (fun x hx => (x2 x hx).elim) (Nat.le_of_ble_eq_true rfl) (Nat.le_of_ble_eq_true rfl) (Nat.le_of_ble_eq_true rfl) (Nat.le_of_ble_eq_true rfl) G.2.2.2.2.2.2.1
    (fun t _ hsz hk => ⟨w, hP, ⟨rfl, h1.kept (fun k x hx => hk _ (h1 k x hx).lt)⟩, ⟨Nat.le_trans h2.1 hsz, fun q g1 g2 => (hk q (Nat.lt_of_lt_of_le g1 h2.1)).trans (h2.2.1 q g1 g2)⟩⟩) h2.2.2 (Nat.le_of_ble_eq_true rfl) (Nat.le_of_ble_eq_true rfl)
theorem xg_lv {S : Sh} {M : Mth} {pc : Nat} {lv lv2 : List (Nat × Value)} {st : List Value} {w : Wd} {Q : Option Value → Wd → Prop} {P : Wd → Prop} (h : ∀ q ∈ lv2, q ∈ lv) (k : GoX S M pc lv2 st w Q P) : GoX S M pc lv st w Q P := by
  intro p l e s m args below meth c H locs ls E G h1 h2 h3 hX
  exact k p l e s m args below meth c H locs ls E G h1 h2 ⟨h3.1, h3.2.1, fun q hq => by
    obtain ⟨x, hx, rfl⟩ := List.mem_map.mp hq
    exact h3.2.2 _ (List.mem_map.mpr ⟨x, h x hx, rfl⟩)⟩ hX
/-- the i-th that is untied, from d on, k of them told ahead -/
def ldG (u : Nat → Bool) (i : Int32) : Nat → Nat → Nat → Option Nat
  | 0, _, _ => none
  | r + 1, d, k => if u d then (if nI k = i then some d else ldG u i r (d + 1) (k + 1)) else ldG u i r (d + 1) k
theorem l_led {b : Bool} {w : Wd} (hR : w.2.2 = RTab b) {N : Nat} (hN : N ≤ 5) (h2 : wi w (hA b) 2 = nI N) {i : Int32} {u : Nat → Bool} (hu : ∀ d, d < N → (u d = true ↔ wi w (dA (hA b) d + 2) 0 = 0)) {Q : Option Value → Wd → Prop} {P : Wd → Prop} : ∀ (r d k : Nat), d + r = N → k ≤ d → (∀ x, ldG u i r d k = some x → Q (some (.int (nI x))) w) → (ldG u i r d k = none → P w) → GoX SC mXl 4 [(0, .ref 0), (1, .int i), (2, .int (nI k)), (3, .int (nI d))] [] w Q P := by
  intro r
  induction r with
  | zero =>
    intro d k hd hk kq kp
    refine xg_iload_n (pc := 4) dX10_led_4 rfl 3 rfl ?_
    refine xg_aload_n (pc := 5) dX10_led_5 rfl 0 rfl ?_
    refine xg_getR (pc := 6) (a := 0) (b := (hA b)) dX10_led_6 rfl fX10_19 rfl (rc_0_1 hR) ?_
    refine xg_getI (pc := 9) (a := (hA b)) dX10_led_9 rfl fX10_97 (sh_h b) ?_
    refine xg_icmp_ge (pc := 12) (tgt := 60) dX10_led_12 (by decide) (fun _ => xg_throw (kp rfl)) (fun z => absurd ?_ z)
    rw [h2]
    exact nI_le (by omega) (by omega)
  | succ r ih =>
    intro d k hd hk kq kp
    have hd5 : d < 5 := by omega
    have hdn : d < N := by omega
    refine xg_iload_n (pc := 4) dX10_led_4 rfl 3 rfl ?_
    refine xg_aload_n (pc := 5) dX10_led_5 rfl 0 rfl ?_
    refine xg_getR (pc := 6) (a := 0) (b := (hA b)) dX10_led_6 rfl fX10_19 rfl (rc_0_1 hR) ?_
    refine xg_getI (pc := 9) (a := (hA b)) dX10_led_9 rfl fX10_97 (sh_h b) ?_
    refine xg_icmp_ge (pc := 12) (tgt := 60) dX10_led_12 (by decide) (fun z => absurd z (by rw [h2]; exact nI_ge hdn (by omega))) (fun _ => ?_)
    refine xg_aload_n (pc := 15) dX10_led_15 rfl 0 rfl ?_
    refine xg_getR (pc := 16) (a := 0) (b := (hA b)) dX10_led_16 rfl fX10_19 rfl (rc_0_1 hR) ?_
    refine xg_iload_n (pc := 19) dX10_led_19 rfl 3 rfl ?_
    refine xg_callV (pc := 20) (M' := mX2_danceAt) (n := 1) (a := (hA b)) (as := [.int (nI d)]) (st := []) dX10_led_20 rfl kX10_113 vX2_danceAt (Nat.le_of_ble_eq_true rfl) (sh_h b) qX2 rfl rfl (Nat.le_of_ble_eq_true rfl) ?_
    refine h_danceAt (c := b) (d := nI d) (w := w) (hR := hR) (fun _ => ?_) (fun z => absurd ⟨nI_pos' (by omega), by rw [h2]; exact nI_lt hdn (by omega), nlt5 hd5⟩ z)
    rw [nI_clamp (by omega)]
    show GoX SC mXl 23 [(0, .ref 0), (1, .int i), (2, .int (nI k)), (3, .int (nI d))] [.ref (dA (hA b) d)] w Q P
    refine xg_astore (pc := 23) (lv2 := [(0, .ref 0), (1, .int i), (2, .int (nI k)), (3, .int (nI d)), (4, .ref (dA (hA b) d))]) dX10_led_23 (Nat.le_of_ble_eq_true rfl) rfl ?_
    refine xg_aload (pc := 25) dX10_led_25 4 rfl ?_
    refine xg_ifnullR (pc := 27) dX10_led_27 ?_
    refine xg_aload (pc := 30) dX10_led_30 4 rfl ?_
    refine xg_getR (pc := 32) (a := (dA (hA b) d)) (b := (dA (hA b) d + 2)) dX10_led_32 rfl fX10_118 (sh_d b hd5) (rd_4 hR b hd5) ?_
    refine xg_callV (pc := 35) (M' := mX7_isUntied) (n := 0) (a := (dA (hA b) d + 2)) (as := []) (st := []) dX10_led_35 rfl kX10_171 vX7_isUntied (Nat.le_of_ble_eq_true rfl) (sh_dn b hd5) qX7 rfl rfl (Nat.le_of_ble_eq_true rfl) ?_
    refine zX7_isUntied (sh_dn b hd5) hR ?_
    show GoX SC mXl 38 [(0, .ref 0), (1, .int i), (2, .int (nI k)), (3, .int (nI d)), (4, .ref (dA (hA b) d))] [.int (vXX7_isUntied (dA (hA b) d + 2) w)] w Q P
    have hU : vXX7_isUntied (dA (hA b) d + 2) w = 0 ↔ ¬ u d = true := by
      unfold vXX7_isUntied
      rw [hu d hdn]
      by_cases z : wi w (dA (hA b) d + 2) 0 = 0
      · rw [if_pos z]
        exact ⟨fun y => absurd y (by decide), fun y => absurd z y⟩
      · rw [if_neg z]
        exact ⟨fun _ => z, fun _ => rfl⟩
    have nx : ∀ k', k' ≤ d + 1 → (∀ x, ldG u i r (d + 1) k' = some x → Q (some (.int (nI x))) w) → (ldG u i r (d + 1) k' = none → P w) → GoX SC mXl 54 [(0, .ref 0), (1, .int i), (2, .int (nI k')), (3, .int (nI d)), (4, .ref (dA (hA b) d))] [] w Q P := by
      intro k' hk' q1 q2
      refine xg_iinc (pc := 54) (v := nI (d + 1)) (lv2 := [(0, .ref 0), (1, .int i), (2, .int (nI k')), (3, .int (nI (d + 1))), (4, .ref (dA (hA b) d))]) dX10_led_54 3 rfl (Nat.le_of_ble_eq_true rfl) (nI_1 d) rfl ?_
      refine xg_goto (pc := 57) (tgt := 4) dX10_led_57 (by decide) ?_
      refine xg_lv (lv2 := [(0, .ref 0), (1, .int i), (2, .int (nI k')), (3, .int (nI (d + 1)))]) (fun q hq => List.mem_append_left [(4, Value.ref (dA (hA b) d))] hq) (ih (d + 1) k' (by omega) hk' q1 q2)
    refine xg_if_ne (pc := 38) (tgt := 44) dX10_led_38 (by decide) (fun z => ?_) (fun z => ?_)
    · have ud : u d = true := by
        by_cases y : u d = true
        · exact y
        · exact absurd (hU.mpr y) z
      refine xg_iload_n (pc := 44) dX10_led_44 rfl 2 rfl ?_
      refine xg_iload_n (pc := 45) dX10_led_45 rfl 1 rfl ?_
      refine xg_icmp_ne (pc := 46) (tgt := 51) dX10_led_46 (by decide) (fun y => ?_) (fun y => ?_)
      · refine xg_iinc (pc := 51) (v := nI (k + 1)) (lv2 := [(0, .ref 0), (1, .int i), (2, .int (nI (k + 1))), (3, .int (nI d)), (4, .ref (dA (hA b) d))]) dX10_led_51 2 rfl (Nat.le_of_ble_eq_true rfl) (nI_1 k) rfl ?_
        have e : ldG u i (r + 1) d k = ldG u i r (d + 1) (k + 1) := by rw [ldG, if_pos ud, if_neg y]
        rw [e] at kq kp
        exact nx (k + 1) (by omega) kq kp
      · have e : ldG u i (r + 1) d k = some d := by rw [ldG, if_pos ud, if_pos y]
        refine xg_iload_n (pc := 49) dX10_led_49 rfl 3 rfl ?_
        exact xg_iret (pc := 50) dX10_led_50 rfl (kq d e)
    · have ud : ¬ u d = true := hU.mp z
      have e : ldG u i (r + 1) d k = ldG u i r (d + 1) k := by rw [ldG, if_neg ud]
      rw [e] at kq kp
      refine xg_goto (pc := 41) (tgt := 54) dX10_led_41 (by decide) ?_
      exact nx k (by omega) kq kp
theorem x_led {b : Bool} {w : Wd} (hR : w.2.2 = RTab b) {N : Nat} (hN : N ≤ 5) (h2 : wi w (hA b) 2 = nI N) {i : Int32} {u : Nat → Bool} (hu : ∀ d, d < N → (u d = true ↔ wi w (dA (hA b) d + 2) 0 = 0)) {Q : Option Value → Wd → Prop} {P : Wd → Prop} (kq : ∀ x, ldG u i N 0 0 = some x → Q (some (.int (nI x))) w) (kp : ldG u i N 0 0 = none → P w) : GoX SC mXl 0 [(0, .ref 0), (1, .int i)] [] w Q P := by
  refine xg_iconst (pc := 0) dX10_led_0 c_0 ?_
  refine xg_istore_n (pc := 1) (lv2 := [(0, .ref 0), (1, .int i), (2, .int 0)]) dX10_led_1 rfl (Nat.le_of_ble_eq_true rfl) rfl ?_
  refine xg_iconst (pc := 2) dX10_led_2 c_0 ?_
  refine xg_istore_n (pc := 3) (lv2 := [(0, .ref 0), (1, .int i), (2, .int 0), (3, .int 0)]) dX10_led_3 rfl (Nat.le_of_ble_eq_true rfl) rfl ?_
  exact l_led hR hN h2 hu N 0 0 (Nat.zero_add _) (Nat.le_refl _) kq kp
theorem met_led {l : Launch} (hl : l.stackTraces = false) (E : En) {w : Wd} {i : Int32} {Q : Option Value → Wd → Prop} {P : Wd → Prop} (k : GoX SC mXl 0 [(0, .ref 0), (1, .int i)] [] w Q P) : vx_Met l yX10_led (mW mXl) (rmX 20) (fun v U => mP SC E [.ref 0, .int i] w v U ∧ XSt SC E U) (mQ SC E Q) (xXC SC E P) 1 6 (eA SC E) := by
  refine vx_ofW (cc := cX10_led) (maxL := 5) (ret := some .int) (by decide) rfl ?_
  intro p e s m args below meth c s₁ B hml ht hv
  obtain ⟨⟨rfl, hK, hH⟩, hX⟩ := hv
  have hlv := lv_entry (([.ref 0, .int i] : List Value).map (rv E.2.1)) (n := 5) (by rw [lg_sl_len]; exact Nat.le_of_ble_eq_true rfl)
  rw [lg_entry_eq]
  generalize (lg_sl (([.ref 0, .int i] : List Value).map (rv E.2.1)) ++ List.replicate (5 - (lg_sl (([.ref 0, .int i] : List Value).map (rv E.2.1))).length) Slot.unset).toArray = ls at hlv ⊢
  rw [lv_args_map] at hlv
  exact k p l e s m _ below meth c s.heap [] ls E ⟨B.exec, B.bytes, B.returns, hml, findClass_of_methodNamed B.named, atoms_spec (ws := mW mXl) B.pre, B.notSynchronized, hK⟩ hH va_S.rf hlv ⟨hl, ht, hX⟩
theorem mPX_blind (E : En) (as : List Value) (w : Wd) : FrameBlind (fun v U => mP SC E as w v U ∧ XSt SC E U) := fun a U g mk q => ⟨mP_blind E as w a U g mk q.1, XSt.same (s := U) (U := U.calling g mk a) rfl rfl q.2⟩
