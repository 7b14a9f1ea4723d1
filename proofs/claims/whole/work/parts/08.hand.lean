set_option maxHeartbeats 4000000 in
set_option maxRecDepth 100000 in
theorem TX10_at (a1 na1 : Nat) (ha1 : SC[a1]? = some (.inr (0, na1))) (a2 : Int32) (w : Wd) (Q : Option Value → Wd → Prop) (h : ((a2 < 0 → Q (some (.int 0)) w) ∧ (¬ (a2 < 0) → (((Int32.ofNat na1) ≤ a2 → Q (some (.int 0)) w) ∧ (¬ ((Int32.ofNat na1) ≤ a2) → vp_in a2 na1 ∧ Q (some (.int (wi w a1 a2.toNatClampNeg))) w))))) : Cl SC mX10_at [.ref a1, .int a2] w Q := by
  refine cl_of (by decide) (Nat.le_of_ble_eq_true rfl) ?_
  show Go SC mX10_at 0 [(0, .ref a1), (1, .int a2)] [] w Q
  refine g_iload_n (pc := 0) dX10_at_0 rfl 1 rfl ?_
  refine g_if_lt (pc := 1) (tgt := 16) dX10_at_1 (by decide) (fun q => ?_) (fun q => ?_)
  · have h := h.1 q
    refine g_iconst (pc := 16) dX10_at_16 c_0 ?_
    exact g_iret (pc := 17) dX10_at_17 rfl h
  · have h := h.2 q
    refine g_iload_n (pc := 4) dX10_at_4 rfl 1 rfl ?_
    refine g_aload_n (pc := 5) dX10_at_5 rfl 0 rfl ?_
    refine g_alen (pc := 6) (a := a1) (v := Int32.ofNat na1) dX10_at_6 ha1 rfl ?_
    refine g_icmp_ge (pc := 7) (tgt := 16) dX10_at_7 (by decide) (fun q => ?_) (fun q => ?_)
    · have h := h.1 q
      refine g_iconst (pc := 16) dX10_at_16 c_0 ?_
      exact g_iret (pc := 17) dX10_at_17 rfl h
    · have h := h.2 q
      refine g_aload_n (pc := 10) dX10_at_10 rfl 0 rfl ?_
      refine g_iload_n (pc := 11) dX10_at_11 rfl 1 rfl ?_
      obtain ⟨hi1, h⟩ := h
      refine g_iald (pc := 12) (a := a1) (j := a2.toNatClampNeg) dX10_at_12 ha1 hi1 rfl ?_
      refine g_goto (pc := 13) (tgt := 17) dX10_at_13 (by decide) ?_
      exact g_iret (pc := 17) dX10_at_17 rfl h
set_option maxHeartbeats 4000000 in
set_option maxRecDepth 100000 in
theorem TX10_putAt (a1 na1 : Nat) (ha1 : SC[a1]? = some (.inr (0, na1))) (a2 : Int32) (a3 : Int32) (w : Wd) (Q : Option Value → Wd → Prop) (h : ((a2 < 0 → Q none w) ∧ (¬ (a2 < 0) → (((Int32.ofNat na1) ≤ a2 → Q none w) ∧ (¬ ((Int32.ofNat na1) ≤ a2) → vp_in a2 na1 ∧ Q none (si w a1 a2.toNatClampNeg a3)))))) : Cl SC mX10_putAt [.ref a1, .int a2, .int a3] w Q := by
  refine cl_of (by decide) (Nat.le_of_ble_eq_true rfl) ?_
  show Go SC mX10_putAt 0 [(0, .ref a1), (1, .int a2), (2, .int a3)] [] w Q
  refine g_iload_n (pc := 0) dX10_putAt_0 rfl 1 rfl ?_
  refine g_if_lt (pc := 1) (tgt := 14) dX10_putAt_1 (by decide) (fun q => ?_) (fun q => ?_)
  · have h := h.1 q
    exact g_vret (pc := 14) dX10_putAt_14 rfl h
  · have h := h.2 q
    refine g_iload_n (pc := 4) dX10_putAt_4 rfl 1 rfl ?_
    refine g_aload_n (pc := 5) dX10_putAt_5 rfl 0 rfl ?_
    refine g_alen (pc := 6) (a := a1) (v := Int32.ofNat na1) dX10_putAt_6 ha1 rfl ?_
    refine g_icmp_ge (pc := 7) (tgt := 14) dX10_putAt_7 (by decide) (fun q => ?_) (fun q => ?_)
    · have h := h.1 q
      exact g_vret (pc := 14) dX10_putAt_14 rfl h
    · have h := h.2 q
      refine g_aload_n (pc := 10) dX10_putAt_10 rfl 0 rfl ?_
      refine g_iload_n (pc := 11) dX10_putAt_11 rfl 1 rfl ?_
      refine g_iload_n (pc := 12) dX10_putAt_12 rfl 2 rfl ?_
      obtain ⟨hi1, h⟩ := h
      refine g_iast (pc := 13) (a := a1) (j := a2.toNatClampNeg) dX10_putAt_13 ha1 hi1 rfl ?_
      exact g_vret (pc := 14) dX10_putAt_14 rfl h
set_option maxHeartbeats 4000000 in
set_option maxRecDepth 100000 in
theorem TX2_danceAt (c : Bool) (a1 : Int32) (w : Wd) (b : Bool) (hR : w.2.2 = RTab b) (Q : Option Value → Wd → Prop) (h : ((a1 < 0 → Q (some .null) w) ∧ (¬ (a1 < 0) → (((wi w (hA c) 2) ≤ a1 → Q (some .null) w) ∧ (¬ ((wi w (hA c) 2) ≤ a1) → (((Int32.ofNat 5) ≤ a1 → Q (some .null) w) ∧ (¬ ((Int32.ofNat 5) ≤ a1) → vp_in a1 5 ∧ Q (some (.ref (dA (hA c) a1.toNatClampNeg))) w))))))) : Cl SC mX2_danceAt [.ref (hA c), .int a1] w Q := by
  refine cl_of (by decide) (Nat.le_of_ble_eq_true rfl) ?_
  show Go SC mX2_danceAt 0 [(0, .ref (hA c)), (1, .int a1)] [] w Q
  refine g_iload_n (pc := 0) dX2_danceAt_0 rfl 1 rfl ?_
  refine g_if_lt (pc := 1) (tgt := 30) dX2_danceAt_1 (by decide) (fun q => ?_) (fun q => ?_)
  · have h := h.1 q
    refine g_null (pc := 30) dX2_danceAt_30 ?_
    exact g_aretN (pc := 31) dX2_danceAt_31 rfl h
  · have h := h.2 q
    refine g_iload_n (pc := 4) dX2_danceAt_4 rfl 1 rfl ?_
    refine g_aload_n (pc := 5) dX2_danceAt_5 rfl 0 rfl ?_
    refine g_getI (pc := 6) (a := (hA c)) dX2_danceAt_6 rfl fX2_41 (sh_h c) ?_
    refine g_icmp_ge (pc := 9) (tgt := 30) dX2_danceAt_9 (by decide) (fun q => ?_) (fun q => ?_)
    · have h := h.1 q
      refine g_null (pc := 30) dX2_danceAt_30 ?_
      exact g_aretN (pc := 31) dX2_danceAt_31 rfl h
    · have h := h.2 q
      refine g_iload_n (pc := 12) dX2_danceAt_12 rfl 1 rfl ?_
      refine g_aload_n (pc := 13) dX2_danceAt_13 rfl 0 rfl ?_
      refine g_getR (pc := 14) (a := (hA c)) (b := (hA c + 1)) dX2_danceAt_14 rfl fX2_11 (sh_h c) (rh_1 hR c) ?_
      refine g_alen (pc := 17) (a := (hA c + 1)) (v := Int32.ofNat 5) dX2_danceAt_17 (sh_h1 c) rfl ?_
      refine g_icmp_ge (pc := 18) (tgt := 30) dX2_danceAt_18 (by decide) (fun q => ?_) (fun q => ?_)
      · have h := h.1 q
        refine g_null (pc := 30) dX2_danceAt_30 ?_
        exact g_aretN (pc := 31) dX2_danceAt_31 rfl h
      · have h := h.2 q
        refine g_aload_n (pc := 21) dX2_danceAt_21 rfl 0 rfl ?_
        refine g_getR (pc := 22) (a := (hA c)) (b := (hA c + 1)) dX2_danceAt_22 rfl fX2_11 (sh_h c) (rh_1 hR c) ?_
        refine g_iload_n (pc := 25) dX2_danceAt_25 rfl 1 rfl ?_
        obtain ⟨hi1, h⟩ := h
        refine g_aald (pc := 26) (a := (hA c + 1)) (b := (dA (hA c) a1.toNatClampNeg)) dX2_danceAt_26 (sh_h1 c) hi1 (rh_d hR c (vp_lt hi1)) ?_
        refine g_goto (pc := 27) (tgt := 31) dX2_danceAt_27 (by decide) ?_
        exact g_aret (pc := 31) dX2_danceAt_31 rfl h
set_option maxHeartbeats 4000000 in
set_option maxRecDepth 100000 in
theorem TX2_nextDance (c : Bool) (w : Wd) (b : Bool) (hR : w.2.2 = RTab b) (Q : Option Value → Wd → Prop) (h : (((wi w (hA c) 2) < 0 → Q (some .null) w) ∧ (¬ ((wi w (hA c) 2) < 0) → (((Int32.ofNat 5) ≤ (wi w (hA c) 2) → Q (some .null) w) ∧ (¬ ((Int32.ofNat 5) ≤ (wi w (hA c) 2)) → vp_in (wi w (hA c) 2) 5 ∧ Q (some (.ref (dA (hA c) (wi w (hA c) 2).toNatClampNeg))) w))))) : Cl SC mX2_nextDance [.ref (hA c)] w Q := by
  refine cl_of (by decide) (Nat.le_of_ble_eq_true rfl) ?_
  show Go SC mX2_nextDance 0 [(0, .ref (hA c))] [] w Q
  refine g_aload_n (pc := 0) dX2_nextDance_0 rfl 0 rfl ?_
  refine g_getI (pc := 1) (a := (hA c)) dX2_nextDance_1 rfl fX2_41 (sh_h c) ?_
  refine g_if_lt (pc := 4) (tgt := 31) dX2_nextDance_4 (by decide) (fun q => ?_) (fun q => ?_)
  · have h := h.1 q
    refine g_null (pc := 31) dX2_nextDance_31 ?_
    exact g_aretN (pc := 32) dX2_nextDance_32 rfl h
  · have h := h.2 q
    refine g_aload_n (pc := 7) dX2_nextDance_7 rfl 0 rfl ?_
    refine g_getI (pc := 8) (a := (hA c)) dX2_nextDance_8 rfl fX2_41 (sh_h c) ?_
    refine g_aload_n (pc := 11) dX2_nextDance_11 rfl 0 rfl ?_
    refine g_getR (pc := 12) (a := (hA c)) (b := (hA c + 1)) dX2_nextDance_12 rfl fX2_11 (sh_h c) (rh_1 hR c) ?_
    refine g_alen (pc := 15) (a := (hA c + 1)) (v := Int32.ofNat 5) dX2_nextDance_15 (sh_h1 c) rfl ?_
    refine g_icmp_ge (pc := 16) (tgt := 31) dX2_nextDance_16 (by decide) (fun q => ?_) (fun q => ?_)
    · have h := h.1 q
      refine g_null (pc := 31) dX2_nextDance_31 ?_
      exact g_aretN (pc := 32) dX2_nextDance_32 rfl h
    · have h := h.2 q
      refine g_aload_n (pc := 19) dX2_nextDance_19 rfl 0 rfl ?_
      refine g_getR (pc := 20) (a := (hA c)) (b := (hA c + 1)) dX2_nextDance_20 rfl fX2_11 (sh_h c) (rh_1 hR c) ?_
      refine g_aload_n (pc := 23) dX2_nextDance_23 rfl 0 rfl ?_
      refine g_getI (pc := 24) (a := (hA c)) dX2_nextDance_24 rfl fX2_41 (sh_h c) ?_
      obtain ⟨hi1, h⟩ := h
      refine g_aald (pc := 27) (a := (hA c + 1)) (b := (dA (hA c) (wi w (hA c) 2).toNatClampNeg)) dX2_nextDance_27 (sh_h1 c) hi1 (rh_d hR c (vp_lt hi1)) ?_
      refine g_goto (pc := 28) (tgt := 32) dX2_nextDance_28 (by decide) ?_
      exact g_aret (pc := 32) dX2_nextDance_32 rfl h
theorem h_at {a n : Nat} {i : Int32} {w : Wd} {Q : Option Value → Wd → Prop} (ha : SC[a]? = some (.inr (0, n))) (hn : n < 2 ^ 31) (h : Q (some (.int (gf w a n i))) w) : Cl SC mX10_at [.ref a, .int i] w Q := by
  refine TX10_at a n ha i w Q ⟨fun h1 => ?_, fun h1 => ⟨fun h2 => ?_, fun h2 => ⟨vin (Int32.not_lt.mp h1) (toN_lt (Int32.not_lt.mp h1) (Int32.not_le.mp h2) hn), ?_⟩⟩⟩
  · rw [gf, if_neg (fun q => absurd q.1 (Int32.not_le.mpr h1))] at h
    exact h
  · rw [gf, if_neg (fun q => absurd q.2 (Int32.not_lt.mpr h2))] at h
    exact h
  · rw [gf, if_pos ⟨Int32.not_lt.mp h1, Int32.not_le.mp h2⟩] at h
    exact h
theorem h_putAt {a n : Nat} {i v : Int32} {w : Wd} {Q : Option Value → Wd → Prop} (ha : SC[a]? = some (.inr (0, n))) (hn : n < 2 ^ 31) (h : Q none (pf w a n i v)) : Cl SC mX10_putAt [.ref a, .int i, .int v] w Q := by
  refine TX10_putAt a n ha i v w Q ⟨fun h1 => ?_, fun h1 => ⟨fun h2 => ?_, fun h2 => ⟨vin (Int32.not_lt.mp h1) (toN_lt (Int32.not_lt.mp h1) (Int32.not_le.mp h2) hn), ?_⟩⟩⟩
  · rw [pf, if_neg (fun q => absurd q.1 (Int32.not_le.mpr h1))] at h
    exact h
  · rw [pf, if_neg (fun q => absurd q.2 (Int32.not_lt.mpr h2))] at h
    exact h
  · rw [pf, if_pos ⟨Int32.not_lt.mp h1, Int32.not_le.mp h2⟩] at h
    exact h
theorem h_danceAt {c b : Bool} {d : Int32} {w : Wd} {Q : Option Value → Wd → Prop} (hR : w.2.2 = RTab b) (h1 : 0 ≤ d ∧ d < wi w (hA c) 2 ∧ d < 5 → Q (some (.ref (dA (hA c) d.toNatClampNeg))) w) (h2 : ¬ (0 ≤ d ∧ d < wi w (hA c) 2 ∧ d < 5) → Q (some .null) w) : Cl SC mX2_danceAt [.ref (hA c), .int d] w Q := by
  refine TX2_danceAt c d w b hR Q ⟨fun q1 => h2 fun q => absurd q.1 (Int32.not_le.mpr q1), fun q1 => ⟨fun q2 => h2 fun q => absurd q.2.1 (Int32.not_lt.mpr q2), fun q2 => ⟨fun q3 => h2 fun q => absurd q.2.2 (Int32.not_lt.mpr q3), fun q3 => ?_⟩⟩⟩
  have g : 0 ≤ d ∧ d < wi w (hA c) 2 ∧ d < 5 := ⟨Int32.not_lt.mp q1, Int32.not_le.mp q2, Int32.not_le.mp q3⟩
  exact ⟨vin g.1 (lt5 g.1 g.2.2), h1 g⟩
theorem h_nextDance {c b : Bool} {w : Wd} {Q : Option Value → Wd → Prop} (hR : w.2.2 = RTab b) (h1 : 0 ≤ wi w (hA c) 2 ∧ wi w (hA c) 2 < 5 → Q (some (.ref (dA (hA c) (wi w (hA c) 2).toNatClampNeg))) w) (h2 : ¬ (0 ≤ wi w (hA c) 2 ∧ wi w (hA c) 2 < 5) → Q (some .null) w) : Cl SC mX2_nextDance [.ref (hA c)] w Q := by
  refine TX2_nextDance c w b hR Q ⟨fun q1 => h2 fun q => absurd q.1 (Int32.not_le.mpr q1), fun q1 => ⟨fun q3 => h2 fun q => absurd q.2 (Int32.not_lt.mpr q3), fun q3 => ?_⟩⟩
  have g : 0 ≤ wi w (hA c) 2 ∧ wi w (hA c) 2 < 5 := ⟨Int32.not_lt.mp q1, Int32.not_le.mp q3⟩
  exact ⟨vin g.1 (lt5 g.1 g.2), h1 g⟩

theorem sh0 (x : Int32) : x >>> ((0 : Int32) &&& 31) = x := by
  have e : ((0 : Int32) &&& 31) = 0 := by decide
  rw [e]
  exact Int32.shiftRight_zero
theorem h_coder {S : Sh} {i : Nat} {w : Wd} {Q : Option Value → Wd → Prop} (hi : i < nST) (h : Q (some (.int 0)) w) : Cl S mJ0_coder_7d493 [.ref (1000 + i)] w Q := by
  refine cl_of (by decide) (Nat.le_of_ble_eq_true rfl) ?_
  show Go S mJ0_coder_7d493 0 [(0, .ref (1000 + i))] [] w Q
  refine g_getsC (pc := 0) dJ0_coder_7d493_0 rfl (inT 387 (by decide +kernel) rfl) ?_
  refine g_if_eq (pc := 3) (tgt := 13) dJ0_coder_7d493_3 (by decide) (fun q => absurd q (by decide)) (fun _ => ?_)
  refine g_aload_n (pc := 6) dJ0_coder_7d493_6 rfl 0 rfl ?_
  refine g_strC (pc := 7) dJ0_coder_7d493_7 rfl (inT 1922 (by decide +kernel) rfl) hi ?_
  refine g_goto (pc := 10) (tgt := 14) dJ0_coder_7d493_10 (by decide) ?_
  exact g_zret (pc := 14) dJ0_coder_7d493_14 rfl rfl h
theorem h_isLatin1 {S : Sh} {i : Nat} {w : Wd} {Q : Option Value → Wd → Prop} (hi : i < nST) (h : Q (some (.int 1)) w) : Cl S mJ0_isLatin1_aae02 [.ref (1000 + i)] w Q := by
  refine cl_of (by decide) (Nat.le_of_ble_eq_true rfl) ?_
  show Go S mJ0_isLatin1_aae02 0 [(0, .ref (1000 + i))] [] w Q
  refine g_getsC (pc := 0) dJ0_isLatin1_aae02_0 rfl (inT 387 (by decide +kernel) rfl) ?_
  refine g_if_eq (pc := 3) (tgt := 17) dJ0_isLatin1_aae02_3 (by decide) (fun q => absurd q (by decide)) (fun _ => ?_)
  refine g_aload_n (pc := 6) dJ0_isLatin1_aae02_6 rfl 0 rfl ?_
  refine g_strC (pc := 7) dJ0_isLatin1_aae02_7 rfl (inT 1922 (by decide +kernel) rfl) hi ?_
  refine g_if_ne (pc := 10) (tgt := 17) dJ0_isLatin1_aae02_10 (by decide) (fun q => absurd rfl q) (fun _ => ?_)
  refine g_iconst (pc := 13) dJ0_isLatin1_aae02_13 c_1 ?_
  refine g_goto (pc := 14) (tgt := 18) dJ0_isLatin1_aae02_14 (by decide) ?_
  exact g_bret (pc := 18) dJ0_isLatin1_aae02_18 rfl (Or.inr rfl) h
theorem h_pre {S : Sh} {j n : Int32} {v : Value} {w : Wd} {Q : Option Value → Wd → Prop} (hv : v.category = 1) (h0 : ¬ j < 0) (hn : j < n) (h : Q (some (.int j)) w) : Cl S mJ3_checkIndex_8e157 [.int j, .int n, v] w Q := by
  refine cl_of (by decide) (by cases v <;> first | exact Nat.le_of_ble_eq_true rfl | cases hv) ?_
  show Go S mJ3_checkIndex_8e157 0 [(0, .int j), (1, .int n), (2, v)] [] w Q
  refine g_iload_n (pc := 0) dJ3_checkIndex_8e157_0 rfl 0 rfl ?_
  refine g_if_lt (pc := 1) (tgt := 9) dJ3_checkIndex_8e157_1 (by decide) (fun q => absurd q h0) (fun _ => ?_)
  refine g_iload_n (pc := 4) dJ3_checkIndex_8e157_4 rfl 0 rfl ?_
  refine g_iload_n (pc := 5) dJ3_checkIndex_8e157_5 rfl 1 rfl ?_
  refine g_icmp_lt (pc := 6) (tgt := 16) dJ3_checkIndex_8e157_6 (by decide) (fun _ => ?_) (fun q => absurd hn q)
  refine g_iload_n (pc := 16) dJ3_checkIndex_8e157_16 rfl 0 rfl ?_
  exact g_iret (pc := 17) dJ3_checkIndex_8e157_17 rfl h
theorem h_chk {S : Sh} {j n : Int32} {w : Wd} {Q : Option Value → Wd → Prop} (h0 : ¬ j < 0) (hn : j < n) (h : Q none w) : Cl S mJ0_checkIndex_df160 [.int j, .int n] w Q := by
  refine cl_of (by decide) (Nat.le_of_ble_eq_true rfl) ?_
  show Go S mJ0_checkIndex_df160 0 [(0, .int j), (1, .int n)] [] w Q
  refine g_iload_n (pc := 0) dJ0_checkIndex_df160_0 rfl 0 rfl ?_
  refine g_iload_n (pc := 1) dJ0_checkIndex_df160_1 rfl 1 rfl ?_
  refine g_getsS (pc := 2) dJ0_checkIndex_df160_2 rfl (inT 403 (by decide +kernel) rfl) ?_ ?_
  · refine g_callS (pc := 5) (M' := mJ3_checkIndex_8e157) (n := 3) (as := [.int j, .int n, .null]) (st := []) dJ0_checkIndex_df160_5 rfl kJ0_1059 sJ3_checkIndex_8e157 (Nat.le_of_ble_eq_true rfl) rfl rfl (Nat.le_of_ble_eq_true rfl) ?_
    refine h_pre rfl h0 hn ?_
    show Go S mJ0_checkIndex_df160 8 [(0, .int j), (1, .int n)] [.int j] w Q
    refine g_pop (pc := 8) dJ0_checkIndex_df160_8 rfl ?_
    exact g_vret (pc := 9) dJ0_checkIndex_df160_9 rfl h
  · refine g_callS (pc := 5) (M' := mJ3_checkIndex_8e157) (n := 3) (as := [.int j, .int n, .ref 3000]) (st := []) dJ0_checkIndex_df160_5 rfl kJ0_1059 sJ3_checkIndex_8e157 (Nat.le_of_ble_eq_true rfl) rfl rfl (Nat.le_of_ble_eq_true rfl) ?_
    refine h_pre rfl h0 hn ?_
    show Go S mJ0_checkIndex_df160 8 [(0, .int j), (1, .int n)] [.int j] w Q
    refine g_pop (pc := 8) dJ0_checkIndex_df160_8 rfl ?_
    exact g_vret (pc := 9) dJ0_checkIndex_df160_9 rfl h
theorem lenST_lt : ∀ i, i < nST → lenST.getD i 0 < 10 := by decide
theorem vin_bounds {k : Int32} {n : Nat} (hn : n < 2 ^ 31) (h : vp_in k n) : ¬ k < 0 ∧ k < Int32.ofNat n := by
  have h0 : ¬ k < 0 := fun q => h (Or.inl q)
  refine ⟨h0, ?_⟩
  have h1 : (k.toInt.toNat : Nat) < n := vp_lt h
  have h2 := Int32.not_lt.mp h0
  rw [Int32.le_iff_toInt_le, Int32.toInt_zero] at h2
  rw [Int32.lt_iff_toInt_lt, Int32.toInt_ofNat_of_lt hn]
  omega
theorem chST_ok : ∀ i, i < nST → ∀ j, j < lenST.getD i 0 → ((((bytST.getD i []).getD j 0) &&& 255).toUInt32 % 65536).toInt32 = (bytST.getD i []).getD j 0 ∧ 0 ≤ (bytST.getD i []).getD j 0 ∧ (bytST.getD i []).getD j 0 ≤ 127 := by decide
theorem nar_char {x : Int32} (h0 : 0 ≤ x) (h1 : x ≤ 127) : narrow .char (.int x) = .int x := by
  show Value.int _ = _
  congr 1
  rw [Int32.le_iff_toInt_le, Int32.toInt_zero] at h0
  rw [Int32.le_iff_toInt_le] at h1
  have h2 : (127 : Int32).toInt = 127 := by decide
  rw [h2] at h1
  have e := lg_i2c_word (v := x) h0 (by omega)
  first | exact e | (rw [← lg_i2c_nf]; exact e)
theorem h_lat {S : Sh} {i : Nat} {k : Int32} {w : Wd} {Q : Option Value → Wd → Prop} (hi : i < nST) (hk : vp_in k (lenST.getD i 0)) (h : Q (some (.int (chST i k))) w) : Cl S mJ1_charAt_3b067 [.ref (2000 + i), .int k] w Q := by
  obtain ⟨b0, b1⟩ := vin_bounds (Nat.lt_trans (lenST_lt i hi) (by decide)) hk
  obtain ⟨e1, e2, e3⟩ := chST_ok i hi _ (vp_lt hk)
  refine cl_of (by decide) (Nat.le_of_ble_eq_true rfl) ?_
  show Go S mJ1_charAt_3b067 0 [(0, .ref (2000 + i)), (1, .int k)] [] w Q
  refine g_iload_n (pc := 0) dJ1_charAt_3b067_0 rfl 1 rfl ?_
  refine g_aload_n (pc := 1) dJ1_charAt_3b067_1 rfl 0 rfl ?_
  refine g_strLen (pc := 2) dJ1_charAt_3b067_2 hi ?_
  refine g_callS (pc := 3) (M' := mJ0_checkIndex_df160) (n := 2) (as := [.int k, .int (Int32.ofNat (lenST.getD i 0))]) (st := []) dJ1_charAt_3b067_3 rfl kJ1_9 sJ0_checkIndex_df160 (Nat.le_of_ble_eq_true rfl) rfl rfl (Nat.le_of_ble_eq_true rfl) ?_
  refine h_chk b0 b1 ?_
  show Go S mJ1_charAt_3b067 6 [(0, .ref (2000 + i)), (1, .int k)] [] w Q
  refine g_aload_n (pc := 6) dJ1_charAt_3b067_6 rfl 0 rfl ?_
  refine g_iload_n (pc := 7) dJ1_charAt_3b067_7 rfl 1 rfl ?_
  refine g_strAt (pc := 8) dJ1_charAt_3b067_8 hi hk ?_
  refine g_sipush (pc := 9) (v := 255) dJ1_charAt_3b067_9 (by decide) ?_
  refine g_iand (pc := 12) dJ1_charAt_3b067_12 ?_
  refine g_i2c (pc := 13) dJ1_charAt_3b067_13 ?_
  rw [e1]
  exact g_zret (pc := 14) dJ1_charAt_3b067_14 rfl (nar_char e2 e3) h
theorem h_charAt {S : Sh} {i : Nat} {k : Int32} {w : Wd} {Q : Option Value → Wd → Prop} (hi : i < nST) (hk : vp_in k (lenST.getD i 0)) (h : Q (some (.int (chST i k))) w) : Cl S mJ0_charAt_5068e [.ref (1000 + i), .int k] w Q := by
  obtain ⟨e1, e2, e3⟩ := chST_ok i hi _ (vp_lt hk)
  refine cl_of (by decide) (Nat.le_of_ble_eq_true rfl) ?_
  show Go S mJ0_charAt_5068e 0 [(0, .ref (1000 + i)), (1, .int k)] [] w Q
  refine g_aload_n (pc := 0) dJ0_charAt_5068e_0 rfl 0 rfl ?_
  refine g_callStr (pc := 1) (M' := mJ0_isLatin1_aae02) (n := 0) (i := i) (as := []) (st := []) hi dJ0_charAt_5068e_1 rfl kJ0_492 vJ0_isLatin1_aae02 (Nat.le_of_ble_eq_true rfl) rfl rfl rfl (Nat.le_of_ble_eq_true rfl) ?_
  refine h_isLatin1 hi ?_
  show Go S mJ0_charAt_5068e 4 [(0, .ref (1000 + i)), (1, .int k)] [.int 1] w Q
  refine g_if_eq (pc := 4) (tgt := 16) dJ0_charAt_5068e_4 (by decide) (fun q => absurd q (by decide)) (fun _ => ?_)
  refine g_aload_n (pc := 7) dJ0_charAt_5068e_7 rfl 0 rfl ?_
  refine g_strV (pc := 8) dJ0_charAt_5068e_8 rfl (inT 1921 (by decide +kernel) rfl) hi ?_
  refine g_iload_n (pc := 11) dJ0_charAt_5068e_11 rfl 1 rfl ?_
  refine g_callS (pc := 12) (M' := mJ1_charAt_3b067) (n := 2) (as := [.ref (2000 + i), .int k]) (st := []) dJ0_charAt_5068e_12 rfl kJ0_495 sJ1_charAt_3b067 (Nat.le_of_ble_eq_true rfl) rfl rfl (Nat.le_of_ble_eq_true rfl) ?_
  refine h_lat hi hk ?_
  show Go S mJ0_charAt_5068e 15 [(0, .ref (1000 + i)), (1, .int k)] [.int (chST i k)] w Q
  exact g_zret (pc := 15) dJ0_charAt_5068e_15 rfl (nar_char e2 e3) h
theorem h_length {S : Sh} {i : Nat} {w : Wd} {Q : Option Value → Wd → Prop} (hi : i < nST) (h : Q (some (.int (Int32.ofNat (lenST.getD i 0)))) w) : Cl S mJ0_length_8abf5 [.ref (1000 + i)] w Q := by
  refine cl_of (by decide) (Nat.le_of_ble_eq_true rfl) ?_
  show Go S mJ0_length_8abf5 0 [(0, .ref (1000 + i))] [] w Q
  refine g_aload_n (pc := 0) dJ0_length_8abf5_0 rfl 0 rfl ?_
  refine g_strV (pc := 1) dJ0_length_8abf5_1 rfl (inT 1921 (by decide +kernel) rfl) hi ?_
  refine g_strLen (pc := 4) dJ0_length_8abf5_4 hi ?_
  refine g_aload_n (pc := 5) dJ0_length_8abf5_5 rfl 0 rfl ?_
  refine g_callStr (pc := 6) (M' := mJ0_coder_7d493) (n := 0) (i := i) (as := []) (st := [.int (Int32.ofNat (lenST.getD i 0))]) hi dJ0_length_8abf5_6 rfl kJ0_335 vJ0_coder_7d493 (Nat.le_of_ble_eq_true rfl) rfl rfl rfl (Nat.le_of_ble_eq_true rfl) ?_
  refine h_coder hi ?_
  show Go S mJ0_length_8abf5 9 [(0, .ref (1000 + i))] [.int 0, .int (Int32.ofNat (lenST.getD i 0))] w Q
  refine g_ishr (pc := 9) dJ0_length_8abf5_9 ?_
  rw [sh0]
  exact g_iret (pc := 10) dJ0_length_8abf5_10 rfl h
