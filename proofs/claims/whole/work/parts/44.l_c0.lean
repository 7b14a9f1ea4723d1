/-! the pairs of unsure figures -/
theorem cn_mono (P : Nat → Bool) {s : Nat} : ∀ t, s ≤ t → cnN P s ≤ cnN P t := by
  intro t
  induction t with
  | zero =>
    intro h
    rw [show s = 0 by omega]
    exact Nat.le_refl _
  | succ t ih =>
    intro h
    by_cases c : s = t + 1
    · rw [c]
      exact Nat.le_refl _
    · have := ih (by omega)
      rw [cnN]
      split <;> omega
theorem mk_0 (P : Nat → Bool) : ∀ s, mkN P s = 0 ↔ cnN P s = 0 := by
  intro s
  induction s with
  | zero => exact ⟨fun _ => rfl, fun _ => rfl⟩
  | succ s ih =>
    have hp : 0 < 2 ^ s := Nat.pow_pos (by decide)
    rw [mkN, cnN]
    cases P s
    · exact ih
    · rw [if_pos rfl, if_pos rfl]
      omega
theorem mk0I (P : Nat → Bool) {s : Nat} (hs : s ≤ 16) : nI (mkN P s) = 0 ↔ cnN P s = 0 := by
  have h1 := mkN_lt P s
  have h2 : 2 ^ s ≤ 2 ^ 16 := Nat.pow_le_pow_right (by decide) hs
  rw [← nI_0, nI_eq (by omega) (by decide), mk_0]
theorem mk_in (P : Nat → Bool) {S s : Nat} (hS : S ≤ 16) (hs : s < S) : vXX10_isIn (nI (mkN P S)) (nI s) = bI (P s) := by
  rw [isIn_bt _ (by omega), mk_bt P S (by omega) s (by omega), decide_eq_true hs, Bool.true_and]
theorem hh0 {b : Bool} {wc wr : Wd} {n u e : Nat} (hF : FC b wc wr n u e) : (vXX10_hasHall wc b = 0 ↔ n = 0) ∧ (wi (wXX11_anew wr) 0 15 = 0 ↔ n = 0) := by
  have e15 : wi (wXX11_anew wr) 0 15 = if n = 0 then 0 else 1 := (an_ne (Or.inr (by decide))).trans hF.2.2.2.2.2.1
  rw [hall_n hF.1 hF.2.2.2.1, e15]
  by_cases c : n = 0
  · rw [if_pos c]
    exact ⟨⟨fun _ => c, fun _ => rfl⟩, ⟨fun _ => c, fun _ => rfl⟩⟩
  · rw [if_neg c]
    exact ⟨⟨fun h => absurd h no10, fun h => absurd h c⟩, ⟨fun h => absurd h no10, fun h => absurd h c⟩⟩
theorem pr_fits {wc wr : Wd} (h : RelE wc wr)  : PairI mX10_fits mX11_fits [] wc wr := by
  obtain ⟨b, hR⟩ := h
  obtain ⟨n, u, e, hF⟩ := fc_of hR
  obtain ⟨c1, c2⟩ := hh0 hF
  have g2 := hR.2.1
  refine TX10_fits wc b hR.1 _ ⟨fun z => ⟨_, rfl, TX11_fits wr g2 _ ⟨fun _ => ⟨_, rfl, rfl, fin_noA hR (by decide)⟩, fun y => absurd (c2.mpr (c1.mp z)) y⟩⟩, fun z => z_fitting hR.1 hF (fun w' hS => ⟨_, rfl, TX11_fits wr g2 _ ⟨fun y => absurd (c1.mpr (c2.mp y)) z, fun _ => z_sets g2 hF (fun w'' hE => ⟨_, rfl, ?_, fin_ok hR hS hE.same hE.k11⟩)⟩⟩)⟩
  rw [hE.2.1, pop_c _ (p16 hF.2.1)]
  rfl
theorem l_could {b : Bool} {wc wr : Wd} {n u e : Nat} (g1 : wc.2.2 = RTab b) (hF : FC b wc wr n u e) {w : Wd} (hS : SameC wc w) {Q : Option Value → Wd → Prop} (kk : Q (some (.int (smF (fB b wc u e) (2 ^ u)))) (wXX10_accept (smF (fB b wc u e) (2 ^ u)) w)) : ∀ (r s : Nat), s + r = 2 ^ u → Go SC mX10_could 30 [(0, .ref 0), (1, .int (nI (mkN (fB b wc u e) (2 ^ u)))), (2, .int (smF (fB b wc u e) s)), (3, .int (nI s))] [] w Q := by
  have hp := p16 hF.2.1
  have hs5 := sets_c hS hF.2.1 hF.2.2.2.2.2.2.1
  intro r
  induction r with
  | zero =>
    intro s hs
    have e1 : s = 2 ^ u := by omega
    subst e1
    exact BX10_could_30 _ _ _ w b (hS.1.trans g1) Q ⟨fun _ => kk, fun z => absurd (by rw [hs5]; exact nI_le (Nat.le_refl _) (by omega)) z⟩
  | succ r ih =>
    intro s hs
    refine BX10_could_30 _ _ _ w b (hS.1.trans g1) Q ⟨fun z => absurd z (by rw [hs5]; exact nI_ge (by omega) (by omega)), fun _ => ?_⟩
    have e1 : (if bI (fB b wc u e s) = 0 then smF (fB b wc u e) s else smF (fB b wc u e) s ||| nI s : Int32) = smF (fB b wc u e) (s + 1) := by
      rw [smF]
      cases fB b wc u e s <;> rfl
    rw [mk_in _ hp (by omega), e1, nI_1]
    exact ih (s + 1) (by omega)
theorem pr_could {wc wr : Wd} (h : RelE wc wr)  : PairI mX10_could mX11_could [] wc wr := by
  obtain ⟨b, hR⟩ := h
  obtain ⟨n, u, e, hF⟩ := fc_of hR
  obtain ⟨c1, c2⟩ := hh0 hF
  have g2 := hR.2.1
  refine TX10_could wc b hR.1 _ ⟨fun z => ⟨_, rfl, TX11_could wr g2 _ ⟨fun _ => ⟨_, rfl, rfl, fin_noA hR (by decide)⟩, fun y => absurd (c2.mpr (c1.mp z)) y⟩⟩, fun z => z_fitting hR.1 hF (fun w' hS => ?_)⟩
  refine l_could hR.1 hF hS ⟨_, rfl, TX11_could wr g2 _ ⟨fun y => absurd (c1.mpr (c2.mp y)) z, fun _ => z_sets g2 hF (fun w'' hE => ⟨_, rfl, hE.2.2.1.symm, fin_ok hR hS hE.same hE.k11⟩)⟩⟩ (2 ^ u) 0 (by omega)
theorem l_surely {b : Bool} {wc wr : Wd} {n u e : Nat} (g1 : wc.2.2 = RTab b) (hF : FC b wc wr n u e) {w : Wd} (hS : SameC wc w) {Q : Option Value → Wd → Prop} (kk : Q (some (.int (alF u (fB b wc u e) (2 ^ u)))) (wXX10_accept (alF u (fB b wc u e) (2 ^ u)) w)) : ∀ (r s : Nat), s + r = 2 ^ u → Go SC mX10_surely 48 [(0, .ref 0), (1, .int (nI (mkN (fB b wc u e) (2 ^ u)))), (2, .int (alF u (fB b wc u e) s)), (3, .int (nI s))] [] w Q := by
  have hp := p16 hF.2.1
  have hs5 := sets_c hS hF.2.1 hF.2.2.2.2.2.2.1
  intro r
  induction r with
  | zero =>
    intro s hs
    have e1 : s = 2 ^ u := by omega
    subst e1
    exact BX10_surely_48 _ _ _ w b (hS.1.trans g1) Q ⟨fun _ => kk, fun z => absurd (by rw [hs5]; exact nI_le (Nat.le_refl _) (by omega)) z⟩
  | succ r ih =>
    intro s hs
    refine BX10_surely_48 _ _ _ w b (hS.1.trans g1) Q ⟨fun z => absurd z (by rw [hs5]; exact nI_ge (by omega) (by omega)), fun _ => ?_⟩
    have e1 : (if bI (fB b wc u e s) = 0 then alF u (fB b wc u e) s else alF u (fB b wc u e) s &&& nI s : Int32) = alF u (fB b wc u e) (s + 1) := by
      rw [alF]
      cases fB b wc u e s <;> rfl
    rw [mk_in _ hp (by omega), e1, nI_1]
    exact ih (s + 1) (by omega)
theorem pr_surely {wc wr : Wd} (h : RelE wc wr)  : PairI mX10_surely mX11_surely [] wc wr := by
  obtain ⟨b, hR⟩ := h
  obtain ⟨n, u, e, hF⟩ := fc_of hR
  obtain ⟨c1, c2⟩ := hh0 hF
  have g2 := hR.2.1
  have hp := p16 hF.2.1
  refine TX10_surely wc b hR.1 _ ⟨fun z => ⟨_, rfl, TX11_surely wr g2 _ ⟨fun _ => ⟨_, rfl, rfl, fin_noA hR (by decide)⟩, fun y => absurd (c2.mpr (c1.mp z)) y⟩⟩, fun z => z_fitting hR.1 hF (fun w' hS => ?_)⟩
  have fin : ∀ v : Int32, v = (if cnN (fB b wc u e) (2 ^ u) = 0 then 0 else alF u (fB b wc u e) (2 ^ u)) → ClI SR mX11_surely [.ref 0] wr (fun y wr' => v = y ∧ RelE (wXX10_accept v w') wr') := fun v hv => TX11_surely wr g2 _ ⟨fun y => absurd (c1.mpr (c2.mp y)) z, fun _ => z_sets g2 hF (fun w'' hE => ⟨_, rfl, hv.trans hE.2.2.2.1.symm, fin_ok hR hS hE.same hE.k11⟩)⟩
  rw [sets_c hS hF.2.1 hF.2.2.2.2.2.2.1, mk0I _ hp]
  refine ⟨fun y => ⟨_, rfl, fin 0 (if_pos y).symm⟩, fun y => ?_⟩
  exact l_surely hR.1 hF hS ⟨_, rfl, fin (alF u (fB b wc u e) (2 ^ u)) (if_neg y).symm⟩ (2 ^ u) 0 (by omega)
theorem fd_after {P : Nat → Bool} {t : Int32} {s : Nat} (hP : P s = true) (ht : nI (cnN P s) = t) : ∀ S, s < S → S ≤ 16 → fdF P t S = nI s := by
  intro S
  induction S with
  | zero => exact fun h => absurd h (Nat.not_lt_zero s)
  | succ S ih =>
    intro h1 h2
    rw [fdF]
    by_cases c : S = s
    · subst c
      rw [hP, if_pos rfl, if_pos ht]
    · have hm : cnN P (s + 1) ≤ cnN P S := cn_mono P S (by omega)
      have hs1 : cnN P (s + 1) = cnN P s + 1 := by rw [cnN, hP, if_pos rfl]
      have hl := cnN_le P S
      have hne : ¬ nI (cnN P S) = t := fun y => by
        rw [← ht] at y
        have := (nI_eq (by omega) (by omega)).mp y
        omega
      rw [ih (by omega) (by omega), if_neg hne]
      split <;> rfl
theorem l_fitAt {b : Bool} {wc wr : Wd} {n u e : Nat} (g1 : wc.2.2 = RTab b) (hF : FC b wc wr n u e) {w : Wd} (hS : SameC wc w) {t : Int32} {Q : Option Value → Wd → Prop} (k1 : ∀ s, s < 16 → fdF (fB b wc u e) t (2 ^ u) = nI s → Q (some (.int (nI s))) (wXX10_accept (nI s) w)) (k0 : fdF (fB b wc u e) t (2 ^ u) = -1 → Q (some (.int (vXX10_refuse 1 (-1)))) (wXX10_refuse 1 (-1) w)) : ∀ (r s : Nat), s + r = 2 ^ u → fdF (fB b wc u e) t s = -1 → Go SC mX10_fitAt 35 [(0, .ref 0), (1, .int t), (2, .int (nI (mkN (fB b wc u e) (2 ^ u)))), (3, .int (nI (cnN (fB b wc u e) s))), (4, .int (nI s))] [] w Q := by
  have hp := p16 hF.2.1
  have hs5 := sets_c hS hF.2.1 hF.2.2.2.2.2.2.1
  intro r
  induction r with
  | zero =>
    intro s hs hf
    have e1 : s = 2 ^ u := by omega
    subst e1
    exact BX10_fitAt_35 _ _ _ _ w b (hS.1.trans g1) Q ⟨fun _ => k0 hf, fun z => absurd (by rw [hs5]; exact nI_le (Nat.le_refl _) (by omega)) z⟩
  | succ r ih =>
    intro s hs hf
    refine BX10_fitAt_35 _ _ _ _ w b (hS.1.trans g1) Q ⟨fun z => absurd z (by rw [hs5]; exact nI_ge (by omega) (by omega)), fun _ => ?_⟩
    rw [mk_in _ hp (by omega), nI_1, nI_1]
    refine ⟨fun z => ?_, fun z => ⟨fun z2 => ?_, fun z2 => ?_⟩⟩
    · have hb := bI_0.mp z
      have := ih (s + 1) (by omega) (by rw [fdF, hb, if_neg (by decide)]; exact hf)
      rw [cnN, hb, if_neg (by decide)] at this
      exact this
    · exact k1 s (by omega) (fd_after (bI_1.mp z) z2 (2 ^ u) (by omega) hp)
    · have hb := bI_1.mp z
      have := ih (s + 1) (by omega) (by rw [fdF, hb, if_pos rfl, if_neg z2]; exact hf)
      rw [cnN, hb, if_pos rfl] at this
      exact this
theorem pr_fitAt {wc wr : Wd} (h : RelE wc wr) (a1 : Int32)  : PairI mX10_fitAt mX11_fitAt [a1] wc wr := by
  obtain ⟨b, hR⟩ := h
  obtain ⟨n, u, e, hF⟩ := fc_of hR
  obtain ⟨c1, c2⟩ := hh0 hF
  have g2 := hR.2.1
  refine TX10_fitAt _ wc b hR.1 _ ⟨fun z => ⟨_, rfl, TX11_fitAt _ wr g2 _ ⟨fun _ => ⟨_, rfl, rfl, fin_noA hR (by decide)⟩, fun y => absurd (c2.mpr (c1.mp z)) y⟩⟩, fun z => ⟨fun z1 => z_fitting hR.1 hF (fun w' hS => ?_), fun z1 => ⟨_, rfl, TX11_fitAt _ wr g2 _ ⟨fun y => absurd (c1.mpr (c2.mp y)) z, fun _ => ⟨fun y => absurd y z1, fun _ => ⟨_, rfl, rfl, fin_noA hR (by decide)⟩⟩⟩⟩⟩⟩
  refine l_fitAt hR.1 hF hS (t := a1) (fun s hs hf => ⟨_, rfl, TX11_fitAt _ wr g2 _ ⟨fun y => absurd (c1.mpr (c2.mp y)) z, fun _ => ⟨fun _ => z_sets g2 hF (fun w'' hE => ?_), fun y => absurd z1 y⟩⟩⟩) (fun hf => ⟨_, rfl, TX11_fitAt _ wr g2 _ ⟨fun y => absurd (c1.mpr (c2.mp y)) z, fun _ => ⟨fun _ => z_sets g2 hF (fun w'' hE => ?_), fun y => absurd z1 y⟩⟩⟩) (2 ^ u) 0 (by omega) rfl
  · rw [hf]
    exact ⟨fun _ => ⟨_, rfl, rfl, fin_ok hR hS hE.same hE.k11⟩, fun y => absurd (nI_pos' (by omega)) y⟩
  · rw [hf]
    exact ⟨fun y => absurd y (by decide), fun _ => ⟨_, rfl, rfl, fin_no hR hS hE.same (by decide)⟩⟩
theorem l_judge {b : Bool} {wc wr : Wd} {n u e : Nat} (g1 : wc.2.2 = RTab b) (hF : FC b wc wr n u e) {Q : Option Value → Wd → Prop} {V : Int32} (kk : ∀ w', SameC wc w' → Q (some (.int V)) (wXX10_accept V w')) : ∀ (r i : Nat) (w : Wd), i + r = e → SameC wc w → goF (fun i => !(wB b wc 0 u i)) r i = V → Go SC mX10_judge 16 [(0, .ref 0), (1, .int (nI i))] [] w Q := by
  have he := hF.2.2.1
  intro r
  induction r with
  | zero =>
    intro i w hi hS hV
    have e1 : i = e := by omega
    subst e1
    rw [goF] at hV
    subst hV
    have e10 : wi w (hA b) 10 = nI i := (hS.2 _ 10 (hA_rel b (k := 0) (by decide))).trans hF.2.2.2.2.2.2.2.2.1
    exact BX10_judge_16 _ w b (hS.1.trans g1) Q ⟨fun _ => kk w hS, fun z => absurd (by rw [e10]; exact nI_le (Nat.le_refl i) (by omega)) z⟩
  | succ r ih =>
    intro i w hi hS hV
    have e10 : wi w (hA b) 10 = nI e := (hS.2 _ 10 (hA_rel b (k := 0) (by decide))).trans hF.2.2.2.2.2.2.2.2.1
    rw [goF] at hV
    refine BX10_judge_16 _ w b (hS.1.trans g1) Q ⟨fun z => absurd z (by rw [e10]; exact nI_ge (by omega) (by omega)), fun _ => z_wentSo g1 hF hS (by omega) (fun w1 y h1 => ⟨fun z => ?_, fun z => ?_⟩)⟩
    · rw [bI_0.mp z] at hV
      have hV2 : nI i = V := hV
      subst hV2
      exact kk w1 (hS.tr (h1.same nr55))
    · rw [bI_1.mp z, if_neg (by decide)] at hV
      rw [nI_1]
      exact ih (i + 1) w1 (by omega) (hS.tr (h1.same nr55)) hV
theorem TR.k11 {wr w' : Wd} {x : Int32 × Int32} (h : TR (wXX11_anew wr) w' x) : wi w' 0 11 = 0 := (h.2.1 0 11 (by decide)).trans (an_11 wr)
theorem pr_judge {wc wr : Wd} (h : RelE wc wr)  : PairI mX10_judge mX11_judge [] wc wr := by
  obtain ⟨b, hR⟩ := h
  obtain ⟨n, u, e, hF⟩ := fc_of hR
  obtain ⟨c1, c2⟩ := hh0 hF
  have g2 := hR.2.1
  refine TX10_judge wc b hR.1 _ ⟨fun z => ⟨_, rfl, TX11_judge wr g2 _ ⟨fun _ => ⟨_, rfl, rfl, fin_noA hR (by decide)⟩, fun y => absurd (c2.mpr (c1.mp z)) y⟩⟩, fun z => ?_⟩
  refine l_judge hR.1 hF (fun w' hS => ⟨_, rfl, TX11_judge wr g2 _ ⟨fun y => absurd (c1.mpr (c2.mp y)) z, fun _ => z_wrong g2 hF (an_same wr) (fun w'' x hT => ⟨_, rfl, rfl, fin_ok hR hS ((an_same wr).tr hT.same) hT.k11⟩)⟩⟩) e 0 wc (by omega) (SameC.rf wc) rfl
/-! of which to ask -/
theorem of_le (P : Nat → Bool) (k : Nat) : ∀ s, ofN P k s ≤ cnN P s := by
  intro s
  induction s with
  | zero => exact Nat.le_refl 0
  | succ s ih =>
    rw [ofN, cnN]
    cases P s
    · exact ih
    · rw [if_pos rfl, if_pos rfl]
      have : (bt (nI s) k).toNat ≤ 1 := by cases bt (nI s) k <;> decide
      omega
def lvN (P : Nat → Bool) (S k : Nat) : Nat := max (ofN P k S) (cnN P S - ofN P k S)
theorem lv_le (P : Nat → Bool) {S k : Nat} (hS : S ≤ 16) : lvN P S k ≤ 16 := by
  have h1 := of_le P k S
  have h2 := cnN_le P S
  unfold lvN
  omega
theorem maxI {a c : Nat} (ha : a < 2 ^ 30) (hc : c < 2 ^ 30) : vXJ9_max_7cf53 (nI a) (nI c) = nI (max a c) := by
  unfold vXJ9_max_7cf53
  by_cases h : a < c
  · rw [if_pos (nI_lt h (by omega)), show max a c = c by omega]
  · rw [if_neg (nI_nlt (by omega) (by omega)), show max a c = a by omega]
theorem l_leftBy {b : Bool} {wc wr : Wd} {n u e : Nat} (g1 : wc.2.2 = RTab b) (hF : FC b wc wr n u e) {w : Wd} (hS : SameC wc w) {k : Nat} (hk : k < 32) {Q : Option Value → Wd → Prop} (kk : Q (some (.int (nI (lvN (fB b wc u e) (2 ^ u) k)))) w) : ∀ (r s : Nat), s + r = 2 ^ u → Go SC mX2_leftBy 5 [(0, .ref (hA b)), (1, .int (nI (mkN (fB b wc u e) (2 ^ u)))), (2, .int (nI k)), (3, .int (nI (ofN (fB b wc u e) k s))), (4, .int (nI s))] [] w Q := by
  have hp := p16 hF.2.1
  have hs5 := sets_c hS hF.2.1 hF.2.2.2.2.2.2.1
  intro r
  induction r with
  | zero =>
    intro s hs
    have e1 : s = 2 ^ u := by omega
    subst e1
    have h1 := of_le (fB b wc u e) k (2 ^ u)
    have h2 := cnN_le (fB b wc u e) (2 ^ u)
    refine BX2_leftBy_5 b _ _ _ _ w b (hS.1.trans g1) Q ⟨fun _ => ?_, fun z => absurd (by rw [hs5]; exact nI_le (Nat.le_refl _) (by omega)) z⟩
    rw [pop_c _ hp, pk_sub h1, maxI (by omega) (by omega)]
    exact kk
  | succ r ih =>
    intro s hs
    refine BX2_leftBy_5 b _ _ _ _ w b (hS.1.trans g1) Q ⟨fun z => absurd z (by rw [hs5]; exact nI_ge (by omega) (by omega)), fun _ => ?_⟩
    have e1 : (if bI (fB b wc u e s) = 0 then nI (ofN (fB b wc u e) k s) else (if bI (bt (nI s) k) = 0 then nI (ofN (fB b wc u e) k s) else nI (ofN (fB b wc u e) k s) + 1 : Int32) : Int32) = nI (ofN (fB b wc u e) k (s + 1)) := by
      rw [ofN, nI_1]
      cases fB b wc u e s
      · rfl
      · cases bt (nI s) k <;> rfl
    rw [mk_in _ hp (by omega), isIn_bt _ hk, e1, nI_1]
    exact ih (s + 1) (by omega)
theorem z_leftBy {b : Bool} {wc wr : Wd} {n u e : Nat} (g1 : wc.2.2 = RTab b) (hF : FC b wc wr n u e) {w : Wd} (hS : SameC wc w) {k : Nat} (hk : k < 32) {Q : Int32 → Wd → Prop} (kk : Q (nI (lvN (fB b wc u e) (2 ^ u) k)) w) : ClI SC mX2_leftBy [.ref (hA b), .int (nI (mkN (fB b wc u e) (2 ^ u))), .int (nI k)] w (fun y w2 => w2.2.2 = RTab b ∧ Q y w2) := by
  refine TX2_leftBy b _ _ w b (hS.1.trans g1) _ ?_
  rw [← nI_0]
  exact l_leftBy g1 hF hS hk ⟨_, rfl, hS.1.trans g1, kk⟩ (2 ^ u) 0 (by omega)
def bsN (P : Nat → Bool) (S : Nat) : Nat → Option Nat
  | 0 => none
  | k + 1 => match bsN P S k with
    | none => some k
    | some j => if lvN P S j ≤ lvN P S k then some j else some k
theorem bs_s (P : Nat → Bool) (S k : Nat) : ∃ j, j ≤ k ∧ bsN P S (k + 1) = some j := by
  induction k with
  | zero => exact ⟨0, Nat.le_refl 0, rfl⟩
  | succ k ih =>
    obtain ⟨j, hj, h⟩ := ih
    rw [bsN, h]
    by_cases c : lvN P S j ≤ lvN P S (k + 1)
    · exact ⟨j, by omega, if_pos c⟩
    · exact ⟨k + 1, Nat.le_refl _, if_neg c⟩
def oB : Option Nat → Int32
  | none => -2
  | some j => nI j
def oL (P : Nat → Bool) (S : Nat) : Option Nat → Int32
  | none => 1000000
  | some j => nI (lvN P S j)
theorem bs_step (P : Nat → Bool) {S : Nat} (hS : S ≤ 16) (k : Nat) : (if oL P S (bsN P S k) ≤ nI (lvN P S k) then oB (bsN P S k) else nI k : Int32) = oB (bsN P S (k + 1)) ∧ (if oL P S (bsN P S k) ≤ nI (lvN P S k) then oL P S (bsN P S k) else nI (lvN P S k) : Int32) = oL P S (bsN P S (k + 1)) := by
  have hk := lv_le P (k := k) hS
  rw [bsN]
  cases h : bsN P S k with
  | none =>
    have : ¬ oL P S none ≤ nI (lvN P S k) := nI_ge (b := 1000000) (by omega) (by decide)
    rw [if_neg this, if_neg this]
    exact ⟨rfl, rfl⟩
  | some j =>
    have hj := lv_le P (k := j) hS
    have hiff : (oL P S (some j) ≤ nI (lvN P S k)) ↔ (lvN P S j ≤ lvN P S k) := nI_leI (by omega) (by omega)
    by_cases c : lvN P S j ≤ lvN P S k
    · rw [if_pos (hiff.mpr c), if_pos (hiff.mpr c)]
      show _ = oB (if _ then _ else _) ∧ _ = oL P S (if _ then _ else _)
      rw [if_pos c]
      exact ⟨rfl, rfl⟩
    · rw [if_neg (fun y => c (hiff.mp y)), if_neg (fun y => c (hiff.mp y))]
      show _ = oB (if _ then _ else _) ∧ _ = oL P S (if _ then _ else _)
      rw [if_neg c]
      exact ⟨rfl, rfl⟩
theorem l_asked {b : Bool} {wc wr : Wd} {n u e : Nat} (g1 : wc.2.2 = RTab b) (hF : FC b wc wr n u e) {w : Wd} (hS : SameC wc w) {Q : Option Value → Wd → Prop} (kk : Q (some (.int (oB (bsN (fB b wc u e) (2 ^ u) u)))) w) : ∀ (r k : Nat), k + r = u → Go SC mX2_bestAsked 16 [(0, .ref (hA b)), (1, .int (nI (mkN (fB b wc u e) (2 ^ u)))), (2, .int (oB (bsN (fB b wc u e) (2 ^ u) k))), (3, .int (oL (fB b wc u e) (2 ^ u) (bsN (fB b wc u e) (2 ^ u) k))), (4, .int (nI k))] [] w Q := by
  have hp := p16 hF.2.1
  have hu := hF.2.1
  have e5 : wi w (hA b) 5 = nI u := (hS.2 _ 5 (hA_rel b (k := 0) (by decide))).trans hF.2.2.2.2.2.2.1
  intro r
  induction r with
  | zero =>
    intro k hk
    have e1 : k = u := by omega
    subst e1
    exact BX2_bestAsked_16 b _ _ _ _ w b (hS.1.trans g1) Q ⟨fun _ => kk, fun z => absurd (by rw [e5]; exact nI_le (Nat.le_refl _) (by omega)) z⟩
  | succ r ih =>
    intro k hk
    refine BX2_bestAsked_16 b _ _ _ _ w b (hS.1.trans g1) Q ⟨fun z => absurd z (by rw [e5]; exact nI_ge (by omega) (by omega)), fun _ => z_leftBy g1 hF hS (by omega) ?_⟩
    rw [(bs_step _ hp k).1, (bs_step _ hp k).2, nI_1]
    exact ih (k + 1) (by omega)
def askV (P : Nat → Bool) (u : Nat) : Option Nat := if cnN P (2 ^ u) = 0 then none else bsN P (2 ^ u) u
theorem z_asked {b : Bool} {wc wr : Wd} {n u e : Nat} (g1 : wc.2.2 = RTab b) (hF : FC b wc wr n u e) {w : Wd} (hS : SameC wc w) {Q : Int32 → Wd → Prop} (kk : Q (oB (askV (fB b wc u e) u)) w) : ClI SC mX2_bestAsked [.ref (hA b), .int (nI (mkN (fB b wc u e) (2 ^ u)))] w (fun y w2 => w2.2.2 = RTab b ∧ Q y w2) := by
  have hp := p16 hF.2.1
  unfold askV at kk
  refine TX2_bestAsked b _ w b (hS.1.trans g1) _ ?_
  rw [mk0I _ hp]
  refine ⟨fun z => ⟨_, rfl, hS.1.trans g1, ?_⟩, fun z => ?_⟩
  · rw [if_pos z] at kk
    exact kk
  · rw [if_neg z] at kk
    exact l_asked g1 hF hS ⟨_, rfl, hS.1.trans g1, kk⟩ u 0 (by omega)
theorem z_leaves {P : Nat → Bool} {u k : Nat} (hu : u ≤ 4) {w0 w : Wd} (hR : w.2.2 = RM) (hE : SE P u w0 w) (hk : k < u) {Q : Int32 → Wd → Prop} (kk : Q (nI (lvN P (2 ^ u) k)) w) : ClI SR mX11_leavesOf [.ref 0, .int (nI k)] w (fun y w2 => w2.2.2 = RM ∧ Q y w2) := by
  have hp := p16 hu
  have h1 := of_le P k (2 ^ u)
  have h2 := cnN_le P (2 ^ u)
  have hin : vp_in (nI k) 4 := nI_in (by omega) (by decide)
  refine TX11_leavesOf _ w hR _ ⟨hin, hin, ?_⟩
  rw [nI_clamp (by omega), hE.2.2.2.2 k hk, hE.2.1, pk_sub h1]
  unfold lvN at kk
  refine ⟨fun z => ⟨hin, _, rfl, hR, ?_⟩, fun z => ⟨hin, _, rfl, hR, ?_⟩⟩
  · have := (nI_leI (by omega) (by omega)).mp z
    rw [show max (ofN P k (2 ^ u)) (cnN P (2 ^ u) - ofN P k (2 ^ u)) = cnN P (2 ^ u) - ofN P k (2 ^ u) by omega] at kk
    exact kk
  · have : ¬ ofN P k (2 ^ u) ≤ cnN P (2 ^ u) - ofN P k (2 ^ u) := fun y => z (nI_le y (by omega))
    rw [show max (ofN P k (2 ^ u)) (cnN P (2 ^ u) - ofN P k (2 ^ u)) = ofN P k (2 ^ u) by omega] at kk
    exact kk
theorem l_askOf {P : Nat → Bool} {u : Nat} (hu : u ≤ 4) {w0 w : Wd} (hR : w.2.2 = RM) (hE : SE P u w0 w) (h32 : wi w 3 2 = nI u) {Q : Option Value → Wd → Prop} (kk : Q (some (.int (oB (askV P u)))) w) : ∀ (r k : Nat), k + r = u → (k = 0 ∨ cnN P (2 ^ u) ≠ 0) → Go SR mX11_askOf 11 [(0, .ref 0), (1, .int (oB (bsN P (2 ^ u) k))), (2, .int (nI k))] [] w Q := by
  have hp := p16 hu
  have hcn := cnN_le P (2 ^ u)
  intro r
  induction r with
  | zero =>
    intro k hk h0
    have e1 : k = u := by omega
    subst e1
    refine BX11_askOf_11 _ _ w hR Q ⟨fun _ => ?_, fun z => absurd (by rw [h32]; exact nI_le (Nat.le_refl _) (by omega)) z⟩
    unfold askV at kk
    by_cases c : cnN P (2 ^ k) = 0
    · rw [if_pos c] at kk
      have : k = 0 := h0.resolve_right (fun y => y c)
      subst this
      exact kk
    · rw [if_neg c] at kk
      exact kk
  | succ r ih =>
    intro k hk h0
    refine BX11_askOf_11 _ _ w hR Q ⟨fun z => absurd z (by rw [h32]; exact nI_ge (by omega) (by omega)), fun _ => ⟨fun z => ?_, fun z => ?_⟩⟩
    · have hc : cnN P (2 ^ u) = 0 := by
        by_cases c : cnN P (2 ^ u) = 0
        · exact c
        · rw [hE.2.1] at z
          exact absurd z (nI_nle (by omega) (by omega))
      have hk0 : k = 0 := h0.resolve_right (fun y => y hc)
      subst hk0
      unfold askV at kk
      rw [if_pos hc] at kk
      exact kk
    · have hc : cnN P (2 ^ u) ≠ 0 := fun y => z (by rw [hE.2.1, y]; decide)
      have next := ih (k + 1) (by omega) (Or.inr hc)
      cases k with
      | zero =>
        refine ⟨fun _ => ?_, fun y => absurd (show (-2 : Int32) < 0 by decide) y⟩
        rw [nI_1]
        exact next
      | succ k' =>
        obtain ⟨j, hj, hb⟩ := bs_s P (2 ^ u) k'
        have hjl := lv_le P (k := j) hp
        have hkl := lv_le P (k := k' + 1) hp
        rw [hb]
        refine ⟨fun y => absurd y (nI_pos (by omega)), fun _ => z_leaves hu hR hE (by omega) (z_leaves hu hR hE (by omega) ?_)⟩
        have e2 : (if nI (lvN P (2 ^ u) j) ≤ nI (lvN P (2 ^ u) (k' + 1)) then oB (some j) else nI (k' + 1) : Int32) = oB (bsN P (2 ^ u) (k' + 1 + 1)) := by
          have := (bs_step P hp (k' + 1)).1
          rw [hb] at this
          exact this
        rw [nI_1, e2]
        exact next
theorem z_askOf {b : Bool} {wc wr : Wd} {n u e : Nat} (g2 : wr.2.2 = RM) (hF : FC b wc wr n u e) {Q : Int32 → Wd → Prop} (kk : ∀ w', SE (fB b wc u e) u (wXX11_anew wr) w' → Q (oB (askV (fB b wc u e) u)) w') : ClI SR mX11_askOf [.ref 0] (wXX11_anew wr) (fun y w2 => w2.2.2 = RM ∧ Q y w2) := by
  refine TX11_askOf _ (an_R g2) _ (z_sets g2 hF fun w' hE => ?_)
  have hR' : w'.2.2 = RM := hE.1.1.trans (an_R g2)
  rw [← nI_0]
  exact l_askOf hF.2.1 hR' hE ((hE.same.2 3 2 (Or.inr (by decide))).trans hF.2.2.2.2.2.2.2.1) ⟨_, rfl, hR', kk w' hE⟩ u 0 (by omega) (Or.inl rfl)
theorem pr_ask {wc wr : Wd} (h : RelE wc wr)  : PairI mX10_ask mX11_ask [] wc wr := by
  obtain ⟨b, hR⟩ := h
  obtain ⟨n, u, e, hF⟩ := fc_of hR
  obtain ⟨c1, c2⟩ := hh0 hF
  have g2 := hR.2.1
  refine TX10_ask wc b hR.1 _ ⟨fun z => ⟨_, rfl, TX11_ask wr g2 _ ⟨fun _ => ⟨_, rfl, rfl, fin_noA hR (by decide)⟩, fun y => absurd (c2.mpr (c1.mp z)) y⟩⟩, fun z => z_fitting hR.1 hF (fun w' hS => z_asked hR.1 hF hS ⟨_, rfl, TX11_ask wr g2 _ ⟨fun y => absurd (c1.mpr (c2.mp y)) z, fun _ => z_askOf g2 hF (fun w'' hE => ⟨_, rfl, rfl, fin_ok hR hS hE.same hE.k11⟩)⟩⟩)⟩
theorem askV_lt {P : Nat → Bool} {u j : Nat} (h : askV P u = some j) : j < u := by
  unfold askV at h
  split at h
  · exact absurd h (by intro y; cases y)
  · cases u with
    | zero => cases h
    | succ k =>
      obtain ⟨i, hi, hb⟩ := bs_s P (2 ^ (k + 1)) k
      rw [hb] at h
      cases h
      omega
theorem nI_ne2 {j : Nat} (hj : j < 2 ^ 31) : ¬ nI j = -2 := fun y => by
  have := congrArg Int32.toInt y
  rw [nI_toInt hj, show (-2 : Int32).toInt = -2 by decide] at this
  omega
theorem pr_askLeaves {wc wr : Wd} (h : RelE wc wr)  : PairI mX10_askLeaves mX11_askLeaves [] wc wr := by
  obtain ⟨b, hR⟩ := h
  obtain ⟨n, u, e, hF⟩ := fc_of hR
  obtain ⟨c1, c2⟩ := hh0 hF
  have g2 := hR.2.1
  have hu := hF.2.1
  refine TX10_askLeaves wc b hR.1 _ ⟨fun z => ⟨_, rfl, TX11_askLeaves wr g2 _ ⟨fun _ => ⟨_, rfl, rfl, fin_noA hR (by decide)⟩, fun y => absurd (c2.mpr (c1.mp z)) y⟩⟩, fun z => z_fitting hR.1 hF (fun w' hS => z_asked hR.1 hF hS ?_)⟩
  have fin : ∀ K : Int32 → Wd → Prop, (∀ w'', SE (fB b wc u e) u (wXX11_anew wr) w'' → ((0 ≤ oB (askV (fB b wc u e) u) → ClI SR mX11_leavesOf [.ref 0, .int (oB (askV (fB b wc u e) u))] w'' (fun x4 w3 => w3.2.2 = RM ∧ K x4 w3)) ∧ (¬ 0 ≤ oB (askV (fB b wc u e) u) → K (-2) w''))) → ClI SR mX11_askLeaves [.ref 0] wr K := fun K hK => TX11_askLeaves wr g2 _ ⟨fun y => absurd (c1.mpr (c2.mp y)) z, fun _ => z_askOf g2 hF (fun w'' hE => ⟨fun y => cl_mono (fun r w3 hq => by
    obtain ⟨x, hx, h3, h4⟩ := hq
    exact ⟨x, hx, h3, x, rfl, h4⟩) ((hK w'' hE).1 y), fun y => ⟨_, rfl, (hK w'' hE).2 y⟩⟩)⟩
  cases hv : askV (fB b wc u e) u with
  | none =>
    rw [hv] at fin
    refine ⟨fun _ => ⟨_, rfl, fin _ fun w'' hE => ⟨fun y => absurd y (by decide), fun _ => ⟨rfl, fin_ok hR hS hE.same hE.k11⟩⟩⟩, fun y => absurd rfl y⟩
  | some j =>
    rw [hv] at fin
    have hj := askV_lt hv
    refine ⟨fun y => absurd y (nI_ne2 (by omega)), fun _ => z_leftBy hR.1 hF hS (by omega) ⟨_, rfl, fin _ fun w'' hE => ⟨fun _ => z_leaves hu (hE.1.1.trans (an_R g2)) hE hj ⟨rfl, fin_ok hR hS hE.same hE.k11⟩, fun y => absurd (nI_pos' (by omega)) y⟩⟩⟩
