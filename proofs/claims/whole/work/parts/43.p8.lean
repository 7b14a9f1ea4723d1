/-! bows at rest -/
def rX (i : Int32) : Int32 := if i < 2 then 0 else 1
def rX' (i : Int32) : Int32 := if i ≤ 1 then 0 else 1
def rY (i : Int32) : Int32 := if i % 2 = 1 then 1 else 0
def iR (a x y : Int32) : Int32 := if vXX10_pay a x y < vXX10_pay a (if x = 0 then 1 else 0 : Int32) y then 0 else (if y = 0 then (if vXX10_pay a y x < vXX10_pay a 1 x then 0 else 1 : Int32) else (if vXX10_pay a y x < vXX10_pay a 0 x then 0 else 1 : Int32) : Int32)
theorem rest_fact : ∀ k, k < 10 → ∀ j, j < 4 → (iR (nI k) (rX (nI j)) (rY (nI j)) = 0 ∧ (vXX11_bowsOf (nI k) (rX' (nI j)) (rY (nI j)) < vXX11_bowsOf (nI k) (if rX' (nI j) = (0 : Int32) then 1 else 0 : Int32) (rY (nI j)) ∨ ¬ vXX11_bowsOf (nI k) (if rY (nI j) = (0 : Int32) then 1 else 0 : Int32) (rX' (nI j)) ≤ vXX11_bowsOf (nI k) (rY (nI j)) (rX' (nI j)))) ∨
    (¬ iR (nI k) (rX (nI j)) (rY (nI j)) = 0 ∧ ¬ vXX11_bowsOf (nI k) (rX' (nI j)) (rY (nI j)) < vXX11_bowsOf (nI k) (if rX' (nI j) = (0 : Int32) then 1 else 0 : Int32) (rY (nI j)) ∧ vXX11_bowsOf (nI k) (if rY (nI j) = (0 : Int32) then 1 else 0 : Int32) (rX' (nI j)) ≤ vXX11_bowsOf (nI k) (rY (nI j)) (rX' (nI j))) := by decide +kernel
def cntF (a : Int32) : Nat → Nat → Int32 → Int32
  | 0, _, c => c
  | r + 1, j, c => cntF a r (j + 1) (if iR a (rX (nI j)) (rY (nI j)) = 0 then c else c + 1)
def fstF (a : Int32) : Nat → Nat → Int32
  | 0, _ => -2
  | r + 1, j => if iR a (rX (nI j)) (rY (nI j)) = 0 then fstF a r (j + 1) else nI j / 2 * 10 + nI j % 2
theorem l_restsC {a l2 : Int32} {b : Bool} {w : Wd} (hR : w.2.2 = RTab b) {Q : Option Value → Wd → Prop} : ∀ (r j : Nat) (c : Int32), j + r = 4 → Q (some (.int (cntF a r j c))) (wXX10_accept (cntF a r j c) w) → Go SC mX10_rests 25 [(0, .ref 0), (1, .int a), (2, .int l2), (3, .int c), (4, .int (nI j))] [] w Q := by
  intro r
  induction r with
  | zero =>
    intro j c hj hk
    have : j = 4 := by omega
    subst this
    exact BX10_rests_25 _ _ _ _ w b hR Q ⟨fun _ => hk, fun z => absurd (by decide) z⟩
  | succ r ih =>
    intro j c hj hk
    refine BX10_rests_25 _ _ _ _ w b hR Q ⟨fun z => absurd z (nI_ge (a := j) (b := 4) (by omega) (by decide)), fun _ => TX10_isRest _ _ _ w b hR _ ⟨_, rfl, hR, ?_⟩⟩
    rw [nI_1]
    exact ih (j + 1) _ (by omega) hk
theorem l_restC {a l2 : Int32} {b : Bool} {w : Wd} (hR : w.2.2 = RTab b) {Q : Option Value → Wd → Prop} : ∀ (r j : Nat), j + r = 4 → Q (some (.int (fstF a r j))) (wXX10_accept (fstF a r j) w) → Go SC mX10_rest 22 [(0, .ref 0), (1, .int a), (2, .int l2), (3, .int (nI j))] [] w Q := by
  intro r
  induction r with
  | zero =>
    intro j hj hk
    have : j = 4 := by omega
    subst this
    exact BX10_rest_22 _ _ _ w b hR Q ⟨fun _ => hk, fun z => absurd (by decide) z⟩
  | succ r ih =>
    intro j hj hk
    refine BX10_rest_22 _ _ _ w b hR Q ⟨fun z => absurd z (nI_ge (a := j) (b := 4) (by omega) (by decide)), fun _ => TX10_isRest _ _ _ w b hR _ ⟨_, rfl, hR, fun z => ?_, fun z => ?_⟩⟩
    · rw [nI_1]
      rw [fstF, if_pos (show iR a (rX (nI j)) (rY (nI j)) = 0 from z)] at hk
      exact ih (j + 1) (by omega) hk
    · rw [fstF, if_neg (show ¬ iR a (rX (nI j)) (rY (nI j)) = 0 from z)] at hk
      exact hk
theorem l_seek {k : Nat} (hk : k < 10) {wr : Wd} (hR : wr.2.2 = RM) {Q : Option Value → Wd → Prop} {V W : Int32} (kk : ∀ w', SameR wr w' → wi w' 0 11 = 0 → wi w' 0 45 = V → Q (some (.int W)) w') : ∀ (r j c : Nat) (w : Wd), j + r = 4 → SameR wr w → wi w 0 11 = 0 → c ≤ j → (c = 0 → wi w 0 45 = -2) → V = (if c = 0 then fstF (nI k) r j else wi w 0 45) → W = cntF (nI k) r j (nI c) → Go SR mX11_seekRests 10 [(0, .ref 0), (1, .int (nI k)), (2, .int (nI c)), (3, .int (nI j))] [] w Q := by
  intro r
  induction r with
  | zero =>
    intro j c w hj hS h11 hcj h45 hV hW
    have : j = 4 := by omega
    subst this
    refine BX11_seekRests_10 _ _ _ w (hS.1.trans hR) Q ⟨fun _ => ?_, fun z => absurd (by decide) z⟩
    rw [cntF] at hW
    subst hW
    refine kk w hS h11 ?_
    rw [hV]
    by_cases c0 : c = 0
    · rw [if_pos c0, fstF, h45 c0]
    · rw [if_neg c0]
  | succ r ih =>
    intro j c w hj hS h11 hcj h45 hV hW
    refine BX11_seekRests_10 _ _ _ w (hS.1.trans hR) Q ⟨fun z => absurd z (nI_ge (a := j) (b := 4) (by omega) (by decide)), fun _ => ?_⟩
    rw [cntF] at hW
    rw [nI_1, nI_1]
    rcases rest_fact k hk j (by omega) with ⟨h0, h1⟩ | ⟨h0, h1, h2⟩
    · rw [if_pos h0] at hW
      have hV' : V = if c = 0 then fstF (nI k) r (j + 1) else wi w 0 45 := by
        rw [hV, fstF, if_pos h0]
      have key := ih (j + 1) c w (by omega) hS h11 (by omega) h45 hV' hW
      refine ⟨fun _ => key, fun z => ⟨fun z2 => ?_, fun _ => key⟩⟩
      rcases h1 with h1 | h1
      · exact absurd h1 z
      · exact absurd z2 h1
    · rw [if_neg h0, nI_1] at hW
      refine ⟨fun z => absurd z h1, fun _ => ⟨fun _ => ⟨fun z => ?_, fun z => ?_⟩, fun z => absurd h2 z⟩⟩
      · have c0 : c = 0 := by
          by_cases c0 : c = 0
          · exact c0
          · exact absurd z (nI_ne0 (by omega) (by omega))
        refine ih (j + 1) (c + 1) _ (by omega) (hS.si (nrR (by decide))) ((wi_ne (Or.inr (by decide))).trans h11) (by omega) (fun h => absurd h (Nat.succ_ne_zero c)) ?_ hW
        rw [if_neg (Nat.succ_ne_zero c), wi_self, hV, if_pos c0, fstF, if_neg h0, Int32.mul_comm]
      · have c0 : c ≠ 0 := fun h => z (by rw [h]; exact nI_0)
        refine ih (j + 1) (c + 1) w (by omega) hS h11 (by omega) (fun h => absurd h (Nat.succ_ne_zero c)) ?_ hW
        rw [if_neg (Nat.succ_ne_zero c), hV, if_neg c0]
theorem why0 {x a : Int32} {m : Nat} (hm : m < 2 ^ 30) (h : vXX11_why x (vXX11_in a 0 (nI m)) = 0) : ∃ k : Nat, k ≤ m ∧ a = nI k := by
  rcases row_ask hm a with h1 | ⟨h1, -⟩
  · exact h1
  · rw [h1] at h
    unfold vXX11_why at h
    split at h
    · exact absurd h (by decide)
    · exact absurd h (by decide)
theorem s_seek {k : Nat} (hk : k < 10) {wr : Wd} (hR : wr.2.2 = RM) {K : Int32 → Wd → Prop} (kk : ∀ w', SameR wr w' → wi w' 0 11 = 0 → wi w' 0 45 = fstF (nI k) 4 0 → K (cntF (nI k) 4 0 0) w') : ClI SR mX11_seekRests [.ref 0, .int (nI k)] (wXX11_anew wr) (fun x w1 => w1.2.2 = RM ∧ K x w1) := by
  refine TX11_seekRests _ _ (an_R hR) _ ?_
  exact l_seek hk hR (V := fstF (nI k) 4 0) (W := cntF (nI k) 4 0 (nI 0)) (fun w' e1 e2 e3 => ⟨_, rfl, e1.1.trans hR, kk w' e1 e2 e3⟩) 4 0 0 _ (by omega) ((an_same wr).si (nrR (by decide))) ((wi_ne (Or.inr (by decide))).trans (an_11 wr)) (Nat.le_refl 0) (fun _ => wi_self _ _ _ _) (by rw [if_pos rfl]) rfl
theorem pr_rests {wc wr : Wd} (h : RelE wc wr) (a1 : Int32)  : PairI mX10_rests mX11_rests [a1] wc wr := by
  obtain ⟨b, hR⟩ := h
  refine TX10_rests _ wc b hR.1 _ ?_
  rw [numT hR]
  refine ⟨fun q => ?_, fun q => ⟨_, rfl, TX11_rests _ wr hR.2.1 _ ⟨fun z => absurd z q, fun _ => ⟨_, rfl, rfl, fin_noA hR (why4 _ _)⟩⟩⟩⟩
  obtain ⟨k, hk, rfl⟩ := why0 (m := 9) (by decide) q
  refine l_restsC hR.1 4 0 0 (by omega) ⟨_, rfl, TX11_rests _ wr hR.2.1 _ ⟨fun _ => s_seek (by omega) hR.2.1 (fun w' e1 e2 e3 => ⟨_, rfl, rfl, fin_ok hR (SameC.rf _) e1 e2⟩), fun z => absurd q z⟩⟩
theorem pr_rest {wc wr : Wd} (h : RelE wc wr) (a1 : Int32)  : PairI mX10_rest mX11_rest [a1] wc wr := by
  obtain ⟨b, hR⟩ := h
  refine TX10_rest _ wc b hR.1 _ ?_
  rw [numT hR]
  refine ⟨fun q => ?_, fun q => ⟨_, rfl, TX11_rest _ wr hR.2.1 _ ⟨fun z => absurd z q, fun _ => ⟨_, rfl, rfl, fin_noA hR (why4 _ _)⟩⟩⟩⟩
  obtain ⟨k, hk, rfl⟩ := why0 (m := 9) (by decide) q
  refine l_restC hR.1 4 0 (by omega) ⟨_, rfl, TX11_rest _ wr hR.2.1 _ ⟨fun _ => s_seek (by omega) hR.2.1 (fun w' e1 e2 e3 => ⟨_, rfl, e3.symm, fin_ok hR (SameC.rf _) e1 e2⟩), fun z => absurd q z⟩⟩
