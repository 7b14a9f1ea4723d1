/-! UNTIE: its calls from a fraction on, how many they are at most -/
def uf (x : Int32 × Int32) : Int32 := if 0 ≤ x.1 then 2 else 0
def ut (x : Int32 × Int32) : Int32 × Int32 := fo (uf x) x
def uts (x : Int32 × Int32) : Nat → Int32 × Int32
  | 0 => x
  | j + 1 => ut (uts x j)
theorem uts_in (x : Int32 × Int32) : ∀ j, uts x (j + 1) = uts (ut x) j := by
  intro j
  induction j with
  | zero => rfl
  | succ j ih => rw [uts, ih, uts]
def Ends (n : Nat) (x : Int32 × Int32) : Prop := (∀ j, j < n → (uts x j).1 ≠ 0) ∧ (uts x n).1 = 0
theorem ends_0 {x : Int32 × Int32} (h : x.1 = 0) : Ends 0 x := ⟨fun j hj => absurd hj (Nat.not_lt_zero j), h⟩
theorem ends_s {n : Nat} {x : Int32 × Int32} (h : x.1 ≠ 0) (h2 : Ends n (ut x)) : Ends (n + 1) x := by
  refine ⟨fun j hj => ?_, by rw [uts_in]; exact h2.2⟩
  match j with
  | 0 => exact h
  | j + 1 =>
    rw [uts_in]
    exact h2.1 j (by omega)
theorem uf_fig (x : Int32 × Int32) : Fig (uf x) := by
  unfold uf
  split
  · exact Or.inr (Or.inr rfl)
  · exact Or.inl rfl
theorem ut_neg {a q : Nat} (ha : 0 < a) (ha2 : a < 2 ^ 28) (hq : q < 2 ^ 28) : ut (-(nI a), nI q) = (nI q - nI a, nI q) ∧ (-(nI a) : Int32) ≠ 0 := by
  have ta : (nI a).toInt = (a : Int) := nI_toInt (by omega)
  have tn : (-(nI a)).toInt = -(a : Int) := by rw [i_neg (A := 300000000) (by omega) (by decide), ta]
  have h0 : ¬ (0 : Int32) ≤ -(nI a) := by
    rw [Int32.le_iff_toInt_le, tn, t0i]
    omega
  refine ⟨?_, fun z => ?_⟩
  · unfold ut uf
    rw [if_neg h0]
    show (-(nI a) + nI q, nI q) = _
    rw [Int32.add_comm, Int32.add_neg_eq_sub]
  · rw [z] at tn
    rw [t0i] at tn
    omega
theorem ut_pos {p q : Nat} (hp : 0 < p) (hp2 : p < 2 ^ 31) : ut (nI p, nI q) = (-(nI q), nI p) ∧ nI p ≠ 0 := by
  have h0 : nI p ≠ 0 := nI_ne0 hp hp2
  refine ⟨?_, h0⟩
  unfold ut uf
  rw [if_pos (nI_pos' hp2), fo2, if_neg h0, if_neg (nI_nle hp hp2)]
  have : vXX11_away (nI p) = nI p := if_pos (nI_pos' hp2)
  rw [this]
theorem nsub_neg {a q : Nat} (h : q ≤ a) : nI q - nI a = -(nI (a - q)) := by
  rw [← pk_sub h, Int32.neg_sub]
theorem tw_ends {q : Nat} (hq : 0 < q) (hq2 : q < 2 ^ 27) : ∀ a : Nat, 0 < a → a < 2 ^ 28 → ∃ k p : Nat, k ≤ (a - 1) / q + 1 ∧ p < q ∧ ∀ n, Ends n (nI p, nI q) → Ends (k + n) (-(nI a), nI q) := by
  intro a
  induction a using Nat.strongRecOn with
  | _ a ih =>
    intro ha ha2
    obtain ⟨u1, u2⟩ := ut_neg ha ha2 (show q < 2 ^ 28 by omega)
    by_cases c : a ≤ q
    · refine ⟨1, q - a, Nat.le_add_left 1 _, by omega, fun n hn => ?_⟩
      rw [Nat.add_comm]
      refine ends_s u2 ?_
      rw [u1, pk_sub c]
      exact hn
    · obtain ⟨k, p, h1, h2, h3⟩ := ih (a - q) (by omega) (by omega) (by omega)
      refine ⟨k + 1, p, ?_, h2, fun n hn => ?_⟩
      · have e : a - 1 = (a - q - 1) + q := by omega
        rw [e, Nat.add_div_right _ hq]
        omega
      · rw [show k + 1 + n = (k + n) + 1 by omega]
        refine ends_s u2 ?_
        rw [u1, nsub_neg (by omega)]
        exact h3 n hn
theorem dv_le {p m : Nat} (hp : 1 ≤ p) (h : p ≤ m) : m / p ≤ m - p + 1 := by
  obtain ⟨r, rfl⟩ : ∃ r, m = p + r := ⟨m - p, by omega⟩
  rw [Nat.add_comm p r, Nat.add_div_right _ (by omega)]
  have := Nat.div_le_self r p
  omega
theorem ends_q : ∀ q : Nat, 0 < q → q < 2 ^ 27 → ∀ p, p < q → ∃ n, n + 3 ≤ 3 * q ∧ Ends n (nI p, nI q) := by
  intro q
  induction q using Nat.strongRecOn with
  | _ q ih =>
    intro hq hq2 p hp
    by_cases c : p = 0
    · subst c
      exact ⟨0, by omega, ends_0 rfl⟩
    · obtain ⟨k, p', k1, k2, k3⟩ := tw_ends (q := p) (by omega) (by omega) q hq (by omega)
      obtain ⟨n, n1, n2⟩ := ih p hp (by omega) (by omega) p' k2
      obtain ⟨u1, u2⟩ := ut_pos (q := q) (p := p) (by omega) (by omega)
      refine ⟨k + n + 1, ?_, ends_s u2 (by rw [u1]; exact k3 n n2)⟩
      have := dv_le (p := p) (m := q - 1) (by omega) (by omega)
      omega
theorem neg_of {o : Int32} (h : o.toInt < 0) (h2 : -9999 ≤ o.toInt) : o = -(nI o.toInt.natAbs) := by
  refine Int32.toInt_inj.mp ?_
  have ta : (nI o.toInt.natAbs).toInt = (o.toInt.natAbs : Int) := nI_toInt (by omega)
  rw [i_neg (A := 9999) (by omega) (by decide), ta]
  omega
/-- any fraction is untied by at most 40000 calls -/
theorem ends_fr {o u : Int32} (h : Frac o u) : ∃ n, n ≤ 40000 ∧ Ends n (o, u) := by
  obtain ⟨h1, h2, h3, h4, h5, h6⟩ := h
  by_cases c : o.toInt = 0
  · exact ⟨0, by decide, ends_0 (tz.mpr c)⟩
  · have eu := nn_nat h3
    by_cases c2 : o.toInt < 0
    · have hu : 0 < u.toInt.toNat := by
        by_cases z : u = 0
        · have := h6 z
          rw [this, t1i] at c2
          omega
        · have : u.toInt ≠ 0 := fun y => z (tz.mpr y)
          omega
      obtain ⟨k, p, k1, k2, k3⟩ := tw_ends hu (by omega) o.toInt.natAbs (by omega) (by omega)
      obtain ⟨n, n1, n2⟩ := ends_q _ hu (by omega) p k2
      refine ⟨k + n, ?_, ?_⟩
      · have := Nat.div_le_self (o.toInt.natAbs - 1) u.toInt.toNat
        omega
      · rw [neg_of c2 h1, eu]
        exact k3 n n2
    · have eo := nn_nat (x := o) (by omega)
      obtain ⟨u1, u2⟩ := ut_pos (p := o.toInt.toNat) (q := u.toInt.toNat) (by omega) (by omega)
      by_cases z : u.toInt.toNat = 0
      · refine ⟨1, by decide, ?_⟩
        rw [eo, eu]
        refine ends_s u2 ?_
        rw [u1, z]
        exact ends_0 (show (-(nI 0) : Int32) = 0 by decide)
      · obtain ⟨k, p, k1, k2, k3⟩ := tw_ends (q := o.toInt.toNat) (by omega) (by omega) u.toInt.toNat (by omega) (by omega)
        obtain ⟨n, n1, n2⟩ := ends_q o.toInt.toNat (by omega) (by omega) p k2
        refine ⟨k + n + 1, ?_, ?_⟩
        · have := Nat.div_le_self (u.toInt.toNat - 1) o.toInt.toNat
          omega
        · rw [eo, eu]
          refine ends_s u2 ?_
          rw [u1]
          exact k3 n n2
theorem ut_fr {x : Int32 × Int32} (h : Frac x.1 x.2) : Frac (ut x).1 (ut x).2 := by
  obtain ⟨-, -, q3, -, q5, q6⟩ := fo_fr (A := 9999) (by decide) (by decide) (uf_fig x) h
  obtain ⟨h1, h2, h3, h4, h5, h6⟩ := h
  refine ⟨?_, ?_, q3, ?_, q5, q6⟩ <;> unfold ut uf
  · by_cases c : 0 ≤ x.1
    · rw [if_pos c, fo2]
      by_cases c1 : x.1 = 0
      · rw [if_pos c1]
        show (-9999 : Int) ≤ (1 : Int32).toInt
        decide
      · rw [if_neg c1, if_neg (fun z => c1 (Int32.le_antisymm z c)), i_neg (A := 9999) ⟨by omega, h4⟩ (by decide)]
        omega
    · rw [if_neg c]
      show _ ≤ (x.1 + x.2).toInt
      rw [i_add (A := 9999) ⟨h1, h2⟩ ⟨by omega, h4⟩ (by decide)]
      omega
  · by_cases c : 0 ≤ x.1
    · rw [if_pos c, fo2]
      by_cases c1 : x.1 = 0
      · rw [if_pos c1]
        show (1 : Int32).toInt ≤ (9999 : Int)
        decide
      · rw [if_neg c1, if_neg (fun z => c1 (Int32.le_antisymm z c)), i_neg (A := 9999) ⟨by omega, h4⟩ (by decide)]
        omega
    · rw [if_neg c]
      show (x.1 + x.2).toInt ≤ _
      rw [Int32.le_iff_toInt_le, t0i] at c
      rw [i_add (A := 9999) ⟨h1, h2⟩ ⟨by omega, h4⟩ (by decide)]
      omega
  · by_cases c : 0 ≤ x.1
    · rw [if_pos c, fo2]
      show (vXX11_away x.1).toInt ≤ _
      rw [i_away (A := 9999) ⟨h1, h2⟩ (by decide)]
      omega
    · rw [if_neg c]
      exact h4
theorem uts_fr {x : Int32 × Int32} (h : Frac x.1 x.2) : ∀ j, Frac (uts x j).1 (uts x j).2 := by
  intro j
  induction j with
  | zero => exact h
  | succ j ih => exact ut_fr ih
def tnF (x : Int32 × Int32) : Nat → Int32
  | 0 => 0
  | j + 1 => if uf (uts x j) = 2 then tnF x j + 1 else tnF x j
def wdF (x : Int32 × Int32) : Nat → Int32
  | 0 => x.2
  | j + 1 => if wdF x j < (uts x (j + 1)).2 then (uts x (j + 1)).2 else wdF x j
def uaF (x : Int32 × Int32) (t : Int32) : Nat → Int32
  | 0 => -1
  | j + 1 => if nI j = t then uf (uts x j) else uaF x t j
/-! the class's loops -/
theorem iz {x : Int32} : (if x = 0 then 1 else 0 : Int32) = 0 ↔ x ≠ 0 := by
  by_cases c : x = 0
  · rw [if_pos c]
    exact ⟨fun h => absurd h (by decide), fun h => absurd c h⟩
  · rw [if_neg c]
    exact ⟨fun _ => c, fun _ => rfl⟩
theorem tw_un {w w' : Wd} {x : Int32 × Int32} (h : TW 55 w w' x) : vXX7_untying 55 w' = uf x := by
  unfold vXX7_untying uf
  rw [h.2.2.1]
theorem tw_iu {w w' : Wd} {x : Int32 × Int32} (h : TW 55 w w' x) : vXX7_isUntied 55 w' = 0 ↔ x.1 ≠ 0 := by
  unfold vXX7_isUntied
  rw [h.2.2.1]
  exact iz
theorem TW.copy {w : Wd} {t : Nat} {x : Int32 × Int32} (h1 : wi w t 0 = x.1) (h2 : wi w t 1 = x.2) : TW 55 w (wXX7_copy 55 t w) x := by
  have := TW.put0 (a := 55) w (wi w t 0) (wi w t 1)
  rw [h1, h2] at this
  unfold wXX7_copy
  rw [h1, h2]
  exact this
theorem l_untieBy {b : Bool} {d : Nat} (hd : d < 5) {w0 : Wd} (hR : w0.2.2 = RTab b) {x : Int32 × Int32} {N c : Nat} (hN : Ends N x) (hN4 : N ≤ 40000) (hc : c < 2 ^ 31) {Q : Option Value → Wd → Prop} (kk : ∀ w', TW 55 w0 w' (uts x (min N c)) → Q (some (.int (nI (min N c)))) w') : ∀ (r j : Nat) (w : Wd), j + r = min N c → TW 55 w0 w (uts x j) → Go SC mX10_untieBy 13 [(0, .ref 0), (1, .ref (dA (hA b) d)), (2, .int (nI c)), (3, .int (nI j))] [] w Q := by
  intro r
  induction r with
  | zero =>
    intro j w hj hT
    have e : j = min N c := by omega
    have hk := kk w (by rw [← e]; exact hT)
    rw [← e] at hk
    refine BX10_untieBy_13 b d hd _ _ w b (hT.1.trans hR) Q ⟨fun _ => hk, fun _ => ⟨fun _ => hk, fun z => ⟨fun z2 => ?_, fun _ => hk⟩⟩⟩
    have hjc : j < c := by
      rcases Nat.lt_or_ge j c with h | h
      · exact h
      · exact absurd (nI_le h (by omega)) z
    have hjN : j = N := by omega
    have := (tw_iu hT).mp z2
    rw [hjN] at this
    exact absurd hN.2 this
  | succ r ih =>
    intro j w hj hT
    refine BX10_untieBy_13 b d hd _ _ w b (hT.1.trans hR) Q ⟨fun z => absurd z (nI_ge (b := 1000000) (by omega) (by decide)), fun _ => ⟨fun z => absurd z (nI_ge (by omega) hc), fun _ => ⟨fun _ => ?_, fun z => absurd ((tw_iu hT).mpr (hN.1 j (by omega))) z⟩⟩⟩
    rw [nI_1, tw_un hT]
    exact ih (j + 1) _ (by omega) hT.step
theorem z_untieBy {b : Bool} {d : Nat} (hd : d < 5) {w : Wd} (hR : w.2.2 = RTab b) {x : Int32 × Int32} (h1 : wi w (dA (hA b) d + 2) 0 = x.1) (h2 : wi w (dA (hA b) d + 2) 1 = x.2) {N c : Nat} (hN : Ends N x) (hN4 : N ≤ 40000) (hc : c < 2 ^ 31) {Q : Int32 → Wd → Prop} (kk : ∀ w', TW 55 w w' (uts x (min N c)) → Q (nI (min N c)) w') : ClI SC mX10_untieBy [.ref 0, .ref (dA (hA b) d), .int (nI c)] w (fun y w2 => w2.2.2 = RTab b ∧ Q y w2) := by
  refine TX10_untieBy b d hd _ w b hR _ ?_
  rw [← nI_0]
  exact l_untieBy hd hR hN hN4 hc (fun w' h => ⟨_, rfl, h.1.trans hR, kk w' h⟩) (min N c) 0 _ (by omega) (TW.copy h1 h2)
theorem l_turnsC {b : Bool} {d : Nat} (hd : d < 5) {w0 : Wd} (hR : w0.2.2 = RTab b) {x : Int32 × Int32} {N : Nat} (hN : Ends N x) (hN4 : N ≤ 40000) {l1 : Int32} {Q : Option Value → Wd → Prop} (kk : ∀ w', TW 55 w0 w' (uts x N) → Q (some (.int (tnF x N))) (wXX10_accept (tnF x N) w')) : ∀ (r j : Nat) (w : Wd), j + r = N → TW 55 w0 w (uts x j) → Go SC mX10_turnsOf 36 [(0, .ref 0), (1, .int l1), (2, .ref (dA (hA b) d)), (3, .int (tnF x j)), (4, .int (nI j))] [] w Q := by
  intro r
  induction r with
  | zero =>
    intro j w hj hT
    have e : j = N := by omega
    rw [e] at hT ⊢
    exact BX10_turnsOf_36 _ d hd _ _ w b (hT.1.trans hR) Q ⟨fun z => absurd z (nI_ge (b := 1000000) (by omega) (by decide)), fun _ => ⟨fun z => absurd hN.2 ((tw_iu hT).mp z), fun _ => kk w hT⟩⟩
  | succ r ih =>
    intro j w hj hT
    refine BX10_turnsOf_36 _ d hd _ _ w b (hT.1.trans hR) Q ⟨fun z => absurd z (nI_ge (b := 1000000) (by omega) (by decide)), fun _ => ⟨fun _ => ?_, fun z => absurd ((tw_iu hT).mpr (hN.1 j (by omega))) z⟩⟩
    rw [nI_1, tw_un hT]
    exact ih (j + 1) _ (by omega) hT.step
theorem l_wideC {b : Bool} {d : Nat} (hd : d < 5) {w0 : Wd} (hR : w0.2.2 = RTab b) {x : Int32 × Int32} {N : Nat} (hN : Ends N x) (hN4 : N ≤ 40000) {l1 : Int32} {Q : Option Value → Wd → Prop} (kk : ∀ w', TW 55 w0 w' (uts x N) → Q (some (.int (wdF x N))) (wXX10_accept (wdF x N) w')) : ∀ (r j : Nat) (w : Wd), j + r = N → TW 55 w0 w (uts x j) → Go SC mX10_widest 42 [(0, .ref 0), (1, .int l1), (2, .ref (dA (hA b) d)), (3, .int (wdF x j)), (4, .int (nI j))] [] w Q := by
  intro r
  induction r with
  | zero =>
    intro j w hj hT
    have e : j = N := by omega
    rw [e] at hT ⊢
    exact BX10_widest_42 _ d hd _ _ w b (hT.1.trans hR) Q ⟨fun z => absurd z (nI_ge (b := 1000000) (by omega) (by decide)), fun _ => ⟨fun z => absurd hN.2 ((tw_iu hT).mp z), fun _ => kk w hT⟩⟩
  | succ r ih =>
    intro j w hj hT
    refine BX10_widest_42 _ d hd _ _ w b (hT.1.trans hR) Q ⟨fun z => absurd z (nI_ge (b := 1000000) (by omega) (by decide)), fun _ => ⟨fun _ => ?_, fun z => absurd ((tw_iu hT).mpr (hN.1 j (by omega))) z⟩⟩
    have hT2 : TW 55 w0 (wXX7_step 55 (uf (uts x j)) w) (uts x (j + 1)) := hT.step
    rw [nI_1, tw_un hT, hT2.2.2.2]
    exact ih (j + 1) _ (by omega) hT2
/-! the reference's loop -/
def UR (w0 w : Wd) (x : Int32 × Int32) (t : Int32) (j : Nat) : Prop := w.2.2 = w0.2.2 ∧ (∀ a i, ¬ (a = 0 ∧ (i = 23 ∨ i = 24 ∨ i = 29 ∨ i = 30 ∨ i = 31 ∨ i = 32)) → wi w a i = wi w0 a i) ∧ wi w 0 23 = (uts x j).1 ∧ wi w 0 24 = (uts x j).2 ∧ wi w 0 29 = nI j ∧ wi w 0 30 = tnF x j ∧ wi w 0 31 = wdF x j ∧ wi w 0 32 = uaF x t j
theorem UR.same {w w' : Wd} {x : Int32 × Int32} {t : Int32} {j : Nat} (h : UR w w' x t j) : SameR w w' := ⟨h.1, fun a i hr => h.2.1 a i (fun e => by unfold relR at hr; omega)⟩
theorem tn_add {x : Int32 × Int32} {j : Nat} : tnF x j + (if uf (uts x j) = 2 then 1 else 0 : Int32) = tnF x (j + 1) := by
  rw [tnF]
  split
  · rfl
  · exact Int32.add_zero _
theorem wd_r {x : Int32 × Int32} {j : Nat} : (if (uts x (j + 1)).2 ≤ wdF x j then wdF x j else (uts x (j + 1)).2 : Int32) = wdF x (j + 1) := by
  rw [wdF]
  by_cases c : wdF x j < (uts x (j + 1)).2
  · rw [if_pos c, if_neg (Int32.not_le.mpr c)]
  · rw [if_neg c, if_pos (Int32.not_lt.mp c)]
/-- what a round of it leaves, a world that has the counts of the next -/
theorem ur_round {w0 w w1 : Wd} {x : Int32 × Int32} {t : Int32} {j : Nat} (hF : Frac x.1 x.2) (h : UR w0 w x t j) (hR : w.2.2 = RM) (h1R : w1.2.2 = w.2.2) (h1 : ∀ a i, ¬ (a = 0 ∧ (i = 29 ∨ i = 30 ∨ i = 32)) → wi w1 a i = wi w a i) (h29 : wi w1 0 29 = nI (j + 1)) (h30 : wi w1 0 30 = tnF x (j + 1)) (h32 : wi w1 0 32 = uaF x t (j + 1)) {K : Wd → Prop} (k : ∀ w', UR w0 w' x t (j + 1) → K w') : ClV SR mX11_figureOn [.ref 0, .int (uf (uts x j))] w1 (fun w2 => w2.2.2 = RM ∧ K (si w2 0 31 (if (wi w2 0 24) ≤ (wi w2 0 31) then wi w2 0 31 else wi w2 0 24 : Int32))) := by
  obtain ⟨q1, q2, q3, q4, q5, q6, q7, q8⟩ := h
  have e23 : wi w1 0 23 = (uts x j).1 := (h1 0 23 (by decide)).trans q3
  have e24 : wi w1 0 24 = (uts x j).2 := (h1 0 24 (by decide)).trans q4
  refine z_figOn (uf_fig _) (h1R.trans hR) (by rw [e24]; exact (uts_fr hF j).2.2.1) (fun w' hT => k _ ?_)
  rw [e23, e24] at hT
  have f23 : wi w' 0 23 = (uts x (j + 1)).1 := hT.2.2.1
  have f24 : wi w' 0 24 = (uts x (j + 1)).2 := hT.2.2.2
  have f31 : wi w' 0 31 = wdF x j := (hT.2.1 0 31 (by decide)).trans ((h1 0 31 (by decide)).trans q7)
  rw [f24, f31, wd_r]
  exact ⟨hT.1.trans (h1R.trans q1), fun a i ha => (wi_ne (by omega)).trans ((hT.2.1 a i (by omega)).trans ((h1 a i (by omega)).trans (q2 a i ha))), (wi_ne (Or.inr (by decide))).trans f23, (wi_ne (Or.inr (by decide))).trans f24, (wi_ne (Or.inr (by decide))).trans ((hT.2.1 0 29 (by decide)).trans h29), (wi_ne (Or.inr (by decide))).trans ((hT.2.1 0 30 (by decide)).trans h30), wi_self _ _ _ _, (wi_ne (Or.inr (by decide))).trans ((hT.2.1 0 32 (by decide)).trans h32)⟩
theorem l_seekU {w0 : Wd} (hR : w0.2.2 = RM) {x : Int32 × Int32} (hF : Frac x.1 x.2) {N : Nat} (hN : Ends N x) {t l1 : Int32} {Q : Option Value → Wd → Prop} (kk : ∀ w', UR w0 w' x t N → Q none w') : ∀ (r j : Nat) (w : Wd), j + r = N → UR w0 w x t j → Go SR mX11_seekUntied 28 [(0, .ref 0), (1, .int l1), (2, .int t)] [] w Q := by
  intro r
  induction r with
  | zero =>
    intro j w hj h
    have e : j = N := by omega
    rw [e] at h
    refine BX11_seekUntied_28 _ _ w (h.1.trans hR) Q ⟨fun z => absurd ?_ (iz.mp z), fun _ => kk w h⟩
    rw [h.2.2.1]
    exact hN.2
  | succ r ih =>
    intro j w hj h
    have hne := hN.1 j (by omega)
    have hu : (if 0 ≤ (wi w 0 23) then 2 else 0 : Int32) = uf (uts x j) := by
      unfold uf
      rw [h.2.2.1]
    refine BX11_seekUntied_28 _ _ w (h.1.trans hR) Q ⟨fun _ => ?_, fun z => absurd (iz.mpr (by rw [h.2.2.1]; exact hne)) z⟩
    have h29 := h.2.2.2.2.1
    have h30 := h.2.2.2.2.2.1
    have h32 := h.2.2.2.2.2.2.2
    rw [hu]
    refine ⟨fun z => ?_, fun z => ?_⟩
    · have e30 : wi (si w 0 32 (uf (uts x j))) 0 30 = tnF x j := (wi_ne (Or.inr (by decide))).trans h30
      have e29 : ∀ v, wi (si (si w 0 32 (uf (uts x j))) 0 30 v) 0 29 = nI j := fun v => (wi_ne (Or.inr (by decide))).trans ((wi_ne (Or.inr (by decide))).trans h29)
      rw [e30, e29, tn_add, nI_1]
      refine ur_round (w1 := si (si (si w 0 32 (uf (uts x j))) 0 30 (tnF x (j + 1))) 0 29 (nI (j + 1))) hF h (h.1.trans hR) rfl (fun a i ha => (wi_ne (by omega)).trans ((wi_ne (by omega)).trans (wi_ne (by omega)))) (wi_self _ _ _ _) ((wi_ne (Or.inr (by decide))).trans (wi_self _ _ _ _)) ?_ (fun w' hU => ih (j + 1) w' (by omega) hU)
      rw [uaF, if_pos (h29.symm.trans z)]
      exact (wi_ne (Or.inr (by decide))).trans ((wi_ne (Or.inr (by decide))).trans (wi_self _ _ _ _))
    · have e29 : ∀ v, wi (si w 0 30 v) 0 29 = nI j := fun v => (wi_ne (Or.inr (by decide))).trans h29
      rw [h30, e29, tn_add, nI_1]
      refine ur_round (w1 := si (si w 0 30 (tnF x (j + 1))) 0 29 (nI (j + 1))) hF h (h.1.trans hR) rfl (fun a i ha => (wi_ne (by omega)).trans (wi_ne (by omega))) (wi_self _ _ _ _) ((wi_ne (Or.inr (by decide))).trans (wi_self _ _ _ _)) ?_ (fun w' hU => ih (j + 1) w' (by omega) hU)
      rw [uaF, if_neg (fun y => z (h29.trans y))]
      exact (wi_ne (Or.inr (by decide))).trans ((wi_ne (Or.inr (by decide))).trans h32)
theorem z_seek {d : Nat} (hd : d < 5) {wr : Wd} (g2 : wr.2.2 = RM) (hF : Frac (wi wr 5 d) (wi wr 5 (5 + d))) {N : Nat} (hN : Ends N (wi wr 5 d, wi wr 5 (5 + d))) {t : Int32} {Q : Wd → Prop} (kk : ∀ w', UR (wXX11_anew wr) w' (wi wr 5 d, wi wr 5 (5 + d)) t N → Q w') : ClV SR mX11_seekUntied [.ref 0, .int (nI d), .int t] (wXX11_anew wr) (fun w2 => w2.2.2 = RM ∧ Q w2) := by
  refine TX11_seekUntied _ _ _ (an_R g2) _ (lookA hd g2 ?_)
  refine l_seekU (w0 := wXX11_anew wr) (an_R g2) hF hN (fun w' h => ⟨rfl, h.1.trans (an_R g2), kk w' h⟩) N 0 _ (by omega) ⟨rfl, fun a i ha => ?_, ?_, ?_, ?_, ?_, ?_, wi_self _ _ _ _⟩
  · exact (wi_ne (by omega)).trans ((wi_ne (by omega)).trans ((wi_ne (by omega)).trans ((wi_ne (by omega)).trans ((wi_ne (by omega)).trans (wi_ne (by omega))))))
  · exact (wi_ne (Or.inr (by decide))).trans ((wi_ne (Or.inr (by decide))).trans ((wi_ne (Or.inr (by decide))).trans ((wi_ne (Or.inr (by decide))).trans (lk_23 wr d))))
  · exact (wi_ne (Or.inr (by decide))).trans ((wi_ne (Or.inr (by decide))).trans ((wi_ne (Or.inr (by decide))).trans ((wi_ne (Or.inr (by decide))).trans (lk_24 wr d))))
  · exact (wi_ne (Or.inr (by decide))).trans ((wi_ne (Or.inr (by decide))).trans ((wi_ne (Or.inr (by decide))).trans (wi_self _ _ _ _)))
  · exact (wi_ne (Or.inr (by decide))).trans ((wi_ne (Or.inr (by decide))).trans (wi_self _ _ _ _))
  · exact (wi_ne (Or.inr (by decide))).trans ((wi_self _ _ _ _).trans ((wi_ne (Or.inr (by decide))).trans ((wi_ne (Or.inr (by decide))).trans (lk_24 wr d))))
theorem UR.k11 {wr w' : Wd} {x : Int32 × Int32} {t : Int32} {j : Nat} (h : UR (wXX11_anew wr) w' x t j) : wi w' 0 11 = 0 := (h.2.1 0 11 (by decide)).trans (an_11 wr)
theorem pr_untie {wc wr : Wd} (h : RelE wc wr) (a1 : Int32)  : PairI mX10_untie mX11_untie [a1] wc wr := by
  obtain ⟨b, hR⟩ := h
  obtain ⟨n, hn, f4, f5, f6, fD⟩ := cx hR
  have g1 := hR.1
  have g2 := hR.2.1
  refine TX10_untie _ wc b g1 _ ⟨fun q => ?_, fun q => ⟨_, rfl, TX11_untie _ wr g2 _ (isdA g2 hn f5 f6 (fun z => absurd ((din_c hn f4).mpr z) q) fun _ => ⟨fun _ => ⟨_, rfl, rfl, fin_noA hR (by decide)⟩, fun q => absurd rfl q⟩)⟩⟩
  obtain ⟨d, hd, rfl⟩ := (din_c hn f4).mp q
  obtain ⟨m, m1, m2, m3, m4, m5, m6, m7, m8⟩ := fD d hd
  have hd5 : d < 5 := by omega
  obtain ⟨N, hN4, hN⟩ := ends_fr m8
  rw [d_clamp hn hd]
  refine z_untieBy (c := 1000000) hd5 g1 m6 m7 hN hN4 (by decide) (fun w' hT => ⟨_, rfl, ?_⟩)
  refine TX11_untie _ wr g2 _ (isdA g2 hn f5 f6 (fun _ => ⟨fun q => absurd q no10, fun _ => z_seek hd5 g2 m8 hN (fun w'' hU => ⟨_, rfl, ?_, fin_ok hR (hT.same nr55) ((an_same wr).tr hU.same) hU.k11⟩)⟩) fun q => absurd ⟨d, hd, rfl⟩ q)
  rw [hU.2.2.2.2.1, show min N 1000000 = N by omega]
  rfl
theorem pr_turnsOf {wc wr : Wd} (h : RelE wc wr) (a1 : Int32)  : PairI mX10_turnsOf mX11_turnsOf [a1] wc wr := by
  obtain ⟨b, hR⟩ := h
  obtain ⟨n, hn, f4, f5, f6, fD⟩ := cx hR
  have g1 := hR.1
  have g2 := hR.2.1
  refine TX10_turnsOf _ wc b g1 _ ⟨fun q => ?_, fun q => ⟨_, rfl, TX11_turnsOf _ wr g2 _ (isdA g2 hn f5 f6 (fun z => absurd ((din_c hn f4).mpr z) q) fun _ => ⟨fun _ => ⟨_, rfl, rfl, fin_noA hR (by decide)⟩, fun q => absurd rfl q⟩)⟩⟩
  obtain ⟨d, hd, rfl⟩ := (din_c hn f4).mp q
  obtain ⟨m, m1, m2, m3, m4, m5, m6, m7, m8⟩ := fD d hd
  have hd5 : d < 5 := by omega
  obtain ⟨N, hN4, hN⟩ := ends_fr m8
  rw [d_clamp hn hd]
  refine l_turnsC hd5 g1 hN hN4 (fun w' hT => ⟨_, rfl, ?_⟩) N 0 _ (by omega) (TW.copy m6 m7)
  refine TX11_turnsOf _ wr g2 _ (isdA g2 hn f5 f6 (fun _ => ⟨fun q => absurd q no10, fun _ => z_seek hd5 g2 m8 hN (fun w'' hU => ⟨_, rfl, hU.2.2.2.2.2.1.symm, fin_ok hR (hT.same nr55) ((an_same wr).tr hU.same) hU.k11⟩)⟩) fun q => absurd ⟨d, hd, rfl⟩ q)
theorem pr_widest {wc wr : Wd} (h : RelE wc wr) (a1 : Int32)  : PairI mX10_widest mX11_widest [a1] wc wr := by
  obtain ⟨b, hR⟩ := h
  obtain ⟨n, hn, f4, f5, f6, fD⟩ := cx hR
  have g1 := hR.1
  have g2 := hR.2.1
  refine TX10_widest _ wc b g1 _ ⟨fun q => ?_, fun q => ⟨_, rfl, TX11_widest _ wr g2 _ (isdA g2 hn f5 f6 (fun z => absurd ((din_c hn f4).mpr z) q) fun _ => ⟨fun _ => ⟨_, rfl, rfl, fin_noA hR (by decide)⟩, fun q => absurd rfl q⟩)⟩⟩
  obtain ⟨d, hd, rfl⟩ := (din_c hn f4).mp q
  obtain ⟨m, m1, m2, m3, m4, m5, m6, m7, m8⟩ := fD d hd
  have hd5 : d < 5 := by omega
  obtain ⟨N, hN4, hN⟩ := ends_fr m8
  rw [d_clamp hn hd]
  have hT0 := TW.copy (x := (wi wr 5 d, wi wr 5 (5 + d))) m6 m7
  rw [hT0.2.2.2]
  refine l_wideC hd5 g1 hN hN4 (fun w' hT => ⟨_, rfl, ?_⟩) N 0 _ (by omega) hT0
  refine TX11_widest _ wr g2 _ (isdA g2 hn f5 f6 (fun _ => ⟨fun q => absurd q no10, fun _ => z_seek hd5 g2 m8 hN (fun w'' hU => ⟨_, rfl, hU.2.2.2.2.2.2.1.symm, fin_ok hR (hT.same nr55) ((an_same wr).tr hU.same) hU.k11⟩)⟩) fun q => absurd ⟨d, hd, rfl⟩ q)
theorem ua_no {x : Int32 × Int32} {i : Nat} (hi : i < 2 ^ 31) : ∀ N, N ≤ i → uaF x (nI i) N = -1 := by
  intro N
  induction N with
  | zero => exact fun _ => rfl
  | succ N ih =>
    intro h
    rw [uaF, if_neg (fun z => by have := (nI_eq (by omega) hi).mp z; omega), ih (by omega)]
theorem ua_yes {x : Int32 × Int32} {i : Nat} (hi : i < 2 ^ 30) : ∀ N, N < 2 ^ 30 → i < N → uaF x (nI i) N = uf (uts x i) := by
  intro N
  induction N with
  | zero => exact fun _ h => absurd h (Nat.not_lt_zero i)
  | succ N ih =>
    intro h2 h
    by_cases c : i = N
    · rw [uaF, c, if_pos rfl]
    · rw [uaF, if_neg (fun z => by have := (nI_eq (by omega) (by omega)).mp z; omega), ih (by omega) (by omega)]
theorem uf_nn (x : Int32 × Int32) : 0 ≤ uf x := by
  unfold uf
  split <;> decide
theorem pr_untieAt {wc wr : Wd} (h : RelE wc wr) (a1 a2 : Int32)  : PairI mX10_untieAt mX11_untieAt [a1, a2] wc wr := by
  obtain ⟨b, hR⟩ := h
  obtain ⟨n, hn, f4, f5, f6, fD⟩ := cx hR
  have g1 := hR.1
  have g2 := hR.2.1
  refine TX10_untieAt _ _ wc b g1 _ ⟨fun q => ?_, fun q => ⟨_, rfl, TX11_untieAt _ _ wr g2 _ (isdA g2 hn f5 f6 (fun z => absurd ((din_c hn f4).mpr z) q) fun _ => ⟨fun _ => ⟨_, rfl, rfl, fin_noA hR (by decide)⟩, fun q => absurd rfl q⟩)⟩⟩
  obtain ⟨d, hd, rfl⟩ := (din_c hn f4).mp q
  obtain ⟨m, m1, m2, m3, m4, m5, m6, m7, m8⟩ := fD d hd
  have hd5 : d < 5 := by omega
  obtain ⟨N, hN4, hN⟩ := ends_fr m8
  rw [d_clamp hn hd]
  refine ⟨fun z => ⟨_, rfl, TX11_untieAt _ _ wr g2 _ (isdA g2 hn f5 f6 (fun _ => ⟨fun q => absurd q no10, fun _ => ⟨fun y => absurd y (Int32.not_le.mpr z), fun _ => ⟨_, rfl, rfl, fin_noA hR (by decide)⟩⟩⟩) fun q => absurd ⟨d, hd, rfl⟩ q)⟩, fun z => ?_⟩
  obtain ⟨i, hi, rfl⟩ := nI_of z
  have bad : N ≤ i → ∀ w', SameC wc w' → ClI SR mX11_untieAt [.ref 0, .int (nI d), .int (nI i)] wr (fun y wr' => -1 = y ∧ RelE (wXX10_refuse 1 (-1) w') wr') := fun hle w' hS => TX11_untieAt _ _ wr g2 _ (isdA g2 hn f5 f6 (fun _ => ⟨fun q => absurd q no10, fun _ => ⟨fun _ => z_seek hd5 g2 m8 hN (fun w'' hU => ⟨fun y => by
    rw [hU.2.2.2.2.2.2.2, ua_no hi N hle] at y
    exact absurd y (by decide), fun _ => ⟨_, rfl, rfl, fin_no hR hS ((an_same wr).tr hU.same) (by decide)⟩⟩), fun y => absurd (Int32.not_lt.mp z) y⟩⟩) fun q => absurd ⟨d, hd, rfl⟩ q)
  refine z_untieBy (c := i) hd5 g1 m6 m7 hN hN4 hi (fun w' hT => ⟨fun z2 => ⟨_, rfl, bad ?_ _ (hT.same nr55)⟩, fun z2 => ⟨fun z3 => ⟨_, rfl, ?_⟩, fun z3 => ⟨_, rfl, bad ?_ _ (hT.same nr55)⟩⟩⟩)
  · have := (nI_ltI (by omega) hi).mp z2
    omega
  · have hle : i ≤ N := by
      rcases Nat.lt_or_ge N i with h | h
      · exact absurd (nI_lt (show min N i < i by omega) hi) z2
      · exact h
    have e : min N i = i := by omega
    rw [e] at hT
    have hlt : i < N := by
      rcases Nat.lt_or_ge i N with h | h
      · exact h
      · have e2 : i = N := by omega
        have := (tw_iu hT).mp z3
        rw [e2] at this
        exact absurd hN.2 this
    refine TX11_untieAt _ _ wr g2 _ (isdA g2 hn f5 f6 (fun _ => ⟨fun q => absurd q no10, fun _ => ⟨fun _ => z_seek hd5 g2 m8 hN (fun w'' hU => ?_), fun y => absurd (Int32.not_lt.mp z) y⟩⟩) fun q => absurd ⟨d, hd, rfl⟩ q)
    have e32 : wi w'' 0 32 = uf (uts (wi wr 5 d, wi wr 5 (5 + d)) i) := hU.2.2.2.2.2.2.2.trans (ua_yes (by omega) N (by omega) hlt)
    rw [e32, tw_un hT]
    exact ⟨fun _ => ⟨_, rfl, rfl, fin_ok hR (hT.same nr55) ((an_same wr).tr hU.same) hU.k11⟩, fun y => absurd (uf_nn _) y⟩
  · have hle : i ≤ N := by
      rcases Nat.lt_or_ge N i with h | h
      · exact absurd (nI_lt (show min N i < i by omega) hi) z2
      · exact h
    have e : min N i = i := by omega
    rw [e] at hT
    rcases Nat.lt_or_ge i N with h | h
    · exact absurd ((tw_iu hT).mpr (hN.1 i h)) z3
    · exact h
