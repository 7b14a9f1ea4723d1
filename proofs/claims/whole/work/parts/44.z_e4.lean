/-! the text read through, on both sides -/
theorem spl_ok {T : Nat → Int32} {n p s e kd : Nat} {A : AT} (aB : AB n A) (tk : Tok T n p s e kd) {O : AT → Nat → Nat → Nat → Prop} (sp : SpL T n s e kd A (fun _ _ => False) O) : ∃ A' p' s' e' k', O A' s' e' k' ∧ AB n A' ∧ e ≤ s' ∧ Tok T n p' s' e' k' := by
  rcases sp with ⟨-, h⟩ | ⟨-, ⟨-, h⟩ | ⟨-, ⟨-, h⟩ | ⟨-, ⟨-, h⟩ | ⟨-, h⟩⟩⟩⟩
  · rcases h with ⟨-, h⟩ | ⟨-, s1, e1, k1, tk1, ⟨-, h⟩ | ⟨-, s2, e2, k2, tk2, ⟨-, h⟩ | ⟨-, v, -, -, ⟨-, h⟩ | ⟨hv, s3, e3, k3, tk3, hO⟩⟩⟩⟩
    · exact h.elim
    · exact h.elim
    · exact h.elim
    · exact h.elim
    · have q1 := tk1.1
      have q2 := tk2.1
      have q3 := tk3.1
      have b1 := (tok_b tk1).2.2.1
      have b2 := (tok_b tk2).2.2.1
      exact ⟨_, e2, s3, e3, k3, hO, aB.adH hv, by omega, tk3⟩
  · rcases h with ⟨-, h⟩ | ⟨h0, ⟨-, h⟩ | ⟨hD, s1, e1, k1, tk1, ⟨-, h⟩ | ⟨hn, ⟨-, h⟩ | ⟨-, s2, e2, k2, tk2, ⟨-, h⟩ | ⟨g1, ⟨-, h⟩ | ⟨-, s3, e3, k3, tk3, hO⟩⟩⟩⟩⟩⟩
    · exact h.elim
    · exact h.elim
    · exact h.elim
    · exact h.elim
    · exact h.elim
    · exact h.elim
    · have q1 := tk1.1
      have q2 := tk2.1
      have q3 := tk3.1
      have b1 := tok_b tk1
      have b2 := tok_b tk2
      have y1 := (b1.2.2.2.2.1 hn.1).1
      have y2 := b2.2.2.2.2.1 g1
      exact ⟨_, e2, s3, e3, k3, hO, aB.adD h0 hD (by omega) hn.2.1 (by omega) (by omega) y2.2, by omega, tk3⟩
  · rcases h with ⟨-, h⟩ | ⟨h0, ⟨-, h⟩ | ⟨hU, s1, e1, k1, tk1, ⟨-, h⟩ | ⟨hn, ⟨-, h⟩ | ⟨d, g1, -, -, s2, e2, k2, tk2, ⟨-, h⟩ | ⟨-, v, -, -, ⟨-, h⟩ | ⟨hv, ⟨-, h⟩ | ⟨-, s3, e3, k3, tk3, hO⟩⟩⟩⟩⟩⟩⟩
    · exact h.elim
    · exact h.elim
    · exact h.elim
    · exact h.elim
    · exact h.elim
    · exact h.elim
    · exact h.elim
    · have q1 := tk1.1
      have q2 := tk2.1
      have q3 := tk3.1
      have b1 := (tok_b tk1).2.2.1
      have b2 := (tok_b tk2).2.2.1
      have gd := aB.2.2.2.2.2.2.1 d g1
      exact ⟨_, e2, s3, e3, k3, hO, aB.adU h0 hU g1 (by omega), by omega, tk3⟩
  · rcases h with ⟨-, h⟩ | ⟨h0, ⟨-, h⟩ | ⟨hU, s1, e1, k1, tk1, ⟨-, h⟩ | ⟨hn, ⟨-, h⟩ | ⟨d, g1, -, -, s2, e2, k2, tk2, ⟨-, h⟩ | ⟨-, v, -, -, ⟨-, h⟩ | ⟨hv, ⟨-, h⟩ | ⟨-, s3, e3, k3, tk3, ⟨-, h⟩ | ⟨f, hf, -, s4, e4, k4, tk4, ⟨-, h⟩ | ⟨t, ht, -, ⟨-, h⟩ | ⟨hft, s5, e5, k5, tk5, hO⟩⟩⟩⟩⟩⟩⟩⟩⟩⟩
    · exact h.elim
    · exact h.elim
    · exact h.elim
    · exact h.elim
    · exact h.elim
    · exact h.elim
    · exact h.elim
    · exact h.elim
    · exact h.elim
    · exact h.elim
    · have q1 := tk1.1
      have q2 := tk2.1
      have q3 := tk3.1
      have q4 := tk4.1
      have q5 := tk5.1
      have b1 := (tok_b tk1).2.2.1
      have b2 := (tok_b tk2).2.2.1
      have b3 := (tok_b tk3).2.2.1
      have b4 := (tok_b tk4).2.2.1
      exact ⟨_, e4, s5, e5, k5, hO, aB.adE h0 hU g1 hv hf ht (fun z => hft z.symm), by omega, tk5⟩
  · exact h.elim
theorem h82F {w : Wd} (hR : w.2.2 = RM) (hF : ¬ wi w 0 13 = 0) (l1 l2 : Int32) {Q : Option Value → Wd → Prop} (k : Q (some (.int (-1))) (wXX11_no 4 w)) : Go SR mX11_hall 82 [(0, .ref 0), (1, .int l1), (2, .int l2)] [] w Q :=
  BX11_hall_82 _ _ w hR Q ⟨fun z => absurd z hF, fun _ => ⟨fun z => absurd z hF, fun _ => ⟨fun z => absurd z hF, fun _ => ⟨fun z => absurd z hF, fun _ => k⟩⟩⟩⟩
theorem h82N {w : Wd} (hR : w.2.2 = RM) (h13 : wi w 0 13 = 0) (n59 : ¬ wi w 0 6 = 59) (n0 : ¬ wi w 0 6 = 0) {s : Nat} (h4 : wi w 0 4 = nI s) (l1 l2 : Int32) {Q : Option Value → Wd → Prop} (k : Q (some (.int (-1))) (wXX11_no 4 (fW 1 s w))) : Go SR mX11_hall 82 [(0, .ref 0), (1, .int l1), (2, .int l2)] [] w Q := by
  refine BX11_hall_82 _ _ w hR Q ⟨fun _ => ⟨fun z => absurd z n59, fun _ => ⟨fun _ => ⟨fun z => absurd z n0, fun _ => ?_⟩, fun z => absurd h13 z⟩⟩, fun z => absurd h13 z⟩
  rw [wr_0 h13 h4]
  exact ⟨fun z => absurd z fW_13, fun _ => ⟨fun z => absurd z fW_13, fun _ => k⟩⟩
theorem h82E {w : Wd} (hR : w.2.2 = RM) (h13 : wi w 0 13 = 0) (h6 : wi w 0 6 = 0) (h41 : wi w 4 1 = 0) {s : Nat} (h4 : wi w 0 4 = nI s) (l1 l2 : Int32) {Q : Option Value → Wd → Prop} (k : Q (some (.int (-1))) (wXX11_no 4 (fW 6 s w))) : Go SR mX11_hall 82 [(0, .ref 0), (1, .int l1), (2, .int l2)] [] w Q := by
  refine BX11_hall_82 _ _ w hR Q ⟨fun _ => ⟨fun z => absurd (h6.symm.trans z) (by decide), fun _ => ⟨fun _ => ⟨fun _ => ⟨fun _ => ?_, fun z => absurd h13 z⟩, fun z => absurd h6 z⟩, fun z => absurd h13 z⟩⟩, fun z => absurd h13 z⟩
  rw [wr_0 h13 h4]
  exact ⟨fun _ => ⟨fun z => absurd z fW_13, fun _ => k⟩, fun _ => ⟨fun _ => ⟨fun z => absurd z fW_13, fun _ => k⟩, fun z => absurd h41 z⟩⟩
theorem h82O {w : Wd} (hR : w.2.2 = RM) (h13 : wi w 0 13 = 0) (h6 : wi w 0 6 = 0) (h14 : ¬ wi w 0 14 = 0) (h41 : ¬ wi w 4 1 = 0) (l1 l2 : Int32) {Q : Option Value → Wd → Prop} (k : ClV SR mX11_copy [.ref 4, .int 0, .ref 3, .int 0, .int 146] w (fun w19 => w19.2.2 = RM ∧ Go SR mX11_hall 201 [(0, .ref 0), (1, .int l1), (2, .int 0)] [] (si w19 0 15 1) Q)) : Go SR mX11_hall 82 [(0, .ref 0), (1, .int l1), (2, .int l2)] [] w Q :=
  BX11_hall_82 _ _ w hR Q ⟨fun _ => ⟨fun z => absurd (h6.symm.trans z) (by decide), fun _ => ⟨fun _ => ⟨fun _ => ⟨fun _ => ⟨fun z => absurd z h14, fun _ => ⟨fun z => absurd z h41, fun _ => ⟨fun _ => k, fun z => absurd h13 z⟩⟩⟩, fun z => absurd h13 z⟩, fun z => absurd h6 z⟩, fun z => absurd h13 z⟩⟩, fun z => absurd h13 z⟩
/-- a line on both sides, behind a step -/
theorem h_ln {b c : Bool} {T : Nat → Int32} {n : Nat} {wc0 wr0 : Wd} {l1 l2 l2c l4 : Int32} {G : (Option Value → Wd → Prop) → Prop} {Q : Option Value → Wd → Prop}
    (kF : ∀ f q wc', wc'.2.2 = RTab b → FlC c wc0 wc' f q → (∀ QR : Option Value → Wd → Prop, (∀ wr', wr'.2.2 = RM → FlR wr0 wr' f q → QR (some (.int (-1))) (wXX11_no 4 wr')) → G QR) → Q (some (.int 0)) wc')
    {A : AT} {e : Nat} (aB : AB n A) (he : e ≤ n) {wc : Wd} (hRc : wc.2.2 = RTab b) (hC : CS c T n A wc) (e3 : wi wc 1 3 = nI e) (hFc : FrC c wc0 wc)
    (hG : ∀ QR : Option Value → Wd → Prop, (∀ wr, wr.2.2 = RM → RS T n A wr → wi wr 0 5 = nI e → FrR wr0 wr → ClV SR mX11_next [.ref 0] wr (fun w25 => w25.2.2 = RM ∧ ClV SR mX11_readLine [.ref 0] w25 (fun w26 => w26.2.2 = RM ∧ Go SR mX11_hall 82 [(0, .ref 0), (1, .int l1), (2, .int l2)] [] w26 QR))) → G QR)
    (ih : ∀ (s' e' k' p' : Nat) (A' : AT) (wc' : Wd), e ≤ s' → AB n A' → Tok T n p' s' e' k' → wc'.2.2 = RTab b → CS c T n A' wc' → TC T s' e' k' wc' → FrC c wc0 wc' → (∀ QR : Option Value → Wd → Prop, (∀ wr, wr.2.2 = RM → RS T n A' wr → TRk T s' e' k' wr → FrR wr0 wr → Go SR mX11_hall 82 [(0, .ref 0), (1, .int l1), (2, .int l2)] [] wr QR) → G QR) → Go SC mX8_read 47 [(0, .ref 1), (1, .ref (hA c)), (2, .int l2c), (3, .int 1), (4, .int l4)] [] wc' Q) :
    ClV SC mX8_step [.ref 1] wc (fun w1 => w1.2.2 = RTab b ∧ ClI SC mX8_readLine [.ref 1, .ref (hA c)] w1 (fun x3 w2 => w2.2.2 = RTab b ∧ Go SC mX8_read 47 [(0, .ref 1), (1, .ref (hA c)), (2, .int l2c), (3, .int x3), (4, .int l4)] [] w2 Q)) := by
  obtain ⟨s1, e1, k1, tk1⟩ := tok_ex T he
  have q1 := tk1.1
  have b1 := (tok_b tk1).2.2.1
  refine z_tok hRc hC.1 e3 tk1 (fun w1 f1 c1 => ?_)
  have R1 : w1.2.2 = RTab b := f1.1.trans hRc
  have F1 := hFc.st f1
  refine c_line R1 aB (hC.st f1) tk1 c1 (fun {f q w2} R2 X P => ?_) (fun {A' s' e' k' w2} R2 X Y Z P => ?_)
  · have K : Q (some (.int 0)) w2 := by
      refine kF f q w2 R2 ⟨F1.tr X.1, X.2⟩ (fun QR hq => hG QR (fun wr hRr hS h5 hFr => ?_))
      refine z_next hRr hS.1 h5 tk1 (fun wr1 g1 d1 => ?_)
      refine r_line (g1.1.trans hRr) aB (hS.st g1) tk1 d1 (P (fun f' q' => f' = f ∧ q' = q) (fun _ _ _ _ => False) ⟨rfl, rfl⟩) (fun f' q' w' hF fl => ?_) (fun A' p' s' e' k' w' hO _ _ _ _ _ _ => hO.elim)
      have R' : w'.2.2 = RM := fl.1.1.trans (g1.1.trans hRr)
      have fl2 : FlR wr0 w' f q := by
        have y := (⟨(hFr.st g1).tr fl.1, fl.2⟩ : FlR wr0 w' f' q')
        rw [hF.1, hF.2] at y
        exact y
      exact h82F R' fl.2.1 _ _ (hq w' R' fl2)
    exact BX8_read_47 c _ _ _ w2 b R2 Q ⟨fun _ => ⟨fun _ => K, fun z => absurd rfl z⟩, fun _ => ⟨fun _ => ⟨fun _ => K, fun z => absurd rfl z⟩, fun z => absurd rfl z⟩⟩
  · obtain ⟨A2, p2, s2, e2, k2, ⟨h1, h2, h3, h4⟩, hA2, hs2, tk2⟩ := spl_ok aB tk1 (P (fun _ _ => False) (fun a' b' c' d' => a' = A' ∧ b' = s' ∧ c' = e' ∧ d' = k') ⟨rfl, rfl, rfl, rfl⟩)
    rw [h1] at hA2
    rw [h2, h3, h4] at tk2
    rw [h2] at hs2
    refine ih s' e' k' p2 A' w2 (by omega) hA2 tk2 R2 X Y (F1.tr Z) (fun QR hq => hG QR (fun wr hRr hS h5 hFr => ?_))
    refine z_next hRr hS.1 h5 tk1 (fun wr1 g1 d1 => ?_)
    refine r_line (g1.1.trans hRr) aB (hS.st g1) tk1 d1 (P (fun _ _ => False) (fun a' b' c' d' => a' = A' ∧ b' = s' ∧ c' = e' ∧ d' = k') ⟨rfl, rfl, rfl, rfl⟩) (fun f' q' w' hF fl => hF.elim) (fun A3 p3 s3 e3' k3 w' hO tk3 hs3 hA3 hS3 hT3 hF3 => ?_)
    have R' : w'.2.2 = RM := hF3.1.trans (g1.1.trans hRr)
    rw [hO.1] at hS3
    rw [hO.2.1, hO.2.2.1, hO.2.2.2] at hT3
    exact hq w' R' hS3 hT3 ((hFr.st g1).tr hF3)
theorem h_loop {b c : Bool} {T : Nat → Int32} {n : Nat} {wc0 wr0 : Wd} {l1 l2 l2c : Int32} {G : (Option Value → Wd → Prop) → Prop} {Q : Option Value → Wd → Prop}
    (kF : ∀ f q wc', wc'.2.2 = RTab b → FlC c wc0 wc' f q → (∀ QR : Option Value → Wd → Prop, (∀ wr', wr'.2.2 = RM → FlR wr0 wr' f q → QR (some (.int (-1))) (wXX11_no 4 wr')) → G QR) → Q (some (.int 0)) wc')
    (kO : ∀ A wc', wc'.2.2 = RTab b → AB n A → 0 < A 9 2 → CS c T n A wc' → FrC c wc0 wc' → (∀ QR : Option Value → Wd → Prop, (∀ wr', wr'.2.2 = RM → RS T n A wr' → FrR wr0 wr' → ClV SR mX11_copy [.ref 4, .int 0, .ref 3, .int 0, .int 146] wr' (fun w19 => w19.2.2 = RM ∧ Go SR mX11_hall 201 [(0, .ref 0), (1, .int l1), (2, .int 0)] [] (si w19 0 15 1) QR)) → G QR) → Q (some (.int 1)) wc') :
    ∀ (r s e kd p : Nat) (A : AT) (i : Nat) (wc : Wd), n < s + r → i ≤ s → AB n A → Tok T n p s e kd → wc.2.2 = RTab b → CS c T n A wc → TC T s e kd wc → FrC c wc0 wc → (∀ QR : Option Value → Wd → Prop, (∀ wr, wr.2.2 = RM → RS T n A wr → TRk T s e kd wr → FrR wr0 wr → Go SR mX11_hall 82 [(0, .ref 0), (1, .int l1), (2, .int l2)] [] wr QR) → G QR) → Go SC mX8_read 47 [(0, .ref 1), (1, .ref (hA c)), (2, .int l2c), (3, .int 1), (4, .int (nI i))] [] wc Q := by
  intro r
  induction r with
  | zero =>
    intro s e kd p A i wc hr hi aB tk
    have := (tok_b tk).1
    omega
  | succ r ihr =>
    intro s e kd p A i wc hr hi aB tk hRc hC hTc hFc hG
    have tb := tok_b tk
    have hn := hC.1.1
    have hk := tb.2.2.2.2.2.2
    have tD := aB.2.2.1
    have eD := hC.2.2.1.2.1
    have e0 : wi wc 1 4 = 0 ↔ kd = 0 := by
      rw [hTc.2.1]
      exact nI_eq (b := 0) (by omega) (by decide)
    have e3 : wi wc 1 4 = 3 ↔ kd = 3 := by
      rw [hTc.2.1]
      exact nI_eq (b := 3) (by omega) (by decide)
    have hi6 : ¬ (1000000 : Int32) ≤ nI i := nI_ge (b := 1000000) (by omega) (by decide)
    refine BX8_read_47 c _ _ _ wc b hRc Q ⟨fun z => absurd z hi6, fun _ => ⟨fun z => absurd z (by decide), fun _ => ⟨fun y3 => ?_, fun n3 => ⟨fun z => absurd z (by decide), fun _ => ⟨fun y0 => ⟨fun yD => ?_, fun nD => ?_⟩, fun n0 => ?_⟩⟩⟩⟩⟩
    · have k3 := e3.mp y3
      have hse := tb.2.2.2.1 k3
      rw [nI_1]
      refine h_ln kF aB tb.2.1 hRc hC (hTc.2.2.1 (by omega)) hFc (fun QR hq => hG QR (fun wr hRr hS hTr hFr => ?_)) (fun s' e' k' p' A' wc' hs' aB' tk' R' C' T' F' hG' => ihr s' e' k' p' A' (i + 1) wc' (by omega) (by omega) aB' tk' R' C' T' F' hG')
      exact BX11_hall_82 _ _ wr hRr QR ⟨fun _ => ⟨fun _ => hq wr hRr hS (hTr.2.2.1 (by omega)) hFr, fun z => absurd (hTr.2.1.trans ((krf_59 hk).mpr k3)) z⟩, fun z => absurd hS.2.1.1 z⟩
    · have k0 := e0.mp y0
      have hD : 0 < A 9 2 := by
        rw [eD] at yD
        exact (nI_ltI (a := 0) (by decide) (by omega)).mp yD
      refine kO A wc hRc aB hD hC hFc (fun QR hq => hG QR (fun wr hRr hS hTr hFr => ?_))
      have h14 : ¬ wi wr 0 14 = 0 := fun z => by
        rw [hS.2.1.2.1] at z
        have z1 : A 9 0 = 0 := (nI_eq (b := 0) (by have := aB.1; omega) (by decide)).mp z
        have := (aB.2.2.2.2.2.1 z1).2.1
        omega
      have h41 : ¬ wi wr 4 1 = 0 := fun z => by
        rw [hS.2.2.1.2.1] at z
        have z1 : A 9 2 = 0 := (nI_eq (b := 0) (by omega) (by decide)).mp z
        omega
      exact h82O hRr hS.2.1.1 (hTr.2.1.trans ((krf_0 hk).mpr k0)) h14 h41 _ _ (hq wr hRr hS hFr)
    · have k0 := e0.mp y0
      have hD : A 9 2 = 0 := by
        by_cases q : A 9 2 = 0
        · exact q
        · refine absurd ?_ nD
          rw [eD]
          exact nI_lt (a := 0) (by omega) (by omega)
      rw [if_pos (show vXX8_fail 6 = 0 from rfl)]
      refine kF 6 s (wXX8_fail 6 wc) hRc (fl_C hFc hTc.1 6) (fun QR hq => hG QR (fun wr hRr hS hTr hFr => ?_))
      exact h82E hRr hS.2.1.1 (hTr.2.1.trans ((krf_0 hk).mpr k0)) (hS.2.2.1.2.1.trans (by rw [hD]; rfl)) hTr.1 _ _ (hq (fW 6 s wr) hRr (fl_R hFr 6 s))
    · have k0 : ¬ kd = 0 := fun z => n0 (e0.mpr z)
      have k3 : ¬ kd = 3 := fun z => n3 (e3.mpr z)
      refine kF 1 s (wXX8_fail 1 wc) hRc (fl_C hFc hTc.1 1) (fun QR hq => hG QR (fun wr hRr hS hTr hFr => ?_))
      exact h82N hRr hS.2.1.1 (fun z => k3 ((krf_59 hk).mp (hTr.2.1.symm.trans z))) (fun z => k0 ((krf_0 hk).mp (hTr.2.1.symm.trans z))) hTr.1 _ _ (hq (fW 1 s wr) hRr (fl_R hFr 1 s))
