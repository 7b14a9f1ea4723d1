/-! words and names -/
def IsW (T : Nat → Int32) (s e kd a : Nat) : Prop := kd = 1 ∧ e - s = lenST.getD a 0 ∧ ∀ k, k < lenST.getD a 0 → T (s + k) = chST a (nI k)
theorem len_b {a : Nat} (ha : a < nST) : 1 ≤ lenST.getD a 0 ∧ lenST.getD a 0 ≤ 6 := (by decide : ∀ a, a < 9 → 1 ≤ lenST.getD a 0 ∧ lenST.getD a 0 ≤ 6) a ha
theorem krf_2 {kd : Nat} (h : kd ≤ 4) : krf kd = 2 ↔ kd = 1 := (by decide : ∀ kd, kd < 5 → (krf kd = 2 ↔ kd = 1)) kd (by omega)
theorem krf_3 {kd : Nat} (h : kd ≤ 4) : krf kd = 3 ↔ kd = 2 := (by decide : ∀ kd, kd < 5 → (krf kd = 3 ↔ kd = 2)) kd (by omega)
theorem krf_59 {kd : Nat} (h : kd ≤ 4) : krf kd = 59 ↔ kd = 3 := (by decide : ∀ kd, kd < 5 → (krf kd = 59 ↔ kd = 3)) kd (by omega)
theorem krf_0 {kd : Nat} (h : kd ≤ 4) : krf kd = 0 ↔ kd = 0 := (by decide : ∀ kd, kd < 5 → (krf kd = 0 ↔ kd = 0)) kd (by omega)
theorem g_isWC {b : Bool} {w : Wd} (hR : w.2.2 = RTab b) {T : Nat → Int32} {n s e a : Nat} (hT : TXC T n w) (e5 : wi w 1 5 = nI s) (he : e ≤ n) (ha : a < nST) (hl : e - s = lenST.getD a 0) {Q : Option Value → Wd → Prop} (c1 : (∀ k, k < lenST.getD a 0 → T (s + k) = chST a (nI k)) → Q (some (.int 1)) w) (c0 : ¬ (∀ k, k < lenST.getD a 0 → T (s + k) = chST a (nI k)) → Q (some (.int 0)) w) : ∀ (r k : Nat), k + r = lenST.getD a 0 → (∀ j, j < k → T (s + j) = chST a (nI j)) → Go SC mX8_isWord 23 [(0, .ref 1), (1, .ref (1000 + a)), (2, .int (nI k))] [] w Q := by
  have hn := hT.1
  have lb := len_b ha
  intro r
  induction r with
  | zero =>
    intro k hk hm
    have ek : k = lenST.getD a 0 := by omega
    refine BX8_isWord_23 a ha _ w b hR Q ⟨fun _ => c1 (fun j hj => hm j (by omega)), fun z => absurd (nI_le (by omega) (by omega)) z⟩
  | succ r ih =>
    intro k hk hm
    refine BX8_isWord_23 a ha _ w b hR Q ⟨fun z => absurd z (nI_ge (by omega) (by omega)), fun _ => ⟨nI_in (by omega) (by omega), ?_⟩⟩
    rw [e5, nI_add, gf_in (by omega) (by decide), hT.2.2 (s + k) (by omega), nI_1]
    refine ⟨fun y => ih (k + 1) (by omega) (fun j hj => ?_), fun y => c0 (fun z => y (z k (by omega)).symm)⟩
    by_cases c : j = k
    · subst c
      exact y.symm
    · exact hm j (by omega)
theorem z_isW {b : Bool} {w : Wd} (hR : w.2.2 = RTab b) {T : Nat → Int32} {n s e kd a : Nat} (hT : TXC T n w) (hC : TC T s e kd w) (he : e ≤ n) (hk : kd ≤ 4) (ha : a < nST) {Q : Int32 → Wd → Prop} (c1 : IsW T s e kd a → Q 1 w) (c0 : ¬ IsW T s e kd a → Q 0 w) : ClI SC mX8_isWord [.ref 1, .ref (1000 + a)] w (fun x w2 => w2.2.2 = RTab b ∧ Q x w2) := by
  have hn := hT.1
  have lb := len_b ha
  have ek : wi w 1 4 = 1 ↔ kd = 1 := by
    rw [hC.2.1]
    exact nI_eq (b := 1) (by omega) (by decide)
  refine TX8_isWord a ha w b hR _ ⟨fun y => ?_, fun y => ⟨_, rfl, hR, c0 (fun z => y (ek.mpr z.1))⟩⟩
  have k1 := ek.mp y
  rw [hC.2.2.2.1 k1]
  refine ⟨fun y2 => ?_, fun y2 => ⟨_, rfl, hR, c0 (fun z => y2 (by rw [z.2.1]; rfl))⟩⟩
  have hl : lenST.getD a 0 = e - s := (nI_eq (by omega) (by omega)).mp y2
  rw [← nI_0]
  exact g_isWC hR hT hC.1 he ha hl.symm (fun z => ⟨_, rfl, hR, c1 ⟨k1, hl.symm, z⟩⟩) (fun z => ⟨_, rfl, hR, c0 (fun z2 => z z2.2.2)⟩) _ 0 (Nat.zero_add _) (fun j hj => absurd hj (Nat.not_lt_zero j))
theorem g_isWR0 {w : Wd} (hR : w.2.2 = RM) {L a : Nat} (h8 : wi w 0 8 = nI L) (hL : L ≤ 12) (ha : a < nST) {Q : Option Value → Wd → Prop} (c0 : Q (some (.int 0)) w) : ∀ (r k : Nat), k + r = L → Go SR mX11_isWord 32 [(0, .ref 0), (1, .ref (1000 + a)), (2, .int 0), (3, .int (nI k))] [] w Q := by
  intro r
  induction r with
  | zero =>
    intro k hk
    refine BX11_isWord_32 a ha _ _ w hR Q ⟨fun _ => ⟨Or.inl rfl, c0⟩, fun z => absurd ?_ z⟩
    rw [h8]
    exact nI_le (by omega) (by omega)
  | succ r ih =>
    intro k hk
    refine BX11_isWord_32 a ha _ _ w hR Q ⟨fun z => ?_, fun _ => ⟨fun _ => ?_, fun z => absurd rfl z⟩⟩
    · rw [h8] at z
      exact absurd z (nI_ge (by omega) (by omega))
    · rw [nI_1]
      exact ih (k + 1) (by omega)
theorem g_isWR {w : Wd} (hR : w.2.2 = RM) {T : Nat → Int32} {s L a : Nat} (h8 : wi w 0 8 = nI L) (hL : L ≤ 12) (ht : ∀ j, j < L → wi w 2 j = T (s + j)) (ha : a < nST) (hl : L = lenST.getD a 0) {Q : Option Value → Wd → Prop} (c1 : (∀ k, k < lenST.getD a 0 → T (s + k) = chST a (nI k)) → Q (some (.int 1)) w) (c0 : ¬ (∀ k, k < lenST.getD a 0 → T (s + k) = chST a (nI k)) → Q (some (.int 0)) w) : ∀ (r k : Nat), k + r = L → (∀ j, j < k → T (s + j) = chST a (nI j)) → Go SR mX11_isWord 32 [(0, .ref 0), (1, .ref (1000 + a)), (2, .int 1), (3, .int (nI k))] [] w Q := by
  intro r
  induction r with
  | zero =>
    intro k hk hm
    refine BX11_isWord_32 a ha _ _ w hR Q ⟨fun _ => ⟨Or.inr rfl, c1 (fun j hj => hm j (by omega))⟩, fun z => absurd ?_ z⟩
    rw [h8]
    exact nI_le (by omega) (by omega)
  | succ r ih =>
    intro k hk hm
    refine BX11_isWord_32 a ha _ _ w hR Q ⟨fun z => ?_, fun _ => ⟨fun z => absurd z (by decide), fun _ => ⟨nI_in (by omega) (by decide), nI_in (by omega) (by omega), ?_⟩⟩⟩
    · rw [h8] at z
      exact absurd z (nI_ge (by omega) (by omega))
    · rw [nI_clamp (by omega), ht k (by omega), nI_1]
      by_cases y : T (s + k) = chST a (nI k)
      · rw [if_pos y]
        refine ih (k + 1) (by omega) (fun j hj => ?_)
        by_cases c : j = k
        · subst c
          exact y
        · exact hm j (by omega)
      · rw [if_neg y]
        exact g_isWR0 hR h8 hL ha (c0 (fun z => y (z k (by omega)))) r (k + 1) (by omega)
theorem z_isWR {w : Wd} (hR : w.2.2 = RM) (hF : wi w 0 13 = 0) {T : Nat → Int32} {s e kd a : Nat} (hC : TRk T s e kd w) (h12 : kd = 1 → e - s ≤ 12) (hk : kd ≤ 4) (ha : a < nST) {Q : Int32 → Wd → Prop} (c1 : IsW T s e kd a → Q 1 w) (c0 : ¬ IsW T s e kd a → Q 0 w) : ClI SR mX11_isWord [.ref 0, .ref (1000 + a)] w (fun x w2 => w2.2.2 = RM ∧ Q x w2) := by
  have lb := len_b ha
  have ek : wi w 0 6 = 2 ↔ kd = 1 := by
    rw [hC.2.1]
    exact krf_2 hk
  refine TX11_isWord a ha w hR _ ⟨fun _ => ⟨fun y => ?_, fun y => ⟨_, rfl, hR, c0 (fun z => y (ek.mpr z.1))⟩⟩, fun z => absurd hF z⟩
  have k1 := ek.mp y
  obtain ⟨h8, ht⟩ := hC.2.2.2.1 k1
  have hL := h12 k1
  rw [h8]
  refine ⟨fun y2 => ?_, fun y2 => ⟨_, rfl, hR, c0 (fun z => y2 (by rw [z.2.1]; rfl))⟩⟩
  have hl : e - s = lenST.getD a 0 := (nI_eq (by omega) (by omega)).mp y2
  rw [← nI_0]
  exact g_isWR hR h8 hL ht ha hl (fun z => ⟨_, rfl, hR, c1 ⟨k1, hl, z⟩⟩) (fun z => ⟨_, rfl, hR, c0 (fun z2 => z z2.2.2)⟩) _ 0 (Nat.zero_add _) (fun j hj => absurd hj (Nat.not_lt_zero j))
theorem z_isWF {w : Wd} (hR : w.2.2 = RM) (hF : ¬ wi w 0 13 = 0) {a : Nat} (ha : a < nST) {Q : Int32 → Wd → Prop} (c0 : Q 0 w) : ClI SR mX11_isWord [.ref 0, .ref (1000 + a)] w (fun x w2 => w2.2.2 = RM ∧ Q x w2) :=
  TX11_isWord a ha w hR _ ⟨fun z => absurd z hF, fun _ => ⟨_, rfl, hR, c0⟩⟩
/-- the token is a NAME -/
def NmP (T : Nat → Int32) (s e kd : Nat) : Prop := kd = 1 ∧ e - s ≤ 8 ∧ ¬ IsW T s e kd 0 ∧ ¬ IsW T s e kd 1 ∧ ¬ IsW T s e kd 2 ∧ ¬ IsW T s e kd 3
theorem z_isName {b : Bool} {w : Wd} (hR : w.2.2 = RTab b) {T : Nat → Int32} {n s e kd : Nat} (hT : TXC T n w) (hC : TC T s e kd w) (he : e ≤ n) (hk : kd ≤ 4) {Q : Int32 → Wd → Prop} (c1 : NmP T s e kd → Q 1 w) (c0 : ¬ NmP T s e kd → Q 0 w) : ClI SC mX8_isName [.ref 1] w (fun x w2 => w2.2.2 = RTab b ∧ Q x w2) := by
  have hn := hT.1
  have ek : wi w 1 4 = 1 ↔ kd = 1 := by
    rw [hC.2.1]
    exact nI_eq (b := 1) (by omega) (by decide)
  refine TX8_isName w b hR _ ⟨fun y => ?_, fun y => ⟨_, rfl, hR, c0 (fun z => y (ek.mpr z.1))⟩⟩
  have k1 := ek.mp y
  rw [hC.2.2.2.1 k1]
  refine ⟨fun y2 => ?_, fun y2 => ⟨_, rfl, hR, c0 (fun z => y2 (nI_le (b := 8) z.2.1 (by decide)))⟩⟩
  have h8 : e - s ≤ 8 := (nI_leI (b := 8) (by omega) (by decide)).mp y2
  refine z_isW hR hT hC he hk (a := 0) (by decide) (fun y => ⟨fun z => absurd z (by decide), fun _ => ⟨_, rfl, hR, c0 (fun z => z.2.2.1 y)⟩⟩) (fun n0 => ⟨fun _ => ?_, fun z => absurd rfl z⟩)
  refine z_isW hR hT hC he hk (a := 1) (by decide) (fun y => ⟨fun z => absurd z (by decide), fun _ => ⟨_, rfl, hR, c0 (fun z => z.2.2.2.1 y)⟩⟩) (fun n1 => ⟨fun _ => ?_, fun z => absurd rfl z⟩)
  refine z_isW hR hT hC he hk (a := 2) (by decide) (fun y => ⟨fun z => absurd z (by decide), fun _ => ⟨_, rfl, hR, c0 (fun z => z.2.2.2.2.1 y)⟩⟩) (fun n2 => ⟨fun _ => ?_, fun z => absurd rfl z⟩)
  refine z_isW hR hT hC he hk (a := 3) (by decide) (fun y => ⟨_, rfl, hR, ?_⟩) (fun n3 => ⟨_, rfl, hR, ?_⟩)
  · rw [if_neg (by decide)]
    exact c0 (fun z => z.2.2.2.2.2 y)
  · rw [if_pos rfl]
    exact c1 ⟨k1, h8, n0, n1, n2, n3⟩
theorem z_mustName {w : Wd} (hR : w.2.2 = RM) (hF : wi w 0 13 = 0) {T : Nat → Int32} {s e kd : Nat} (hC : TRk T s e kd w) (h12 : kd = 1 → e - s ≤ 12) (hk : kd ≤ 4) {Q : Wd → Prop} (c1 : NmP T s e kd → Q w) (c0 : ¬ NmP T s e kd → Q (si (si (si w 0 13 1) 0 9 1) 0 10 (nI s))) : ClV SR mX11_mustName [.ref 0] w (fun w2 => w2.2.2 = RM ∧ Q w2) := by
  have ek : wi w 0 6 = 2 ↔ kd = 1 := by
    rw [hC.2.1]
    exact krf_2 hk
  have hX : wXX11_wrong 1 (wi w 0 4) w = si (si (si w 0 13 1) 0 9 1) 0 10 (nI s) := by
    rw [hC.1]
    exact if_pos hF
  have bad : ¬ NmP T s e kd → (none : Option Value) = none ∧ (wXX11_wrong 1 (wi w 0 4) w).2.2 = RM ∧ Q (wXX11_wrong 1 (wi w 0 4) w) := fun z => ⟨rfl, by rw [hX]; exact hR, by rw [hX]; exact c0 z⟩
  refine TX11_mustName w hR _ ⟨fun y => ?_, fun y => bad (fun z => y (ek.mpr z.1))⟩
  have k1 := ek.mp y
  obtain ⟨h8, ht⟩ := hC.2.2.2.1 k1
  have hL := h12 k1
  rw [h8]
  refine ⟨fun y2 => bad (fun z => absurd y2 (nI_nlt (a := 8) z.2.1 (by decide))), fun y2 => ?_⟩
  have h8 : e - s ≤ 8 := by
    by_cases q : e - s ≤ 8
    · exact q
    · exact absurd (nI_lt (a := 8) (by omega) (by omega)) y2
  refine z_isWR hR hF hC h12 hk (a := 0) (by decide) (fun y => ⟨fun z => absurd z (by decide), fun _ => bad (fun z => z.2.2.1 y)⟩) (fun n0 => ⟨fun _ => ?_, fun z => absurd rfl z⟩)
  refine z_isWR hR hF hC h12 hk (a := 1) (by decide) (fun y => ⟨fun z => absurd z (by decide), fun _ => bad (fun z => z.2.2.2.1 y)⟩) (fun n1 => ⟨fun _ => ?_, fun z => absurd rfl z⟩)
  refine z_isWR hR hF hC h12 hk (a := 2) (by decide) (fun y => ⟨fun z => absurd z (by decide), fun _ => bad (fun z => z.2.2.2.2.1 y)⟩) (fun n2 => ⟨fun _ => ?_, fun z => absurd rfl z⟩)
  exact z_isWR hR hF hC h12 hk (a := 3) (by decide) (fun y => ⟨fun z => absurd z (by decide), fun _ => bad (fun z => z.2.2.2.2.2 y)⟩) (fun n3 => ⟨fun _ => ⟨rfl, hR, c1 ⟨k1, h8, n0, n1, n2, n3⟩⟩, fun z => absurd rfl z⟩)
/-- the names told, where they lie in the text -/
def NmB (n D : Nat) (ns nl : Nat → Nat) : Prop := D ≤ 5 ∧ ∀ d, d < D → 1 ≤ nl d ∧ nl d ≤ 8 ∧ ns d + nl d ≤ n
def NmC (c : Bool) (D : Nat) (ns nl : Nat → Nat) (w : Wd) : Prop := wi w (hA c) 2 = nI D ∧ ∀ d, d < D → wi w (dA (hA c) d) 2 = nI (ns d) ∧ wi w (dA (hA c) d) 3 = nI (nl d)
def NmR (T : Nat → Int32) (D : Nat) (ns nl : Nat → Nat) (w : Wd) : Prop := (∀ d, d < D → wi w 4 (101 + d) = nI (nl d) ∧ ∀ k, k < nl d → wi w 4 (106 + 8 * d + k) = T (ns d + k)) ∧ ∀ d, D ≤ d → d < 5 → wi w 4 (101 + d) = 0
def SN (T : Nat → Int32) (s e : Nat) (ns nl : Nat → Nat) (d : Nat) : Prop := nl d = e - s ∧ ∀ k, k < e - s → T (ns d + k) = T (s + k)
theorem g_nameOf {b c : Bool} {w : Wd} (hR : w.2.2 = RTab b) {T : Nat → Int32} {n D s e d : Nat} {ns nl : Nat → Nat} (hT : TXC T n w) (hB : NmB n D ns nl) (hN : NmC c D ns nl w) (hd : d < D) (e5 : wi w 1 5 = nI s) (e6 : wi w 1 6 = nI (e - s)) (he : e ≤ n) (hl : nl d = e - s) {Q : Option Value → Wd → Prop} (c1 : (∀ k, k < e - s → T (ns d + k) = T (s + k)) → Q (some (.int 1)) w) (c0 : ¬ (∀ k, k < e - s → T (ns d + k) = T (s + k)) → Q (some (.int 0)) w) : ∀ (r k : Nat), k + r = e - s → (∀ j, j < k → T (ns d + j) = T (s + j)) → Go SC mX8_isNameOf 15 [(0, .ref 1), (1, .ref (dA (hA c) d)), (2, .int (nI k))] [] w Q := by
  have hn := hT.1
  have hD := hB.1
  have hb := hB.2 d hd
  intro r
  induction r with
  | zero =>
    intro k hk hm
    refine BX8_isNameOf_15 c d (by omega) _ w b hR Q ⟨fun _ => c1 (fun j hj => hm j (by omega)), fun z => absurd ?_ z⟩
    rw [e6]
    exact nI_le (by omega) (by omega)
  | succ r ih =>
    intro k hk hm
    refine BX8_isNameOf_15 c d (by omega) _ w b hR Q ⟨fun z => ?_, fun _ => ?_⟩
    · rw [e6] at z
      exact absurd z (nI_ge (by omega) (by omega))
    · rw [e5, (hN.2 d hd).1, nI_add, nI_add, gf_in (by omega) (by decide), gf_in (by omega) (by decide), hT.2.2 (ns d + k) (by omega), hT.2.2 (s + k) (by omega), nI_1]
      refine ⟨fun y => ih (k + 1) (by omega) (fun j hj => ?_), fun y => c0 (fun z => y (z k (by omega)))⟩
      by_cases q : j = k
      · subst q
        exact y
      · exact hm j (by omega)
theorem z_nameOf {b c : Bool} {w : Wd} (hR : w.2.2 = RTab b) {T : Nat → Int32} {n D s e d : Nat} {ns nl : Nat → Nat} (hT : TXC T n w) (hB : NmB n D ns nl) (hN : NmC c D ns nl w) (hd : d < D) (e5 : wi w 1 5 = nI s) (e6 : wi w 1 6 = nI (e - s)) (he : e ≤ n) {Q : Int32 → Wd → Prop} (c1 : SN T s e ns nl d → Q 1 w) (c0 : ¬ SN T s e ns nl d → Q 0 w) : ClI SC mX8_isNameOf [.ref 1, .ref (dA (hA c) d)] w (fun x w2 => w2.2.2 = RTab b ∧ Q x w2) := by
  have hn := hT.1
  have hD := hB.1
  have hb := hB.2 d hd
  refine TX8_isNameOf c d (by omega) w b hR _ ?_
  rw [(hN.2 d hd).2, e6]
  refine ⟨fun y => ?_, fun y => ⟨_, rfl, hR, c0 (fun z => y (by rw [z.1]))⟩⟩
  have hl : nl d = e - s := (nI_eq (by omega) (by omega)).mp y
  rw [← nI_0]
  exact g_nameOf hR hT hB hN hd e5 e6 he hl (fun z => ⟨_, rfl, hR, c1 ⟨hl, z⟩⟩) (fun z => ⟨_, rfl, hR, c0 (fun z2 => z z2.2)⟩) _ 0 (Nat.zero_add _) (fun j hj => absurd hj (Nat.not_lt_zero j))
theorem g_toldAt {b c : Bool} {w : Wd} (hR : w.2.2 = RTab b) {T : Nat → Int32} {n D s e : Nat} {ns nl : Nat → Nat} (hT : TXC T n w) (hB : NmB n D ns nl) (hN : NmC c D ns nl w) (e5 : wi w 1 5 = nI s) (e6 : wi w 1 6 = nI (e - s)) (he : e ≤ n) {Q : Option Value → Wd → Prop} (c1 : ∀ d, d < D → SN T s e ns nl d → (∀ j, j < d → ¬ SN T s e ns nl j) → Q (some (.int (nI d))) w) (c0 : (∀ d, d < D → ¬ SN T s e ns nl d) → Q (some (.int (-1))) w) : ∀ (r d : Nat), d + r = D → (∀ j, j < d → ¬ SN T s e ns nl j) → Go SC mX8_toldAt 2 [(0, .ref 1), (1, .ref (hA c)), (2, .int (nI d))] [] w Q := by
  have hD := hB.1
  intro r
  induction r with
  | zero =>
    intro d hd hm
    refine BX8_toldAt_2 c _ w b hR Q ⟨fun _ => c0 (fun j hj => hm j (by omega)), fun z => absurd ?_ z⟩
    rw [hN.1]
    exact nI_le (by omega) (by omega)
  | succ r ih =>
    intro d hd hm
    refine BX8_toldAt_2 c _ w b hR Q ⟨fun z => ?_, fun _ => ⟨fun _ => ?_, fun z => absurd ⟨nI_pos' (by omega), ?_, nlt5 (by omega)⟩ z⟩⟩
    · rw [hN.1] at z
      exact absurd z (nI_ge (by omega) (by omega))
    · rw [nI_clamp (by omega), nI_1]
      refine z_nameOf hR hT hB hN (by omega) e5 e6 he (fun y => ⟨fun z => absurd z (by decide), fun _ => c1 d (by omega) y hm⟩) (fun y => ⟨fun _ => ih (d + 1) (by omega) (fun j hj => ?_), fun z => absurd rfl z⟩)
      by_cases q : j = d
      · subst q
        exact y
      · exact hm j (by omega)
    · rw [hN.1]
      exact nI_lt (by omega) (by omega)
theorem z_toldAt {b c : Bool} {w : Wd} (hR : w.2.2 = RTab b) {T : Nat → Int32} {n D s e : Nat} {ns nl : Nat → Nat} (hT : TXC T n w) (hB : NmB n D ns nl) (hN : NmC c D ns nl w) (e5 : wi w 1 5 = nI s) (e6 : wi w 1 6 = nI (e - s)) (he : e ≤ n) {Q : Int32 → Wd → Prop} (c1 : ∀ d, d < D → SN T s e ns nl d → (∀ j, j < d → ¬ SN T s e ns nl j) → Q (nI d) w) (c0 : (∀ d, d < D → ¬ SN T s e ns nl d) → Q (-1) w) : ClI SC mX8_toldAt [.ref 1, .ref (hA c)] w (fun x w2 => w2.2.2 = RTab b ∧ Q x w2) := by
  refine TX8_toldAt c w b hR _ ?_
  rw [← nI_0]
  exact g_toldAt hR hT hB hN e5 e6 he (fun d hd hs hm => ⟨_, rfl, hR, c1 d hd hs hm⟩) (fun z => ⟨_, rfl, hR, c0 z⟩) D 0 (Nat.zero_add _) (fun j hj => absurd hj (Nat.not_lt_zero j))
theorem n106 (d k : Nat) : 106 + 8 * nI d + nI k = nI (106 + 8 * d + k) := by
  rw [show (8 : Int32) = nI 8 from rfl, nmul, show (106 : Int32) = nI 106 from rfl, nI_add, nI_add]
theorem n101 (d : Nat) : 101 + nI d = nI (101 + d) := nI_add 101 d
theorem g_find0 {w : Wd} (hR : w.2.2 = RM) {L d : Nat} (h8 : wi w 0 8 = nI L) (hL : L ≤ 12) (k : Nat) (hk : k ≤ L) {Q : Option Value → Wd → Prop} (kk : Go SR mX11_find 2 [(0, .ref 0), (1, .int (nI (d + 1)))] [] w Q) : Go SR mX11_find 43 [(0, .ref 0), (1, .int (nI d)), (2, .int 0), (3, .int (nI k))] [] w Q := by
  refine BX11_find_43 _ _ _ w hR Q ⟨fun _ => ⟨fun _ => ?_, fun z => absurd rfl z⟩, fun _ => ⟨fun _ => ⟨fun _ => ?_, fun z => absurd rfl z⟩, fun z => absurd rfl z⟩⟩
  · rw [nI_1]
    exact kk
  · rw [nI_1]
    exact kk
theorem g_find1 {w : Wd} (hR : w.2.2 = RM) {T : Nat → Int32} {s L a d : Nat} (hd : d < 5) (h8 : wi w 0 8 = nI L) (hL : L ≤ 8) (ht : ∀ j, j < L → wi w 2 j = T (s + j)) (hs : ∀ j, j < L → wi w 4 (106 + 8 * d + j) = T (a + j)) {Q : Option Value → Wd → Prop} (c1 : (∀ j, j < L → T (a + j) = T (s + j)) → Q (some (.int (nI d))) w) (c0 : ¬ (∀ j, j < L → T (a + j) = T (s + j)) → Go SR mX11_find 2 [(0, .ref 0), (1, .int (nI (d + 1)))] [] w Q) : ∀ (r k : Nat), k + r = L → (∀ j, j < k → T (a + j) = T (s + j)) → Go SR mX11_find 43 [(0, .ref 0), (1, .int (nI d)), (2, .int 1), (3, .int (nI k))] [] w Q := by
  intro r
  induction r with
  | zero =>
    intro k hk hm
    refine BX11_find_43 _ _ _ w hR Q ⟨fun _ => ⟨fun z => absurd z (by decide), fun _ => c1 (fun j hj => hm j (by omega))⟩, fun z => absurd ?_ z⟩
    rw [h8]
    exact nI_le (by omega) (by omega)
  | succ r ih =>
    intro k hk hm
    refine BX11_find_43 _ _ _ w hR Q ⟨fun z => ?_, fun _ => ⟨fun z => absurd z (by decide), fun _ => ?_⟩⟩
    · rw [h8] at z
      exact absurd z (nI_ge (by omega) (by omega))
    · rw [n106, nI_clamp (by omega), nI_clamp (by omega), hs k (by omega), ht k (by omega), nI_1]
      refine ⟨nI_in (by omega) (by decide), nI_in (by omega) (by decide), ?_⟩
      by_cases y : T (a + k) = T (s + k)
      · rw [if_pos y]
        refine ih (k + 1) (by omega) (fun j hj => ?_)
        by_cases q : j = k
        · subst q
          exact y
        · exact hm j (by omega)
      · rw [if_neg y]
        exact g_find0 hR h8 (by omega) (k + 1) (by omega) (c0 (fun z => y (z k (by omega))))
theorem g_find {w : Wd} (hR : w.2.2 = RM) {T : Nat → Int32} {n D s e : Nat} {ns nl : Nat → Nat} (hB : NmB n D ns nl) (hN : NmR T D ns nl w) (h8 : wi w 0 8 = nI (e - s)) (hL : e - s ≤ 8) (h1 : 1 ≤ e - s) (ht : ∀ j, j < e - s → wi w 2 j = T (s + j)) {Q : Option Value → Wd → Prop} (c1 : ∀ d, d < D → SN T s e ns nl d → (∀ j, j < d → ¬ SN T s e ns nl j) → Q (some (.int (nI d))) w) (c0 : (∀ d, d < D → ¬ SN T s e ns nl d) → Q (some (.int (-1))) w) : ∀ (r d : Nat), d + r = 5 → (∀ j, j < d → j < D → ¬ SN T s e ns nl j) → Go SR mX11_find 2 [(0, .ref 0), (1, .int (nI d))] [] w Q := by
  have hD := hB.1
  intro r
  induction r with
  | zero =>
    intro d hd hm
    have e5 : d = 5 := by omega
    subst e5
    exact BX11_find_2 _ w hR Q ⟨fun _ => c0 (fun j hj => hm j (by omega) hj), fun z => absurd (by decide) z⟩
  | succ r ih =>
    intro d hd hm
    have hd5 : d < 5 := by omega
    refine BX11_find_2 _ w hR Q ⟨fun z => absurd z (nI_ge (b := 5) hd5 (by decide)), fun _ => ?_⟩
    rw [n101, nI_clamp (by omega)]
    refine ⟨nI_in (by omega) (by decide), ?_⟩
    by_cases cd : d < D
    · have hb := hB.2 d cd
      obtain ⟨g1, g2⟩ := hN.1 d cd
      have nx : ¬ SN T s e ns nl d → Go SR mX11_find 2 [(0, .ref 0), (1, .int (nI (d + 1)))] [] w Q := by
        intro y
        refine ih (d + 1) (by omega) (fun j hj hj2 => ?_)
        by_cases q : j = d
        · subst q
          exact y
        · exact hm j (by omega) hj2
      rw [g1, h8]
      refine ⟨fun z => absurd z (nI_nle (by omega) (by omega)), fun _ => ⟨nI_in (by omega) (by decide), ?_⟩⟩
      rw [← nI_0]
      by_cases y : nl d = e - s
      · rw [if_pos (by rw [y])]
        exact g_find1 hR hd5 h8 hL ht (fun j hj => g2 j (by omega)) (fun z => c1 d cd ⟨y, z⟩ (fun j hj => hm j hj (by omega))) (fun z => nx (fun z2 => z z2.2)) (e - s) 0 (Nat.zero_add _) (fun j hj => absurd hj (Nat.not_lt_zero j))
      · rw [if_neg (fun z => y ((nI_eq (by omega) (by omega)).mp z)), nI_0]
        rw [← nI_0]
        have := g_find0 hR h8 (by omega) 0 (Nat.zero_le _) (nx (fun z => y z.1))
        rw [← nI_0] at this
        exact this
    · rw [hN.2 d (by omega) hd5]
      refine ⟨fun _ => ?_, fun z => absurd (by decide) z⟩
      have := g_find0 hR h8 (by omega) 0 (Nat.zero_le _) (ih (d + 1) (by omega) (fun j hj hj2 => hm j (by omega) hj2))
      rw [nI_0] at this
      exact this
theorem z_find {w : Wd} (hR : w.2.2 = RM) {T : Nat → Int32} {n D s e : Nat} {ns nl : Nat → Nat} (hB : NmB n D ns nl) (hN : NmR T D ns nl w) (h8 : wi w 0 8 = nI (e - s)) (hL : e - s ≤ 8) (h1 : 1 ≤ e - s) (ht : ∀ j, j < e - s → wi w 2 j = T (s + j)) {Q : Int32 → Wd → Prop} (c1 : ∀ d, d < D → SN T s e ns nl d → (∀ j, j < d → ¬ SN T s e ns nl j) → Q (nI d) w) (c0 : (∀ d, d < D → ¬ SN T s e ns nl d) → Q (-1) w) : ClI SR mX11_find [.ref 0] w (fun x w2 => w2.2.2 = RM ∧ Q x w2) := by
  refine TX11_find w hR _ ?_
  rw [← nI_0]
  exact g_find hR hB hN h8 hL h1 ht (fun d hd hs hm => ⟨_, rfl, hR, c1 d hd hs hm⟩) (fun z => ⟨_, rfl, hR, c0 z⟩) 5 0 (Nat.zero_add _) (fun j hj => absurd hj (Nat.not_lt_zero j))
