/-! how far calls reach: a row of fractions that grows -/
abbrev FL : Type := List (Int32 × Int32)
def dfl : Int32 × Int32 := (0, 1)
def memB : FL → Int32 × Int32 → Bool
  | [], _ => false
  | y :: t, x => (decide (y.1 = x.1) && decide (y.2 = x.2)) || memB t x
def addR (l : FL) (x : Int32 × Int32) : FL := if memB l x then l else l ++ [x]
def neigh (l : FL) (x : Int32 × Int32) : FL := addR (addR (addR l (fo 0 x)) (fo 1 x)) (fo 2 x)
def lev : Nat → Nat → FL → FL
  | 0, _, l => l
  | r + 1, i, l => lev r (i + 1) (neigh l (l.getD i dfl))
def spr : Nat → Nat → FL → FL
  | 0, _, l => l
  | c + 1, done, l => spr c l.length (lev (l.length - done) done l)
def okx (x : Int32 × Int32) : Bool := decide (vXX7_isTooGreat (fo 0 x).1 (fo 0 x).2 = 0) && (decide (vXX7_isTooGreat (fo 1 x).1 (fo 1 x).2 = 0) && decide (vXX7_isTooGreat (fo 2 x).1 (fo 2 x).2 = 0))
def ckL : Nat → Nat → FL → Bool
  | 0, _, _ => true
  | r + 1, i, l => decide (l.length ≤ 100) && (okx (l.getD i dfl) && ckL r (i + 1) (neigh l (l.getD i dfl)))
def ckS : Nat → Nat → FL → Bool
  | 0, _, _ => true
  | c + 1, done, l => ckL (l.length - done) done l && ckS c l.length (lev (l.length - done) done l)
theorem ck_7 : ckS 7 0 [dfl] = true := by decide +kernel
theorem gD_app (x d : Int32 × Int32) : ∀ (l : FL) (k : Nat), k < l.length → (l ++ [x]).getD k d = l.getD k d := by
  intro l
  induction l with
  | nil => exact fun k h => absurd h (Nat.not_lt_zero k)
  | cons y t ih =>
    intro k h
    cases k with
    | zero => rfl
    | succ k => exact ih k (Nat.lt_of_succ_lt_succ h)
theorem gD_last (x d : Int32 × Int32) : ∀ l : FL, (l ++ [x]).getD l.length d = x := by
  intro l
  induction l with
  | nil => rfl
  | cons y t ih => exact ih
theorem len_app (x : Int32 × Int32) (l : FL) : (l ++ [x]).length = l.length + 1 := by
  rw [List.length_append]
  rfl
theorem memB_t {x : Int32 × Int32} : ∀ {l : FL}, memB l x = true ↔ ∃ k, k < l.length ∧ (l.getD k dfl).1 = x.1 ∧ (l.getD k dfl).2 = x.2 := by
  intro l
  induction l with
  | nil => exact ⟨fun h => absurd h (show ¬ (false = true) by decide), fun ⟨k, h, _⟩ => absurd h (Nat.not_lt_zero k)⟩
  | cons y t ih =>
    rw [memB, Bool.or_eq_true, Bool.and_eq_true, decide_eq_true_eq, decide_eq_true_eq, ih]
    constructor
    · rintro (h | ⟨k, h1, h2⟩)
      · exact ⟨0, Nat.zero_lt_succ _, h⟩
      · exact ⟨k + 1, Nat.succ_lt_succ h1, h2⟩
    · rintro ⟨k, h1, h2⟩
      cases k with
      | zero => exact Or.inl h2
      | succ k => exact Or.inr ⟨k, Nat.lt_of_succ_lt_succ h1, h2⟩
theorem add_len (l : FL) (x : Int32 × Int32) : (addR l x).length ≤ l.length + 1 ∧ l.length ≤ (addR l x).length := by
  unfold addR
  split
  · omega
  · rw [len_app]
    omega
theorem add_get (l : FL) (x : Int32 × Int32) {k : Nat} (h : k < l.length) : (addR l x).getD k dfl = l.getD k dfl := by
  unfold addR
  split
  · rfl
  · exact gD_app x dfl l k h
theorem neigh_len (l : FL) (x : Int32 × Int32) : (neigh l x).length ≤ l.length + 3 ∧ l.length ≤ (neigh l x).length := by
  have h1 := add_len l (fo 0 x)
  have h2 := add_len (addR l (fo 0 x)) (fo 1 x)
  have h3 := add_len (addR (addR l (fo 0 x)) (fo 1 x)) (fo 2 x)
  unfold neigh
  omega
theorem neigh_get (l : FL) (x : Int32 × Int32) {k : Nat} (h : k < l.length) : (neigh l x).getD k dfl = l.getD k dfl := by
  have h1 := add_len l (fo 0 x)
  have h2 := add_len (addR l (fo 0 x)) (fo 1 x)
  unfold neigh
  rw [add_get _ _ (by omega), add_get _ _ (by omega), add_get _ _ h]
theorem lev_len : ∀ (r i : Nat) (l : FL), l.length ≤ (lev r i l).length := by
  intro r
  induction r with
  | zero => exact fun _ _ => Nat.le_refl _
  | succ r ih =>
    intro i l
    have h1 := (neigh_len l (l.getD i dfl)).2
    have h2 := ih (i + 1) (neigh l (l.getD i dfl))
    rw [lev]
    omega
/-! the class -/
def LC (w0 w : Wd) (l : FL) : Prop := SameC w0 w ∧ wi w 58 2 = nI l.length ∧ ∀ k, k < l.length → wi w 59 k = (l.getD k dfl).1 ∧ wi w 60 k = (l.getD k dfl).2
theorem nrS {a : Nat} (h : 55 ≤ a) : ¬ relC a := fun q => by
  have := q.2
  omega
theorem z_addC {b : Bool} {w0 w : Wd} (hR : w0.2.2 = RTab b) {l : FL} (hl : l.length ≤ 110) (h : LC w0 w l) {x : Int32 × Int32} {Q : Wd → Prop} (kk : ∀ w', LC w0 w' (addR l x) → Q w') : ClV SC mX9_addReached [.ref 58, .int x.1, .int x.2] w (fun w2 => w2.2.2 = RTab b ∧ Q w2) := by
  have hw : w.2.2 = RTab b := h.1.1.trans hR
  have loop : ∀ (r j : Nat), j + r = l.length → (∀ k, k < j → ¬ ((l.getD k dfl).1 = x.1 ∧ (l.getD k dfl).2 = x.2)) → Go SC mX9_addReached 2 [(0, .ref 58), (1, .int x.1), (2, .int x.2), (3, .int (nI j))] [] w (fun r w' => r = none ∧ w'.2.2 = RTab b ∧ Q w') := by
    intro r
    induction r with
    | zero =>
      intro j hj hno
      have e : j = l.length := by omega
      refine BX9_addReached_2 _ _ _ w b hw _ ⟨fun _ => ⟨fun z => absurd z (by rw [h.2.1]; exact nI_ge (b := 128) (by omega) (by decide)), fun _ => ?_⟩, fun z => absurd (by rw [h.2.1]; exact nI_le (show l.length ≤ j by omega) (by omega)) z⟩
      have p1 : wi (si w 59 l.length x.1) 58 2 = nI l.length := (wi_ne (Or.inl (by decide))).trans h.2.1
      have p2 : wi (si (si w 59 l.length x.1) 60 l.length x.2) 58 2 = nI l.length := (wi_ne (Or.inl (by decide))).trans p1
      rw [h.2.1, pf_in (by omega) (by decide), p1, pf_in (by omega) (by decide), p2, nI_1]
      have hm : memB l x = false := by
        cases hb : memB l x
        · rfl
        · obtain ⟨k, k1, k2⟩ := memB_t.mp hb
          exact absurd k2 (hno k (by omega))
      have ea : addR l x = l ++ [x] := by
        unfold addR
        rw [hm]
        rfl
      rw [ea] at kk
      refine ⟨rfl, hw, kk _ ⟨((h.1.si (nrS (by decide))).si (nrS (by decide))).si (nrS (by decide)), ?_, fun k hk => ?_⟩⟩
      · rw [len_app]
        exact wi_self _ _ _ _
      · rw [len_app] at hk
        by_cases c : k = l.length
        · subst c
          rw [gD_last]
          exact ⟨(wi_ne (Or.inl (by decide))).trans ((wi_ne (Or.inl (by decide))).trans (wi_self _ _ _ _)), (wi_ne (Or.inl (by decide))).trans (wi_self _ _ _ _)⟩
        · rw [gD_app x dfl l k (by omega)]
          have := h.2.2 k (by omega)
          exact ⟨(wi_ne (Or.inl (by decide))).trans ((wi_ne (Or.inl (by decide))).trans ((wi_ne (Or.inr c)).trans this.1)), (wi_ne (Or.inl (by decide))).trans ((wi_ne (Or.inr c)).trans ((wi_ne (Or.inl (by decide))).trans this.2))⟩
    | succ r ih =>
      intro j hj hno
      have hjk := h.2.2 j (by omega)
      have next : ¬ ((l.getD j dfl).1 = x.1 ∧ (l.getD j dfl).2 = x.2) → Go SC mX9_addReached 2 [(0, .ref 58), (1, .int x.1), (2, .int x.2), (3, .int (nI j + 1))] [] w (fun r w' => r = none ∧ w'.2.2 = RTab b ∧ Q w') := fun hn => by
        rw [nI_1]
        refine ih (j + 1) (by omega) fun k hk => ?_
        by_cases c : k = j
        · rw [c]
          exact hn
        · exact hno k (by omega)
      refine BX9_addReached_2 _ _ _ w b hw _ ⟨fun z => absurd z (by rw [h.2.1]; exact nI_ge (by omega) (by omega)), fun _ => ?_⟩
      rw [gf_in (by omega) (by decide), gf_in (by omega) (by decide), hjk.1, hjk.2]
      refine ⟨fun z1 => ⟨fun z2 => ⟨rfl, hw, ?_⟩, fun z2 => next fun y => z2 y.2⟩, fun z1 => next fun y => z1 y.1⟩
      have ea : addR l x = l := by
        unfold addR
        rw [memB_t.mpr ⟨j, by omega, z1, z2⟩]
        rfl
      rw [ea] at kk
      exact kk w h
  refine TX9_addReached _ _ w b hw _ ?_
  rw [← nI_0]
  exact loop l.length 0 (by omega) (fun k hk => absurd hk (Nat.not_lt_zero k))
theorem z_neighC {b : Bool} {w0 w : Wd} (hR : w0.2.2 = RTab b) {l : FL} (hl : l.length ≤ 100) (h : LC w0 w l) {x : Int32 × Int32} {Q : Wd → Prop} (kk : ∀ w', LC w0 w' (neigh l x) → Q w') : ClV SC mX9_addNeighbours [.ref 58, .int x.1, .int x.2] w (fun w2 => w2.2.2 = RTab b ∧ Q w2) := by
  have l1 := add_len l (fo 0 x)
  have l2 := add_len (addR l (fo 0 x)) (fo 1 x)
  have rd : ∀ (f : Int32) (w1 : Wd) (l1 : FL), Fig f → l1.length ≤ 110 → LC w0 w1 l1 → (∀ w2, LC w0 w2 (addR l1 (fo f x)) → Go SC mX9_addNeighbours 2 [(0, .ref 58), (1, .int x.1), (2, .int x.2), (3, .int (f + 1))] [] w2 (fun r w' => r = none ∧ w'.2.2 = RTab b ∧ Q w')) → Go SC mX9_addNeighbours 2 [(0, .ref 58), (1, .int x.1), (2, .int x.2), (3, .int f)] [] w1 (fun r w' => r = none ∧ w'.2.2 = RTab b ∧ Q w') := fun f w1 l1 hf hl1 h1 next => BX9_addNeighbours_2 _ _ _ w1 b (h1.1.1.trans hR) _ ⟨fun z => absurd (fig_in.mp hf).2 (Int32.not_le.mpr z), fun _ => z_addC (x := fo f x) hR hl1 h1 next⟩
  refine TX9_addNeighbours _ _ w b (h.1.1.trans hR) _ ?_
  refine rd 0 w l (Or.inl rfl) (by omega) h (fun w2 h2 => rd 1 w2 _ (Or.inr (Or.inl rfl)) (by omega) h2 (fun w3 h3 => rd 2 w3 _ (Or.inr (Or.inr rfl)) (by omega) h3 (fun w4 h4 => ?_)))
  exact BX9_addNeighbours_2 _ _ _ w4 b (h4.1.1.trans hR) _ ⟨fun _ => ⟨rfl, h4.1.1.trans hR, kk w4 h4⟩, fun z => absurd (show (2 : Int32) < 2 + 1 by decide) z⟩
theorem z_spread {b : Bool} {n : Nat} (hn : n ≤ 7) {w0 : Wd} (hR : w0.2.2 = RTab b) {Q : Int32 → Wd → Prop} (kk : ∀ w', SameC w0 w' → Q (nI (spr n 0 [dfl]).length) w') : ClI SC mX9_spread [.ref 58, .int (nI n)] w0 (fun v w2 => w2.2.2 = RTab b ∧ Q v w2) := by
  have outer : ∀ (c k done : Nat) (l : FL) (w : Wd), k + c = n → done ≤ l.length → ckS (7 - k) done l = true → spr c done l = spr n 0 [dfl] → LC w0 w l → (c = 0 ∨ l.length ≤ 1000) → Go SC mX9_spread 15 [(0, .ref 58), (1, .int (nI n)), (2, .int (nI done)), (3, .int (nI k))] [] w (fun r w' => ∃ v, r = some (.int v) ∧ w'.2.2 = RTab b ∧ Q v w') := by
    intro c
    induction c with
    | zero =>
      intro k done l w hk hd hck hs h _
      have hw : w.2.2 = RTab b := h.1.1.trans hR
      rw [spr] at hs
      refine BX9_spread_15 _ _ _ w b hw _ ⟨fun _ => ⟨_, rfl, hw, ?_⟩, fun z => absurd (nI_le (show n ≤ k by omega) (by omega)) z⟩
      rw [h.2.1, hs]
      exact kk w h.1
    | succ c ih =>
      intro k done l w hk hd hck hs h hlen
      have hw : w.2.2 = RTab b := h.1.1.trans hR
      have hl1000 : l.length ≤ 1000 := hlen.resolve_left (by omega)
      rw [show 7 - k = (7 - (k + 1)) + 1 by omega, ckS, Bool.and_eq_true] at hck
      rw [spr] at hs
      have inner : ∀ (r i : Nat) (l1 : FL) (w1 : Wd), i + r = l.length → l.length ≤ l1.length → ckL r i l1 = true → lev r i l1 = lev (l.length - done) done l → LC w0 w1 l1 → (r = 0 → l1.length ≤ 1000) → Go SC mX9_spread 29 [(0, .ref 58), (1, .int (nI n)), (2, .int (nI done)), (3, .int (nI k)), (4, .int (nI l.length)), (5, .int (nI i))] [] w1 (fun r w' => ∃ v, r = some (.int v) ∧ w'.2.2 = RTab b ∧ Q v w') := by
        intro r
        induction r with
        | zero =>
          intro i l1 w1 hi hll hc he h1 hlen1
          refine BX9_spread_29 _ _ _ _ _ w1 b (h1.1.1.trans hR) _ ⟨fun _ => ?_, fun z => absurd (nI_le (show l.length ≤ i by omega) (by omega)) z⟩
          rw [lev] at he
          rw [nI_1]
          rw [← he] at hck hs
          exact ih (k + 1) l.length l1 w1 (by omega) hll hck.2 hs h1 (Or.inr (hlen1 rfl))
        | succ r ihr =>
          intro i l1 w1 hi hll hc he h1 hlen1
          rw [ckL, Bool.and_eq_true, Bool.and_eq_true] at hc
          have hl100 : l1.length ≤ 100 := of_decide_eq_true hc.1
          have hnl := neigh_len l1 (l1.getD i dfl)
          have hik := h1.2.2 i (by omega)
          rw [lev] at he
          refine BX9_spread_29 _ _ _ _ _ w1 b (h1.1.1.trans hR) _ ⟨fun z => absurd z (nI_ge (by omega) (by omega)), fun _ => ?_⟩
          rw [gf_in (by omega) (by decide), gf_in (by omega) (by decide), hik.1, hik.2, nI_1]
          exact z_neighC hR hl100 h1 (fun w2 h2 => ihr (i + 1) _ w2 (by omega) (by omega) hc.2.2 he h2 (fun _ => by omega))
      refine BX9_spread_15 _ _ _ w b hw _ ⟨fun z => absurd z (nI_ge (by omega) (by omega)), fun _ => ?_⟩
      rw [h.2.1]
      exact inner (l.length - done) done l w (by omega) (Nat.le_refl _) hck.1 rfl h (fun _ => hl1000)
  have h0 : LC w0 (si w0 58 2 0) [] := ⟨(SameC.rf w0).si (nrS (by decide)), wi_self _ _ _ _, fun k hk => absurd hk (Nat.not_lt_zero k)⟩
  refine TX9_spread _ w0 b hR _ ?_
  refine z_addC (x := dfl) hR (by decide) h0 (fun w1 h1 => ?_)
  rw [← nI_0]
  have ea : addR [] dfl = [dfl] := rfl
  rw [ea] at h1
  exact outer n 0 0 [dfl] w1 (by omega) (by decide) ck_7 rfl h1 (Or.inr (by decide))
/-! the reference -/
def LR (w0 w : Wd) (l : FL) : Prop := SameR w0 w ∧ wi w 0 11 = wi w0 0 11 ∧ ∀ k, k < l.length → wi w 11 k = (l.getD k dfl).1 ∧ wi w 12 k = (l.getD k dfl).2 ∧ Frac (l.getD k dfl).1 (l.getD k dfl).2
theorem LR.tr {w0 w w' : Wd} {l : FL} {x : Int32 × Int32} (h : LR w0 w l) (hT : TR w w' x) : LR w0 w' l :=
  ⟨h.1.tr hT.same, (hT.2.1 0 11 (by decide)).trans h.2.1, fun k hk => ⟨(hT.2.1 11 k (fun q => absurd q.1 (by decide))).trans (h.2.2 k hk).1, (hT.2.1 12 k (fun q => absurd q.1 (by decide))).trans (h.2.2 k hk).2.1, (h.2.2 k hk).2.2⟩⟩
theorem ok3 {x : Int32 × Int32} (h : okx x = true) {f : Nat} (hf : f < 3) : vXX7_isTooGreat (fo (nI f) x).1 (fo (nI f) x).2 = 0 := by
  unfold okx at h
  rw [Bool.and_eq_true, Bool.and_eq_true] at h
  rcases (show f = 0 ∨ f = 1 ∨ f = 2 by omega) with rfl | rfl | rfl
  · exact of_decide_eq_true h.1
  · exact of_decide_eq_true h.2.1
  · exact of_decide_eq_true h.2.2
theorem l_addR {w0 : Wd} (hR : w0.2.2 = RM) {l : FL} (hl : l.length ≤ 110) {w : Wd} (h : LR w0 w l) {x : Int32 × Int32} (hx : Frac x.1 x.2) (e1 : wi w 0 23 = x.1) (e2 : wi w 0 24 = x.2) {l1 l2 l4 l5 l6 l7 : Int32} {f : Nat} {Q : Option Value → Wd → Prop}
    (kk : ∀ w', LR w0 w' (addR l x) → Go SR mX11_reach 75 [(0, .ref 0), (1, .int l1), (2, .int l2), (3, .int (nI (addR l x).length)), (4, .int l4), (5, .int l5), (6, .int l6), (7, .int l7), (8, .int (nI f + 1))] [] w' Q) : Go SR mX11_reach 121 [(0, .ref 0), (1, .int l1), (2, .int l2), (3, .int (nI l.length)), (4, .int l4), (5, .int l5), (6, .int l6), (7, .int l7), (8, .int (nI f)), (9, .int 1), (10, .int (nI 0))] [] w Q := by
  have hw : w.2.2 = RM := h.1.1.trans hR
  have stop : ∀ j, j ≤ l.length → memB l x = true → Go SR mX11_reach 121 [(0, .ref 0), (1, .int l1), (2, .int l2), (3, .int (nI l.length)), (4, .int l4), (5, .int l5), (6, .int l6), (7, .int l7), (8, .int (nI f)), (9, .int 0), (10, .int (nI j))] [] w Q := fun j _ hm => by
    have ea : addR l x = l := by
      unfold addR
      rw [hm]
      rfl
    rw [ea] at kk
    exact BX11_reach_121 _ _ _ _ _ _ _ _ _ _ w hw Q ⟨fun _ => ⟨fun _ => kk w h, fun z => absurd rfl z⟩, fun _ => ⟨fun _ => ⟨fun _ => kk w h, fun z => absurd rfl z⟩, fun z => absurd rfl z⟩⟩
  have loop : ∀ (r j : Nat), j + r = l.length → (∀ k, k < j → ¬ ((l.getD k dfl).1 = x.1 ∧ (l.getD k dfl).2 = x.2)) → Go SR mX11_reach 121 [(0, .ref 0), (1, .int l1), (2, .int l2), (3, .int (nI l.length)), (4, .int l4), (5, .int l5), (6, .int l6), (7, .int l7), (8, .int (nI f)), (9, .int 1), (10, .int (nI j))] [] w Q := by
    intro r
    induction r with
    | zero =>
      intro j hj hno
      have hin : vp_in (nI l.length) 3280 := nI_in (by omega) (by decide)
      refine BX11_reach_121 _ _ _ _ _ _ _ _ _ _ w hw Q ⟨fun _ => ⟨fun z => absurd z no10, fun _ => ⟨hin, hin, ?_⟩⟩, fun z => absurd (nI_le (show l.length ≤ j by omega) (by omega)) z⟩
      have hm : memB l x = false := by
        cases hb : memB l x
        · rfl
        · obtain ⟨k, k1, k2⟩ := memB_t.mp hb
          exact absurd k2 (hno k (by omega))
      have ea : addR l x = l ++ [x] := by
        unfold addR
        rw [hm]
        rfl
      rw [ea, len_app] at kk
      have p1 : wi (si w 11 l.length x.1) 0 24 = x.2 := (wi_ne (Or.inl (by decide))).trans e2
      rw [nI_clamp (by omega), e1, p1, nI_1]
      refine kk _ ⟨(h.1.si (fun q => by unfold relR at q; omega)).si (fun q => by unfold relR at q; omega), (wi_ne (Or.inl (by decide))).trans ((wi_ne (Or.inl (by decide))).trans h.2.1), fun k hk => ?_⟩
      rw [len_app] at hk
      by_cases c : k = l.length
      · subst c
        rw [gD_last]
        exact ⟨(wi_ne (Or.inl (by decide))).trans (wi_self _ _ _ _), wi_self _ _ _ _, hx⟩
      · rw [gD_app x dfl l k (by omega)]
        have := h.2.2 k (by omega)
        exact ⟨(wi_ne (Or.inl (by decide))).trans ((wi_ne (Or.inr c)).trans this.1), (wi_ne (Or.inr c)).trans ((wi_ne (Or.inl (by decide))).trans this.2.1), this.2.2⟩
    | succ r ih =>
      intro j hj hno
      have hjk := h.2.2 j (by omega)
      have hin : vp_in (nI j) 3280 := nI_in (by omega) (by decide)
      have next : ¬ ((l.getD j dfl).1 = x.1 ∧ (l.getD j dfl).2 = x.2) → Go SR mX11_reach 121 [(0, .ref 0), (1, .int l1), (2, .int l2), (3, .int (nI l.length)), (4, .int l4), (5, .int l5), (6, .int l6), (7, .int l7), (8, .int (nI f)), (9, .int 1), (10, .int (nI (j + 1)))] [] w Q := fun hn => ih (j + 1) (by omega) fun k hk => by
        by_cases c : k = j
        · rw [c]
          exact hn
        · exact hno k (by omega)
      refine BX11_reach_121 _ _ _ _ _ _ _ _ _ _ w hw Q ⟨fun z => absurd z (nI_ge (by omega) (by omega)), fun _ => ⟨fun z => absurd z no10, fun _ => ⟨hin, ?_⟩⟩⟩
      rw [nI_clamp (by omega), hjk.1, hjk.2.1, e1, e2, nI_1]
      refine ⟨fun z1 => ⟨hin, ?_⟩, fun z1 => next fun y => z1 y.1⟩
      by_cases z2 : (l.getD j dfl).2 = x.2
      · rw [if_pos z2]
        exact stop (j + 1) (by omega) (memB_t.mpr ⟨j, by omega, z1, z2⟩)
      · rw [if_neg z2]
        exact next fun y => z2 y.2
  exact loop l.length 0 (by omega) (fun k hk => absurd hk (Nat.not_lt_zero k))
theorem l_figR {w0 : Wd} (hR : w0.2.2 = RM) {l1 l2 l4 l5 l6 : Int32} {i : Nat} {x : Int32 × Int32} (hok : okx x = true) {Q : Option Value → Wd → Prop} : ∀ (r f : Nat) (l : FL) (w : Wd), f + r = 3 → l.length + r ≤ 103 → i < l.length → l.getD i dfl = x → LR w0 w l →
    (∀ w' l', LR w0 w' l' → (r = 0 → l' = l) → (r = 1 → l' = addR l (fo 2 x)) → (r = 2 → l' = addR (addR l (fo 1 x)) (fo 2 x)) → (r = 3 → l' = neigh l x) → Go SR mX11_reach 65 [(0, .ref 0), (1, .int l1), (2, .int l2), (3, .int (nI l'.length)), (4, .int l4), (5, .int l5), (6, .int l6), (7, .int (nI (i + 1)))] [] w' Q) →
    Go SR mX11_reach 75 [(0, .ref 0), (1, .int l1), (2, .int l2), (3, .int (nI l.length)), (4, .int l4), (5, .int l5), (6, .int l6), (7, .int (nI i)), (8, .int (nI f))] [] w Q := by
  intro r
  induction r with
  | zero =>
    intro f l w hf hl hi hx h kk
    have e : f = 3 := by omega
    subst e
    refine BX11_reach_75 _ _ _ _ _ _ _ _ w (h.1.1.trans hR) Q ⟨fun _ => ?_, fun z => absurd (show (3 : Int32) ≤ nI 3 by decide) z⟩
    rw [nI_1]
    exact kk w l h (fun _ => rfl) (fun q => absurd q (by decide)) (fun q => absurd q (by decide)) (fun q => absurd q (by decide))
  | succ r ih =>
    intro f l w hf hl hi hx h kk
    have hw : w.2.2 = RM := h.1.1.trans hR
    have hik := h.2.2 i hi
    rw [hx] at hik
    have hin : vp_in (nI i) 3280 := nI_in (by omega) (by decide)
    have p1 : wi (si w 0 23 x.1) 12 i = x.2 := (wi_ne (Or.inl (by decide))).trans hik.2.1
    have hg := ok3 hok (f := f) (by omega)
    refine BX11_reach_75 _ _ _ _ _ _ _ _ w hw Q ⟨fun z => absurd z (nI_ge (b := 3) (by omega) (by decide)), fun _ => ⟨hin, hin, ?_⟩⟩
    rw [nI_clamp (by omega), hik.1, p1]
    have hP := TR.put w x.1 x.2
    refine z_calls (figJ (by omega)) (w := si (si w 0 23 x.1) 0 24 x.2) hw (x := x) hP.2.2.1 hP.2.2.2 hik.2.2 (fun hf2 w1 h1 => ⟨fun q => absurd q no10, fun _ => ?_⟩) (fun hf2 => absurd ((great_f (figJ (by omega)) hik.2.2).mp hg) hf2)
    have hT := hP.tr h1
    rw [← nI_0]
    have hal := add_len l (fo (nI f) x)
    refine l_addR hR (by omega) (h.tr hT) hf2 hT.2.2.1 hT.2.2.2 (fun w2 h2 => ?_)
    rw [nI_1]
    refine ih (f + 1) _ w2 (by omega) (by omega) (by omega) (by rw [add_get _ _ hi]; exact hx) h2 (fun w' l' hl' q0 q1 q2 q3 => kk w' l' hl' (fun q => absurd q (by omega)) (fun q => ?_) (fun q => ?_) (fun q => ?_))
    · have e : f = 2 := by omega
      subst e
      exact q0 (by omega)
    · have e : f = 1 := by omega
      subst e
      exact q1 (by omega)
    · have e : f = 0 := by omega
      subst e
      exact q2 (by omega)
theorem z_reachR {n : Nat} (hn : n ≤ 7) {w0 : Wd} (hR : w0.2.2 = RM) {l2 : Int32} {Q : Option Value → Wd → Prop} (kk : ∀ w', SameR w0 w' → wi w' 0 11 = wi w0 0 11 → Q (some (.int (nI (spr n 0 [dfl]).length))) w') {w : Wd} (h0 : LR w0 w [dfl]) : Go SR mX11_reach 52 [(0, .ref 0), (1, .int (nI n)), (2, .int l2), (3, .int (nI 1)), (4, .int (nI 0)), (5, .int (nI 0))] [] w Q := by
  have outer : ∀ (c k done : Nat) (l : FL) (w : Wd), k + c = n → done ≤ l.length → ckS (7 - k) done l = true → spr c done l = spr n 0 [dfl] → LR w0 w l → (c = 0 ∨ l.length ≤ 1000) → Go SR mX11_reach 52 [(0, .ref 0), (1, .int (nI n)), (2, .int l2), (3, .int (nI l.length)), (4, .int (nI done)), (5, .int (nI k))] [] w Q := by
    intro c
    induction c with
    | zero =>
      intro k done l w hk hd hck hs h _
      have hw : w.2.2 = RM := h.1.1.trans hR
      rw [spr] at hs
      refine BX11_reach_52 _ _ _ _ _ w hw _ ⟨fun _ => ?_, fun z => absurd (nI_le (show n ≤ k by omega) (by omega)) z⟩
      rw [hs]
      exact kk w h.1 h.2.1
    | succ c ih =>
      intro k done l w hk hd hck hs h hlen
      have hw : w.2.2 = RM := h.1.1.trans hR
      have hl1000 : l.length ≤ 1000 := hlen.resolve_left (by omega)
      rw [show 7 - k = (7 - (k + 1)) + 1 by omega, ckS, Bool.and_eq_true] at hck
      rw [spr] at hs
      have inner : ∀ (r i : Nat) (l1 : FL) (w1 : Wd), i + r = l.length → l.length ≤ l1.length → ckL r i l1 = true → lev r i l1 = lev (l.length - done) done l → LR w0 w1 l1 → (r = 0 → l1.length ≤ 1000) → Go SR mX11_reach 65 [(0, .ref 0), (1, .int (nI n)), (2, .int l2), (3, .int (nI l1.length)), (4, .int (nI done)), (5, .int (nI k)), (6, .int (nI l.length)), (7, .int (nI i))] [] w1 Q := by
        intro r
        induction r with
        | zero =>
          intro i l1 w1 hi hll hc he h1 hlen1
          refine BX11_reach_65 _ _ _ _ _ _ _ w1 (h1.1.1.trans hR) _ ⟨fun _ => ?_, fun z => absurd (nI_le (show l.length ≤ i by omega) (by omega)) z⟩
          rw [lev] at he
          rw [nI_1]
          rw [← he] at hck hs
          exact ih (k + 1) l.length l1 w1 (by omega) hll hck.2 hs h1 (Or.inr (hlen1 rfl))
        | succ r ihr =>
          intro i l1 w1 hi hll hc he h1 hlen1
          rw [ckL, Bool.and_eq_true, Bool.and_eq_true] at hc
          have hl100 : l1.length ≤ 100 := of_decide_eq_true hc.1
          have hnl := neigh_len l1 (l1.getD i dfl)
          rw [lev] at he
          refine BX11_reach_65 _ _ _ _ _ _ _ w1 (h1.1.1.trans hR) _ ⟨fun z => absurd z (nI_ge (by omega) (by omega)), fun _ => ?_⟩
          rw [← nI_0]
          refine l_figR hR hc.2.1 3 0 l1 w1 (by decide) (by omega) (by omega) rfl h1 (fun w2 l' h2 _ _ _ q3 => ?_)
          have e3 := q3 rfl
          subst e3
          exact ihr (i + 1) _ w2 (by omega) (by omega) hc.2.2 he h2 (fun _ => by omega)
      refine BX11_reach_52 _ _ _ _ _ w hw _ ⟨fun z => absurd z (nI_ge (by omega) (by omega)), fun _ => ?_⟩
      exact inner (l.length - done) done l w (by omega) (Nat.le_refl _) hck.1 rfl h (fun _ => hl1000)
  exact outer n 0 0 [dfl] w (by omega) (by decide) ck_7 rfl h0 (Or.inr (by decide))
theorem pr_reach {wc wr : Wd} (h : RelE wc wr) (a1 : Int32)  : PairI mX10_reach mX11_reach [a1] wc wr := by
  obtain ⟨b, hR⟩ := h
  have g2 := hR.2.1
  refine TX10_reach _ wc b hR.1 _ ?_
  rw [numT hR]
  refine ⟨fun q => ?_, fun q => ⟨_, rfl, TX11_reach _ wr g2 _ ⟨fun z => absurd z q, fun _ => ⟨_, rfl, rfl, fin_noA hR (why4 _ _)⟩⟩⟩⟩
  obtain ⟨n, hn, rfl⟩ := why0 (m := 7) (by decide) q
  refine z_spread hn hR.1 (fun w' hS => ⟨_, rfl, TX11_reach _ wr g2 _ ⟨fun _ => ?_, fun z => absurd q z⟩⟩)
  have h0 : LR (wXX11_anew wr) (si (si (wXX11_anew wr) 11 0 0) 12 0 1) [dfl] := ⟨((SameR.rf _).si (fun q => by unfold relR at q; omega)).si (fun q => by unfold relR at q; omega), (wi_ne (Or.inl (by decide))).trans (wi_ne (Or.inl (by decide))), fun k hk => by
    have e : k = 0 := by
      have : k < 1 := hk
      omega
    subst e
    exact ⟨(wi_ne (Or.inl (by decide))).trans (wi_self _ _ _ _), wi_self _ _ _ _, ⟨by decide, by decide, by decide, by decide, by decide, fun y => absurd y (by decide)⟩⟩⟩
  exact z_reachR hn (an_R g2) (fun w'' hT h11 => ⟨_, rfl, rfl, fin_ok hR hS ((an_same wr).tr hT) (h11.trans (an_11 wr))⟩) h0
