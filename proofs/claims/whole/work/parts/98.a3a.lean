/-! a row walked (the class) and danced (the reference) -/
def TW (a : Nat) (w w' : Wd) (x : Int32 × Int32) : Prop := w'.2.2 = w.2.2 ∧ (∀ a' i, a' ≠ a → wi w' a' i = wi w a' i) ∧ wi w' a 0 = x.1 ∧ wi w' a 1 = x.2
theorem TW.put {a : Nat} {w w' : Wd} {x : Int32 × Int32} {o u : Int32} (h : TW a w w' x) : TW a w (wXX7_put a o u w') (o, u) :=
  ⟨h.1, fun a' i ha => (wi_ne (Or.inl ha)).trans ((wi_ne (Or.inl ha)).trans (h.2.1 a' i ha)), (wi_ne (Or.inr (by decide))).trans (wi_self _ _ _ _), wi_self _ _ _ _⟩
theorem TW.put0 {a : Nat} (w : Wd) (o u : Int32) : TW a w (wXX7_put a o u w) (o, u) := TW.put (x := (wi w a 0, wi w a 1)) ⟨rfl, fun _ _ _ => rfl, rfl, rfl⟩
theorem TW.step {a : Nat} {w w' : Wd} {x : Int32 × Int32} {f : Int32} (h : TW a w w' x) : TW a w (wXX7_step a f w') (fo f x) := by
  have := h.put (o := vXX7_overBy f (wi w' a 0) (wi w' a 1)) (u := vXX7_underBy f (wi w' a 0) (wi w' a 1))
  rw [h.2.2.1, h.2.2.2] at this
  unfold wXX7_step
  rw [h.2.2.1, h.2.2.2]
  exact this
theorem TW.same {a : Nat} {w w' : Wd} {x : Int32 × Int32} (h : TW a w w' x) (ha : ¬ relC a) : SameC w w' := ⟨h.1, fun b i hb => h.2.1 b i (fun e => ha (e ▸ hb))⟩
def skC (L : Int32) (j : Nat) : Bool := decide (¬ vXX10_isIn L (nI j) = 0)
theorem gf_in {w : Wd} {a n j : Nat} (h : j < n) (hn : n < 2 ^ 31) : gf w a n (nI j) = wi w a j := by
  unfold gf
  rw [if_pos ⟨nI_pos' (by omega), nI_lt h hn⟩, nI_clamp (by omega)]
theorem l_walk {c : Bool} {k : Nat} (hk : k < 5) {a : Nat} (ha : SC[a]? = some (.inl 6)) (ha1 : dA (hA c) k ≠ a) (ha2 : dA (hA c) k + 1 ≠ a) {b : Bool} {w0 : Wd} (hR : w0.2.2 = RTab b) {m n : Nat} (hm : wi w0 (dA (hA c) k) 1 = nI m) (hnm : n ≤ m) (hm12 : m ≤ 12) {L : Int32} {Q : Option Value → Wd → Prop} (kk : ∀ w', TW a w0 w' (run (fun i => wi w0 (dA (hA c) k + 1) i) (skC L) n) → Q none w') : ∀ (r j : Nat) (w : Wd), j + r = n → TW a w0 w (run (fun i => wi w0 (dA (hA c) k + 1) i) (skC L) j) → Go SC mX1_walk 9 [(0, .ref (dA (hA c) k)), (1, .int (nI n)), (2, .int L), (3, .ref a), (4, .int (nI j))] [] w Q := by
  intro r
  induction r with
  | zero =>
    intro j w hj hT
    have : j = n := by omega
    subst this
    exact BX1_walk_9 c k hk a ha _ _ _ w b (hT.1.trans hR) Q ⟨fun _ => kk w hT, fun z => absurd (nI_le (Nat.le_refl j) (by omega)) z⟩
  | succ r ih =>
    intro j w hj hT
    refine BX1_walk_9 c k hk a ha _ _ _ w b (hT.1.trans hR) Q ⟨fun z => absurd z (nI_ge (by omega) (by omega)), fun _ => ⟨fun z => ?_, fun _ => ⟨fun z => ?_, fun z => ?_⟩⟩⟩
    · rw [hT.2.1 _ _ ha1, hm] at z
      exact absurd z (nI_ge (by omega) (by omega))
    · rw [nI_1, gf_in (by omega) (by decide)]
      refine ih (j + 1) _ (by omega) ?_
      have e : run (fun i => wi w0 (dA (hA c) k + 1) i) (skC L) (j + 1) = fo (wi w (dA (hA c) k + 1) j) (run (fun i => wi w0 (dA (hA c) k + 1) i) (skC L) j) := by
        rw [run, if_neg (by unfold skC; rw [z]; decide), hT.2.1 _ _ ha2]
      rw [e]
      exact hT.step
    · rw [nI_1]
      refine ih (j + 1) _ (by omega) ?_
      rw [run, if_pos (by unfold skC; exact decide_eq_true z)]
      exact hT
theorem z_walk {c : Bool} {k : Nat} (hk : k < 5) {a : Nat} (ha : SC[a]? = some (.inl 6)) (ha1 : dA (hA c) k ≠ a) (ha2 : dA (hA c) k + 1 ≠ a) {b : Bool} {w : Wd} (hR : w.2.2 = RTab b) {m n : Nat} (hm : wi w (dA (hA c) k) 1 = nI m) (hnm : n ≤ m) (hm12 : m ≤ 12) {L : Int32} {Q : Wd → Prop} (kk : ∀ w', TW a w w' (run (fun i => wi w (dA (hA c) k + 1) i) (skC L) n) → Q w') : ClV SC mX1_walk [.ref (dA (hA c) k), .int (nI n), .int L, .ref a] w (fun w2 => w2.2.2 = RTab b ∧ Q w2) := by
  refine TX1_walk c k hk _ _ a ha w b hR _ ?_
  have hT := TW.put0 (a := a) w 0 1
  have e1 : wi (wXX7_put a 0 1 w) (dA (hA c) k) 1 = nI m := (hT.2.1 _ _ ha1).trans hm
  have e2 : (fun i => wi (wXX7_put a 0 1 w) (dA (hA c) k + 1) i) = fun i => wi w (dA (hA c) k + 1) i := funext fun i => hT.2.1 _ _ ha2
  refine l_walk hk ha ha1 ha2 hR hm hnm hm12 (fun w' h => ⟨rfl, h.1.trans hR, kk w' h⟩) n 0 _ (by omega) hT
