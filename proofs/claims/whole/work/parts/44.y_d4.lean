/-! a text read: what its lines tell, as numbers -/
abbrev AT : Type := Nat → Nat → Nat
theorem hA3 (c : Bool) : 3 ≤ hA c := by
  cases c
  · decide
  · decide
theorem dig_n {x : Int32} (h : Dig x) : ∃ d : Nat, d ≤ 9 ∧ x = nI (48 + d) := by
  unfold Dig vXX8_isDigit at h
  by_cases c : x < 48
  · rw [if_pos c] at h
    exact absurd rfl h
  · rw [if_neg c] at h
    by_cases c2 : 57 < x
    · rw [if_pos c2] at h
      exact absurd rfl h
    · rw [Int32.lt_iff_toInt_lt, show (48 : Int32).toInt = 48 by decide] at c
      rw [Int32.lt_iff_toInt_lt, show (57 : Int32).toInt = 57 by decide] at c2
      refine ⟨x.toInt.toNat - 48, by omega, ?_⟩
      rw [show 48 + (x.toInt.toNat - 48) = x.toInt.toNat by omega]
      exact nn_nat (by omega)
theorem dI_n {T : Nat → Int32} {s : Nat} : ∀ k, k ≤ 3 → (∀ j, j < k → Dig (T (s + j))) → ∃ v, v < 10 ^ k ∧ dI T s k = nI v := by
  intro k
  induction k with
  | zero => exact fun _ _ => ⟨0, by decide, rfl⟩
  | succ k ih =>
    intro hk h
    obtain ⟨v, h1, h2⟩ := ih (by omega) (fun j hj => h j (by omega))
    obtain ⟨d, h3, h4⟩ := dig_n (h k (by omega))
    have hp : 10 ^ (k + 1) = 10 * 10 ^ k := by rw [Nat.pow_succ, Nat.mul_comm]
    refine ⟨v * 10 + d, by rw [hp]; omega, ?_⟩
    show dI T s k * 10 + T (s + k) - 48 = _
    rw [h2, h4, show (10 : Int32) = nI 10 from rfl, nmul, nI_add, show (48 : Int32) = nI 48 from rfl, nI_sb (by omega), show v * 10 + (48 + d) - 48 = v * 10 + d by omega]
theorem tok_v {T : Nat → Int32} {n p s e : Nat} (h : Tok T n p s e 2) : ∃ v, v ≤ 999 ∧ dI T s (e - s) = nI v := by
  obtain ⟨h1, h2, h3, h4, h5⟩ := h
  rcases h5 with ⟨-, q, -⟩ | ⟨-, -, q, -⟩ | ⟨-, -, -, -, -, -, -, q⟩ | ⟨-, -, -, -, q1, -, q2, -, q3⟩ | ⟨-, -, -, -, q, -⟩
  · exact absurd q (by decide)
  · exact absurd q (by decide)
  · split at q <;> omega
  · have hk : e - s ≤ 3 := by split at q3 <;> omega
    obtain ⟨v, g1, g2⟩ := dI_n (T := T) (s := s) (e - s) hk (fun j hj => q2 (s + j) (by omega) (by omega))
    have hp : 10 ^ (e - s) ≤ 10 ^ 3 := Nat.pow_le_pow_right (by decide) hk
    exact ⟨v, by omega, g2⟩
  · exact absurd q (by decide)
def AB (n : Nat) (A : AT) : Prop := A 9 0 ≤ 1 ∧ A 9 1 ≤ 100 ∧ A 9 2 ≤ 5 ∧ A 9 3 ≤ 4 ∧ A 9 4 ≤ 6 ∧ (A 9 0 = 0 → A 9 1 = 0 ∧ A 9 2 = 0 ∧ A 9 3 = 0 ∧ A 9 4 = 0) ∧
  (∀ d, d < A 9 2 → 1 ≤ A 1 d ∧ A 1 d ≤ 8 ∧ A 0 d + A 1 d ≤ n ∧ 1 ≤ A 2 d ∧ A 2 d ≤ 12 ∧ ∀ j, j < A 2 d → A (10 + d) j ≤ 2) ∧
  (∀ i, i < A 9 3 → A 3 i < A 9 2 ∧ A 4 i < A 2 (A 3 i)) ∧
  (∀ i, i < A 9 4 → A 5 i < A 9 2 ∧ A 6 i ≤ A 2 (A 5 i) ∧ A 7 i < 4 ∧ A 8 i < 4 ∧ A 7 i ≠ A 8 i)
def CD (c : Bool) (A : AT) (w : Wd) (d : Nat) : Prop := wi w (dA (hA c) d) 1 = nI (A 2 d) ∧ wi w (dA (hA c) d) 2 = nI (A 0 d) ∧ wi w (dA (hA c) d) 3 = nI (A 1 d) ∧ (∀ j, j < A 2 d → wi w (dA (hA c) d + 1) j = nI (A (10 + d) j))
def CS (c : Bool) (T : Nat → Int32) (n : Nat) (A : AT) (w : Wd) : Prop := TXC T n w ∧ (wi w 1 8 = nI (A 9 0) ∧ wi w 1 9 = 0) ∧ (wi w (hA c) 0 = nI (A 9 1) ∧ wi w (hA c) 2 = nI (A 9 2) ∧ wi w (hA c) 5 = nI (A 9 3) ∧ wi w (hA c) 10 = nI (A 9 4)) ∧ (∀ d, d < A 9 2 → CD c A w d) ∧ (∀ i, i < A 9 3 → wi w (hA c + 17) i = nI (A 3 i) ∧ wi w (hA c + 18) i = nI (A 4 i)) ∧ ∀ i, i < A 9 4 → wi w (hA c + 19) i = nI (A 5 i) ∧ wi w (hA c + 20) i = nI (A 6 i) ∧ wi w (hA c + 21) i = nI (A 7 i) ∧ wi w (hA c + 22) i = nI (A 8 i)
theorem TXC.s3 {T : Nat → Int32} {n a i : Nat} {w : Wd} {v : Int32} (h : TXC T n w) (ha : 3 ≤ a ∨ (a = 1 ∧ i ≠ 2)) : TXC T n (si w a i v) := ⟨h.1, (wi_ne (by omega)).trans h.2.1, fun k hk => (wi_ne (by omega)).trans (h.2.2 k hk)⟩
theorem CD.cg {c : Bool} {A A' : AT} {w w' : Wd} {d : Nat} (h : CD c A w d) (e0 : ∀ i, wi w' (dA (hA c) d) i = wi w (dA (hA c) d) i) (e1 : ∀ i, wi w' (dA (hA c) d + 1) i = wi w (dA (hA c) d + 1) i) (e2 : ∀ i, wi w' (dA (hA c) d + 2) i = wi w (dA (hA c) d + 2) i) (a0 : A' 0 d = A 0 d) (a1 : A' 1 d = A 1 d) (a2 : A' 2 d = A 2 d) (a3 : ∀ j, A' (10 + d) j = A (10 + d) j) : CD c A' w' d := by
  have a4 : A' (10 + d) = A (10 + d) := funext a3
  obtain ⟨h1, h2, h3, h4⟩ := h
  unfold CD
  rw [a0, a1, a2, a4]
  exact ⟨(e0 1).trans h1, (e0 2).trans h2, (e0 3).trans h3, fun j hj => (e1 j).trans (h4 j hj)⟩
theorem CS.st {c : Bool} {T : Nat → Int32} {n : Nat} {A : AT} {w w' : Wd} (h : CS c T n A w) (hf : StC w w') : CS c T n A w' := by
  have hb := hA3 c
  obtain ⟨h1, ⟨h2, h3⟩, ⟨h4, h5, h6, h7⟩, h8, h9, h10⟩ := h
  refine ⟨h1.fr hf, ⟨(hf.2 1 8 (by decide)).trans h2, (hf.2 1 9 (by decide)).trans h3⟩, ⟨(hf.2 _ _ (by omega)).trans h4, (hf.2 _ _ (by omega)).trans h5, (hf.2 _ _ (by omega)).trans h6, (hf.2 _ _ (by omega)).trans h7⟩, fun d hd => ?_, fun i hi => ?_, fun i hi => ?_⟩
  · have e : dA (hA c) d = hA c + 2 + 3 * d := rfl
    exact (h8 d hd).cg (fun i => hf.2 _ _ (by omega)) (fun i => hf.2 _ _ (by omega)) (fun i => hf.2 _ _ (by omega)) rfl rfl rfl (fun _ => rfl)
  · obtain ⟨g1, g2⟩ := h9 i hi
    exact ⟨(hf.2 _ _ (by omega)).trans g1, (hf.2 _ _ (by omega)).trans g2⟩
  · obtain ⟨g1, g2, g3, g4⟩ := h10 i hi
    exact ⟨(hf.2 _ _ (by omega)).trans g1, (hf.2 _ _ (by omega)).trans g2, (hf.2 _ _ (by omega)).trans g3, (hf.2 _ _ (by omega)).trans g4⟩
/-- the line that tells the slips -/
theorem CS.t1 {c : Bool} {T : Nat → Int32} {n : Nat} {A : AT} {w : Wd} (h : CS c T n A w) : CS c T n (up2 A 9 0 1) (si w 1 8 1) := by
  have hb := hA3 c
  obtain ⟨h1, ⟨h2, h3⟩, ⟨h4, h5, h6, h7⟩, h8, h9, h10⟩ := h
  refine ⟨h1.s3 (Or.inr ⟨rfl, by decide⟩), ⟨wi_self _ _ _ _, (wi_ne (Or.inr (by decide))).trans h3⟩, ⟨(wi_ne (by omega)).trans h4, (wi_ne (by omega)).trans h5, (wi_ne (by omega)).trans h6, (wi_ne (by omega)).trans h7⟩, fun d hd => ?_, fun i hi => ?_, fun i hi => ?_⟩
  · have e : dA (hA c) d = hA c + 2 + 3 * d := rfl
    exact (h8 d hd).cg (fun i => wi_ne (by omega)) (fun i => wi_ne (by omega)) (fun i => wi_ne (by omega)) rfl rfl rfl (fun j => up2_ne _ _ (by omega))
  · obtain ⟨g1, g2⟩ := h9 i hi
    exact ⟨(wi_ne (by omega)).trans g1, (wi_ne (by omega)).trans g2⟩
  · obtain ⟨g1, g2, g3, g4⟩ := h10 i hi
    exact ⟨(wi_ne (by omega)).trans g1, (wi_ne (by omega)).trans g2, (wi_ne (by omega)).trans g3, (wi_ne (by omega)).trans g4⟩
theorem CS.sl {c : Bool} {T : Nat → Int32} {n v : Nat} {A : AT} {w : Wd} (h : CS c T n A w) : CS c T n (up2 A 9 1 v) (si w (hA c) 0 (nI v)) := by
  have hb := hA3 c
  obtain ⟨h1, ⟨h2, h3⟩, ⟨h4, h5, h6, h7⟩, h8, h9, h10⟩ := h
  refine ⟨h1.s3 (Or.inl hb), ⟨(wi_ne (by omega)).trans h2, (wi_ne (by omega)).trans h3⟩, ⟨wi_self _ _ _ _, (wi_ne (Or.inr (by decide))).trans h5, (wi_ne (Or.inr (by decide))).trans h6, (wi_ne (Or.inr (by decide))).trans h7⟩, fun d hd => ?_, fun i hi => ?_, fun i hi => ?_⟩
  · have e : dA (hA c) d = hA c + 2 + 3 * d := rfl
    exact (h8 d hd).cg (fun i => wi_ne (by omega)) (fun i => wi_ne (by omega)) (fun i => wi_ne (by omega)) rfl rfl rfl (fun j => up2_ne _ _ (by omega))
  · obtain ⟨g1, g2⟩ := h9 i hi
    exact ⟨(wi_ne (by omega)).trans g1, (wi_ne (by omega)).trans g2⟩
  · obtain ⟨g1, g2, g3, g4⟩ := h10 i hi
    exact ⟨(wi_ne (by omega)).trans g1, (wi_ne (by omega)).trans g2, (wi_ne (by omega)).trans g3, (wi_ne (by omega)).trans g4⟩
/-- what reading may change of the class's world; how a fault is told -/
def FrC (c : Bool) (w w' : Wd) : Prop := w'.2.2 = w.2.2 ∧ ∀ a i, ¬ (a = 1 ∧ 3 ≤ i ∧ i ≤ 10) → ¬ (hA c ≤ a ∧ a < hA c + 23) → wi w' a i = wi w a i
theorem FrC.rf (c : Bool) (w : Wd) : FrC c w w := ⟨rfl, fun _ _ _ _ => rfl⟩
theorem FrC.tr {c : Bool} {w w' w2 : Wd} (h1 : FrC c w w') (h2 : FrC c w' w2) : FrC c w w2 := ⟨h2.1.trans h1.1, fun a i q r => (h2.2 a i q r).trans (h1.2 a i q r)⟩
theorem FrC.st {c : Bool} {w w' w2 : Wd} (h1 : FrC c w w') (h2 : StC w' w2) : FrC c w w2 := ⟨h2.1.trans h1.1, fun a i q r => (h2.2 a i (by omega)).trans (h1.2 a i q r)⟩
theorem FrC.s1 {c : Bool} {w w' : Wd} (h : FrC c w w') {i : Nat} {v : Int32} (h3 : 3 ≤ i) (h7 : i ≤ 10) : FrC c w (si w' 1 i v) := ⟨h.1, fun a j q r => (wi_ne (by omega)).trans (h.2 a j q r)⟩
theorem FrC.sh {c : Bool} {w w' : Wd} (h : FrC c w w') {a i : Nat} {v : Int32} (h3 : hA c ≤ a) (h7 : a < hA c + 23) : FrC c w (si w' a i v) := ⟨h.1, fun a' j q r => (wi_ne (by omega)).trans (h.2 a' j q r)⟩
def FlC (c : Bool) (w w' : Wd) (f : Int32) (q : Nat) : Prop := FrC c w w' ∧ wi w' 1 9 = f ∧ wi w' 1 10 = nI q
theorem fl_C {c : Bool} {w0 w : Wd} {s : Nat} (hf : FrC c w0 w) (h5 : wi w 1 5 = nI s) (f : Int32) : FlC c w0 (wXX8_fail f w) f s := by
  have e5 : wi (si w 1 9 f) 1 5 = nI s := (wi_ne (Or.inr (by decide))).trans h5
  unfold wXX8_fail
  rw [e5]
  exact ⟨(hf.s1 (by decide) (by decide)).s1 (by decide) (by decide), (wi_ne (Or.inr (by decide))).trans (wi_self _ _ _ _), wi_self _ _ _ _⟩
/-- a number told -/
def SpN (T : Nat → Int32) (s e kd m : Nat) (F : Int32 → Nat → Prop) (O : Nat → Prop) : Prop := (kd ≠ 2 ∧ F 1 s) ∨ (kd = 2 ∧ ∃ v, v ≤ 999 ∧ dI T s (e - s) = nI v ∧ ((m < v ∧ F 4 s) ∨ (v ≤ m ∧ O v)))
theorem n_C {T : Nat → Int32} {n p s e kd m : Nat} {w : Wd} {M : Int32} (hC : TC T s e kd w) (tk : Tok T n p s e kd) (hM : M = nI m) (hm : m ≤ 1000) : (kd ≠ 2 ∧ vXX8_isWhole M w = 0 ∧ wXX8_isWhole M w = wXX8_fail 1 w) ∨ (kd = 2 ∧ ∃ v, v ≤ 999 ∧ dI T s (e - s) = nI v ∧ wi w 1 7 = nI v ∧ ((m < v ∧ vXX8_isWhole M w = 0 ∧ wXX8_isWhole M w = wXX8_fail 4 w) ∨ (v ≤ m ∧ vXX8_isWhole M w = 1 ∧ wXX8_isWhole M w = w))) := by
  have hk := (tok_b tk).2.2.2.2.2.2
  have ek : wi w 1 4 = 2 ↔ kd = 2 := by
    rw [hC.2.1]
    exact nI_eq (b := 2) (by omega) (by decide)
  unfold vXX8_isWhole wXX8_isWhole
  by_cases q : kd = 2
  · refine Or.inr ⟨q, ?_⟩
    rw [if_pos (ek.mpr q), if_pos (ek.mpr q)]
    have w7 := hC.2.2.2.2 q
    subst q
    obtain ⟨v, hv, dv⟩ := tok_v tk
    refine ⟨v, hv, dv, w7.trans dv, ?_⟩
    rw [w7, dv, hM]
    by_cases y : v ≤ m
    · rw [if_pos (nI_le y (by omega)), if_pos (nI_le y (by omega))]
      exact Or.inr ⟨y, rfl, rfl⟩
    · rw [if_neg (nI_ge (by omega) (by omega)), if_neg (nI_ge (by omega) (by omega))]
      exact Or.inl ⟨by omega, rfl, rfl⟩
  · refine Or.inl ⟨q, ?_⟩
    rw [if_neg (fun z => q (ek.mp z)), if_neg (fun z => q (ek.mp z))]
    exact ⟨rfl, rfl⟩
def SpH (T : Nat → Int32) (n s0 e0 : Nat) (t : Nat) (F : Int32 → Nat → Prop) (O : Nat → Nat → Nat → Nat → Prop) : Prop := (t ≠ 0 ∧ F 3 s0) ∨ (t = 0 ∧ ∃ s1 e1 k1, Tok T n e0 s1 e1 k1 ∧ ((¬ IsW T s1 e1 k1 4 ∧ F 1 s1) ∨ (IsW T s1 e1 k1 4 ∧ ∃ s2 e2 k2, Tok T n e1 s2 e2 k2 ∧ SpN T s2 e2 k2 100 F (fun v => ∃ s3 e3 k3, Tok T n e2 s3 e3 k3 ∧ O v s3 e3 k3))))
def aH (A : AT) (v : Nat) : AT := up2 (up2 A 9 0 1) 9 1 v
theorem c_slips {b c : Bool} {w : Wd} (hR : w.2.2 = RTab b) {T : Nat → Int32} {n p s e kd : Nat} {A : AT} (aB : AB n A) (hC : CS c T n A w) (tk : Tok T n p s e kd) (hT : TC T s e kd w) (hk : kd ≠ 4) {Q : Int32 → Wd → Prop} (kF : ∀ {f q w'}, w'.2.2 = RTab b → FlC c w w' f q → (∀ (F : Int32 → Nat → Prop) (O : Nat → Nat → Nat → Nat → Prop), F f q → SpH T n s e (A 9 0) F O) → Q 0 w') (kO : ∀ {v s3 e3 k3 w'}, w'.2.2 = RTab b → CS c T n (aH A v) w' → TC T s3 e3 k3 w' → FrC c w w' → (∀ (F : Int32 → Nat → Prop) (O : Nat → Nat → Nat → Nat → Prop), O v s3 e3 k3 → SpH T n s e (A 9 0) F O) → Q 1 w') : ClI SC mX8_readSlips [.ref 1, .ref (hA c)] w (fun x w2 => w2.2.2 = RTab b ∧ Q x w2) := by
  have hb := hA3 c
  have t1 := aB.1
  have e8 := hC.2.1.1
  refine TX8_readSlips c w b hR _ ⟨fun y => ?_, fun y => ⟨_, rfl, hR, kF (hR) (fl_C (FrC.rf c w) hT.1 3) (fun F O h => (Or.inl ⟨fun z => y (by rw [e8, z]; rfl), h⟩))⟩⟩
  have y0 : A 9 0 = 0 := by
    rw [e8] at y
    exact (nI_eq (b := 0) (by omega) (by decide)).mp y
  obtain ⟨s1, e1, k1, tk1⟩ := tok_ex T (tok_b tk).2.1
  obtain ⟨s2, e2, k2, tk2⟩ := tok_ex T (tok_b tk1).2.1
  obtain ⟨s3, e3, k3, tk3⟩ := tok_ex T (tok_b tk2).2.1
  have C0 := hC.t1
  have F0 : FrC c w (si w 1 8 1) := (FrC.rf c w).s1 (by decide) (by decide)
  refine z_tok (w := si w 1 8 1) hR C0.1 ((wi_ne (Or.inr (by decide))).trans (hT.2.2.1 hk)) tk1 (fun w1 f1 c1 => ?_)
  have R1 : w1.2.2 = RTab b := f1.1.trans hR
  have C1 := C0.st f1
  have F1 := F0.st f1
  refine z_isW (a := 4) R1 C1.1 c1 (tok_b tk1).2.1 (tok_b tk1).2.2.2.2.2.2 (by decide) (fun q => ⟨fun z => absurd z (by decide), fun _ => ?_⟩) (fun q => ⟨fun _ => ⟨_, rfl, R1, kF (R1) (fl_C F1 c1.1 1) (fun F O h => (Or.inr ⟨y0, s1, e1, k1, tk1, Or.inl ⟨q, h⟩⟩))⟩, fun z => absurd rfl z⟩)
  have q1 := q.1
  refine z_tok R1 C1.1 (c1.2.2.1 (by omega)) tk2 (fun w2 f2 c2 => ?_)
  have R2 : w2.2.2 = RTab b := f2.1.trans R1
  have C2 := C1.st f2
  have F2 := F1.st f2
  rcases n_C c2 tk2 (M := 100) (m := 100) rfl (by decide) with ⟨g1, g2, g3⟩ | ⟨g1, v, g2, g3, g4, g5⟩
  · rw [g2, g3]
    exact ⟨fun _ => ⟨_, rfl, R2, kF (R2) (fl_C F2 c2.1 1) (fun F O h => (Or.inr ⟨y0, s1, e1, k1, tk1, Or.inr ⟨q, s2, e2, k2, tk2, Or.inl ⟨g1, h⟩⟩⟩))⟩, fun z => absurd rfl z⟩
  rcases g5 with ⟨g5, g6, g7⟩ | ⟨g5, g6, g7⟩
  · rw [g6, g7]
    exact ⟨fun _ => ⟨_, rfl, R2, kF (R2) (fl_C F2 c2.1 4) (fun F O h => (Or.inr ⟨y0, s1, e1, k1, tk1, Or.inr ⟨q, s2, e2, k2, tk2, Or.inr ⟨g1, v, g2, g3, Or.inl ⟨g5, h⟩⟩⟩⟩))⟩, fun z => absurd rfl z⟩
  · rw [g6, g7, g4]
    refine ⟨fun z => absurd z (by decide), fun _ => ?_⟩
    have C3 : CS c T n (aH A v) (si w2 (hA c) 0 (nI v)) := C2.sl
    have F3 : FrC c w (si w2 (hA c) 0 (nI v)) := F2.sh (Nat.le_refl _) (by omega)
    refine z_tok (w := si w2 (hA c) 0 (nI v)) R2 C3.1 ((wi_ne (by omega)).trans (c2.2.2.1 (by omega))) tk3 (fun w3 f3 c3 => ?_)
    exact ⟨_, rfl, f3.1.trans R2, kO (f3.1.trans R2) (C3.st f3) (c3) (F3.st f3) (fun F O h => (Or.inr ⟨y0, s1, e1, k1, tk1, Or.inr ⟨q, s2, e2, k2, tk2, Or.inr ⟨g1, v, g2, g3, Or.inr ⟨g5, s3, e3, k3, tk3, h⟩⟩⟩⟩))⟩
/-- the dance's row -/
def Fgl (x : Int32) : Prop := x = 116 ∨ x = 117 ∨ x = 114
def fgN (x : Int32) : Nat := if x = 116 then 0 else if x = 117 then 1 else 2
theorem fgN_2 (x : Int32) : fgN x ≤ 2 := by
  unfold fgN
  split
  · decide
  · split <;> decide
theorem fig_no {x : Int32} (h : vXX8_figureOf x = -1) : ¬ Fgl x := by
  rintro (rfl | rfl | rfl) <;> exact absurd h (by decide)
theorem fig_yes {x : Int32} (h : ¬ vXX8_figureOf x = -1) : Fgl x ∧ vXX8_figureOf x = nI (fgN x) := by
  unfold vXX8_figureOf at h ⊢
  unfold fgN
  by_cases c1 : x = 116
  · rw [if_pos c1, if_pos c1]
    exact ⟨Or.inl c1, rfl⟩
  · rw [if_neg c1] at h ⊢
    rw [if_neg c1]
    by_cases c2 : x = 117
    · rw [if_pos c2, if_pos c2]
      exact ⟨Or.inr (Or.inl c2), rfl⟩
    · rw [if_neg c2] at h ⊢
      rw [if_neg c2]
      by_cases c3 : x = 114
      · rw [if_pos c3]
        exact ⟨Or.inr (Or.inr c3), rfl⟩
      · rw [if_neg c3] at h
        exact absurd rfl h
def NR (c : Bool) (k : Nat) (w w' : Wd) : Prop := w'.2.2 = w.2.2 ∧ ∀ a i, ¬ (a = dA (hA c) k ∧ i = 1) → a ≠ dA (hA c) k + 1 → a ≠ dA (hA c) k + 2 → wi w' a i = wi w a i
theorem g_row {b c : Bool} {k : Nat} (hk : k < 5) {w0 : Wd} (hR : w0.2.2 = RTab b) {T : Nat → Int32} {n s e : Nat} (hT : TXC T n w0) (h5 : wi w0 1 5 = nI s) (h6 : wi w0 1 6 = nI (e - s)) (he : e ≤ n) (hL : e - s ≤ 12) {Q : Option Value → Wd → Prop} (c7 : ∀ j, j < e - s → ¬ Fgl (T (s + j)) → ∀ w', NR c k w0 w' → Q (some (.int 0)) (wXX8_fail 7 w')) (c1 : (∀ j, j < e - s → Fgl (T (s + j))) → ∀ w', NR c k w0 w' → wi w' (dA (hA c) k) 1 = nI (e - s) → (∀ j, j < e - s → wi w' (dA (hA c) k + 1) j = nI (fgN (T (s + j)))) → Q (some (.int 1)) w') : ∀ (r j : Nat) (w : Wd), j + r = e - s → NR c k w0 w → wi w (dA (hA c) k) 1 = nI j → (∀ i, i < j → wi w (dA (hA c) k + 1) i = nI (fgN (T (s + i))) ∧ Fgl (T (s + i))) → Go SC mX8_readRow 21 [(0, .ref 1), (1, .ref (dA (hA c) k)), (2, .int (nI j))] [] w Q := by
  have hb := hA3 c
  have hn := hT.1
  have hd : dA (hA c) k = hA c + 2 + 3 * k := rfl
  intro r
  induction r with
  | zero =>
    intro j w hj hN h1 hF
    have ej : j = e - s := by omega
    have e6 : wi w 1 6 = nI (e - s) := (hN.2 _ _ (by omega) (by omega) (by omega)).trans h6
    refine BX8_readRow_21 c k hk _ w b (hN.1.trans hR) Q ⟨fun _ => ?_, fun z => absurd (by rw [e6]; exact nI_le (by omega) (by omega)) z⟩
    exact c1 (fun i hi => (hF i (by omega)).2) w hN (h1.trans (by rw [ej])) (fun i hi => (hF i (by omega)).1)
  | succ r ih =>
    intro j w hj hN h1 hF
    have e6 : wi w 1 6 = nI (e - s) := (hN.2 _ _ (by omega) (by omega) (by omega)).trans h6
    have e5 : wi w 1 5 = nI s := (hN.2 _ _ (by omega) (by omega) (by omega)).trans h5
    have et : wi w 2 (s + j) = T (s + j) := (hN.2 _ _ (by omega) (by omega) (by omega)).trans (hT.2.2 _ (by omega))
    refine BX8_readRow_21 c k hk _ w b (hN.1.trans hR) Q ⟨fun z => absurd z (by rw [e6]; exact nI_ge (by omega) (by omega)), fun _ => ?_⟩
    rw [e5, nI_add, gf_in (by omega) (by decide), et, nI_1]
    refine ⟨fun z => c7 j (by omega) (fig_no z) w hN, fun z => ?_⟩
    obtain ⟨z1, z2⟩ := fig_yes z
    unfold wXX1_add
    rw [z2, h1, pf_in (by omega) (by decide)]
    have p1 : ∀ v, wi (si w (dA (hA c) k + 1) j v) (dA (hA c) k) 1 = nI j := fun v => (wi_ne (by omega)).trans h1
    rw [p1, nI_1]
    refine ih (j + 1) _ (by omega) ⟨hN.1, fun a i x y z => (wi_ne (by omega)).trans ((wi_ne (by omega)).trans (hN.2 a i x y z))⟩ (wi_self _ _ _ _) (fun i hi => ?_)
    by_cases ci : i = j
    · subst ci
      exact ⟨(wi_ne (by omega)).trans (wi_self _ _ _ _), z1⟩
    · exact ⟨(wi_ne (by omega)).trans ((wi_ne (by omega)).trans (hF i (by omega)).1), (hF i (by omega)).2⟩
theorem z_row {b c : Bool} {k : Nat} (hk : k < 5) {w : Wd} (hR : w.2.2 = RTab b) {T : Nat → Int32} {n p s e kd : Nat} (hT : TXC T n w) (hC : TC T s e kd w) (tk : Tok T n p s e kd) {Q : Int32 → Wd → Prop} (c0 : kd ≠ 1 → Q 0 (wXX8_fail 1 w)) (c7 : kd = 1 → ¬ (∀ j, j < e - s → Fgl (T (s + j))) → ∀ w', NR c k w w' → Q 0 (wXX8_fail 7 w')) (c1 : kd = 1 → (∀ j, j < e - s → Fgl (T (s + j))) → ∀ w', NR c k w w' → wi w' (dA (hA c) k) 1 = nI (e - s) → (∀ j, j < e - s → wi w' (dA (hA c) k + 1) j = nI (fgN (T (s + j)))) → Q 1 w') : ClI SC mX8_readRow [.ref 1, .ref (dA (hA c) k)] w (fun x w2 => w2.2.2 = RTab b ∧ Q x w2) := by
  have hb := hA3 c
  have hd : dA (hA c) k = hA c + 2 + 3 * k := rfl
  have tb := tok_b tk
  have ek : wi w 1 4 = 1 ↔ kd = 1 := by
    rw [hC.2.1]
    exact nI_eq (b := 1) (by omega) (by decide)
  refine TX8_readRow c k hk w b hR _ ⟨fun y => ?_, fun y => ⟨_, rfl, hR, c0 (fun z => y (ek.mpr z))⟩⟩
  have k1 := ek.mp y
  have h12 := (tb.2.2.2.2.1 k1).2
  rw [← nI_0]
  have N0 : NR c k w (si w (dA (hA c) k) 1 (nI 0)) := ⟨rfl, fun a i x y z => wi_ne (by omega)⟩
  refine g_row (w0 := si w (dA (hA c) k) 1 (nI 0)) hk hR (hT.s3 (Or.inl (by omega))) ((wi_ne (by omega)).trans hC.1) ((wi_ne (by omega)).trans (hC.2.2.2.1 k1)) tb.2.1 h12 (fun j hj z w' hN => ⟨_, rfl, hN.1.trans hR, ?_⟩) (fun hF w' hN g1 g2 => ⟨_, rfl, hN.1.trans hR, c1 k1 hF w' ⟨hN.1, fun a i x y z => (hN.2 a i x y z).trans (N0.2 a i x y z)⟩ g1 g2⟩) (e - s) 0 _ (by omega) ⟨rfl, fun _ _ _ _ _ => rfl⟩ (wi_self _ _ _ _) (fun i hi => absurd hi (Nat.not_lt_zero i))
  exact c7 k1 (fun z2 => z (z2 j hj)) w' ⟨hN.1, fun a i x y z => (hN.2 a i x y z).trans (N0.2 a i x y z)⟩
