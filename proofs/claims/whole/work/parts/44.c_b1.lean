/-! acts: what is kept of the past, on both sides -/
def shf (a : Nat) : Nat := if a = 16 then 1 else 0
theorem shf_16 : shf 16 = 1 := rfl
theorem shf_lt {a : Nat} (h : a < 16) : shf a = 0 := if_neg (by omega)
theorem shf_le {a : Nat} (h : a ≤ 16) : a - shf a < 16 := by
  unfold shf
  split <;> omega
def S3 (w : Wd) (k : Nat) (v0 v1 v2 : Int32) : Wd := si (si (si w 50 k v0) 51 k v1) 52 k v2
theorem S3_0 (w : Wd) (k : Nat) (v0 v1 v2 : Int32) : wi (S3 w k v0 v1 v2) 50 k = v0 := (wi_ne (Or.inl (by decide))).trans ((wi_ne (Or.inl (by decide))).trans (wi_self _ _ _ _))
theorem S3_1 (w : Wd) (k : Nat) (v0 v1 v2 : Int32) : wi (S3 w k v0 v1 v2) 51 k = v1 := (wi_ne (Or.inl (by decide))).trans (wi_self _ _ _ _)
theorem S3_2 (w : Wd) (k : Nat) (v0 v1 v2 : Int32) : wi (S3 w k v0 v1 v2) 52 k = v2 := wi_self _ _ _ _
theorem S3_ne {w : Wd} {k : Nat} {v0 v1 v2 : Int32} {x i : Nat} (h : x < 50 ∨ 52 < x ∨ i ≠ k) : wi (S3 w k v0 v1 v2) x i = wi w x i := (wi_ne (by omega)).trans ((wi_ne (by omega)).trans (wi_ne (by omega)))
theorem in3 {x : Nat} (h1 : 50 ≤ x) (h2 : x ≤ 52) : x = 50 ∨ x = 51 ∨ x = 52 := by omega
/-- the rows of acts, their first k moved by one -/
def FE (w0 w : Wd) (k : Nat) : Prop := w.2.2 = w0.2.2 ∧ (∀ x i, x < 50 ∨ 52 < x → wi w x i = wi w0 x i) ∧ ∀ x, 50 ≤ x → x ≤ 52 → (∀ j, j < k → wi w x j = wi w0 x (j + 1)) ∧ ∀ j, k ≤ j → wi w x j = wi w0 x j
theorem l_forget {b : Bool} {w0 : Wd} (hR : w0.2.2 = RTab b) {a : Nat} (ha : a = 16) (h3 : wi w0 49 3 = nI a) {Q : Option Value → Wd → Prop} (kk : ∀ w', FE w0 w' (a - 1) → Q none (si w' 49 3 (nI (a - 1)))) : ∀ (r k : Nat) (w : Wd), k + 1 + r = a → FE w0 w k → Go SC mX4_forgetEldest 2 [(0, .ref 49), (1, .int (nI (k + 1)))] [] w Q := by
  intro r
  induction r with
  | zero =>
    intro k w hk hF
    have e : k + 1 = a := by omega
    have e3 : wi w 49 3 = nI (k + 1) := by rw [hF.2.1 49 3 (Or.inl (by decide)), h3, e]
    refine BX4_forgetEldest_2 _ w b (hF.1.trans hR) Q ⟨fun _ => ?_, fun z => absurd (by rw [e3]; exact nI_le (Nat.le_refl _) (by omega)) z⟩
    rw [e3, nI_pred]
    have := kk w (by rw [show a - 1 = k by omega]; exact hF)
    rw [show a - 1 = k by omega] at this
    exact this
  | succ r ih =>
    intro k w hk hF
    have e3 : wi w 49 3 = nI a := (hF.2.1 49 3 (Or.inl (by decide))).trans h3
    refine BX4_forgetEldest_2 _ w b (hF.1.trans hR) Q ⟨fun z => absurd z (by rw [e3]; exact nI_ge (by omega) (by omega)), fun _ => ?_⟩
    rw [nI_pred, gf_in (by omega) (by decide), pf_in (by omega) (by decide), gf_in (by omega) (by decide), pf_in (by omega) (by decide), gf_in (by omega) (by decide), pf_in (by omega) (by decide), nI_1]
    have e1 : wi (si w 50 k (wi w 50 (k + 1))) 51 (k + 1) = wi w 51 (k + 1) := wi_ne (Or.inl (by decide))
    have e2 : wi (si (si w 50 k (wi w 50 (k + 1))) 51 k (wi w 51 (k + 1))) 52 (k + 1) = wi w 52 (k + 1) := (wi_ne (Or.inl (by decide))).trans (wi_ne (Or.inl (by decide)))
    rw [e1, e2]
    refine ih (k + 1) _ (by omega) ⟨hF.1, fun x i hx => ?_, fun x h1 h2 => ⟨fun j hj => ?_, fun j hj => ?_⟩⟩
    · exact (S3_ne (by omega)).trans (hF.2.1 x i hx)
    · by_cases c : j = k
      · subst c
        have := (hF.2.2 x h1 h2).2 (j + 1) (by omega)
        rcases in3 h1 h2 with rfl | rfl | rfl
        · exact (S3_0 w j _ _ _).trans this
        · exact (S3_1 w j _ _ _).trans this
        · exact (S3_2 w j _ _ _).trans this
      · exact (S3_ne (Or.inr (Or.inr c))).trans ((hF.2.2 x h1 h2).1 j (by omega))
    · exact (S3_ne (Or.inr (Or.inr (by omega)))).trans ((hF.2.2 x h1 h2).2 j (by omega))
def KP (w w' : Wd) (a t : Nat) (v : Int32) : Prop := w'.2.2 = w.2.2 ∧ (∀ x i, x < 50 ∨ 52 < x → ¬ (x = 49 ∧ i = 3) → wi w' x i = wi w x i) ∧ wi w' 49 3 = nI (a - shf a + 1) ∧ (∀ j, j < a - shf a → ∀ x, 50 ≤ x → x ≤ 52 → wi w' x j = wi w x (j + shf a)) ∧ wi w' 50 (a - shf a) = v ∧ wi w' 51 (a - shf a) = wi w t 0 ∧ wi w' 52 (a - shf a) = wi w t 1
theorem keepW {w : Wd} {t k : Nat} {v : Int32} (h3 : wi w 49 3 = nI k) (hk : k < 16) (ht : t < 49) : si (pf (pf (pf w 50 16 (wi w 49 3) v) 51 16 (wi (pf w 50 16 (wi w 49 3) v) 49 3) (wi (pf w 50 16 (wi w 49 3) v) t 0)) 52 16 (wi (pf (pf w 50 16 (wi w 49 3) v) 51 16 (wi (pf w 50 16 (wi w 49 3) v) 49 3) (wi (pf w 50 16 (wi w 49 3) v) t 0)) 49 3) (wi (pf (pf w 50 16 (wi w 49 3) v) 51 16 (wi (pf w 50 16 (wi w 49 3) v) 49 3) (wi (pf w 50 16 (wi w 49 3) v) t 0)) t 1)) 49 3 ((wi (pf (pf (pf w 50 16 (wi w 49 3) v) 51 16 (wi (pf w 50 16 (wi w 49 3) v) 49 3) (wi (pf w 50 16 (wi w 49 3) v) t 0)) 52 16 (wi (pf (pf w 50 16 (wi w 49 3) v) 51 16 (wi (pf w 50 16 (wi w 49 3) v) 49 3) (wi (pf w 50 16 (wi w 49 3) v) t 0)) 49 3) (wi (pf (pf w 50 16 (wi w 49 3) v) 51 16 (wi (pf w 50 16 (wi w 49 3) v) 49 3) (wi (pf w 50 16 (wi w 49 3) v) t 0)) t 1)) 49 3) + 1) = si (S3 w k v (wi w t 0) (wi w t 1)) 49 3 (nI (k + 1)) := by
  have q1 : wi (si w 50 k v) 49 3 = nI k := (wi_ne (Or.inl (by decide))).trans h3
  have q2 : wi (si w 50 k v) t 0 = wi w t 0 := wi_ne (Or.inl (by omega))
  have q3 : wi (si (si w 50 k v) 51 k (wi w t 0)) 49 3 = nI k := (wi_ne (Or.inl (by decide))).trans q1
  have q4 : wi (si (si w 50 k v) 51 k (wi w t 0)) t 1 = wi w t 1 := (wi_ne (Or.inl (by omega))).trans (wi_ne (Or.inl (by omega)))
  have q5 : wi (si (si (si w 50 k v) 51 k (wi w t 0)) 52 k (wi w t 1)) 49 3 = nI k := (wi_ne (Or.inl (by decide))).trans q3
  rw [h3, pf_in hk (by decide), q1, q2, pf_in hk (by decide), q3, q4, pf_in hk (by decide), q5, nI_1]
  rfl
theorem z_keep {b : Bool} {w : Wd} (hR : w.2.2 = RTab b) {t : Nat} (ht : SC[t]? = some (.inl 6)) (ht9 : t < 49) {a : Nat} (ha : a ≤ 16) (h3 : wi w 49 3 = nI a) {v : Int32} {Q : Wd → Prop} (kk : ∀ w', KP w w' a t v → Q w') : ClV SC mX4_keep [.ref 49, .int v, .ref t] w (fun w2 => w2.2.2 = RTab b ∧ Q w2) := by
  refine TX4_keep v t ht w b hR _ ⟨fun z => ?_, fun z => ?_⟩
  · have hlt : a < 16 := by
      rw [h3] at z
      exact (nI_ltI (b := 16) (by omega) (by decide)).mp z
    rw [keepW h3 hlt ht9]
    refine ⟨rfl, hR, kk _ ?_⟩
    unfold KP
    rw [shf_lt hlt, Nat.sub_zero]
    refine ⟨rfl, fun x i hx h => (wi_ne (by omega)).trans (S3_ne (by omega)), wi_self _ _ _ _, fun j hj x h1 h2 => ?_, ?_, ?_, ?_⟩
    · rw [Nat.add_zero]
      exact (wi_ne (by omega)).trans (S3_ne (by omega))
    · exact (wi_ne (by omega)).trans (S3_0 _ _ _ _ _)
    · exact (wi_ne (by omega)).trans (S3_1 _ _ _ _ _)
    · exact (wi_ne (by omega)).trans (S3_2 _ _ _ _ _)
  · have h16 : a = 16 := by
      have : ¬ a < 16 := fun h => z (by rw [h3]; exact nI_lt (b := 16) h (by decide))
      omega
    subst h16
    refine TX4_forgetEldest w b hR _ ?_
    refine l_forget hR rfl h3 (fun w1 hF => ⟨rfl, hF.1.trans hR, ?_⟩) 15 0 w rfl ⟨rfl, fun _ _ _ => rfl, fun x h1 h2 => ⟨fun j hj => absurd hj (Nat.not_lt_zero j), fun _ _ => rfl⟩⟩
    rw [keepW (k := 15) (wi_self _ _ _ _) (by decide) ht9]
    refine ⟨rfl, hF.1.trans hR, kk _ ?_⟩
    have q0 : ∀ i, wi (si w1 49 3 (nI 15)) t i = wi w t i := fun i => (wi_ne (Or.inl (by omega))).trans (hF.2.1 t i (Or.inl (by omega)))
    refine ⟨hF.1, fun x i hx h => (wi_ne (by omega)).trans ((S3_ne (by omega)).trans ((wi_ne (by omega)).trans (hF.2.1 x i hx))), wi_self _ _ _ _, fun j hj x h1 h2 => ?_, ?_, ?_, ?_⟩
    · have hj : j < 15 := hj
      exact (wi_ne (by omega)).trans ((S3_ne (by omega)).trans ((wi_ne (by omega)).trans ((hF.2.2 x h1 h2).1 j hj)))
    · exact (wi_ne (Or.inl (by decide))).trans (S3_0 _ 15 _ _ _)
    · exact (wi_ne (Or.inl (by decide))).trans ((S3_1 _ 15 _ _ _).trans (q0 0))
    · exact (wi_ne (Or.inl (by decide))).trans ((S3_2 _ 15 _ _ _).trans (q0 1))
def BC (b : Bool) (w w' : Wd) (d a : Nat) (o u : Int32) : Prop := w'.2.2 = w.2.2 ∧ (∀ x i, x < 50 ∨ 52 < x → ¬ (x = 49 ∧ i = 3) → x ≠ dA (hA b) d + 2 → wi w' x i = wi w x i) ∧ wi w' (dA (hA b) d + 2) 0 = o ∧ wi w' (dA (hA b) d + 2) 1 = u ∧ wi w' 49 3 = nI (a - shf a + 1) ∧ (∀ j, j < a - shf a → ∀ x, 50 ≤ x → x ≤ 52 → wi w' x j = wi w x (j + shf a)) ∧ wi w' 50 (a - shf a) = nI d ∧ wi w' 51 (a - shf a) = wi w (dA (hA b) d + 2) 0 ∧ wi w' 52 (a - shf a) = wi w (dA (hA b) d + 2) 1
theorem z_become {b : Bool} {w : Wd} (hR : w.2.2 = RTab b) {d : Nat} (hd : d < 5) {a : Nat} (ha : a ≤ 16) (h3 : wi w 49 3 = nI a) {o u : Int32} {Q : Wd → Prop} (kk : ∀ w', BC b w w' d a o u → Q w') : ClV SC mX10_become [.ref 0, .int (nI d), .ref (dA (hA b) d + 2), .int o, .int u] w (fun w2 => w2.2.2 = RTab b ∧ Q w2) := by
  have hlt := dA_lq b hd
  have ne : ∀ x, 49 ≤ x → x ≠ dA (hA b) d + 2 := fun x h => by omega
  refine TX10_become _ _ (sh_dn b hd) o u w b hR _ (z_keep hR (sh_dn b hd) (by omega) ha h3 fun w' h => ⟨rfl, h.1.trans hR, kk _ ?_⟩)
  have q : ∀ x i, x ≠ dA (hA b) d + 2 → wi (wXX7_put (dA (hA b) d + 2) o u w') x i = wi w' x i := fun x i hx => (wi_ne (Or.inl hx)).trans (wi_ne (Or.inl hx))
  obtain ⟨h1, h2, h3, h4, h5, h6, h7⟩ := h
  exact ⟨h1, fun x i g1 g2 g3 => (q x i g3).trans (h2 x i g1 g2), (wi_ne (Or.inr (by decide))).trans (wi_self _ _ _ _), wi_self _ _ _ _, (q 49 3 (ne 49 (by decide))).trans h3, fun j hj x g1 g2 => (q x j (ne x (by omega))).trans (h4 j hj x g1 g2), (q 50 _ (ne 50 (by decide))).trans h5, (q 51 _ (ne 51 (by decide))).trans h6, (q 52 _ (ne 52 (by decide))).trans h7⟩
/-! the reference's -/
def NT (w0 w : Wd) (l : Nat) : Prop := w.2.2 = w0.2.2 ∧ (∀ x i, x ≠ 6 → wi w x i = wi w0 x i) ∧ (∀ i, i < l → wi w 6 i = wi w0 6 (i + 10)) ∧ ∀ i, l ≤ i → wi w 6 i = wi w0 6 i
def NP (w w' : Wd) (a : Nat) : Prop := w'.2.2 = w.2.2 ∧ (∀ x i, x ≠ 6 → ¬ (x = 0 ∧ i = 21) → wi w' x i = wi w x i) ∧ wi w' 0 21 = nI (a - shf a + 1) ∧ (∀ i, i < 10 * (a - shf a) → wi w' 6 i = wi w 6 (i + 10 * shf a)) ∧ ∀ i, i < 10 → wi w' 6 (10 * (a - shf a) + i) = wi w 5 i
theorem l_note {w0 : Wd} (hR : w0.2.2 = RM) {Q : Option Value → Wd → Prop} (kk : ∀ w', NT w0 w' 150 → ClV SR mX11_copy [.ref 5, .int 0, .ref 6, .int (10 * (wi (si w' 0 21 ((wi w' 0 21) - 1)) 0 21)), .int 10] (si w' 0 21 ((wi w' 0 21) - 1)) (fun w1 => w1.2.2 = RM ∧ Q none (si w1 0 21 ((wi w1 0 21) + 1)))) : ∀ (r l : Nat) (w : Wd), l + r = 150 → NT w0 w l → Go SR mX11_note 11 [(0, .ref 0), (1, .int (nI l))] [] w Q := by
  intro r
  induction r with
  | zero =>
    intro l w hl hN
    have e : l = 150 := by omega
    subst e
    exact BX11_note_11 _ w (hN.1.trans hR) Q ⟨fun _ => kk w hN, fun z => absurd (show (150 : Int32) ≤ nI 150 from nI_le (a := 150) (Nat.le_refl _) (by decide)) z⟩
  | succ r ih =>
    intro l w hl hN
    refine BX11_note_11 _ w (hN.1.trans hR) Q ⟨fun z => absurd z (nI_ge (b := 150) (by omega) (by decide)), fun _ => ⟨?_, nI_in (by omega) (by decide), ?_⟩⟩
    · rw [show (10 : Int32) = nI 10 from rfl, nI_add]
      exact nI_in (by omega) (by decide)
    · rw [show (10 : Int32) = nI 10 from rfl, nI_add, nI_clamp (by omega), nI_clamp (by omega), nI_1]
      refine ih (l + 1) _ (by omega) ⟨hN.1, fun x i hx => (wi_ne (Or.inl hx)).trans (hN.2.1 x i hx), fun i hi => ?_, fun i hi => (wi_ne (Or.inr (by omega))).trans (hN.2.2.2 i (by omega))⟩
      by_cases c : i = l
      · subst c
        exact (wi_self _ _ _ _).trans (hN.2.2.2 (i + 10) (by omega))
      · exact (wi_ne (Or.inr c)).trans (hN.2.2.1 i (by omega))
theorem z_note {w : Wd} (hR : w.2.2 = RM) {a : Nat} (ha : a ≤ 16) (h21 : wi w 0 21 = nI a) {Q : Wd → Prop} (kk : ∀ w', NP w w' a → Q w') : ClV SR mX11_note [.ref 0] w (fun w2 => w2.2.2 = RM ∧ Q w2) := by
  refine TX11_note w hR _ ⟨fun z => ?_, fun z => ?_⟩
  · have h16 : a = 16 := by
      rw [h21] at z
      exact (nI_eq (b := 16) (by omega) (by decide)).mp z
    obtain ⟨k, hk⟩ : ∃ k, a = k + 1 := ⟨15, h16⟩
    have hk15 : k = 15 := by omega
    have hs1 : shf a = 1 := by rw [h16]; rfl
    rw [← nI_0]
    refine l_note hR (fun w1 hN => ?_) 150 0 w rfl ⟨rfl, fun _ _ _ => rfl, fun i hi => absurd hi (Nat.not_lt_zero i), fun _ _ => rfl⟩
    have e21 : wi w1 0 21 = nI (k + 1) := (hN.2.1 0 21 (by decide)).trans (by rw [h21, hk])
    have hw1 : w1.2.2 = RM := hN.1.trans hR
    rw [e21, nI_pred, wi_self, n10]
    refine z_copy (s := 0) (t := 10 * k) (L := 10) (a1 := 5) (a3 := 6) rfl rfl (by decide) (by decide) (by omega) (by decide) (by decide) (w := si w1 0 21 (nI k)) hw1 (fun w2 hC => ?_)
    have e2 : wi w2 0 21 = nI k := (hC.2.2 0 21 (Or.inl (by decide))).trans (wi_self _ _ _ _)
    rw [e2, nI_1]
    refine ⟨rfl, (show w2.2.2 = RM from hC.1.trans hw1), kk _ ?_⟩
    unfold NP
    rw [hs1, show a - 1 = k by omega]
    refine ⟨hC.1.trans hN.1, fun x i hx h => (wi_ne (by omega)).trans ((hC.2.2 x i (Or.inl hx)).trans ((wi_ne (by omega)).trans (hN.2.1 x i hx))), wi_self _ _ _ _, fun i hi => ?_, fun i hi => ?_⟩
    · exact (wi_ne (Or.inl (by decide))).trans ((hC.2.2 6 i (Or.inr (Or.inl hi))).trans ((wi_ne (Or.inl (by decide))).trans (hN.2.2.1 i (by omega))))
    · have := hC.2.1 i hi
      rw [Nat.zero_add] at this
      exact (wi_ne (Or.inl (by decide))).trans (this.trans ((wi_ne (Or.inl (by decide))).trans (hN.2.1 5 i (by decide))))
  · have hlt : a < 16 := by
      have : a ≠ 16 := fun e => z (by rw [h21, e]; rfl)
      omega
    rw [h21, n10]
    refine z_copy (s := 0) (L := 10) (a1 := 5) (a3 := 6) rfl rfl (by decide) (by decide) (by omega) (by decide) (by decide) hR (fun w2 hC => ?_)
    have e2 : wi w2 0 21 = nI a := (hC.2.2 0 21 (Or.inl (by decide))).trans h21
    rw [e2, nI_1]
    refine ⟨rfl, (show w2.2.2 = RM from hC.1.trans hR), kk _ ?_⟩
    unfold NP
    rw [shf_lt hlt, Nat.sub_zero]
    refine ⟨hC.1, fun x i hx h => (wi_ne (by omega)).trans (hC.2.2 x i (Or.inl hx)), wi_self _ _ _ _, fun i hi => ?_, fun i hi => ?_⟩
    · exact (wi_ne (Or.inl (by decide))).trans (hC.2.2 6 i (Or.inr (Or.inl hi)))
    · have := hC.2.1 i hi
      rw [Nat.zero_add] at this
      exact (wi_ne (Or.inl (by decide))).trans this
def BR (w w' : Wd) (d a : Nat) : Prop := w'.2.2 = w.2.2 ∧ (∀ x i, x ≠ 5 → x ≠ 6 → x ≠ 8 → ¬ (x = 0 ∧ (i = 21 ∨ i = 26)) → wi w' x i = wi w x i) ∧ wi w' 5 d = wi w 0 23 ∧ wi w' 5 (5 + d) = wi w 0 24 ∧ (∀ i, i ≠ d → i ≠ 5 + d → wi w' 5 i = wi w 5 i) ∧ wi w' 0 21 = nI (a - shf a + 1) ∧ (∀ i, i < 10 * (a - shf a) → wi w' 6 i = wi w 6 (i + 10 * shf a)) ∧ ∀ i, i < 10 → wi w' 6 (10 * (a - shf a) + i) = wi w 5 i
theorem z_becomes {w : Wd} (hR : w.2.2 = RM) {d : Nat} (hd : d < 5) {a : Nat} (ha : a ≤ 16) (h21 : wi w 0 21 = nI a) (hs : Sm (wi w 0 23) (wi w 0 24)) {Q : Int32 → Wd → Prop} (kk : ∀ w', BR w w' d a → Q (nI (fparts (wi w 0 23) (wi w 0 24)).sum) w') : ClI SR mX11_becomes [.ref 0, .int (nI d)] w (fun x w2 => w2.2.2 = RM ∧ Q x w2) := by
  refine TX11_becomes _ w hR _ (z_note hR ha h21 fun w1 hN => ⟨nI_in (by omega) (by decide), by rw [n5]; exact nI_in (by omega) (by decide), ?_⟩)
  obtain ⟨h1, h2, h3, h4, h5⟩ := hN
  have e23 : wi w1 0 23 = wi w 0 23 := h2 0 23 (by decide) (by decide)
  have e24 : wi (si w1 5 d (wi w 0 23)) 0 24 = wi w 0 24 := (wi_ne (Or.inl (by decide))).trans (h2 0 24 (by decide) (by decide))
  rw [n5, nI_clamp (by omega), nI_clamp (by omega), e23, e24]
  have f23 : wi (si (si w1 5 d (wi w 0 23)) 5 (5 + d) (wi w 0 24)) 0 23 = wi w 0 23 := (wi_ne (Or.inl (by decide))).trans ((wi_ne (Or.inl (by decide))).trans e23)
  have f24 : wi (si (si w1 5 d (wi w 0 23)) 5 (5 + d) (wi w 0 24)) 0 24 = wi w 0 24 := (wi_ne (Or.inl (by decide))).trans e24
  refine z_lay (w := si (si w1 5 d (wi w 0 23)) 5 (5 + d) (wi w 0 24)) (h1.trans hR) (by rw [f23, f24]; exact hs) (fun w2 hL _ _ => ⟨_, rfl, hL.1.trans (h1.trans hR), ?_⟩)
  rw [f23, f24]
  have q : ∀ x i, x ≠ 5 → x ≠ 8 → ¬ (x = 0 ∧ i = 26) → wi w2 x i = wi w1 x i := fun x i g1 g2 g3 => (hL.2 x i g2 g3).trans ((wi_ne (Or.inl g1)).trans (wi_ne (Or.inl g1)))
  refine kk w2 ⟨hL.1.trans h1, fun x i g1 g2 g3 g4 => (q x i g1 g3 (by omega)).trans (h2 x i g2 (by omega)), ?_, ?_, fun i g1 g2 => ?_, (q 0 21 (by decide) (by decide) (by decide)).trans h3, fun i hi => (q 6 i (by decide) (by decide) (by omega)).trans (h4 i hi), fun i hi => (q 6 _ (by decide) (by decide) (by omega)).trans (h5 i hi)⟩
  · exact (hL.2 5 d (by decide) (by omega)).trans ((wi_ne (Or.inr (by omega))).trans (wi_self _ _ _ _))
  · exact (hL.2 5 _ (by decide) (by omega)).trans (wi_self _ _ _ _)
  · exact (hL.2 5 i (by decide) (by omega)).trans ((wi_ne (Or.inr g2)).trans ((wi_ne (Or.inr g1)).trans (h2 5 i (by decide) (by omega))))
/-- the relation behind an act -/
theorem act_rel {b : Bool} {wc wr wc' w wr' : Wd} {n d a : Nat} {o u : Int32} (hN : RelN b wc wr n) (hd : d < n) (ha : a ≤ 16) (ha3 : wi wc 49 3 = nI a) (hC : BC b wc wc' d a o u) (hS : SameR wr w) (hB : BR w wr' d a) (e23 : wi w 0 23 = o) (e24 : wi w 0 24 = u) (hF : Frac o u) (h11 : wi wr' 0 11 = 0) {w2 : Wd} (hw2 : ∀ x i, x ≠ 0 → wi w2 x i = wi wc' x i) (hw2R : w2.2.2 = wc'.2.2) (hw10 : wi w2 0 10 = 0) : Rel b w2 wr' := by
  obtain ⟨g1, g2, g3, g4, g5, g6, ⟨uu, ee, f1, f2, f3, f4, f5, f6, f7, f8, f9, f10, f11, f12, f13, f14, f15, f16, f17⟩, a2, g, p1, p2, p3, p4, p5, p6, p7, p8, p9⟩ := id hN
  have hea : a2 = a := by
    rw [ha3] at p3
    exact ((nI_eq (by omega) (by omega)).mp p3).symm
  subst hea
  obtain ⟨c1, c2, c3, c4, c5, c6, c7, c8, c9⟩ := hC
  obtain ⟨r1, r2, r3, r4, r5, r6, r7, r8⟩ := hB
  have hlt := dA_lq b (d := d) (by omega)
  have hge := dA_ge b d
  have hsl := shf_le ha
  have kC : ∀ x i, x ≠ 0 → x < 50 ∨ 52 < x → ¬ (x = 49 ∧ i = 3) → x ≠ dA (hA b) d + 2 → wi w2 x i = wi wc x i := fun x i h0 h1 h2 h3 => (hw2 x i h0).trans (c2 x i h1 h2 h3)
  have kR : ∀ x i, relR x i → x ≠ 5 → x ≠ 6 → ¬ (x = 0 ∧ i = 21) → wi wr' x i = wi wr x i := fun x i h0 h1 h2 h3 => (r2 x i h1 h2 (fun e => by unfold relR at h0; omega) (by unfold relR at h0; omega)).trans (hS.2 x i h0)
  have w5 : ∀ i, wi w 5 i = wi wr 5 i := fun i => hS.2 5 i (Or.inr (by decide))
  have w6 : ∀ i, wi w 6 i = wi wr 6 i := fun i => hS.2 6 i (Or.inr (by decide))
  have hdne : ∀ k, k < n → k ≠ d → dA (hA b) k + 2 ≠ dA (hA b) d + 2 := fun k hk h => by unfold dA; omega
  refine rel_past hN (hw2R.trans c1) (fun x i h1 h2 h3 => kC x i (by omega) (by omega) (by omega) (h3 d (by omega))) (r1.trans hS.1) (kR 0 2 (by unfold relR; decide) (by decide) (by decide) (by decide)) (kR 0 9 (by unfold relR; decide) (by decide) (by decide) (by decide)) (kR 0 10 (by unfold relR; decide) (by decide) (by decide) (by decide)) (kR 0 15 (by unfold relR; decide) (by decide) (by decide) (by decide)) (fun i => kR 1 i (by unfold relR; omega) (by decide) (by decide) (by omega)) (fun i => kR 3 i (by unfold relR; omega) (by decide) (by decide) (by omega)) (hw10.trans h11.symm) (fun z => by rw [h11] at z; exact absurd z (by decide)) (fun k hk => ?_) ?_
  · by_cases c : k = d
    · subst c
      rw [hw2 _ 0 (by omega), hw2 _ 1 (by omega), c3, c4, r3, r4, e23, e24]
      exact ⟨rfl, rfl, hF⟩
    · have hltk := dA_lq b (d := k) (by omega)
      obtain ⟨m, m1, m2, m3, m4, m5, m6, m7, m8⟩ := f15 k hk
      rw [kC _ 0 (by omega) (by omega) (by omega) (hdne k hk c), kC _ 1 (by omega) (by omega) (by omega) (hdne k hk c), r5 k c (by omega), r5 (5 + k) (by omega) (by omega), w5, w5]
      exact ⟨m6, m7, m8⟩
  · refine ⟨a2 - shf a2 + 1, g, by omega, p2, (hw2 49 3 (by decide)).trans c5, r6, (kC 49 6 (by decide) (by decide) (by decide) (by omega)).trans p5, (kR 0 22 (by unfold relR; decide) (by decide) (by decide) (by decide)).trans p6, fun z => by omega, fun j hj => ?_, fun j hj k hk => ?_⟩
    · by_cases c : j = a2 - shf a2
      · refine ⟨d, hd, by rw [c, hw2 50 _ (by decide)]; exact c7, fun k hk => ?_⟩
        have hk5 : k < 5 := by omega
        obtain ⟨m, m1, m2, m3, m4, m5, m6, m7, m8⟩ := f15 k hk
        have y1 := r8 k (by omega)
        have y2 := r8 (5 + k) (by omega)
        rw [w5] at y1 y2
        rw [← Nat.add_assoc] at y2
        rw [c, y1, y2]
        refine ⟨m8, ?_, ?_⟩
        · by_cases ck : k = d
          · rw [if_pos ck, hw2 51 _ (by decide), c8, ck]
            rw [ck] at m6
            exact m6.symm
          · rw [if_neg ck, if_neg (by omega), r5 k ck (by omega), w5]
        · by_cases ck : k = d
          · rw [if_pos ck, hw2 52 _ (by decide), c9, ck]
            rw [ck] at m7
            exact m7.symm
          · rw [if_neg ck, if_neg (by omega), r5 (5 + k) (by omega) (by omega), w5]
      · have hj2 : j < a2 - shf a2 := by omega
        obtain ⟨d2, hd2, q1, q2⟩ := p8 (j + shf a2) (by omega)
        refine ⟨d2, hd2, by rw [hw2 50 _ (by decide), c6 j hj2 50 (by decide) (by decide)]; exact q1, fun k hk => ?_⟩
        obtain ⟨q3, q4, q5⟩ := q2 k hk
        have hk5 : k < 5 := by omega
        have y1 := r7 (10 * j + k) (by omega)
        have y2 := r7 (10 * j + 5 + k) (by omega)
        rw [w6, show 10 * j + k + 10 * shf a2 = 10 * (j + shf a2) + k by omega] at y1
        rw [w6, show 10 * j + 5 + k + 10 * shf a2 = 10 * (j + shf a2) + 5 + k by omega] at y2
        rw [y1, y2, hw2 51 _ (by decide), hw2 52 _ (by decide), c6 j hj2 51 (by decide) (by decide), c6 j hj2 52 (by decide) (by decide), if_pos (show j + 1 < a2 - shf a2 + 1 by omega), if_pos (show j + 1 < a2 - shf a2 + 1 by omega)]
        refine ⟨q3, ?_, ?_⟩
        · rw [q4]
          by_cases ck : k = d2
          · rw [if_pos ck, if_pos ck]
          · rw [if_neg ck, if_neg ck]
            by_cases cl : j + 1 = a2 - shf a2
            · have y3 := r8 k (by omega)
              rw [w5] at y3
              rw [if_neg (by omega), cl, y3]
            · have y3 := r7 (10 * (j + 1) + k) (by omega)
              rw [w6, show 10 * (j + 1) + k + 10 * shf a2 = 10 * (j + shf a2 + 1) + k by omega] at y3
              rw [if_pos (by omega), y3]
        · rw [q5]
          by_cases ck : k = d2
          · rw [if_pos ck, if_pos ck]
          · rw [if_neg ck, if_neg ck]
            by_cases cl : j + 1 = a2 - shf a2
            · have y3 := r8 (5 + k) (by omega)
              rw [w5, ← Nat.add_assoc] at y3
              rw [if_neg (by omega), cl, y3]
            · have y3 := r7 (10 * (j + 1) + 5 + k) (by omega)
              rw [w6, show 10 * (j + 1) + 5 + k + 10 * shf a2 = 10 * (j + shf a2 + 1) + 5 + k by omega] at y3
              rw [if_pos (by omega), y3]
    · have y := p9 j hj k hk
      rw [kC 53 _ (by decide) (by decide) (by omega) (by omega), kC 54 _ (by decide) (by decide) (by omega) (by omega), kR 7 _ (by unfold relR; omega) (by decide) (by decide) (by omega), kR 7 _ (by unfold relR; omega) (by decide) (by decide) (by omega)]
      exact y
/-- what an act needs of the relation -/
theorem relN_a {b : Bool} {wc wr : Wd} {n : Nat} (h : RelN b wc wr n) : n ≤ 5 ∧ wi wc (hA b) 2 = nI n ∧ wi wr 3 1 = nI n ∧ wi wr 0 15 = (if n = 0 then 0 else 1) ∧ (∀ d : Nat, d < n → DanceRel b wc wr d) ∧ ∃ a : Nat, a ≤ 16 ∧ wi wc 49 3 = nI a ∧ wi wr 0 21 = nI a := by
  obtain ⟨g1, g2, g3, g4, g5, g6, ⟨uu, ee, f1, f2, f3, f4, f5, f6, f7, f8, f9, f10, f11, f12, f13, f14, f15, f16, f17⟩, a2, g, p1, p2, p3, p4, p5, p6, p7, p8, p9⟩ := h
  exact ⟨f1, f4, f5, f6, f15, a2, p1, p3, p4⟩
