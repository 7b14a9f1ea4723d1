/-! on -/
def TR (w w' : Wd) (x : Int32 × Int32) : Prop := w'.2.2 = w.2.2 ∧ (∀ a i, ¬ (a = 0 ∧ (i = 23 ∨ i = 24)) → wi w' a i = wi w a i) ∧ wi w' 0 23 = x.1 ∧ wi w' 0 24 = x.2
theorem TR.tr {w w' w'' : Wd} {x y : Int32 × Int32} (h1 : TR w w' x) (h2 : TR w' w'' y) : TR w w'' y := ⟨h2.1.trans h1.1, fun a i h => (h2.2.1 a i h).trans (h1.2.1 a i h), h2.2.2⟩
theorem TR.same {w w' : Wd} {x : Int32 × Int32} (h : TR w w' x) : SameR w w' := ⟨h.1, fun a i hr => h.2.1 a i (fun e => by unfold relR at hr; omega)⟩
theorem TR.put (w : Wd) (o u : Int32) : TR w (si (si w 0 23 o) 0 24 u) (o, u) := ⟨rfl, fun a i h => (wi_ne (by omega)).trans (wi_ne (by omega)), (wi_ne (Or.inr (by decide))).trans (wi_self _ _ _ _), wi_self _ _ _ _⟩
theorem TR.put23 (w : Wd) (o : Int32) : TR w (si w 0 23 o) (o, wi w 0 24) := ⟨rfl, fun a i h => wi_ne (by omega), wi_self _ _ _ _, wi_ne (Or.inr (by decide))⟩
theorem TR.rf (w : Wd) : TR w w (wi w 0 23, wi w 0 24) := ⟨rfl, fun _ _ _ => rfl, rfl, rfl⟩
theorem fo2 (o u : Int32) : fo 2 (o, u) = (if o = 0 then 1 else if o ≤ 0 then u else -u, vXX11_away o) := rfl
theorem fo0 (o u : Int32) : fo 0 (o, u) = (o + u, u) := rfl
theorem fo1 (o u : Int32) : fo 1 (o, u) = (o - u, u) := rfl
theorem away0 (o : Int32) : vXX11_away o = 0 ↔ o = 0 := by
  unfold vXX11_away
  constructor
  · intro h
    split at h
    · exact h
    · exact (Int32.neg_neg (a := o)).symm.trans ((congrArg (fun z => -z) h).trans Int32.neg_zero)
  · rintro rfl
    rfl
theorem z_figOn {f : Int32} (hf : Fig f) {w : Wd} (hR : w.2.2 = RM) (hu : 0 ≤ (wi w 0 24).toInt) {Q : Wd → Prop} (k : ∀ w', TR w w' (fo f (wi w 0 23, wi w 0 24)) → Q w') : ClV SR mX11_figureOn [.ref 0, .int f] w (fun w2 => w2.2.2 = RM ∧ Q w2) := by
  refine TX11_figureOn f w hR _ ⟨fun q => ?_, fun q => ⟨fun z => ?_, fun z => ?_⟩⟩
  · subst q
    rw [fo2] at k
    rw [wi_self, away0]
    have hT := TR.put w (if 0 ≤ wi w 0 23 then -wi w 0 24 else wi w 0 24) (vXX11_away (wi w 0 23))
    refine ⟨fun z => ⟨rfl, hR, k _ ?_⟩, fun z => ⟨rfl, hR, k _ ?_⟩⟩
    · rw [if_pos z]
      have := hT.tr (TR.put23 _ 1)
      rw [wi_self] at this
      exact this
    · rw [if_neg z]
      have e : (if wi w 0 23 ≤ 0 then wi w 0 24 else -wi w 0 24 : Int32) = if 0 ≤ wi w 0 23 then -wi w 0 24 else wi w 0 24 := by
        by_cases c : wi w 0 23 ≤ 0
        · rw [if_pos c, if_neg (fun h => z (Int32.le_antisymm c h))]
        · rw [if_neg c, if_pos (Int32.le_of_lt (Int32.not_le.mp c))]
      rw [e]
      exact hT
  · have h0 : wi w 0 24 = 0 := by
      refine Int32.toInt_inj.mp ?_
      rw [Int32.le_iff_toInt_le] at z
      rw [Int32.toInt_zero] at z ⊢
      omega
    refine ⟨rfl, hR, k _ ?_⟩
    have := TR.rf w
    rcases hf with rfl | rfl | rfl
    · rw [fo0]
      rw [h0] at this ⊢
      rw [Int32.add_zero]
      exact this
    · rw [fo1]
      rw [h0] at this ⊢
      rw [Int32.sub_zero]
      exact this
    · exact absurd rfl q
  · refine ⟨rfl, hR, k _ ?_⟩
    rcases hf with rfl | rfl | rfl
    · rw [fo0, if_pos rfl]
      exact TR.put23 _ _
    · rw [fo1, if_neg (by decide), Int32.sub_eq_add_neg]
      exact TR.put23 _ _
    · exact absurd rfl q
