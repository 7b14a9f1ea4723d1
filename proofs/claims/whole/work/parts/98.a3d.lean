/-! on -/
theorem l_dance {d n u : Nat} (hd : d < 5) (hn : n ≤ 12) (hu : u ≤ 4) {L M : Int32} {w0 : Wd} (hR : w0.2.2 = RM) (h2 : wi w0 3 2 = nI u) (hF : ∀ i, i < n → Fig (wi w0 3 (9 + 12 * d + i))) {Q : Option Value → Wd → Prop}
    (kk : ∀ w', TR w0 w' (run (fun i => wi w0 3 (9 + 12 * d + i)) (skR w0 L M d u) n) → Q none w') : ∀ (r j : Nat) (w : Wd), j + r = n → TR w0 w (run (fun i => wi w0 3 (9 + 12 * d + i)) (skR w0 L M d u) j) → Go SR mX11_dance 13 [(0, .ref 0), (1, .int (nI d)), (2, .int (nI n)), (3, .int L), (4, .int M), (5, .int (nI j))] [] w Q := by
  intro r
  induction r with
  | zero =>
    intro j w hj hT
    have : j = n := by omega
    subst this
    exact BX11_dance_13 _ _ _ _ _ w (hT.1.trans hR) Q ⟨fun _ => kk w hT, fun z => absurd (nI_le (Nat.le_refl j) (by omega)) z⟩
  | succ r ih =>
    intro j w hj hT
    have h3 : ∀ i, wi w 3 i = wi w0 3 i := fun i => hT.2.1 3 i (fun h => absurd h.1 (by decide))
    have es : skR w L M d u j = skR w0 L M d u j := by
      unfold skR
      rw [uo_ext h3]
    refine BX11_dance_13 _ _ _ _ _ w (hT.1.trans hR) Q ⟨fun z => absurd z (nI_ge (by omega) (by omega)), fun _ => ?_⟩
    rw [← nI_0]
    refine l_inner hd (by omega) hu (hT.1.trans hR) ((h3 2).trans h2) (fun z => ?_) (fun z => ?_) u 0 _ (by omega) ?_
    · refine ih (j + 1) w (by omega) ?_
      rw [run, if_pos (es.symm.trans z)]
      exact hT
    · have hb := run_bd (F := fun i => wi w0 3 (9 + 12 * d + i)) (sk := skR w0 L M d u) j (by omega) (fun i hi => hF i (by omega))
      refine z_figOn (by rw [h3]; exact hF j (by omega)) (hT.1.trans hR) (by rw [hT.2.2.2]; exact hb.2.2.1) (fun w' h => ih (j + 1) w' (by omega) ?_)
      rw [run, if_neg (by rw [← es, z]; decide)]
      rw [hT.2.2.1, hT.2.2.2, h3] at h
      exact hT.tr h
    · show (if vXX11_hasBit M (nI j) = nI 0 then 1 else nI 0 : Int32) = _
      rw [nI_0, uo, Bool.or_false]
      by_cases c : vXX11_hasBit M (nI j) = 0
      · rw [if_pos c, decide_eq_false (fun h => h c), if_neg (by decide)]
      · rw [if_neg c, decide_eq_true c, if_pos rfl]
theorem z_dance {d n u : Nat} (hd : d < 5) (hn : n ≤ 12) (hu : u ≤ 4) {L M : Int32} {w : Wd} (hR : w.2.2 = RM) (h2 : wi w 3 2 = nI u) (hF : ∀ i, i < n → Fig (wi w 3 (9 + 12 * d + i))) {Q : Wd → Prop} (kk : ∀ w', TR w w' (run (fun i => wi w 3 (9 + 12 * d + i)) (skR w L M d u) n) → Q w') : ClV SR mX11_dance [.ref 0, .int (nI d), .int (nI n), .int L, .int M] w (fun w2 => w2.2.2 = RM ∧ Q w2) := by
  refine TX11_dance _ _ _ _ w hR _ ?_
  rw [← nI_0]
  exact l_dance hd hn hu hR h2 hF (fun w' h => ⟨rfl, h.1.trans hR, kk w' h⟩) n 0 _ (by omega) (TR.put w 0 1)
