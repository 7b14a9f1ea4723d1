/-! led at the law -/
theorem l_ref {w : Wd} (hR : w.2.2 = RM) {N : Nat} (hN : N ≤ 5) (h15 : wi w 0 15 = (if N = 0 then 0 else 1)) (h31 : wi w 3 1 = nI N) {i : Int32} {u : Nat → Bool} (hu : ∀ d, d < N → (u d = true ↔ wi w 5 d = 0)) {Q : Option Value → Wd → Prop} : ∀ (r d k : Nat), d + r = N → k ≤ d → (∀ x, ldG u i r d k = some x → Q (some (.int (nI x))) (si w 0 0 0)) → (ldG u i r d k = none → Q (some (.int 0)) (si w 0 0 1)) → Go SR mX11_led 4 [(0, .ref 0), (1, .int i), (2, .int (nI k)), (3, .int (nI d))] [] w Q := by
  intro r
  induction r with
  | zero =>
    intro d k hd hk kq kp
    refine BX11_led_4 i (nI k) (nI d) w hR Q ⟨fun _ => kp rfl, fun _ => ⟨fun _ => kp rfl, fun z => absurd ?_ z⟩⟩
    rw [h31]
    exact nI_le (by omega) (by omega)
  | succ r ih =>
    intro d k hd hk kq kp
    have hdn : d < N := by omega
    refine BX11_led_4 i (nI k) (nI d) w hR Q ⟨fun z => ?_, fun _ => ⟨fun z => absurd z (by rw [h31]; exact nI_ge hdn (by omega)), fun _ => ⟨vin (nI_pos' (by omega)) (by rw [nI_clamp (by omega)]; omega), ?_⟩⟩⟩
    · rw [h15, if_neg (by omega)] at z
      exact absurd z (by decide)
    · rw [nI_clamp (show d < 2 ^ 31 by omega), nI_1, nI_1]
      refine ⟨fun z => ?_, fun z => ?_⟩
      · have ud : u d = true := (hu d hdn).mpr z
        refine ⟨fun y => ?_, fun y => ?_⟩
        · exact kq d (by rw [ldG, if_pos ud, if_pos y])
        · have e : ldG u i (r + 1) d k = ldG u i r (d + 1) (k + 1) := by rw [ldG, if_pos ud, if_neg y]
          rw [e] at kq kp
          exact ih (d + 1) (k + 1) (by omega) (by omega) kq kp
      · have ud : ¬ u d = true := fun y => z ((hu d hdn).mp y)
        have e : ldG u i (r + 1) d k = ldG u i r (d + 1) k := by rw [ldG, if_neg ud]
        rw [e] at kq kp
        exact ih (d + 1) k (by omega) (by omega) kq kp
theorem kL_287 : CAt R_law 287 mX11_led 1 := ⟨Or.inl (inT 1893 (by decide +kernel) rfl), inT 1896 (by decide +kernel) rfl, inT 11 (by decide +kernel) rfl, ⟨by decide +kernel, by decide +kernel⟩, by decide +kernel, Nat.le_of_ble_eq_true rfl⟩
theorem vL_287 : Cond.instanceMethod mX11_led.1 ∈ TBL ∧ Cond.selects mX11_led.1.cls mX11_led.1 mX11_led.1 ∈ TBL := ⟨inT 1894 (by decide +kernel) rfl, inT 1895 (by decide +kernel) rfl⟩
theorem kL_288 : CAt R_law 288 mX11_thrown 0 := ⟨Or.inl (inT 1354 (by decide +kernel) rfl), inT 1357 (by decide +kernel) rfl, inT 11 (by decide +kernel) rfl, ⟨by decide +kernel, by decide +kernel⟩, by decide +kernel, Nat.le_of_ble_eq_true rfl⟩
theorem vL_288 : Cond.instanceMethod mX11_thrown.1 ∈ TBL ∧ Cond.selects mX11_thrown.1.cls mX11_thrown.1 mX11_thrown.1 ∈ TBL := ⟨inT 1355 (by decide +kernel) rfl, inT 1356 (by decide +kernel) rfl⟩
theorem led_end {L n : Nat} {xs : Nat → Int32} {lv : List (Nat × Value)} {wc wr : Wd} {o : Int64} {y : Int32} {lv2 : List (Nat × Value)} (hlv : lvS 6 (.int y) lv = lv2) (hn9 : n ≤ 1000) (q5 : Nat) {r : Int32} (h2 : lv2[q5]? = some (5, .int r)) (q6 : Nat) (h6 : lv2[q6]? = some (6, .int y)) (q2 : Nat) (hr2 : lv2[q2]? = some (2, .ref 1)) (q3 : Nat) (hr3 : lv2[q3]? = some (3, .ref 2)) (hR : wr.2.2 = RM) (ht : wi wr 0 0 = r) (hy : r = 0 → o = y.toInt64) (k : GoL L xs 2620 lv2 [] n wc wr o) : GoL L xs 2549 lv [.int y] n wc wr o := by
  refine gl_istore (pc := 2549) dL_law_2549 (Nat.le_of_ble_eq_true rfl) hlv ?_
  refine gl_aload_n (pc := 2551) dL_law_2551 rfl q2 hr2 ?_
  refine gl_callRI (pc := 2552) (is := []) (st := []) hn9 dL_law_2552 kL_288 vL_288 (Nat.le_of_ble_eq_true rfl) rfl rfl rfl (Nat.le_of_ble_eq_true rfl) ?_
  refine zX11_thrown hR ⟨_, rfl, ?_⟩
  refine gl_iload (pc := 2555) dL_law_2555 q5 h2 ?_
  refine gl_icmp_eq (pc := 2557) (tgt := 2562) dL_law_2557 (by decide) (fun _ => ?_) (fun z => absurd ht z)
  refine gl_iload (pc := 2562) dL_law_2562 q5 h2 ?_
  refine gl_if_ne (pc := 2564) (tgt := 2579) dL_law_2564 (by decide) (fun _ => gl_goto (pc := 2579) (tgt := 2620) dL_law_2579 (by decide) k) (fun z => ?_)
  refine gl_aload_n (pc := 2567) dL_law_2567 rfl q3 hr3 ?_
  refine gl_iconst (pc := 2568) dL_law_2568 c_0 ?_
  refine gl_old (pc := 2569) dL_law_2569 ?_
  refine gl_iload (pc := 2570) dL_law_2570 q6 h6 ?_
  refine gl_i2l (pc := 2572) dL_law_2572 ?_
  refine gl_lcmp (pc := 2573) dL_law_2573 ?_
  refine gl_if_eq (pc := 2574) (tgt := 2579) dL_law_2574 (by decide) (fun _ => gl_goto (pc := 2579) (tgt := 2620) dL_law_2579 (by decide) k) (fun z2 => absurd ?_ z2)
  rw [hy z]
  exact (lg_cmp_eq _ _).mpr rfl
theorem lc_63 {L t : Nat} {xs : Nat → Int32} {wc wr : Wd} {o : Int64} (hn9 : t + 1 ≤ 1000) (hI : ∀ j : Nat, j < 6 → vp_in (nI (6 * t) + Int32.ofNat j) L) (hR : RelE wc wr) (k : ∀ wc' wr' o', RelE wc' wr' → GoL L xs 2620 [(0, .ref 3), (1, .ref 0), (2, .ref 1), (3, .ref 2), (4, .int (nI (6 * t)))] [] (t + 1) wc' wr' o') : GoL L xs 2526 [(0, .ref 3), (1, .ref 0), (2, .ref 1), (3, .ref 2), (4, .int (nI (6 * t)))] [] t wc wr o := by
  obtain ⟨b, hrel⟩ := hR
  obtain ⟨h1, h2, h10, -, h4, -, N, ⟨-, -, hN, -, -, c2, c31, c15, -, -, -, -, -, -, -, -, hd, -, -⟩, -⟩ := id hrel
  have hu : ∀ d, d < N → ((fun d => decide (wi wr 5 d = 0)) d = true ↔ wi wr 5 d = 0) := fun d _ => decide_eq_true_iff
  have huc : ∀ d, d < N → ((fun d => decide (wi wr 5 d = 0)) d = true ↔ wi wc (dA (hA b) d + 2) 0 = 0) := fun d hdn => by
    obtain ⟨-, -, -, -, -, -, e, -⟩ := hd d hdn
    rw [e]
    exact hu d hdn
  have key : ∀ v : Int32, RelE wc (si wr 0 0 v) := fun v => ⟨b, rel_scr hrel (SameC.rf wc) (SameR.si (SameR.rf wr) (fun y => by rcases y with ⟨-, y⟩ | y | y | y | y | y <;> omega)) (h10.trans (wi_ne (Or.inr (by decide))).symm) (fun y => h4 (((wi_ne (w := wr) (v := v) (Or.inr (by decide))).symm).trans y))⟩
  refine gl_aload_n (pc := 2526) dL_law_2526 rfl 1 rfl ?_
  refine gl_aload_n (pc := 2527) dL_law_2527 rfl 0 rfl ?_
  refine gl_iload (pc := 2528) dL_law_2528 4 rfl ?_
  refine gl_iconst (pc := 2530) dL_law_2530 c_1 ?_
  refine gl_iadd (pc := 2531) dL_law_2531 ?_
  refine gl_sld (pc := 2532) dL_law_2532 (hI 1 (by decide)) ?_
  refine gl_re (st2 := [.int (sA xs (nI (6 * t)) 1), .ref 0]) rfl ?_
  refine gl_aload_n (pc := 2533) dL_law_2533 rfl 3 rfl ?_
  refine gl_led (R9 := fun r o' => (r = 0 ∧ ∃ x, ldG (fun d => decide (wi wr 5 d = 0)) (sA xs (nI (6 * t)) 1) N 0 0 = some x ∧ o' = (nI x).toInt64) ∨ (r = 1 ∧ ldG (fun d => decide (wi wr 5 d = 0)) (sA xs (nI (6 * t)) 1) N 0 0 = none)) (by omega) (x_led h1 hN c2 huc (fun x hx => ⟨rfl, nI x, rfl, Or.inl ⟨rfl, x, hx, rfl⟩⟩) (fun hx => ⟨rfl, Or.inr ⟨rfl, hx⟩⟩)) (fun r o' h9 => ?_)
  refine gl_istore (pc := 2537) (lv2 := [(0, .ref 3), (1, .ref 0), (2, .ref 1), (3, .ref 2), (4, .int (nI (6 * t))), (5, .int r)]) dL_law_2537 (Nat.le_of_ble_eq_true rfl) rfl ?_
  refine gl_aload_n (pc := 2539) dL_law_2539 rfl 2 rfl ?_
  refine gl_aload_n (pc := 2540) dL_law_2540 rfl 0 rfl ?_
  refine gl_iload (pc := 2541) dL_law_2541 4 rfl ?_
  refine gl_iconst (pc := 2543) dL_law_2543 c_1 ?_
  refine gl_iadd (pc := 2544) dL_law_2544 ?_
  refine gl_sld (pc := 2545) dL_law_2545 (hI 1 (by decide)) ?_
  refine gl_re (st2 := [.int (sA xs (nI (6 * t)) 1), .ref 1]) rfl ?_
  refine gl_callRI (pc := 2546) (is := [(sA xs (nI (6 * t)) 1)]) (st := []) hn9 dL_law_2546 kL_287 vL_287 (Nat.le_of_ble_eq_true rfl) rfl rfl rfl (Nat.le_of_ble_eq_true rfl) ?_
  refine TX11_led _ wr h2 _ ?_
  refine l_ref h2 hN c15 c31 hu N 0 0 (Nat.zero_add _) (Nat.le_refl _) (fun x hx => ⟨_, rfl, ?_⟩) (fun hx => ⟨_, rfl, ?_⟩)
  · rcases h9 with ⟨r0, x', hx', ho⟩ | ⟨-, hx'⟩
    · rw [hx] at hx'
      have hxx := Option.some.inj hx'
      refine led_end (lv2 := [(0, .ref 3), (1, .ref 0), (2, .ref 1), (3, .ref 2), (4, .int (nI (6 * t))), (5, .int r), (6, .int (nI x))]) rfl hn9 5 rfl 6 rfl 2 rfl 3 rfl h2 ((wi_self _ _ _ _).trans r0.symm) (fun _ => by rw [ho, hxx]) ?_
      exact gl_sub [0, 1, 2, 3, 4] rfl (k _ _ _ (key 0))
    · rw [hx] at hx'
      cases hx'
  · rcases h9 with ⟨-, x', hx', -⟩ | ⟨r1, -⟩
    · rw [hx] at hx'
      cases hx'
    · refine led_end (lv2 := [(0, .ref 3), (1, .ref 0), (2, .ref 1), (3, .ref 2), (4, .int (nI (6 * t))), (5, .int r), (6, .int 0)]) rfl hn9 5 rfl 6 rfl 2 rfl 3 rfl h2 ((wi_self _ _ _ _).trans r1.symm) (fun z => absurd (r1.symm.trans z) (by decide)) ?_
      exact gl_sub [0, 1, 2, 3, 4] rfl (k _ _ _ (key 1))
