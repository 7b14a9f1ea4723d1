/-! the law's own led: the place kept, or the exception caught -/
theorem dL_led_0 : decode cL_led 0 = .ok (.aload_n 2, 1) := by decide +kernel
theorem dL_led_1 : decode cL_led 1 = .ok (.iconst 0, 1) := by decide +kernel
theorem dL_led_2 : decode cL_led 2 = .ok (.aload_n 0, 1) := by decide +kernel
theorem dL_led_3 : decode cL_led 3 = .ok (.iload_n 1, 1) := by decide +kernel
theorem dL_led_4 : decode cL_led 4 = .ok (.invokevirtual 7, 3) := by decide +kernel
theorem dL_led_7 : decode cL_led 7 = .ok (.i2l, 1) := by decide +kernel
theorem dL_led_8 : decode cL_led 8 = .ok (.lastore, 1) := by decide +kernel
theorem dL_led_9 : decode cL_led 9 = .ok (.goto 6, 3) := by decide +kernel
theorem dL_led_12 : decode cL_led 12 = .ok (.astore_n 3, 1) := by decide +kernel
theorem dL_led_13 : decode cL_led 13 = .ok (.iconst 1, 1) := by decide +kernel
theorem dL_led_14 : decode cL_led 14 = .ok (.ireturn, 1) := by decide +kernel
theorem dL_led_15 : decode cL_led 15 = .ok (.iconst 0, 1) := by decide +kernel
theorem dL_led_16 : decode cL_led 16 = .ok (.ireturn, 1) := by decide +kernel
def ldH : List (Nat × Nat × Nat × Nat) := [(0, 9, 12, 13)]
def ldW : List Cond := Cond.codeWith yL_led cL_led 4 (some .int) ldH :: TBL
def ldR : Room := { frames := 40, cells := 1, slots := 6, locals := 3000 }
def ldA (E : En) (oA : Nat) : Nat → Prop := fun q => eA SC E q ∨ q = oA
def ldP (E : En) (w : Wd) (i : Int32) (oA : Nat) (cO : ClassId) (o : Int64) : Array Value → State → Prop := fun v U => v = ([.ref (E.2.1 0), .int i, .ref oA] : List Value).toArray ∧ eK SC E U ∧ eH SC E w U.heap ∧ va_P E.1 vwCl (oCell cO oA o) U.heap ∧ XSt SC E U ∧ ArrOfT U cO .long ∧ va_RA U cO .long ∧ ¬ eA SC E oA
def ldQ (E : En) (w : Wd) (oA : Nat) (cO : ClassId) (R9 : Int32 → Int64 → Prop) : Array Value → State → Outcome → State → Prop := fun _ st oc t => ∃ (r : Int32) (o' : Int64), oc = .returned (some (.int r)) ∧ R9 r o' ∧ eH SC E w t.heap ∧ va_P E.1 vwCl (oCell cO oA o') t.heap ∧ va_F (ldA E oA) st t
theorem oCell_of {D : va_G} {cO : ClassId} {oA : Nat} {f g : Nat → Int64} (h : f 0 = g 0) {H : Heap} (k : va_P D vwCl [(oA, .inl (cO, 1, .inr (.inl f)))] H) : va_P D vwCl [(oA, .inl (cO, 1, .inr (.inl g)))] H := by
  intro j q hj
  cases j with
  | zero =>
    cases hj
    have h1 := k 0 _ rfl
    show H[oA]? = some (vp_cell cO (1, .inr (.inl g)))
    refine Eq.trans h1 (congrArg some ?_)
    show vp_cell cO (1, .inr (.inl f)) = vp_cell cO (1, .inr (.inl g))
    rw [vp_cell_l, vp_cell_l]
    unfold arrV
    have e : (fun j : Fin 1 => Value.long (f j.val)) = fun j : Fin 1 => Value.long (g j.val) := funext fun j => by
      have hj0 : j.val = 0 := Nat.lt_one_iff.mp j.isLt
      rw [hj0, h]
    rw [e]
  | succ j => cases hj
theorem ld_pc {D : va_G} {q0 : Nat × va_E} {ws : va_W} {H : Heap} (h0 : va_at D vwCl q0 H) (h1 : va_P D vwCl ws H) : va_P D vwCl (q0 :: ws) H := by
  intro j q hj
  cases j with
  | zero =>
    cases hj
    exact h0
  | succ j => exact h1 j q hj
theorem ld_pt {D : va_G} {q0 : Nat × va_E} {ws : va_W} {H : Heap} (h : va_P D vwCl (q0 :: ws) H) : va_P D vwCl ws H := fun j q hj => h (j + 1) q hj
theorem ld_ph {D : va_G} {q0 : Nat × va_E} {ws : va_W} {H : Heap} (h : va_P D vwCl (q0 :: ws) H) : va_at D vwCl q0 H := h 0 q0 rfl
theorem ld_set {D : va_G} {q0 q1 : Nat × va_E} {ws : va_W} {H : Heap} (h : va_P D vwCl ((q0 :: ws).set 0 q1) H) : va_P D vwCl (q1 :: ws) H := h
theorem ld_one {D : va_G} {q0 : Nat × va_E} {H : Heap} (h : va_at D vwCl q0 H) : va_P D vwCl [q0] H := ld_pc h (fun j q hj => by cases hj)
theorem ld_dc {A0 A : Nat → Prop} {a : Nat} {x : va_E} {ws : va_W} (hD : va_D A0 ws) (hA : ∀ q, A0 q → A q) (ha : A a) (hne : ¬ A0 a) : va_D A ((a, x) :: ws) := by
  refine ⟨fun i j y z hi hj hyz => ?_, fun k q hk => ?_⟩
  · cases i with
    | zero =>
      cases j with
      | zero => rfl
      | succ j =>
        cases hi
        exact absurd (hD.2 j z hj) (by rw [← hyz]; exact hne)
    | succ i =>
      cases j with
      | zero =>
        cases hj
        exact absurd (hD.2 i y hi) (by rw [hyz]; exact hne)
      | succ j => exact congrArg Nat.succ (hD.1 i j y z hi hj hyz)
  · cases k with
    | zero =>
      cases hk
      exact ha
    | succ k => exact hA _ (hD.2 k q hk)
theorem ld_kc {D : va_G} {q0 : ClassId × FieldType} {ty : List (ClassId × FieldType)} {U : State} (hK : va_K D vwCl ty U) (h1 : ArrOfT U q0.1 q0.2) (h2 : va_RA U q0.1 q0.2) : va_K D vwCl (q0 :: ty) U := by
  refine ⟨hK.1, fun k q hk => ?_⟩
  cases k with
  | zero =>
    cases hk
    exact ⟨h1, h2⟩
  | succ k => exact hK.2 k q hk
theorem ld_all {E : En} {w : Wd} {oA : Nat} {cO : ClassId} {o : Int64} {H : Heap} (h1 : eH SC E w H) (h2 : va_P E.1 vwCl (oCell cO oA o) H) : va_P E.1 vwCl ((oA, .inl (cO, 1, .inr (.inl (fun _ => o)))) :: mk SC E.2.1 E.2.2.1 w) H := ld_pc (ld_ph h2) h1
theorem ld_D {E : En} {U : State} (hK : eK SC E U) (w : Wd) {oA : Nat} (hne : ¬ eA SC E oA) (x : va_E) : va_D (ldA E oA) ((oA, x) :: mk SC E.2.1 E.2.2.1 w) := ld_dc (eD hK w) (fun q h => Or.inl h) (Or.inr rfl) hne
theorem ld_K {E : En} {U : State} (hK : eK SC E U) {cO : ClassId} (h1 : ArrOfT U cO .long) (h2 : va_RA U cO .long) : va_K E.1 vwCl ((cO, .long) :: eT SC E) U := ld_kc hK.1 h1 h2
theorem ld_cast : Cond.castable xNm xNm ∈ xNG := by decide +kernel
theorem ld_link : Cond.classLink "RopeDancersLaw" 13 xNm ∈ TBL := inT 1131 (by decide +kernel) rfl
def ldF (E : En) (oA : Nat) : Nat → Nat
  | 0 => E.2.1 0
  | _ => oA
theorem met_lled {l : Launch} (hl : l.stackTraces = false) (E : En) {w : Wd} {i : Int32} {oA : Nat} {cO : ClassId} {o : Int64} {R9 : Int32 → Int64 → Prop}
    (hc : GoX SC mXl 0 [(0, .ref 0), (1, .int i)] [] w (fun r w' => w' = w ∧ ∃ x : Int32, r = some (.int x) ∧ R9 0 x.toInt64) (fun w' => w' = w ∧ R9 1 o)) : Met l yL_led ldW ldR (ldP E w i oA cO o) (ldQ E w oA cO R9) 1 6 (ldA E oA) := by
  refine va_MetW (cc := cL_led) (maxL := 4) (ret := some .int) (hh := ldH) (by decide) rfl ?_
  intro p e s m args below meth c s₁ B hml hv
  obtain ⟨rfl, hK, hH, hO, hX, ha, hra, hne⟩ := hv
  have hlv := lv_entry ([.ref (E.2.1 0), .int i, .ref oA] : List Value) (n := 4) (Nat.le_of_ble_eq_true rfl)
  rw [lg_entry_eq]
  generalize (lg_sl ([.ref (E.2.1 0), .int i, .ref oA] : List Value) ++ List.replicate (4 - (lg_sl ([.ref (E.2.1 0), .int i, .ref oA] : List Value)).length) Slot.unset).toArray = ls at hlv ⊢
  have h3 : lv_has ls 4 (([(0, .ref 0), (1, .int i), (2, .ref 1)] : List (Nat × Value)).map fun q => (q.1, rv (ldF E oA) q.2)) := hlv
  have hall := atoms_spec (ws := ldW) B.pre
  have hTB : ∀ x ∈ TBL, x.before ([.ref (E.2.1 0), .int i, .ref oA] : List Value).toArray s = true := fun x hx => hall x (List.mem_cons_of_mem _ hx)
  have hown := findClass_of_methodNamed B.named
  have htab : c.exceptionTable.toList = tableOf ldH := vx_table (x := yL_led) B (hall _ List.mem_cons_self)
  have hq1 : vwCl[9]? = some (RX10, TX10, 11) := rfl
  have h0 : SC[0]? = some (.inl 9) := rfl
  have hrec := va_recv hK.1 hH hq1 (mk_at h0)
  have hfix : CallFix p m c cL_led 4 s ([.ref (E.2.1 0), .int i, .ref oA] : List Value).toArray TBL "RopeDancersLaw" := ⟨B.exec, B.bytes, hml, hown, hTB⟩
  have hpre : PreV s s.heap RX10 (E.2.1 0) (fun v U => mP SC E [.ref 0, .int i] w v U ∧ XSt SC E U) [.int i] := ⟨mPX_blind E _ w, hrec, fun U hU hW => ⟨⟨rfl, eK.moved hW (fun x _ _ => by rw [hU]) hK, by rw [hU]; exact hH⟩, XSt.moved hW (fun x _ _ => by rw [hU]) hX⟩⟩
  have hrun := vx_runV (e := e) (R := ldR) (below := below) (meth := meth) (locs := []) (cells := 0) (slots := 0) (g := F0 m 4 ls [.int i, .ref (E.2.1 0), .int 0, .ref oA]) (As := [.int i]) (rest := [.int 0, .ref oA]) (index := 7) (n := 1) hfix (met_led hl E hc) ⟨⟨rfl, rfl, (by show 20 + 1 ≤ 40; omega), (by show 8 + (5 + 11) + 20 * 60 ≤ 3000; omega), mW_warm (M' := mXl) hTB (inT 1135 (by decide +kernel) rfl), List.mem_cons_self, hTB _ (inT 1135 (by decide +kernel) rfl), hTB _ (inT 1 (by decide +kernel) rfl), ⟨by decide +kernel, by decide +kernel⟩, params_of (by decide +kernel), hTB _ (inT 1132 (by decide +kernel) rfl)⟩, hTB _ (inT 1133 (by decide +kernel) rfl), hTB _ (inT 1134 (by decide +kernel) rfl)⟩ hpre rfl rfl h3.1 rfl (Nat.le_of_ble_eq_true rfl) dL_led_4 (by show 0 + 1 ≤ 1 ∧ 0 + 6 ≤ 6; omega)
  refine lv_aload_n (pc := 0) B.exec B.bytes dL_led_0 rfl (lv_here h3 2 rfl) ?_
  refine lv_iconst (pc := 1) B.exec B.bytes dL_led_1 c_0 ?_
  refine lv_aload_n (pc := 2) B.exec B.bytes dL_led_2 rfl (lv_here h3 0 rfl) ?_
  refine lv_iload_n (pc := 3) B.exec B.bytes dL_led_3 rfl (lv_here h3 1 rfl) ?_
  intro T hT X
  rcases hrun T hT X with ⟨v, st₀, t, T', Ls, g0, X', hL, e1, e2, ⟨r, w', hv, ⟨hw, x, hr, h9⟩, hH', hF⟩, stp⟩ | ⟨q, st₀, t, T', Ls, Ex, ce, g0, X', hL, e1, e2, ⟨w', ⟨hw, h9⟩, ⟨hnm, hH'⟩, hF⟩, hce, hcv, hcl, stp⟩
  · subst hr
    rw [hw] at hH'
    have hv : v = some (.int x) := Outcome.returned.inj hv
    subst hv
    obtain ⟨k1, k2, k3⟩ := vx_keep (A0 := ldA E oA) (A1 := eA SC E) (H0 := s.heap) g0 e1 va_S.rf (fun z _ hz => Or.inl hz) (fun z hz => Or.inl hz) hL hF
    have hO' : va_P E.1 vwCl (oCell cO oA o) T'.heap := hO.kept (fun j z hz => by
      have hj : j < 1 := (List.getElem?_eq_some_iff.mp hz).1
      rw [show j = 0 by omega] at hz
      cases hz
      exact k2 _ (vx_lt hO (k := 0) rfl) hne)
    have go : W p l e ldR s m ([.ref (E.2.1 0), .int i, .ref oA] : List Value).toArray below meth c T'.heap ([] ++ Ls) (0 + 1) (0 + 6) (MQ below (ldQ E w oA cO R9) ([.ref (E.2.1 0), .int i, .ref oA] : List Value).toArray s 1 6 (ldA E oA)) (F0 m 7 ls [.int x, .int 0, .ref oA]) := by
      refine lv_i2l (pc := 7) B.exec B.bytes dL_led_7 rfl ?_
      refine va_last (pc := 8) (A := ldA E oA) (H0 := s.heap) B.exec B.bytes (ld_K hK ha hra) (ld_all (by rw [e1]; exact hH') hO') (ld_D hK w hne _) k3 0 0 rfl rfl (fun y => y.elim (fun y => absurd y (by decide)) (fun y => absurd y (by decide))) dL_led_8 ?_
      intro H1 locs1 hP1 hD1 hS1
      refine lv_goto (pc := 9) (tgt := 15) B.exec B.bytes dL_led_9 (by decide) ?_
      refine lv_iconst (pc := 15) B.exec B.bytes dL_led_15 c_0 ?_
      refine W.iret B.exec B.bytes B.returns (fun t2 ht _ => ⟨0, x.toInt64, rfl, h9, ?_, ?_, hS1.F ht⟩) hS1.2.2 dL_led_16
      · rw [ht]
        exact ld_pt (ld_set hP1)
      · rw [ht]
        exact oCell_of (f := vp_updL (fun _ => o) (0 : Int32).toNatClampNeg x.toInt64) (g := fun _ => x.toInt64) rfl (ld_one (ld_ph (ld_set hP1)))
    obtain ⟨t2, a1, b1⟩ := go T' rfl X'
    exact ⟨t2, stp t2 a1, b1⟩
  · rw [hw] at hH'
    obtain ⟨k1, k2, k3⟩ := vx_keep (A0 := ldA E oA) (A1 := eA SC E) (H0 := s.heap) g0 e1 va_S.rf (fun z _ hz => Or.inl hz) (fun z hz => Or.inl hz) hL hF
    have hO' : va_P E.1 vwCl (oCell cO oA o) T'.heap := hO.kept (fun j z hz => by
      have hj : j < 1 := (List.getElem?_eq_some_iff.mp hz).1
      rw [show j = 0 by omega] at hz
      cases hz
      exact k2 _ (vx_lt hO (k := 0) rfl) hne)
    subst hnm
    have go : vx_W p l e ldR s m ([.ref (E.2.1 0), .int i, .ref oA] : List Value).toArray below meth c T'.heap ([] ++ Ls) (0 + 1) (0 + 6) (MQ below (ldQ E w oA cO R9) ([.ref (E.2.1 0), .int i, .ref oA] : List Value).toArray s 1 6 (ldA E oA)) (F0 m 4 ls [.int 0, .ref oA]) q := by
      refine vx_catch (ce := ce) (own := "RopeDancersLaw") (name := xNm) hown [] ⟨0, 9, 12, 13⟩ [] htab (fun _ hz => nomatch hz) (by decide) (by decide) (hTB _ ld_link) (va_Nw.use rfl (hX.1 _ ld_cast)) (by rw [e1]; exact hce) hcv hcl ?_
      refine lv_astore_n (pc := 12) B.exec B.bytes dL_led_12 rfl h3 (Nat.le_of_ble_eq_true rfl) rfl (fun ls2 h4 => ?_)
      refine lv_iconst (pc := 13) B.exec B.bytes dL_led_13 c_1 ?_
      exact W.iret B.exec B.bytes B.returns (fun t2 ht _ => ⟨1, o, rfl, h9, by rw [ht, e1]; exact hH', by rw [ht]; exact hO', k3.F ht⟩) k3.2.2 dL_led_14
    obtain ⟨t2, a1, b1⟩ := go T' rfl X'
    exact ⟨t2, stp.trans a1, b1⟩
theorem ldP_blind (E : En) (w : Wd) (i : Int32) (oA : Nat) (cO : ClassId) (o : Int64) : FrameBlind (ldP E w i oA cO o) := fun a U g mk q => by
  obtain ⟨h1, h2, h3, h4, h5, h6, h7, h8⟩ := q
  exact ⟨h1, eK.same (s := U) (U := U.calling g mk a) rfl rfl h2, h3, h4, XSt.same (s := U) (U := U.calling g mk a) rfl rfl h5, arrOfT_moved (Vm.Alike.refl U.vm) h6, va_RA.moved (u := U) (U := U.calling g mk a) (Vm.Alike.refl U.vm) h7, h8⟩
theorem ld_ws : GoodIn TBL (va_wsS "RopeDancersLaw" 282 yL_led ldW) := by
  intro w h
  have hm : w ∈ TBL := by
    rcases List.mem_cons.mp h with h | h
    · rw [h]; exact inT 1128 (by decide +kernel) rfl
    rcases List.mem_cons.mp h with h | h
    · rw [h]; exact inT 1129 (by decide +kernel) rfl
    rcases List.mem_cons.mp h with h | h
    · rw [h]; exact inT 0 (by decide +kernel) rfl
    rcases List.mem_cons.mp h with h | h
    · rw [h]; exact inT 1130 (by decide +kernel) rfl
    exact h
  exact ⟨hm, TBL_good w hm⟩
theorem nf_u : Cond.isRef (.static Bundle.tN "UNASSIGNED_STACK" Bundle.steD) ∈ NF := by decide +kernel
theorem nf_p : Cond.isRef (.static Bundle.tN "SUPPRESSED_SENTINEL" Bundle.listD) ∈ NF := by decide +kernel
theorem XSt_law {p : Program} {l : Launch} {s U : State} {m : MethodId} {meth : Method} {c : Code} {b L : Nat} {xs : Nat → Int32} {E1 E2 : En} {oA : Nat} {cO : ClassId} {locs : List Loc} (G : LOK p l s m meth c b L xs E1 E2 oA cO) (hS : va_S (lA s) s.heap U.heap locs) (hW : s.WarmedH U.vm) : XSt SC E1 U := by
  obtain ⟨⟨-, -, -, -, -, hts, -, -, -, hgv⟩, -, -, -, D1, -⟩ := id G
  have hf := flat_of_before _ hgv
  have hA : ∀ a : Nat, a < s.heap.size → ¬ lA s a := fun a h => Nat.not_le.mpr h
  have hT : ∀ (i : Nat) {w : Cond}, tables_1[i]? = some w → w.before #[Value.ref b] s = true := fun i _ h => hts _ (List.mem_append_right _ (List.mem_of_getElem? h))
  have key : ∀ n d, vx_Zq Bundle.tN n d (lA s) s s.heap → vx_Zq Bundle.tN n d (eA SC E1) U U.heap := fun n d h => ((h.kept hS.2.1).narrow (fun q hq => (D1 q hq).1)).moved hW.alike
  refine ⟨fun w hw => xNG_warm w hw s U hW (va_Nw.of (xNG_ot w hw) (hts w (xWs_lw w (List.mem_filter.mp hw).1))), key _ _ ?_, key _ _ ?_⟩
  · exact vx_Zqof (hT 1163 (by decide +kernel)) (hT 19 (by decide +kernel)) (hf _ nf_u) hA
  · exact vx_Zqof (hT 1165 (by decide +kernel)) (hT 19 (by decide +kernel)) (hf _ nf_p) hA
theorem gl_led {L n : Nat} {xs : Nat → Int32} {lv : List (Nat × Value)} {wc wr : Wd} {o : Int64} {i : Int32} {R9 : Int32 → Int64 → Prop} (hn9 : n ≤ 1000)
    (hc : GoX SC mXl 0 [(0, .ref 0), (1, .int i)] [] wc (fun r w' => w' = wc ∧ ∃ x : Int32, r = some (.int x) ∧ R9 0 x.toInt64) (fun w' => w' = wc ∧ R9 1 o))
    (k : ∀ r o', R9 r o' → GoL L xs 2537 lv [.int r] (n + 1) wc wr o') : GoL L xs 2534 lv [.ref 2, .int i, .ref 0] n wc wr o := by
  intro p l e s m below meth c b E1 E2 oA cO H locs ls G h1 h2 ho hS h3
  obtain ⟨⟨hx, hb, hr, hml, hown, hts, hXx, hbl, hlocks, hgv⟩, hfl, K1, K2, D1, D2, D3, D4, D5⟩ := id G
  have hl : l.stackTraces = false := by
    unfold Launch.stackTraces
    rw [hfl]
    decide +kernel
  have hTB : ∀ x ∈ TBL, x.before #[Value.ref b] s = true := fun x h => hts x (TBL_lw x h)
  have hfix : CallFix p m c code 7 s #[Value.ref b] TBL "RopeDancersLaw" := ⟨hx, hb, hml, hown, hTB⟩
  have hmv : ∀ U : State, U.heap = H → s.WarmedH U.vm → eK SC E1 U := fun U hU hW => eK.moved hW (fun x g1 g2 => by rw [hU]; exact hS.2.1 x g1 (Nat.not_le.mpr g1)) K1
  have hne : ¬ eA SC E1 oA := fun q => (D1 _ q).2.2 rfl
  have hpre : PreS s H (ldP E1 wc i oA cO o) [.ref (E1.2.1 0), .int i, .ref oA] := ⟨ldP_blind E1 wc i oA cO o, fun U hU hW => ⟨rfl, hmv U hU hW, by rw [hU]; exact h1, by rw [hU]; exact ho, XSt_law (locs := locs) G (by rw [hU]; exact hS) hW, arrOfT_moved hW.alike D4, va_RA.moved hW.alike D5, hne⟩⟩
  have hf : (2000 + n) + 1 ≤ room_1.cells ∧ (20000 + 10 * n) + 6 ≤ room_1.slots := by show (2000 + n) + 1 ≤ 601024 ∧ (20000 + 10 * n) + 6 ≤ 7293034; omega
  have hrun := vx_runSW (e := e) (R := room_1) (below := below) (meth := meth) (locs := locs) (cells := 2000 + n) (slots := 20000 + 10 * n) (g := F0 m 2534 ls [.ref oA, .int i, .ref (E1.2.1 0)]) (As := [.ref (E1.2.1 0), .int i, .ref oA]) (rest := []) (index := 282) (n := 3) hfix (met_lled hl E1 (oA := oA) (cO := cO) hc) (vx_cwSW (hh := ldH) (bytes := cL_led) (maxL := 4) (ret := some .int) 3 hTB ld_ws rfl rfl rfl ⟨by decide +kernel, by decide +kernel, by decide +kernel⟩ ⟨Nat.le_of_ble_eq_true rfl, Nat.le_of_ble_eq_true rfl⟩) hpre rfl rfl h3.1 rfl (Nat.le_of_ble_eq_true rfl) dL_law_2534 hf
  intro T hT X
  obtain ⟨v, st₀, t, T', Ls, g0, X', hL, e1, e2, ⟨r, o', hv, h9, hH, hO, hF⟩, stp⟩ := hrun T hT X
  have hv : v = some (.int r) := Outcome.returned.inj hv
  subst hv
  have hAl : ∀ q, ldA E1 oA q → lA s q := fun q hq => hq.elim (fun y => (D1 q y).1) (fun y => by rw [y]; exact D3)
  obtain ⟨k1, k2, k3⟩ := vx_keep (A0 := lA s) (A1 := ldA E1 oA) (H0 := s.heap) g0 e1 hS (fun z _ hz => hAl z hz) hAl hL hF
  have hR2 : eH SR E2 wr T'.heap := va_P.kept h2 (fun j z hz => k2 _ (vx_lt h2 hz) (fun y => y.elim (fun y => (D1 _ y).2.1 (mk_mem hz)) (fun y => (D2 _ (mk_mem hz)).2 y)))
  obtain ⟨t2, a1, b1⟩ := k r o' h9 p l e s m below meth c b E1 E2 oA cO T'.heap (locs ++ Ls) ls G (by rw [e1]; exact hH) hR2 (by rw [e1]; exact hO) k3 h3 T' rfl (stand_widen X' (by omega) (by omega))
  exact ⟨t2, stp t2 a1, b1⟩
/-- the out-array, read -/
theorem gl_old {L n pc : Nat} {xs : Nat → Int32} {lv : List (Nat × Value)} {st : List Value} {wc wr : Wd} {o : Int64} (hd : decode code pc = .ok (.laload, 1)) (k : GoL L xs (pc + 1) lv (.long o :: st) n wc wr o) : GoL L xs pc lv (.int 0 :: .ref 2 :: st) n wc wr o := by
  intro p l e s m below meth c b E1 E2 oA cO H locs ls G h1 h2 ho hS h3
  obtain ⟨-, -, -, -, -, -, -, D4, D5⟩ := id G
  have hK : va_K E1.1 vwCl [(cO, .long)] s := ⟨G.2.2.1.1.1, fun k q hk => by
    cases k with
    | zero =>
      cases hk
      exact ⟨D4, D5⟩
    | succ k => cases hk⟩
  exact va_lald (a := oA) G.1.1 G.1.2.1 hK ho 0 0 rfl rfl (fun y => y.elim (fun y => absurd y (by decide)) (fun y => absurd y (by decide))) hd (k p l e s m below meth c b E1 E2 oA cO H locs ls G h1 h2 ho hS h3)
