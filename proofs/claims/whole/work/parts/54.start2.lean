/-! THE LAW FROM ITS ENTRY: two objects and a row are made, then the loop -/
theorem cnL_8 : CNew R_law 8 9 RX10 TX10 11 := ⟨rfl, uX10, ⟨tyX10, tyX10_ok, fun k hk => by
    match k, hk with
    | 0, _ => exact ⟨3, rfl, Or.inl ⟨_, rfl⟩⟩
    | 1, _ => exact ⟨3, rfl, Or.inl ⟨_, rfl⟩⟩
    | 2, _ => exact ⟨3, rfl, Or.inl ⟨_, rfl⟩⟩
    | 3, _ => exact ⟨3, rfl, Or.inl ⟨_, rfl⟩⟩
    | 4, _ => exact ⟨3, rfl, Or.inl ⟨_, rfl⟩⟩
    | 5, _ => exact ⟨3, rfl, Or.inl ⟨_, rfl⟩⟩
    | 6, _ => exact ⟨3, rfl, Or.inl ⟨_, rfl⟩⟩
    | 7, _ => exact ⟨3, rfl, Or.inl ⟨_, rfl⟩⟩
    | 8, _ => exact ⟨3, rfl, Or.inl ⟨_, rfl⟩⟩
    | 9, _ => exact ⟨3, rfl, Or.inl ⟨_, rfl⟩⟩
    | 10, _ => exact ⟨0, rfl, rfl⟩
    | k + 11, hk => exact absurd hk (by omega)⟩, inT 23 (by decide +kernel) rfl, inT 24 (by decide +kernel) rfl, inT 1 (by decide +kernel) rfl⟩
theorem cnL_16 : CNew R_law 16 10 RX11 TX11 50 := ⟨rfl, uX11, ⟨tyX11, tyX11_ok, fun k hk => by
    match k, hk with
    | 0, _ => exact ⟨0, rfl, rfl⟩
    | 1, _ => exact ⟨3, rfl, Or.inr ⟨_, rfl⟩⟩
    | 2, _ => exact ⟨0, rfl, rfl⟩
    | 3, _ => exact ⟨0, rfl, rfl⟩
    | 4, _ => exact ⟨0, rfl, rfl⟩
    | 5, _ => exact ⟨0, rfl, rfl⟩
    | 6, _ => exact ⟨0, rfl, rfl⟩
    | 7, _ => exact ⟨0, rfl, rfl⟩
    | 8, _ => exact ⟨0, rfl, rfl⟩
    | 9, _ => exact ⟨0, rfl, rfl⟩
    | 10, _ => exact ⟨0, rfl, rfl⟩
    | 11, _ => exact ⟨0, rfl, rfl⟩
    | 12, _ => exact ⟨3, rfl, Or.inr ⟨_, rfl⟩⟩
    | 13, _ => exact ⟨1, rfl, rfl⟩
    | 14, _ => exact ⟨1, rfl, rfl⟩
    | 15, _ => exact ⟨1, rfl, rfl⟩
    | 16, _ => exact ⟨3, rfl, Or.inr ⟨_, rfl⟩⟩
    | 17, _ => exact ⟨3, rfl, Or.inr ⟨_, rfl⟩⟩
    | 18, _ => exact ⟨3, rfl, Or.inr ⟨_, rfl⟩⟩
    | 19, _ => exact ⟨3, rfl, Or.inr ⟨_, rfl⟩⟩
    | 20, _ => exact ⟨3, rfl, Or.inr ⟨_, rfl⟩⟩
    | 21, _ => exact ⟨0, rfl, rfl⟩
    | 22, _ => exact ⟨0, rfl, rfl⟩
    | 23, _ => exact ⟨0, rfl, rfl⟩
    | 24, _ => exact ⟨0, rfl, rfl⟩
    | 25, _ => exact ⟨3, rfl, Or.inr ⟨_, rfl⟩⟩
    | 26, _ => exact ⟨0, rfl, rfl⟩
    | 27, _ => exact ⟨3, rfl, Or.inr ⟨_, rfl⟩⟩
    | 28, _ => exact ⟨3, rfl, Or.inr ⟨_, rfl⟩⟩
    | 29, _ => exact ⟨0, rfl, rfl⟩
    | 30, _ => exact ⟨0, rfl, rfl⟩
    | 31, _ => exact ⟨0, rfl, rfl⟩
    | 32, _ => exact ⟨0, rfl, rfl⟩
    | 33, _ => exact ⟨0, rfl, rfl⟩
    | 34, _ => exact ⟨3, rfl, Or.inr ⟨_, rfl⟩⟩
    | 35, _ => exact ⟨3, rfl, Or.inr ⟨_, rfl⟩⟩
    | 36, _ => exact ⟨0, rfl, rfl⟩
    | 37, _ => exact ⟨0, rfl, rfl⟩
    | 38, _ => exact ⟨0, rfl, rfl⟩
    | 39, _ => exact ⟨0, rfl, rfl⟩
    | 40, _ => exact ⟨3, rfl, Or.inr ⟨_, rfl⟩⟩
    | 41, _ => exact ⟨0, rfl, rfl⟩
    | 42, _ => exact ⟨0, rfl, rfl⟩
    | 43, _ => exact ⟨0, rfl, rfl⟩
    | 44, _ => exact ⟨0, rfl, rfl⟩
    | 45, _ => exact ⟨0, rfl, rfl⟩
    | 46, _ => exact ⟨2, rfl, rfl⟩
    | 47, _ => exact ⟨2, rfl, rfl⟩
    | 48, _ => exact ⟨2, rfl, rfl⟩
    | 49, _ => exact ⟨2, rfl, rfl⟩
    | k + 50, hk => exact absurd hk (by omega)⟩, inT 1197 (by decide +kernel) rfl, inT 1198 (by decide +kernel) rfl, inT 11 (by decide +kernel) rfl⟩
theorem kiL_15 : CAt R_law 15 mX10_init 0 := ⟨Or.inl (inT 25 (by decide +kernel) rfl), inT 27 (by decide +kernel) rfl, inT 1 (by decide +kernel) rfl, ⟨by decide +kernel, by decide +kernel⟩, by decide +kernel, Nat.le_of_ble_eq_true rfl⟩
theorem iiLX10_init : Cond.instanceMethod mX10_init.1 ∈ TBL := inT 26 (by decide +kernel) rfl
theorem kiL_18 : CAt R_law 18 mX11_init 0 := ⟨Or.inl (inT 1199 (by decide +kernel) rfl), inT 1201 (by decide +kernel) rfl, inT 11 (by decide +kernel) rfl, ⟨by decide +kernel, by decide +kernel⟩, by decide +kernel, Nat.le_of_ble_eq_true rfl⟩
theorem iiLX11_init : Cond.instanceMethod mX11_init.1 ∈ TBL := inT 1200 (by decide +kernel) rfl
theorem insLX0 : Cond.instantiable RX0 4 ∈ TBL := inT 264 (by decide +kernel) rfl
theorem insLX1 : Cond.instantiable RX1 5 ∈ TBL := inT 83 (by decide +kernel) rfl
theorem insLX2 : Cond.instantiable RX2 11 ∈ TBL := inT 76 (by decide +kernel) rfl
theorem insLX3 : Cond.instantiable RX3 2 ∈ TBL := inT 249 (by decide +kernel) rfl
theorem insLX4 : Cond.instantiable RX4 7 ∈ TBL := inT 180 (by decide +kernel) rfl
theorem insLX5 : Cond.instantiable RX5 4 ∈ TBL := inT 212 (by decide +kernel) rfl
theorem insLX7 : Cond.instantiable RX7 2 ∈ TBL := inT 89 (by decide +kernel) rfl
theorem insLX8 : Cond.instantiable RX8 11 ∈ TBL := inT 32 (by decide +kernel) rfl
theorem insLX9 : Cond.instantiable RX9 3 ∈ TBL := inT 233 (by decide +kernel) rfl
theorem insLX10 : Cond.instantiable RX10 11 ∈ TBL := inT 24 (by decide +kernel) rfl
theorem insLX11 : Cond.instantiable RX11 50 ∈ TBL := inT 1198 (by decide +kernel) rfl
def phiL (base : Nat) (adK adV : Nat → Nat) (tS : Nat) : Nat → Nat := fun k => if k < 1000 then base + k else if k < 2000 then adK (k - 1000) else if k < 3000 then adV (k - 2000) else tS
theorem phi_lo {base tS k : Nat} {adK adV : Nat → Nat} (h : k < 1000) : phiL base adK adV tS k = base + k := if_pos h
theorem phi_K {base tS k : Nat} {adK adV : Nat → Nat} (h : k < 9) : phiL base adK adV tS (1000 + k) = adK k := by
  unfold phiL
  rw [if_neg (by omega), if_pos (by omega)]
  exact congrArg adK (by omega)
theorem phi_V {base tS k : Nat} {adK adV : Nat → Nat} (h : k < 9) : phiL base adK adV tS (2000 + k) = adV k := by
  unfold phiL
  rw [if_neg (by omega), if_neg (by omega), if_pos (by omega)]
  exact congrArg adV (by omega)
theorem phi_S {base tS : Nat} {adK adV : Nat → Nat} : phiL base adK adV tS 3000 = tS := rfl
theorem vkS_congr {adK adV adK' adV' : Nat → Nat} {A : Nat → Prop} {U : State} {H : Heap} (h : vk_S nST lenST bytST adK adV A U H) (hK : ∀ i, i < 9 → adK' i = adK i) (hV : ∀ i, i < 9 → adV' i = adV i) : vk_S nST lenST bytST adK' adV' A U H := by
  refine ⟨fun i hi => ?_, fun i j hi hj e => h.2 i j hi hj (by rw [← hK i hi, ← hK j hj]; exact e)⟩
  rw [hK i hi, hV i hi]
  exact h.1 i hi
def cAL (T : Sh) (s : State) : Nat → ClassId := fun k => match T[k]? with
  | some (.inr e) => (s.vm.findClass ("[" ++ (cTy e).toString)).getD 0
  | _ => 0
theorem cAL_of {T : Sh} {D : va_G} {φ : Nat → Nat} {s : State} (h : ∀ e : Nat × Nat, (s.vm.findClass ("[" ++ (cTy e).toString)).isSome = true) : cOf T (D, φ, cAL T s, ()) s := by
  intro k e hk
  have e1 : cAL T s k = (s.vm.findClass ("[" ++ (cTy e).toString)).getD 0 := by
    unfold cAL
    rw [hk]
  show _ = some (cAL T s k)
  rw [e1]
  have h1 := h e
  cases hx : s.vm.findClass ("[" ++ (cTy e).toString) with
  | none => rw [hx] at h1; cases h1
  | some c => rfl
theorem cls_known {s : State} {args : Array Value} (hts : ∀ w ∈ TBL, w.before args s = true) : ∃ D : va_G, va_K D vwCl [] s := by
  obtain ⟨c0, i0, h0⟩ := u_known (C := RX0) (T := TX0) (N := 4) hts uX0 (hts _ insLX0)
  obtain ⟨c1, i1, h1⟩ := u_known (C := RX1) (T := TX1) (N := 5) hts uX1 (hts _ insLX1)
  obtain ⟨c2, i2, h2⟩ := u_known (C := RX2) (T := TX2) (N := 11) hts uX2 (hts _ insLX2)
  obtain ⟨c3, i3, h3⟩ := u_known (C := RX3) (T := TX3) (N := 2) hts uX3 (hts _ insLX3)
  obtain ⟨c4, i4, h4⟩ := u_known (C := RX4) (T := TX4) (N := 7) hts uX4 (hts _ insLX4)
  obtain ⟨c5, i5, h5⟩ := u_known (C := RX5) (T := TX5) (N := 4) hts uX5 (hts _ insLX5)
  obtain ⟨c7, i7, h7⟩ := u_known (C := RX7) (T := TX7) (N := 2) hts uX7 (hts _ insLX7)
  obtain ⟨c8, i8, h8⟩ := u_known (C := RX8) (T := TX8) (N := 11) hts uX8 (hts _ insLX8)
  obtain ⟨c9, i9, h9⟩ := u_known (C := RX9) (T := TX9) (N := 3) hts uX9 (hts _ insLX9)
  obtain ⟨c10, i10, h10⟩ := u_known (C := RX10) (T := TX10) (N := 11) hts uX10 (hts _ insLX10)
  obtain ⟨c11, i11, h11⟩ := u_known (C := RX11) (T := TX11) (N := 50) hts uX11 (hts _ insLX11)
  refine ⟨(fun k => match k with | 0 => c0 | 1 => c1 | 2 => c2 | 3 => c3 | 4 => c4 | 5 => c5 | 6 => c7 | 7 => c8 | 8 => c9 | 9 => c10 | _ => c11, fun k => match k with | 0 => i0 | 1 => i1 | 2 => i2 | 3 => i3 | 4 => i4 | 5 => i5 | 6 => i7 | 7 => i8 | 8 => i9 | 9 => i10 | _ => i11), fun k q hq => ?_, fun k q h => by simp at h⟩
  match k, hq with
  | 0, hq => cases hq; exact h0
  | 1, hq => cases hq; exact h1
  | 2, hq => cases hq; exact h2
  | 3, hq => cases hq; exact h3
  | 4, hq => cases hq; exact h4
  | 5, hq => cases hq; exact h5
  | 6, hq => cases hq; exact h7
  | 7, hq => cases hq; exact h8
  | 8, hq => cases hq; exact h9
  | 9, hq => cases hq; exact h10
  | 10, hq => cases hq; exact h11
  | k + 11, hq => exact absurd hq (by simp)
theorem rows_known {s : State} {args : Array Value} (hts : ∀ w ∈ TBL, w.before args s = true) (hAO : va_AO RX1 s) (e : Nat × Nat) : (s.vm.findClass ("[" ++ (cTy e).toString)).isSome = true := by
  match e with
  | (0, _) =>
    obtain ⟨c, k, comp, h, -⟩ := Cond.arrayClass_spec (hts _ (inT 74 (by decide +kernel) rfl : Cond.arrayClass .int ∈ TBL))
    show (s.vm.findClass ("[" ++ FieldType.int.toString)).isSome = true
    rw [h]
    rfl
  | (1, _) =>
    obtain ⟨c, k, comp, h, -⟩ := Cond.arrayClass_spec (hts _ (inT 1905 (by decide +kernel) rfl : Cond.arrayClass .long ∈ TBL))
    show (s.vm.findClass ("[" ++ FieldType.long.toString)).isSome = true
    rw [h]
    rfl
  | (n + 2, _) =>
    obtain ⟨comp, c, k, -, -, -, -, h⟩ := Cond.arrayOver_spec hAO
    show (s.vm.findClass ("[" ++ (FieldType.object RX1).toString)).isSome = true
    rw [h]
    rfl
theorem eK_start {T : Sh} {D : va_G} {cA : Nat → ClassId} {base tS : Nat} {adK adV : Nat → Nat} {s : State} (hl : T.length ≤ 1000) (hb : s.heap.size ≤ base) (hK : va_K D vwCl (eT T (D, phiL base adK adV tS, cA, ())) s) (hn : ∀ w ∈ NST, va_Nw w s) (hS : vk_S nST lenST bytST adK adV (lA s) s s.heap) (hC : va_Z "java/lang/String" "COMPACT_STRINGS" "Z" (.int 1) (lA s) s s.heap)
    (hP : va_Z "jdk/internal/util/Preconditions" "SIOOBE_FORMATTE\x52" "Ljava/util/function/BiFunction;" .null (lA s) s s.heap ∨ va_Z "jdk/internal/util/Preconditions" "SIOOBE_FORMATTE\x52" "Ljava/util/function/BiFunction;" (.ref tS) (lA s) s s.heap) (hR : ∀ q ∈ resST, vk_R q.1 q.2.1 q.2.2.1 (adK q.2.2.2) s) :
    eK T (D, phiL base adK adV tS, cA, ()) s := by
  have hN : ∀ q, eA T (D, phiL base adK adV tS, cA, ()) q → lA s q := by
    rintro q ⟨k, hk, rfl⟩
    show s.heap.size ≤ phiL base adK adV tS k
    rw [phi_lo (by omega)]
    omega
  refine ⟨hK, fun i j hi hj h => ?_, hn, ⟨(vkS_congr hS (fun i hi => phi_K hi) (fun i hi => phi_V hi)).narrow hN, hC.narrow hN, hP.imp (fun h => va_Z.narrow h hN) (fun h => va_Z.narrow h hN)⟩, fun q hq => ?_⟩
  · have h : phiL base adK adV tS i = phiL base adK adV tS j := h
    rw [phi_lo (by omega), phi_lo (by omega)] at h
    omega
  · show vk_R q.1 q.2.1 q.2.2.1 (phiL base adK adV tS (1000 + q.2.2.2)) s
    rw [phi_K (nf9 q hq)]
    exact hR q hq
set_option maxHeartbeats 4000000 in
set_option maxRecDepth 100000 in
theorem whole_start {p : Program} {e : Env} {s : State} {m : MethodId} {below : List Frame} {meth : Method} {c : Code} (l : Launch) (hflags : l.flags = flags0) {b L : Nat} {xs : Nat → Int32} (hL : L ≤ 3072) (C0 : lw_At p s m meth c b L xs) : W p l e room_1 s m #[Value.ref b] below meth c s.heap [] 0 0 (lw_Z below #[Value.ref b] s) (entryFrame m ([Value.ref b] : List Value).toArray 7) := by
  obtain ⟨hx, hb, hr, hml, hown, hts0, hX, hbl, hlocks, hgv⟩ := id C0
  have hts : ∀ w ∈ TBL, w.before #[Value.ref b] s = true := fun w hw => hts0 w (TBL_lw w hw)
  have hnst : ∀ w ∈ NST, va_Nw w s := fun w hw => va_Nw.of (NST_tabs w hw) (hts0 w (NST_lw w hw))
  have hAO : va_AO RX1 s := va_AO.of (hts0 _ (List.mem_append_right _ (List.mem_of_getElem? (show tables_1[82]? = some (Cond.arrayOver (.object RX1)) by decide +kernel))))
  obtain ⟨D, hK⟩ := cls_known hts
  obtain ⟨adK, adV, tS, hS, hC, hP, hR⟩ := str_start hgv hts0
  have hrows := rows_known hts hAO
  have hl := lv_entry ([.ref b]) (n := 7) (Nat.le_of_ble_eq_true rfl)
  rw [lg_entry_eq]
  generalize (lg_sl ([.ref b]) ++ List.replicate (7 - (lg_sl ([.ref b])).length) Slot.unset).toArray = ls at hl ⊢
  have hl : lv_has ls 7 [(0, .ref b)] := hl
  refine law_mk (T := SC) (E := (D, phiL s.heap.size adK adV tS, cAL SC s, ())) (pc := 0) (cells := 0) (slots := 0) (rest := []) hx hb hml hown hts hnst (Nat.le_refl _) hK (cAL_of hrows) hAO (fun k hk => phi_lo (Nat.lt_of_lt_of_le hk (by decide))) cnL_8 rfl dL_law_0 dL_law_3 dL_law_4 kiL_15 iiLX10_init rfl rfl (Nat.le_of_ble_eq_true rfl) hl.1 (Nat.le_of_ble_eq_true rfl) ⟨Nat.le_of_ble_eq_true rfl, Nat.le_of_ble_eq_true rfl⟩ (fun q hq => absurd hq List.not_mem_nil) ccX10_init ?_
  intro H1 locs1 z1 _ hH1 hK1 o1 hl1
  refine lv_astore_n (pc := 7) (lv' := [(1, .ref s.heap.size), (0, .ref b)]) hx hb dL_law_7 rfl hl (by decide) rfl (fun ls hl => ?_)
  refine law_mk (T := SR) (E := (D, phiL (s.heap.size + 64) adK adV tS, cAL SR s, ())) (pc := 8) (rest := []) hx hb hml hown hts hnst (by omega) hK (cAL_of hrows) hAO (fun k hk => (phi_lo (Nat.lt_of_lt_of_le hk (by decide))).trans (by rw [z1])) cnL_16 rfl dL_law_8 dL_law_11 dL_law_12 kiL_18 iiLX11_init rfl rfl (Nat.le_of_ble_eq_true rfl) hl.1 (Nat.le_of_ble_eq_true rfl) ⟨Nat.le_of_ble_eq_true rfl, Nat.le_of_ble_eq_true rfl⟩ hl1 ccX11_init ?_
  intro H2 locs2 z2 _ hH2 hK2 o2 hl2
  refine lv_astore_n (pc := 15) (lv' := [(2, .ref H1.size), (1, .ref s.heap.size), (0, .ref b)]) hx hb dL_law_15 rfl hl (by decide) rfl (fun ls hl => ?_)
  refine lv_iconst (pc := 16) (v := 1) hx hb dL_law_16 (by decide) ?_
  refine va_newaK (h := H2.size) (N := 1) (atype := .long) hx hb (hts _ (inT 1905 (by decide +kernel) rfl : Cond.arrayClass .long ∈ TBL)) rfl dL_law_17 rfl (by decide) (by decide) (by decide) (Nat.le_of_ble_eq_true rfl) (Nat.le_of_ble_eq_true rfl) rfl fun H3 cO e3 z3 o3 hAr hNm => ?_
  show W p l e room_1 s m #[Value.ref b] below meth c H3 locs2 _ _ _ (F0 m 19 ls [.ref H2.size])
  refine lv_astore_n (pc := 19) (lv' := [(3, .ref H2.size), (2, .ref H1.size), (1, .ref s.heap.size), (0, .ref b)]) hx hb dL_law_19 rfl hl (by decide) rfl (fun ls hl => ?_)
  refine lv_iconst (pc := 20) (v := 0) hx hb dL_law_20 (by decide) ?_
  refine lv_istore (pc := 21) (lv' := [(4, .int 0), (3, .ref H2.size), (2, .ref H1.size), (1, .ref s.heap.size), (0, .ref b)]) hx hb dL_law_21 hl (by decide) rfl (fun ls hl => ?_)
  have g1 : eK SC (D, phiL s.heap.size adK adV tS, cAL SC s, ()) s := eK_start (by decide) (Nat.le_refl _) hK1 hnst hS hC hP hR
  have g2 : eK SR (D, phiL (s.heap.size + 64) adK adV tS, cAL SR s, ()) s := eK_start (by decide) (by omega) hK2 hnst hS hC hP hR
  have hLOK : LOK p l s m meth c b L xs (D, phiL s.heap.size adK adV tS, cAL SC s, ()) (D, phiL (s.heap.size + 64) adK adV tS, cAL SR s, ()) H2.size cO := by
    have ph1 : ∀ k, k < SC.length → phiL s.heap.size adK adV tS k = s.heap.size + k := fun k hk => phi_lo (Nat.lt_of_lt_of_le hk (by decide))
    have ph2 : ∀ k, k < SR.length → phiL (s.heap.size + 64) adK adV tS k = s.heap.size + 64 + k := fun k hk => phi_lo (Nat.lt_of_lt_of_le hk (by decide))
    have hlC : SC.length = 64 := rfl
    have hlR : SR.length = 14 := rfl
    refine ⟨C0, hflags, g1, g2, ?_, ?_, by omega, hAr, hNm⟩
    · rintro q ⟨k, hk, rfl⟩
      show _ ≤ phiL s.heap.size adK adV tS k ∧ _ ∧ phiL s.heap.size adK adV tS k ≠ _
      rw [ph1 k hk]
      refine ⟨by omega, ?_, by omega⟩
      rintro ⟨j, hj, h⟩
      have h : phiL s.heap.size adK adV tS k = phiL (s.heap.size + 64) adK adV tS j := h
      rw [ph1 k hk, ph2 j hj] at h
      omega
    · rintro q ⟨k, hk, rfl⟩
      show _ ≤ phiL (s.heap.size + 64) adK adV tS k ∧ phiL (s.heap.size + 64) adK adV tS k ≠ _
      rw [ph2 k hk]
      omega
  have eC : eH SC (D, phiL s.heap.size adK adV tS, cAL SC s, ()) (iX10_init w0) H3 := by
    have h : va_P D vwCl (mk SC (phiL s.heap.size adK adV tS) (cAL SC s) (iX10_init w0)) H1 := hH1
    exact va_P.kept h fun j x hx => by
      have := (h j x hx).lt
      rw [o3 x.1 (by omega), o2 x.1 this]
  have eR : eH SR (D, phiL (s.heap.size + 64) adK adV tS, cAL SR s, ()) (iX11_init w0) H3 := by
    have h : va_P D vwCl (mk SR (phiL (s.heap.size + 64) adK adV tS) (cAL SR s) (iX11_init w0)) H2 := hH2
    exact va_P.kept h fun j x hx => o3 x.1 (h j x hx).lt
  have eO : va_P D vwCl (oCell cO H2.size 0) H3 := by
    intro k q hq
    have hz : k < 1 := (List.getElem?_eq_some_iff.mp hq).1
    rw [show k = 0 by omega] at hq
    cases hq
    exact e3
  have eS : va_S (lA s) s.heap H3 locs2 := ⟨by omega, fun q hq _ => by rw [o3 q (by omega), o2 q (by omega), o1 q hq], hl2⟩
  refine W.widen (k := 2000 + 0) (n := 20000 + 10 * 0) (by omega) (by omega) ?_
  refine law_loop hL 513 0 _ _ 0 (by omega) (by omega) rel0 p l e s m below meth c b (D, phiL s.heap.size adK adV tS, cAL SC s, ()) (D, phiL (s.heap.size + 64) adK adV tS, cAL SR s, ()) H2.size cO H3 locs2 ls hLOK eC eR eO eS ?_
  have q1 : phiL s.heap.size adK adV tS 0 = s.heap.size := rfl
  have q2 : phiL (s.heap.size + 64) adK adV tS 0 = H1.size := z1.symm
  show lv_has ls 7 [(0, .ref b), (1, .ref (phiL s.heap.size adK adV tS 0)), (2, .ref (phiL (s.heap.size + 64) adK adV tS 0)), (3, .ref H2.size), (4, .int (nI (6 * 0)))]
  rw [q1, q2]
  exact lv_sub hl [4, 3, 2, 1, 0] rfl
