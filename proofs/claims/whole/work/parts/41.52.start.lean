/-! the law's beginning: two objects and a row are made -/
def w0 : Wd := (fun _ _ => 0, fun _ _ => 0, fun _ _ => none)
theorem gB_w0 (n : Nat) : gB n w0 := fun _ _ => ⟨fun _ => rfl, fun _ => rfl, fun _ => rfl⟩
section LS
variable {p : Program} {l : Launch} {e : Env} {s : State} {m : MethodId} {below : List Frame} {meth : Method} {c : Code} {H : Heap} {locs : List Loc} {cells slots : Nat} {Q : State → Prop} {args : Array Value}
theorem law_mk {T : Sh} {E : En} {ci idx idx2 N n2 mc1 ms1 pc : Nat} {C : String} {Tt : u_T} {M' : Mth} {w2 : Wd} {ls : Array Slot} {rest : List Value}
    (hx : p.tables.exec = Jvm.exec) (hb : c.code = code) (hml : c.maxLocals = 7) (hown : s.vm.findClass R_law = some m.cls) (hts : ∀ w ∈ TBL, w.before args s = true) (hnst : ∀ w ∈ NST, va_Nw w s) (hsz : s.heap.size ≤ H.size)
    (hK : va_K E.1 vwCl [] s) (hcO : cOf T E s) (hAO : va_AO RX1 s) (hphi : ∀ k, k < T.length → E.2.1 k = H.size + k) (hc : CNew R_law idx ci C Tt N) (hT : T[0]? = some (.inl ci)) (d1 : decode code pc = .ok (.new idx, 3)) (d2 : decode code (pc + 3) = .ok (.dup, 1)) (d3 : decode code (pc + 3 + 1) = .ok (.invokespecial idx2, 3))
    (hca : CAt R_law idx2 M' 0) (hin : Cond.instanceMethod M'.1 ∈ TBL) (hy1 : M'.1.name = "<init>") (hr1 : M'.2.2.2.1 = none) (hD : M'.2.2.2.2 ≤ 1000) (hsize : ls.size = 7) (hcat : (rest.map fun v => v.category).sum ≤ 4) (hroom : cells + 1 + mc1 ≤ 601024 ∧ slots + N + ms1 ≤ 7293034) (hlc : ∀ q ∈ locs, s.heap.size ≤ q.base)
    (hcall : CN T M' [.ref 0] 1 w0 n2 w2 mc1 ms1)
    (k : ∀ (H1 : Heap) (locs1 : List Loc), H1.size = H.size + n2 → n2 ≤ T.length → nH T E n2 w2 H1 → va_K E.1 vwCl (eT (T.take n2) E) s → (∀ q, q < H.size → H1[q]? = H[q]?) → (∀ q ∈ locs1, s.heap.size ≤ q.base) → W p l e room_1 s m args below meth c H1 locs1 (cells + 1 + mc1) (slots + N + ms1) Q (F0 m (pc + 3 + 1 + 3) ls (.ref H.size :: rest))) :
    W p l e room_1 s m args below meth c H locs cells slots Q (F0 m pc ls rest) := by
  obtain ⟨hcl, hu, ⟨ty, hty, htk⟩, hlk, hins, hini⟩ := hc
  have hKn := hK.1 ci _ hcl
  have h0l := lt_len hT
  refine W.newcK hx hb hown (hts _ hlk) (hts _ hins) (hts _ hini) rfl d1 (by show cells + 1 ≤ 601024; omega) (by show slots + N ≤ 7293034; omega) hKn.2.1 rfl fun H1 kC hkC e1 z1 o1 => ?_
  have hP1 : nH T E 1 w0 H1 := by
    show va_P E.1 vwCl (mk (T.take (0 + 1)) E.2.1 E.2.2.1 w0) H1
    rw [take1 hT, mk_app]
    show va_P E.1 vwCl ([] ++ [(E.2.1 0, .inr (ci, fl E.2.1 w0 0 (KD.getD ci [])))]) H1
    intro j x hx
    have hz : j < 1 := (List.getElem?_eq_some_iff.mp hx).1
    rw [show j = 0 by omega] at hx
    cases hx
    refine ⟨_, hcl, ?_⟩
    rw [hphi 0 h0l]
    exact (u_born ty hts hu hKn hkC e1 hty).to (fun z hz => by
      obtain ⟨t, ht1, ht2⟩ := htk z hz
      exact fl_def (gB_w0 0) ht1 ht2)
  have hK1 : va_K E.1 vwCl (eT (T.take 1) E) s := by
    rw [show (1 : Nat) = 0 + 1 from rfl, take1 hT, eT_app]
    exact hK
  refine lv_dup hx hb d2 rfl ?_
  obtain ⟨c1, c2, c3, c4, c5, c6⟩ := hca
  have hNK : ∀ U : State, U.heap = H1 → s.WarmedH U.vm → nK T E 1 U := fun U hU hW => by
    refine ⟨va_K.moved hW.alike hK1, fun w hw => NST_warm w hw s U hW (hnst w hw), fun z x hx => by rw [hW.alike.findClass]; exact hcO z x hx, va_AO.moved hW.alike hAO, fun z hz hz9 => ?_, fun i j hi hj _ => by omega, fun z hz => ?_, h0l⟩
    · rw [hU, z1, hphi z hz9]
      omega
    · rw [hU, z1, hphi z (by omega)]
      omega
  have hpre : PreS s H1 (fun v U => v = ([Value.ref 0].map (rv E.2.1)).toArray ∧ U.heap.size = H1.size ∧ nK T E 1 U ∧ nH T E 1 w0 U.heap ∧ gB 1 w0) [Value.ref (E.2.1 0)] := by
    refine ⟨fun x U g mk q => ⟨q.1, q.2.1, ⟨va_K.moved (u := U) (U := U.calling g mk x) (Vm.Alike.refl U.vm) q.2.2.1.1, fun w hw => va_Nw.same (u := U) (U := U.calling g mk x) (NST_tabs w hw) rfl (q.2.2.1.2.1 w hw), q.2.2.1.2.2.1, va_AO.moved (u := U) (U := U.calling g mk x) (Vm.Alike.refl U.vm) q.2.2.1.2.2.2.1, q.2.2.1.2.2.2.2⟩, q.2.2.2⟩, fun U hU hW => ⟨rfl, by rw [hU], hNK U hU hW, by rw [hU]; exact hP1, gB_w0 1⟩⟩
  have hfix : CallFix p m c code 7 s args TBL R_law := ⟨hx, hb, hml, hown, hts⟩
  have hlo : 8 + (M'.2.2.1 + 11) + (rmN M' mc1 ms1).locals ≤ room_1.locals := by show 8 + (M'.2.2.1 + 11) + M'.2.2.2.2 * 60 ≤ 84000; omega
  have hfr : (rmN M' mc1 ms1).frames + 1 ≤ room_1.frames := by show M'.2.2.2.2 + 1 ≤ 2048; omega
  have hce : cells + 1 + mc1 ≤ room_1.cells ∧ slots + N + ms1 ≤ room_1.slots := hroom
  have hM := hcall l E H1.size
  rw [show (Value.ref H.size) = Value.ref (E.2.1 0) from congrArg Value.ref ((hphi 0 h0l).trans (Nat.add_zero _)).symm] at k ⊢
  have hrun : va_Run p l e room_1 s m args below meth c H1 locs (cells + 1) (slots + N) mc1 ms1 (F0 m (pc + 3 + 1) ls (.ref (E.2.1 0) :: .ref (E.2.1 0) :: rest)) (.ref (E.2.1 0) :: rest) (nQ T E 1 n2 w2 [Value.ref (E.2.1 0)].toArray) (nA E 1 H1.size) := by
    rw [hr1] at c2
    rcases c1 with c1 | ⟨host, c1⟩
    · exact va_runI (As := []) (rest := .ref (E.2.1 0) :: rest) hfix hM ⟨⟨rfl, rfl, hfr, hlo, mW_warm hts (hr1 ▸ c2), by unfold mW; rw [hr1]; exact List.mem_cons_self, hts _ c2, hts _ c3, c4, params_of c5, hts _ c1⟩, hy1, hts _ hin⟩ hpre rfl rfl hsize rfl (lv_room (by show 1 + (rest.map fun v => v.category).sum ≤ 8; omega)) d3 hce
    · exact va_runIN (As := []) (rest := .ref (E.2.1 0) :: rest) hfix hM ⟨⟨⟨rfl, rfl, hfr, hlo, mW_warm hts (hr1 ▸ c2), by unfold mW; rw [hr1]; exact List.mem_cons_self⟩, hts _ c2, hts _ c3, c4, params_of c5, va_Nw.use (NST_tabs _ c1) (hnst _ c1)⟩, hy1, hts _ hin⟩ hpre rfl rfl hsize rfl (lv_room (by show 1 + (rest.map fun v => v.category).sum ≤ 8; omega)) d3 hce
  intro T9 hT9 X
  obtain ⟨v, st₀, t, T', Ls, g0, X', hL, e1, e2, ⟨hv, qK, qH, qB, qz, qn, qn2, hz, hk⟩, stp⟩ := hrun T9 hT9 X
  have hv : v = none := Outcome.returned.inj hv
  subst hv
  rw [g0] at hz hk qz
  have hnew : ∀ q, nA E 1 H1.size q → H.size ≤ q := by
    intro q hq
    rcases hq with ⟨z, hz1, rfl⟩ | hq
    · rw [hphi z (by omega)]
      omega
    · omega
  obtain ⟨t2, a1, b1⟩ := k T'.heap (locs ++ Ls) (by rw [e1, qz, z1]; omega) qn2 (by rw [e1]; exact qH) (va_K.moved (by rw [← e2]; exact X'.warmed.alike.symm) qK) (fun q hq => by rw [e1, hk q (by omega) (fun z => by have := hnew q z; omega)]; exact o1 q hq) (fun q hq => by
      rcases List.mem_append.mp hq with h | h
      · exact hlc q h
      · exact Nat.le_trans hsz (hnew _ (hL q h))) T' rfl X'
  exact ⟨t2, stp t2 a1, b1⟩
end LS
