/-! constructors: a world that grows along a plan T; its first n cells are there, each new cell at the heap's end -/
def cTy : Nat × Nat → FieldType
  | (0, _) => .int
  | (1, _) => .long
  | (_, _) => .object RX1
def cOf (T : Sh) (E : En) (s : State) : Prop := ∀ (k : Nat) (e : Nat × Nat), T[k]? = some (.inr e) → s.vm.findClass ("[" ++ (cTy e).toString) = some (E.2.2.1 k)
def nA (E : En) (n0 sz : Nat) : Nat → Prop := fun q => (∃ k, k < n0 ∧ q = E.2.1 k) ∨ sz ≤ q
def nK (T : Sh) (E : En) (n0 : Nat) (s : State) : Prop := va_K E.1 vwCl (eT (T.take n0) E) s ∧ (∀ w ∈ NST, va_Nw w s) ∧ cOf T E s ∧ va_AO RX1 s ∧ (∀ k, n0 ≤ k → k < T.length → E.2.1 k = s.heap.size + (k - n0)) ∧ (∀ i j, i < n0 → j < n0 → E.2.1 i = E.2.1 j → i = j) ∧ (∀ k, k < n0 → E.2.1 k < s.heap.size) ∧ n0 ≤ T.length
def gB (n : Nat) (w : Wd) : Prop := ∀ a, n ≤ a → (∀ i, w.1 a i = 0) ∧ (∀ i, w.2.1 a i = 0) ∧ ∀ i, w.2.2 a i = none
def nH (T : Sh) (E : En) (n : Nat) (w : Wd) (H : Heap) : Prop := va_P E.1 vwCl (mk (T.take n) E.2.1 E.2.2.1 w) H
def nS (T : Sh) (E : En) (n0 n : Nat) (s : State) (H : Heap) (locs : List Loc) : Prop := va_S (nA E n0 s.heap.size) s.heap H locs ∧ H.size = s.heap.size + (n - n0) ∧ n0 ≤ n ∧ n ≤ T.length
def rmN (M : Mth) (mc ms : Nat) : Room := { frames := M.2.2.2.2, cells := mc, slots := ms, locals := M.2.2.2.2 * 60 }
def nQ (T : Sh) (E : En) (n0 n' : Nat) (w' : Wd) : Array Value → State → Outcome → State → Prop := fun _ st oc t => oc = .returned none ∧ va_K E.1 vwCl (eT (T.take n') E) t ∧ nH T E n' w' t.heap ∧ gB n' w' ∧ t.heap.size = st.heap.size + (n' - n0) ∧ n0 ≤ n' ∧ n' ≤ T.length ∧ va_F (nA E n0 st.heap.size) st t
def CN (T : Sh) (M : Mth) (as : List Value) (n : Nat) (w : Wd) (n' : Nat) (w' : Wd) (mc ms : Nat) : Prop :=
  ∀ (l : Launch) (E : En) (sz : Nat), Met l M.1 (mW M) (rmN M mc ms) (fun v U => v = (as.map (rv E.2.1)).toArray ∧ U.heap.size = sz ∧ nK T E n U ∧ nH T E n w U.heap ∧ gB n w) (nQ T E n n' w') mc ms (nA E n sz)
abbrev nPre (T : Sh) (M : Mth) (E : En) (n0 : Nat) (p : Program) (s : State) (m : MethodId) (args : Array Value) (meth : Method) (c : Code) : Prop :=
  p.tables.exec = Jvm.exec ∧ c.code = M.2.1 ∧ meth.sig.returnType = M.2.2.2.1 ∧ c.maxLocals = M.2.2.1 ∧ s.vm.findClass M.1.cls = some m.cls ∧ (∀ w ∈ mW M, w.before args s = true) ∧ meth.locks = false ∧ meth.name = "<init>" ∧ nK T E n0 s
def GoN (T : Sh) (M : Mth) (mc ms n0 n' : Nat) (w' : Wd) (pc : Nat) (lv : List (Nat × Value)) (st : List Value) (n : Nat) (w : Wd) (cells slots : Nat) : Prop :=
  ∀ (p : Program) (l : Launch) (e : Env) (s : State) (m : MethodId) (args : Array Value) (below : List Frame) (meth : Method) (c : Code) (H : Heap) (locs : List Loc) (ls : Array Slot) (E : En),
    nPre T M E n0 p s m args meth c → va_K E.1 vwCl (eT (T.take n) E) s → nH T E n w H → gB n w → nS T E n0 n s H locs → lv_has ls M.2.2.1 (lv.map fun q => (q.1, rv E.2.1 q.2)) →
    W p l e (rmN M mc ms) s m args below meth c H locs cells slots (MQ below (nQ T E n0 n' w') args s mc ms (nA E n0 s.heap.size)) (F0 m pc ls (st.map (rv E.2.1)))
theorem take1 {T : Sh} {n : Nat} {x : Nat ⊕ (Nat × Nat)} (h : T[n]? = some x) : T.take (n + 1) = T.take n ++ [x] := by
  rw [List.take_add_one, h]
  rfl
theorem lt_len {T : Sh} {n : Nat} {x : Nat ⊕ (Nat × Nat)} (h : T[n]? = some x) : n < T.length := (List.getElem?_eq_some_iff.mp h).1
theorem take_len {T : Sh} {n : Nat} {x : Nat ⊕ (Nat × Nat)} (h : T[n]? = some x) : (T.take n).length = n := by
  have := (List.getElem?_eq_some_iff.mp h).1
  rw [List.length_take]
  omega
theorem mk_app {S : Sh} {φ : Nat → Nat} {cA : Nat → ClassId} {w : Wd} {x : Nat ⊕ (Nat × Nat)} : mk (S ++ [x]) φ cA w = mk S φ cA w ++ [(φ S.length, ce φ cA w S.length x)] := by
  unfold mk
  rw [List.mapIdx_append]
  simp
theorem eT_app {S : Sh} {E : En} {x : Nat ⊕ (Nat × Nat)} : eT (S ++ [x]) E = eT S E ++ (eTy E.2.2.1 S.length x).toList := by
  unfold eT
  rw [List.mapIdx_append, List.filterMap_append]
  congr 1
  simp
  cases eTy E.2.2.1 S.length x <;> rfl
theorem nS.phi {T : Sh} {E : En} {n0 n : Nat} {s : State} {H : Heap} {locs : List Loc} (hK : nK T E n0 s) (h : nS T E n0 n s H locs) (hT : n < T.length) : E.2.1 n = H.size := by
  rw [hK.2.2.2.2.1 n h.2.2.1 hT, h.2.1]
theorem nD {T : Sh} {E : En} {n0 n : Nat} {s : State} (hK : nK T E n0 s) (hn : n0 ≤ n) (w : Wd) : va_D (nA E n0 s.heap.size) (mk (T.take n) E.2.1 E.2.2.1 w) := by
  have key : ∀ (k : Nat) (q : Nat × va_E), (mk (T.take n) E.2.1 E.2.2.1 w)[k]? = some q → q.1 = E.2.1 k ∧ k < T.length := by
    intro k q hk
    have hl : k < (T.take n).length := by simpa [mk] using (List.getElem?_eq_some_iff.mp hk).1
    obtain ⟨e, he⟩ : ∃ e, (T.take n)[k]? = some e := ⟨_, List.getElem?_eq_getElem hl⟩
    rw [mk_at he] at hk
    cases hk
    have hl2 : k < min n T.length := by rw [List.length_take] at hl; exact hl
    exact ⟨rfl, by omega⟩
  obtain ⟨-, -, -, -, h5, h6, h7, -⟩ := hK
  refine ⟨fun i j x y hi hj hxy => ?_, fun k q hk => ?_⟩
  · obtain ⟨ki, li⟩ := key i x hi
    obtain ⟨kj, lj⟩ := key j y hj
    rw [ki, kj] at hxy
    by_cases c1 : i < n0 <;> by_cases c2 : j < n0
    · exact h6 i j c1 c2 hxy
    · have := h7 i c1
      rw [hxy, h5 j (by omega) lj] at this
      omega
    · have := h7 j c2
      rw [← hxy, h5 i (by omega) li] at this
      omega
    · rw [h5 i (by omega) li, h5 j (by omega) lj] at hxy
      omega
  · obtain ⟨kk, lk⟩ := key k q hk
    rw [kk]
    by_cases c1 : k < n0
    · exact Or.inl ⟨k, c1, rfl⟩
    · exact Or.inr (by rw [h5 k (by omega) lk]; omega)
/-- what a class's making wants -/
def CNew (own : String) (idx ci : Nat) (C : String) (Tt : u_T) (N : Nat) : Prop := vwCl[ci]? = some (C, Tt, N) ∧ (∀ w ∈ u_ws C Tt N, w ∈ TBL) ∧ (∃ ty : Nat → FieldType, (∀ k, k < N → parseFieldDescriptor (Tt k).2.2.1 = some (ty k)) ∧ ∀ k, k < N → ∃ t, (KD.getD ci [])[k]? = some t ∧ tyOK t (ty k)) ∧ Cond.classLink own idx C ∈ TBL ∧ Cond.instantiable C N ∈ TBL ∧ Cond.initialized C ∈ TBL
theorem fl_def {φ : Nat → Nat} {w : Wd} {n : Nat} (hB : gB n w) {ks : List Nat} {ty : FieldType} {j t : Nat} (h : ks[j]? = some t) (ht : tyOK t ty) : defaultValue ty = vp_V (fl φ w n ks) j := by
  obtain ⟨h1, h2, h3⟩ := hB n (Nat.le_refl _)
  have e : vp_V (fl φ w n ks) j = fv φ w n j t := by
    unfold vp_V
    rw [List.getD_eq_getElem?_getD, fl_at h]
    rfl
  rw [e]
  match t, ht with
  | 0, ht => rw [show ty = .int from ht]; simp [fv, h1, defaultValue]
  | 1, ht => rw [show ty = .boolean from ht]; simp [fv, h1, defaultValue]
  | 2, ht => rw [show ty = .long from ht]; simp [fv, h2, defaultValue]
  | t + 3, ht =>
    rcases ht with ⟨z, rfl⟩ | ⟨z, rfl⟩ <;> simp [fv, h3, defaultValue, va_rf]
theorem gB_succ {n : Nat} {w : Wd} (h : gB n w) : gB (n + 1) w := fun a ha => h a (by omega)
section GON
variable {T : Sh} {M : Mth} {mc ms n0 n' : Nat} {w' : Wd} {pc : Nat} {lv : List (Nat × Value)} {st : List Value} {n : Nat} {w : Wd} {cells slots : Nat}
theorem cn_of {as : List Value} (hy : plainName M.1.cls = true) (hn : M.1.name = "<init>") (hl : (lg_sl as).length ≤ M.2.2.1) (k : GoN T M mc ms n n' w' 0 (lv_args 0 as) [] n w 0 0) : CN T M as n w n' w' mc ms := by
  intro l E sz
  refine Met.ofW (cc := M.2.1) (maxL := M.2.2.1) (ret := M.2.2.2.1) hy rfl ?_
  intro p e s m args below meth c s₁ B hml hv
  obtain ⟨rfl, hsz, hK, hH, hB⟩ := hv
  have hlv := lv_entry (as.map (rv E.2.1)) (n := M.2.2.1) (by rw [lg_sl_len]; exact hl)
  rw [lg_entry_eq]
  generalize (lg_sl (as.map (rv E.2.1)) ++ List.replicate (M.2.2.1 - (lg_sl (as.map (rv E.2.1))).length) Slot.unset).toArray = ls at hlv ⊢
  rw [lv_args_map] at hlv
  subst hsz
  exact k p l e s m _ below meth c s.heap [] ls E ⟨B.exec, B.bytes, B.returns, hml, findClass_of_methodNamed B.named, atoms_spec (ws := mW M) B.pre, B.notSynchronized, (name_of_methodNamed B.named B.method).1.trans hn, hK⟩ hK.1 hH hB ⟨va_S.rf, by omega, Nat.le_refl _, hK.2.2.2.2.2.2.2⟩ hlv
theorem gn_aload_n {j : Fin 4} {i x : Nat} (hd : decode M.2.1 pc = .ok (.aload_n j, 1)) (hi : (j : Nat) = i) (q : Nat) (hq : lv[q]? = some (i, .ref x)) (k : GoN T M mc ms n0 n' w' (pc + 1) lv (.ref x :: st) n w cells slots) : GoN T M mc ms n0 n' w' pc lv st n w cells slots := by
  intro p l e s m args below meth c H locs ls E G hK h1 hB hS h3
  exact lv_aload_n G.1 G.2.1 hd hi (lv_here h3 q hq) (k p l e s m args below meth c H locs ls E G hK h1 hB hS h3)
theorem gn_iload_n {j : Fin 4} {i : Nat} {x : Int32} (hd : decode M.2.1 pc = .ok (.iload_n j, 1)) (hi : (j : Nat) = i) (q : Nat) (hq : lv[q]? = some (i, .int x)) (k : GoN T M mc ms n0 n' w' (pc + 1) lv (.int x :: st) n w cells slots) : GoN T M mc ms n0 n' w' pc lv st n w cells slots := by
  intro p l e s m args below meth c H locs ls E G hK h1 hB hS h3
  exact lv_iload_n G.1 G.2.1 hd hi (lv_here h3 q hq) (k p l e s m args below meth c H locs ls E G hK h1 hB hS h3)
theorem gn_istore_n {i : Nat} {lv2 : List (Nat × Value)} {j : Fin 4} {x : Int32} (hd : decode M.2.1 pc = .ok (.istore_n j, 1)) (hi : (j : Nat) = i) (hn : i < M.2.2.1) (hl : lvS i (.int x) lv = lv2) (k : GoN T M mc ms n0 n' w' (pc + 1) lv2 st n w cells slots) : GoN T M mc ms n0 n' w' pc lv (.int x :: st) n w cells slots := by
  intro p l e s m args below meth c H locs ls E G hK h1 hB hS h3
  exact lv_istore_n G.1 G.2.1 hd hi h3 hn rfl (fun ls2 h4 => k p l e s m args below meth c H locs ls2 E G hK h1 hB hS (lvS_has hl h4))
theorem gn_iinc {i : Nat} {j : Int} {x v : Int32} {lv2 : List (Nat × Value)} (hd : decode M.2.1 pc = .ok (.iinc i j, 3)) (q : Nat) (hq : lv[q]? = some (i, .int x)) (hn : i < M.2.2.1) (hv : x + Int32.ofInt j = v) (hl : lvS i (.int v) lv = lv2) (k : GoN T M mc ms n0 n' w' (pc + 3) lv2 st n w cells slots) : GoN T M mc ms n0 n' w' pc lv st n w cells slots := by
  intro p l e s m args below meth c H locs ls E G hK h1 hB hS h3
  exact lv_iinc G.1 G.2.1 hd h3 (k := q) (by rw [List.getElem?_map, hq]; rfl) hv hn rfl (fun ls2 h4 => k p l e s m args below meth c H locs ls2 E G hK h1 hB hS (lvS_has hl h4))
theorem gn_iconst {j : Int} {v : Int32} (hd : decode M.2.1 pc = .ok (.iconst j, 1)) (hv : Int32.ofInt j = v) (k : GoN T M mc ms n0 n' w' (pc + 1) lv (.int v :: st) n w cells slots) : GoN T M mc ms n0 n' w' pc lv st n w cells slots := by
  intro p l e s m args below meth c H locs ls E G hK h1 hB hS h3
  exact lv_iconst G.1 G.2.1 hd hv (k p l e s m args below meth c H locs ls E G hK h1 hB hS h3)
theorem gn_bipush {j : Int} {v : Int32} (hd : decode M.2.1 pc = .ok (.bipush j, 2)) (hv : (Int8.ofInt j).toInt32 = v) (k : GoN T M mc ms n0 n' w' (pc + 2) lv (.int v :: st) n w cells slots) : GoN T M mc ms n0 n' w' pc lv st n w cells slots := by
  intro p l e s m args below meth c H locs ls E G hK h1 hB hS h3
  exact lv_bipush G.1 G.2.1 hd hv (k p l e s m args below meth c H locs ls E G hK h1 hB hS h3)
theorem gn_sipush {j : Int} {v : Int32} (hd : decode M.2.1 pc = .ok (.sipush j, 3)) (hv : (Int16.ofInt j).toInt32 = v) (k : GoN T M mc ms n0 n' w' (pc + 3) lv (.int v :: st) n w cells slots) : GoN T M mc ms n0 n' w' pc lv st n w cells slots := by
  intro p l e s m args below meth c H locs ls E G hK h1 hB hS h3
  exact lv_sipush G.1 G.2.1 hd hv (k p l e s m args below meth c H locs ls E G hK h1 hB hS h3)
theorem gn_dup {v : Value} (hd : decode M.2.1 pc = .ok (.dup, 1)) (hc : v.category = 1) (k : GoN T M mc ms n0 n' w' (pc + 1) lv (v :: v :: st) n w cells slots) : GoN T M mc ms n0 n' w' pc lv (v :: st) n w cells slots := by
  intro p l e s m args below meth c H locs ls E G hK h1 hB hS h3
  exact lv_dup G.1 G.2.1 hd (by rw [rv_cat]; exact hc) (k p l e s m args below meth c H locs ls E G hK h1 hB hS h3)
theorem gn_goto {off : Int} {tgt : Nat} (hd : decode M.2.1 pc = .ok (.goto off, 3)) (ht : (pc : Int) + off = (tgt : Int)) (k : GoN T M mc ms n0 n' w' tgt lv st n w cells slots) : GoN T M mc ms n0 n' w' pc lv st n w cells slots := by
  intro p l e s m args below meth c H locs ls E G hK h1 hB hS h3
  exact lv_goto G.1 G.2.1 hd ht (k p l e s m args below meth c H locs ls E G hK h1 hB hS h3)
theorem gn_icmp_ge {x y : Int32} {off : Int} {tgt : Nat} (hd : decode M.2.1 pc = .ok (.if_icmp .ge off, 3)) (ht : (pc : Int) + off = (tgt : Int)) (kt : y ≤ x → GoN T M mc ms n0 n' w' tgt lv st n w cells slots) (kf : ¬ y ≤ x → GoN T M mc ms n0 n' w' (pc + 3) lv st n w cells slots) : GoN T M mc ms n0 n' w' pc lv (.int y :: .int x :: st) n w cells slots := by
  intro p l e s m args below meth c H locs ls E G hK h1 hB hS h3
  exact lv_icmp_ge G.1 G.2.1 hd ht (fun q => kt q p l e s m args below meth c H locs ls E G hK h1 hB hS h3) (fun q => kf q p l e s m args below meth c H locs ls E G hK h1 hB hS h3)
theorem gn_objInit {own : String} {idx a : Nat} (hd : decode M.2.1 pc = .ok (.invokespecial idx, 3)) (ho : M.1.cls = own) (hl : Cond.methodLink own idx Lib.objectInit ∈ TBL) (hin : Cond.instanceMethod Lib.objectInit ∈ TBL) (hc : Cond.code Lib.objectInit ⟨#[0xb1]⟩ 1 none ∈ TBL) (hD : 1 ≤ M.2.2.2.2) (hcat : (st.map fun v => v.category).sum ≤ 8) (k : GoN T M mc ms n0 n' w' (pc + 3) lv st n w cells slots) : GoN T M mc ms n0 n' w' pc lv (.ref a :: st) n w cells slots := by
  intro p l e s m args below meth c H locs ls E G hK h1 hB hS h3
  have hts : ∀ x ∈ TBL, x.before args s = true := fun x hx => G.2.2.2.2.2.1 x (List.mem_cons_of_mem _ hx)
  refine W.objInit G.1 G.2.1 (ho ▸ G.2.2.2.2.1) (hts _ hl) (hts _ hin) (hts _ hc) rfl (by rw [G.2.2.2.1]; exact h3.1) rfl hd hD ?_ (k p l e s m args below meth c H locs ls E G hK h1 hB hS h3)
  show 2 * 0 + ((st.map (rv E.2.1)).map fun v => v.category).sum + 12 ≤ M.2.2.2.2 * 60
  rw [sum_cat]
  omega
theorem gn_get {own : String} {idx cI j a b : Nat} (hd : decode M.2.1 pc = .ok (.getfield idx, 3)) (ho : M.1.cls = own) (hf : FAt own idx cI j 3) (hS0 : (T.take n)[a]? = some (.inl cI)) (hb : wr w a j = some b) (k : GoN T M mc ms n0 n' w' (pc + 3) lv (.ref b :: st) n w cells slots) : GoN T M mc ms n0 n' w' pc lv (.ref a :: st) n w cells slots := by
  intro p l e s m args below meth c H locs ls E G hK h1 hB hS h3
  obtain ⟨C, Tt, N, f1, f2, f3, f4, f5⟩ := hf
  have hv2 : (fl E.2.1 w a (KD.getD cI []))[j]? = some (rv E.2.1 (.ref b)) := by rw [fl_at f4]; show some (va_rf ((w.2.2 a j).map E.2.1)) = _; rw [show w.2.2 a j = some b from hb]; rfl
  have hts := fun x hx => G.2.2.2.2.2.1 x (List.mem_cons_of_mem _ hx)
  rcases f5 with f5 | ⟨host, f5⟩
  · exact va_get (Ts := TBL) G.1 G.2.1 hts f3 (ho ▸ G.2.2.2.2.1) hK h1 a (mk_at hS0) f1 j f2 (hts _ f5) (fun _ h => h) hv2 hd (k p l e s m args below meth c H locs ls E G hK h1 hB hS h3)
  · exact va_getN (Ts := TBL) G.1 G.2.1 hts f3 (ho ▸ G.2.2.2.2.1) hK h1 a (mk_at hS0) f1 j f2 (va_Nw.use (NST_tabs _ f5) (G.2.2.2.2.2.2.2.2.2.1 _ f5)) (fun _ h => h) hv2 hd (k p l e s m args below meth c H locs ls E G hK h1 hB hS h3)
theorem gn_alen {a t z : Nat} {v : Int32} (hd : decode M.2.1 pc = .ok (.arraylength, 1)) (hS0 : (T.take n)[a]? = some (.inr (t, z))) (hv : Int32.ofNat z = v) (k : GoN T M mc ms n0 n' w' (pc + 1) lv (.int v :: st) n w cells slots) : GoN T M mc ms n0 n' w' pc lv (.ref a :: st) n w cells slots := by
  intro p l e s m args below meth c H locs ls E G hK h1 hB hS h3
  match t, hS0 with
  | 0, hS0 =>
    obtain ⟨t0, ht⟩ := eT_at (E := E) hS0 rfl
    exact va_alen G.1 G.2.1 hK h1 a t0 (mk_at hS0) ht hv hd (k p l e s m args below meth c H locs ls E G hK h1 hB hS h3)
  | 1, hS0 =>
    obtain ⟨t0, ht⟩ := eT_at (E := E) hS0 rfl
    exact va_alen G.1 G.2.1 hK h1 a t0 (mk_at hS0) ht hv hd (k p l e s m args below meth c H locs ls E G hK h1 hB hS h3)
  | t + 2, hS0 =>
    obtain ⟨t0, ht⟩ := eT_at (E := E) hS0 rfl
    exact va_alen G.1 G.2.1 hK h1 a t0 (mk_at hS0) ht hv hd (k p l e s m args below meth c H locs ls E G hK h1 hB hS h3)
/-- a final field's entry -/
def FFin (c k t : Nat) : Prop := ∃ (C : String) (T : u_T) (N : Nat) (ty : Nat → FieldType), vwCl[c]? = some (C, T, N) ∧ (∀ j, j < N → parseFieldDescriptor (T j).2.2.1 = some (ty j)) ∧ (∀ a, a < N → ∀ b, b < N → a ≠ b → (T a).2.1 ≠ (T b).2.1) ∧ (T k).2.2.2 = true ∧ tyOK t (ty k)
theorem gn_put {own : String} {idx cI j t a : Nat} {v : Value} {w2 : Wd} (hd : decode M.2.1 pc = .ok (.putfield idx, 3)) (ho : M.1.cls = own) (hf : FAt own idx cI j t) (hp : FPut cI j t ∨ FFin cI j t ∧ (∃ q, vwCl[cI]? = some q ∧ (q.2.1 j).1 = own ∧ Cond.fieldLink own idx (q.2.1 j).1 (q.2.1 j).2.1 (q.2.1 j).2.2.1 ∈ TBL)) (hS0 : (T.take n)[a]? = some (.inl cI)) (han : a < n)
    (hv : ∀ φ, fl φ w2 a (KD.getD cI []) = (fl φ w a (KD.getD cI [])).set j (rv φ v)) (hoth : ∀ b, b ≠ a → ∀ φ cA e, ce φ cA w2 b e = ce φ cA w b e) (hB2 : ∀ b, b ≠ a → (∀ i, w2.1 b i = w.1 b i) ∧ (∀ i, w2.2.1 b i = w.2.1 b i) ∧ ∀ i, w2.2.2 b i = w.2.2 b i)
    (hnn : ∀ ty : FieldType, tyOK t ty → ∀ φ, narrow ty (rv φ v) = rv φ v ∧ fits ty (rv φ v) = true)
    (k : GoN T M mc ms n0 n' w' (pc + 3) lv st n w2 cells slots) : GoN T M mc ms n0 n' w' pc lv (v :: .ref a :: st) n w cells slots := by
  intro p l e s m args below meth c H locs ls E G hK h1 hB hS h3
  have hBw : gB n w2 := fun b hb => by
    obtain ⟨q1, q2, q3⟩ := hB2 b (by omega)
    obtain ⟨r1, r2, r3⟩ := hB b hb
    exact ⟨fun i => (q1 i).trans (r1 i), fun i => (q2 i).trans (r2 i), fun i => (q3 i).trans (r3 i)⟩
  obtain ⟨C, Tt, N, f1, f2, f3, f4, f5⟩ := hf
  have hts := fun x hx => G.2.2.2.2.2.1 x (List.mem_cons_of_mem _ hx)
  have hl : j < (fl E.2.1 w a (KD.getD cI [])).length := by simpa [fl] using (List.getElem?_eq_some_iff.mp f4).1
  have hmk : mk (T.take n) E.2.1 E.2.2.1 w2 = (mk (T.take n) E.2.1 E.2.2.1 w).set a (E.2.1 a, .inr (cI, (fl E.2.1 w a (KD.getD cI [])).set j (rv E.2.1 v))) := mk_set hS0 (by show (Sum.inr (cI, _) : va_E) = _; rw [hv]) (fun b e' hb => hoth b hb _ _ _)
  have hD := nD G.2.2.2.2.2.2.2.2 hS.2.2.1 w
  obtain ⟨r, r1, cell, q1, q2, q3, q4⟩ := h1 a _ (mk_at hS0)
  have hr : r = (C, Tt, N) := Option.some.inj (r1.symm.trans f1)
  subst hr
  obtain ⟨hSl, hfc, kC, hkC, hkind⟩ := hK.1 cI _ f1
  obtain ⟨cf, kf, fi, f, hi, hsl⟩ := hSl j f2
  have hst := (u_facts hfc hkC (u_lays hts f3 f2) hi).1
  have hown := ho ▸ G.2.2.2.2.1
  have fin : ∀ H' : Heap, H'[E.2.1 a]? = some (cell.setSlot f.slot (rv E.2.1 v)) → H'.size = H.size → (∀ q, q ≠ E.2.1 a → H'[q]? = H[q]?) → (∀ x y, x < N → y < N → x ≠ y → (E.1.2 cI) x ≠ (E.1.2 cI) y) → W p l e (rmN M mc ms) s m args below meth c H' (locs ++ [⟨E.2.1 a, f.slot⟩]) cells slots (MQ below (nQ T E n0 n' w') args s mc ms (nA E n0 s.heap.size)) (F0 m (pc + 3) ls (st.map (rv E.2.1))) := by
    intro H' e1 e2 e3 hap
    rw [hsl] at e1 ⊢
    have hP1 : nH T E n w2 H' := by
      show va_P E.1 vwCl (mk (T.take n) E.2.1 E.2.2.1 w2) H'
      rw [hmk]
      exact va_P.set h1 hD (mk_at hS0) ⟨_, f1, t_OB.to (V := updV (vp_V (fl E.2.1 w a (KD.getD cI []))) j (rv E.2.1 v)) ⟨_, e1, q2, q3, t_set q4 hap f2 (rv E.2.1 v)⟩ (fun z _ => vp_updV_set hl (rv E.2.1 v) z)⟩ e3
    exact k p l e s m args below meth c H' _ ls E G hK hP1 hBw ⟨hS.1.put e2 e3 (hD.2 a _ (mk_at hS0)), by rw [e2]; exact hS.2.1, hS.2.2⟩ h3
  rcases hp with ⟨C', T', N', ty, g1, g2, g3, g4, g5⟩ | ⟨⟨C', T', N', ty, g1, g2, g3, g4, g5⟩, q9, q8, hdecl, hfl⟩
  · have hCT : (C', T', N') = (C, Tt, N) := Option.some.inj (g1.symm.trans f1)
    cases hCT
    have hap := va_apart (own := own) hts f3 ty g2 g3 hK f1
    obtain ⟨n1, n2⟩ := hnn (ty j) g5 E.2.1
    have hlay := hts _ (f3 _ (u_in_lay f2))
    unfold u_lay at hlay
    rw [if_neg (by rw [g4]; decide)] at hlay
    have h6 := u_store hfc hkC hkind hlay hi (g2 j f2) n1 n2
    rcases f5 with f5 | ⟨host, f5⟩
    · exact W.putK G.1 G.2.1 (f := f) ⟨hown, hts _ f5, ⟨_, _, _, hi⟩, hst⟩ (by rw [q2]; exact h6) q1 q3 (by rw [hsl]; exact k2_hasslot (q4 j f2)) rfl rfl hd (fun H' e1 e2 e3 => fin H' e1 e2 e3 hap)
    · exact va_WputK G.1 G.2.1 (f := f) hown (va_Nw.use (NST_tabs _ f5) (G.2.2.2.2.2.2.2.2.2.1 _ f5)) hi hst (by rw [q2]; exact h6) q1 q3 (by rw [hsl]; exact k2_hasslot (q4 j f2)) rfl rfl hd (fun H' e1 e2 e3 => fin H' e1 e2 e3 hap)
  · have hCT : (C', T', N') = (C, Tt, N) := Option.some.inj (g1.symm.trans f1)
    cases hCT
    have hq9 : q9 = (C, Tt, N) := Option.some.inj (q8.symm.trans f1)
    subst hq9
    have hap := va_apart (own := own) hts f3 ty g2 g3 hK f1
    obtain ⟨n1, n2⟩ := hnn (ty j) g5 E.2.1
    have hlay := hts _ (f3 _ (u_in_lay f2))
    unfold u_lay at hlay
    rw [if_pos g4] at hlay
    have hcf : m.cls = cf := by
      obtain ⟨_, _, c', _, _, _, -, -, hf', -, -, -, hown2, -⟩ := Cond.laysFinal_spec hlay
      have e1 : c' = cf := by have := hi.symm.trans hf'; simp at this; exact this.1.symm
      rw [hdecl] at hown2
      rw [← e1]; exact Option.some.inj (hown.symm.trans hown2)
    have h6 := u_fits hfc hkC hkind (Or.inr hlay) hi (g2 j f2) n1 n2
    exact W.putFinK G.1 G.2.1 hown (hts _ hfl) hi hst hcf G.2.2.2.2.2.2.2.1 (by rw [q2]; exact h6) q1 q3 (by rw [hsl]; exact k2_hasslot (q4 j f2)) rfl rfl hd (fun H' e1 e2 e3 => fin H' e1 e2 e3 hap)
theorem gn_putI {own : String} {idx cI j a : Nat} {v : Int32} (hd : decode M.2.1 pc = .ok (.putfield idx, 3)) (ho : M.1.cls = own) (hf : FAt own idx cI j 0) (hp : FPut cI j 0) (hS0 : (T.take n)[a]? = some (.inl cI)) (han : a < n) (k : GoN T M mc ms n0 n' w' (pc + 3) lv st n (si w a j v) cells slots) : GoN T M mc ms n0 n' w' pc lv (.int v :: .ref a :: st) n w cells slots :=
  gn_put (v := .int v) hd ho hf (Or.inl hp) hS0 han (fun _ => fl_si hf.kd (Or.inl rfl)) (fun _ h _ _ _ => si_ne h _ _ _) (fun b hb => ⟨fun i => up2_ne _ _ (fun q => hb q.1), fun _ => rfl, fun _ => rfl⟩) (fun ty h φ => by cases h; exact ⟨rfl, rfl⟩) k
theorem gn_putR {own : String} {idx cI j a b : Nat} (hd : decode M.2.1 pc = .ok (.putfield idx, 3)) (ho : M.1.cls = own) (hf : FAt own idx cI j 3) (hp : FPut cI j 3 ∨ FFin cI j 3 ∧ (∃ q, vwCl[cI]? = some q ∧ (q.2.1 j).1 = own ∧ Cond.fieldLink own idx (q.2.1 j).1 (q.2.1 j).2.1 (q.2.1 j).2.2.1 ∈ TBL)) (hS0 : (T.take n)[a]? = some (.inl cI)) (han : a < n) (k : GoN T M mc ms n0 n' w' (pc + 3) lv st n (sr w a j (some b)) cells slots) : GoN T M mc ms n0 n' w' pc lv (.ref b :: .ref a :: st) n w cells slots :=
  gn_put (v := .ref b) hd ho hf hp hS0 han (fun _ => fl_sr hf.kd) (fun _ h _ _ _ => sr_ne h _ _ _) (fun z hz => ⟨fun _ => rfl, fun _ => rfl, fun i => up2_ne _ _ (fun q => hz q.1)⟩) (fun ty h φ => by rcases h with ⟨n, rfl⟩ | ⟨n, rfl⟩ <;> exact ⟨rfl, rfl⟩) k
theorem gn_new {ci idx N : Nat} {own C : String} {Tt : u_T} (hd : decode M.2.1 pc = .ok (.new idx, 3)) (ho : M.1.cls = own) (hc : CNew own idx ci C Tt N) (hT : T[n]? = some (.inl ci)) (hroom : cells + 1 ≤ mc ∧ slots + N ≤ ms) (k : GoN T M mc ms n0 n' w' (pc + 3) lv (.ref n :: st) (n + 1) w (cells + 1) (slots + N)) : GoN T M mc ms n0 n' w' pc lv st n w cells slots := by
  intro p l e s m args below meth c H locs ls E G hK h1 hB hS h3
  obtain ⟨hcl, hu, ⟨ty, hty, htk⟩, hlk, hins, hini⟩ := hc
  have hts := fun x hx => G.2.2.2.2.2.1 x (List.mem_cons_of_mem _ hx)
  have hKn := hK.1 ci _ hcl
  have hphi := hS.phi G.2.2.2.2.2.2.2.2 (lt_len hT)
  have hlen := take_len hT
  refine W.newcK G.1 G.2.1 (ho ▸ G.2.2.2.2.1) (hts _ hlk) (hts _ hins) (hts _ hini) rfl hd hroom.1 hroom.2 hKn.2.1 rfl fun H1 kC hkC e1 z1 o1 => ?_
  have hk : ∀ (j : Nat) (x : Nat × va_E), (mk (T.take n) E.2.1 E.2.2.1 w)[j]? = some x → H1[x.1]? = H[x.1]? := fun j x hx => o1 x.1 ((h1 j x hx).lt)
  have hP1 : nH T E (n + 1) w H1 := by
    show va_P E.1 vwCl (mk (T.take (n + 1)) E.2.1 E.2.2.1 w) H1
    rw [take1 hT, mk_app, hlen]
    refine (va_P.kept h1 hk).app (fun j x hx => ?_)
    have hz : j < 1 := (List.getElem?_eq_some_iff.mp hx).1
    rw [show j = 0 by omega] at hx
    cases hx
    refine ⟨_, hcl, ?_⟩
    rw [hphi]
    exact (u_born ty hts hu hKn hkC e1 hty).to (fun z hz => by
      obtain ⟨t, ht1, ht2⟩ := htk z hz
      exact fl_def hB ht1 ht2)
  have hK1 : va_K E.1 vwCl (eT (T.take (n + 1)) E) s := by
    rw [take1 hT, eT_app, hlen]
    show va_K E.1 vwCl (eT (T.take n) E ++ []) s
    rw [List.append_nil]
    exact hK
  have := k p l e s m args below meth c H1 locs ls E G hK1 hP1 (gB_succ hB) ⟨⟨Nat.le_trans hS.1.1 (by omega), fun x g1 g2 => (o1 x (Nat.lt_of_lt_of_le g1 hS.1.1)).trans (hS.1.2.1 x g1 g2), hS.1.2.2⟩, by rw [z1, hS.2.1]; have := hS.2.2.1; omega, by have := hS.2.2.1; omega, lt_len hT⟩ h3
  rw [List.map_cons, show rv E.2.1 (Value.ref n) = Value.ref H.size from congrArg Value.ref hphi] at this
  exact this
theorem gn_newa {atype : ArrayType} {ty : FieldType} {t z : Nat} {v : Int32} (hd : decode M.2.1 pc = .ok (.newarray atype, 2)) (hw : Cond.arrayClass ty ∈ TBL) (hty : newarray.typeOf atype = ty) (htt : (t = 0 ∧ ty = .int) ∨ (t = 1 ∧ ty = .long)) (hT : T[n]? = some (.inr (t, z))) (hz : v = Int32.ofNat z) (hz9 : z ≤ 65536) (hroom : cells + 1 ≤ mc ∧ slots + z ≤ ms) (k : GoN T M mc ms n0 n' w' (pc + 2) lv (.ref n :: st) (n + 1) w (cells + 1) (slots + z)) : GoN T M mc ms n0 n' w' pc lv (.int v :: st) n w cells slots := by
  intro p l e s m args below meth c H locs ls E G hK h1 hB hS h3
  subst hty
  have hts := fun x hx => G.2.2.2.2.2.1 x (List.mem_cons_of_mem _ hx)
  have hphi := hS.phi G.2.2.2.2.2.2.2.2 (lt_len hT)
  have hlen := take_len hT
  have hvi : v.toInt = (z : Int) := by rw [hz]; exact Int32.toInt_ofNat_of_lt (by omega)
  have hvn : v.toNatClampNeg = z := by show v.toInt.toNat = z; omega
  have hv0 : ¬ v < 0 := by rw [Int32.lt_iff_toInt_lt, Int32.toInt_zero]; omega
  have hby : z * componentBytes (newarray.typeOf atype) ≤ 536870912 := by
    rcases htt with ⟨-, h⟩ | ⟨-, h⟩ <;> rw [h]
    · show z * 4 ≤ _; omega
    · show z * 8 ≤ _; omega
  refine va_newaK G.1 G.2.1 (hts _ hw) rfl hd rfl hv0 hvn hby hroom.1 hroom.2 rfl fun H1 cA e1 z1 o1 hAr hNm => ?_
  have hcA : cA = E.2.2.1 n := by
    have := G.2.2.2.2.2.2.2.2.2.2.1 n _ hT
    rcases htt with ⟨rfl, h⟩ | ⟨rfl, h⟩
    · rw [h] at hNm; exact Option.some.inj (hNm.symm.trans this)
    · rw [h] at hNm; exact Option.some.inj (hNm.symm.trans this)
  subst hcA
  have hk : ∀ (j : Nat) (x : Nat × va_E), (mk (T.take n) E.2.1 E.2.2.1 w)[j]? = some x → H1[x.1]? = H[x.1]? := fun j x hx => o1 x.1 ((h1 j x hx).lt)
  have hP1 : nH T E (n + 1) w H1 := by
    show va_P E.1 vwCl (mk (T.take (n + 1)) E.2.1 E.2.2.1 w) H1
    rw [take1 hT, mk_app, hlen]
    refine (va_P.kept h1 hk).app (fun j x hx => ?_)
    have hz : j < 1 := (List.getElem?_eq_some_iff.mp hx).1
    rw [show j = 0 by omega] at hx
    cases hx
    obtain ⟨b1, b2, b3⟩ := hB n (Nat.le_refl _)
    rcases htt with ⟨rfl, h⟩ | ⟨rfl, h⟩
    · show H1[E.2.1 n]? = some (arrV _ _ (fun j => .int (w.1 n j)))
      rw [hphi, e1, h]
      congr 2
      funext j
      rw [b1]
      rfl
    · show H1[E.2.1 n]? = some (arrV _ _ (fun j => .long (w.2.1 n j)))
      rw [hphi, e1, h]
      congr 2
      funext j
      rw [b2]
      rfl
  have hK1 : va_K E.1 vwCl (eT (T.take (n + 1)) E) s := by
    rw [take1 hT, eT_app, hlen]
    refine va_K.app hK ⟨hK.1, fun j x hx => ?_⟩
    rcases htt with ⟨rfl, h⟩ | ⟨rfl, h⟩
    · have hz : j < 1 := (List.getElem?_eq_some_iff.mp hx).1
      rw [show j = 0 by omega] at hx
      cases hx
      exact ⟨by rw [← h]; exact hAr, by have e9 := hNm; rw [h] at e9; exact e9⟩
    · have hz : j < 1 := (List.getElem?_eq_some_iff.mp hx).1
      rw [show j = 0 by omega] at hx
      cases hx
      exact ⟨by rw [← h]; exact hAr, by have e9 := hNm; rw [h] at e9; exact e9⟩
  have := k p l e s m args below meth c H1 locs ls E G hK1 hP1 (gB_succ hB) ⟨⟨Nat.le_trans hS.1.1 (by omega), fun x g1 g2 => (o1 x (Nat.lt_of_lt_of_le g1 hS.1.1)).trans (hS.1.2.1 x g1 g2), hS.1.2.2⟩, by rw [z1, hS.2.1]; have := hS.2.2.1; omega, by have := hS.2.2.1; omega, lt_len hT⟩ h3
  rw [List.map_cons, show rv E.2.1 (Value.ref n) = Value.ref H.size from congrArg Value.ref hphi] at this
  exact this
theorem gn_newq {idx z : Nat} {v : Int32} {own : String} (hd : decode M.2.1 pc = .ok (.anewarray idx, 3)) (ho : M.1.cls = own) (hlk : Cond.classLink own idx RX1 ∈ TBL) (hT : T[n]? = some (.inr (2, z))) (hz : v = Int32.ofNat z) (hz9 : z ≤ 65536) (hroom : cells + 1 ≤ mc ∧ slots + z ≤ ms) (k : GoN T M mc ms n0 n' w' (pc + 3) lv (.ref n :: st) (n + 1) w (cells + 1) (slots + z)) : GoN T M mc ms n0 n' w' pc lv (.int v :: st) n w cells slots := by
  intro p l e s m args below meth c H locs ls E G hK h1 hB hS h3
  have hts := fun x hx => G.2.2.2.2.2.1 x (List.mem_cons_of_mem _ hx)
  have hphi := hS.phi G.2.2.2.2.2.2.2.2 (lt_len hT)
  have hlen := take_len hT
  have hvi : v.toInt = (z : Int) := by rw [hz]; exact Int32.toInt_ofNat_of_lt (by omega)
  have hvn : v.toNatClampNeg = z := by show v.toInt.toNat = z; omega
  have hv0 : ¬ v < 0 := by rw [Int32.lt_iff_toInt_lt, Int32.toInt_zero]; omega
  refine W.anew G.1 G.2.1 (ho ▸ G.2.2.2.2.1) (hts _ hlk) (va_AO.use G.2.2.2.2.2.2.2.2.2.2.2.1) rfl hd rfl hv0 (by rw [hvn]; omega) hroom.1 (by rw [hvn]; exact hroom.2) fun cA kA comp f1 f2 f3 f4 => ?_
  rw [hvn]
  generalize hH1 : H.push ({ cls := cA, slots := Array.replicate z .null, vm := .none } : Cell) = H1
  have z1 : H1.size = H.size + 1 := by rw [← hH1, Array.size_push]
  have e1 : H1[H.size]? = some (arrV cA z (fun _ => .null)) := by rw [← hH1, Array.getElem?_push_size, ← arrV_new]
  have o1 : ∀ q : Nat, q < H.size → H1[q]? = H[q]? := fun q hq => by rw [← hH1, Array.getElem?_push, if_neg (Nat.ne_of_lt hq)]
  have hAr : ArrOfT s cA (.object RX1) := fun N z => ⟨(fun k h => by cases h), kA, f2, comp, f3⟩
  have hcA : cA = E.2.2.1 n := Option.some.inj (f1.symm.trans (G.2.2.2.2.2.2.2.2.2.2.1 n _ hT))
  subst hcA
  have hk : ∀ (j : Nat) (x : Nat × va_E), (mk (T.take n) E.2.1 E.2.2.1 w)[j]? = some x → H1[x.1]? = H[x.1]? := fun j x hx => o1 x.1 ((h1 j x hx).lt)
  have hP1 : nH T E (n + 1) w H1 := by
    show va_P E.1 vwCl (mk (T.take (n + 1)) E.2.1 E.2.2.1 w) H1
    rw [take1 hT, mk_app, hlen]
    refine (va_P.kept h1 hk).app (fun j x hx => ?_)
    have hz : j < 1 := (List.getElem?_eq_some_iff.mp hx).1
    rw [show j = 0 by omega] at hx
    cases hx
    obtain ⟨b1, b2, b3⟩ := hB n (Nat.le_refl _)
    show H1[E.2.1 n]? = some (arrV _ _ (fun j => va_rf ((w.2.2 n j).map E.2.1)))
    rw [hphi, e1]
    congr 2
    funext j
    rw [b3]
    rfl
  have hK1 : va_K E.1 vwCl (eT (T.take (n + 1)) E) s := by
    rw [take1 hT, eT_app, hlen]
    refine va_K.app hK ⟨hK.1, fun j x hx => ?_⟩
    have hz : j < 1 := (List.getElem?_eq_some_iff.mp hx).1
    rw [show j = 0 by omega] at hx
    cases hx
    exact ⟨hAr, kA, comp, f2, f3, f4, f1⟩
  have := k p l e s m args below meth c H1 locs ls E G hK1 hP1 (gB_succ hB) ⟨⟨Nat.le_trans hS.1.1 (by omega), fun x g1 g2 => (o1 x (Nat.lt_of_lt_of_le g1 hS.1.1)).trans (hS.1.2.1 x g1 g2), hS.1.2.2⟩, by rw [z1, hS.2.1]; have := hS.2.2.1; omega, by have := hS.2.2.1; omega, lt_len hT⟩ h3
  rw [List.map_cons, show rv E.2.1 (Value.ref n) = Value.ref H.size from congrArg Value.ref hphi] at this
  exact this
theorem gn_aast {a b z : Nat} {i : Int32} (hd : decode M.2.1 pc = .ok (.aastore, 1)) (hS0 : (T.take n)[a]? = some (.inr (2, z))) (hSb : (T.take n)[b]? = some (.inl 1)) (han : a < n) (hin : vp_in i z) (k : GoN T M mc ms n0 n' w' (pc + 1) lv st n (sr w a i.toNatClampNeg (some b)) cells slots) : GoN T M mc ms n0 n' w' pc lv (.ref b :: .int i :: .ref a :: st) n w cells slots := by
  intro p l e s m args below meth c H locs ls E G hK h1 hB hS h3
  obtain ⟨t0, ht⟩ := eT_at (E := E) hS0 rfl
  have hD := nD G.2.2.2.2.2.2.2.2 hS.2.2.1 w
  have hlt : i.toNatClampNeg < z := Nat.not_le.mp fun q => hin (Or.inr q)
  have h0 : ¬ i < 0 := fun q => hin (Or.inl q)
  obtain ⟨r', hr', cellV, g1, g2, g3, -⟩ := h1 b _ (mk_at hSb)
  have hr1 : r' = (RX1, TX1, 5) := Option.some.inj (hr'.symm.trans rfl)
  subst hr1
  have hcls := (hK.1 1 _ rfl).2
  obtain ⟨kA, comp, k1, k2, k3, -⟩ := (hK.2 t0 _ ht).2
  have hcomp : comp = E.1.1 1 := Option.some.inj (k3.symm.trans hcls.1)
  subst hcomp
  obtain ⟨kC, hkC, -⟩ := hcls.2
  have hBw : gB n (sr w a i.toNatClampNeg (some b)) := fun x hx => by
    obtain ⟨r1, r2, r3⟩ := hB x hx
    exact ⟨r1, r2, fun j => (up2_ne _ _ (fun q => by omega)).trans (r3 j)⟩
  have hmk : mk (T.take n) E.2.1 E.2.2.1 (sr w a i.toNatClampNeg (some b)) = (mk (T.take n) E.2.1 E.2.2.1 w).set a (E.2.1 a, .inl (E.2.2.1 a, z, .inr (.inr (.inr (.inr (va_up (fun j => (w.2.2 a j).map E.2.1) i.toNatClampNeg (some (E.2.1 b)))))))) := mk_set hS0 (by
    have e1 : (fun j => ((sr w a i.toNatClampNeg (some b)).2.2 a j).map E.2.1) = va_up (fun j => (w.2.2 a j).map E.2.1) i.toNatClampNeg (some (E.2.1 b)) := by
      funext j
      by_cases hj : j = i.toNatClampNeg
      · subst hj; simp [sr, up2, va_up]
      · simp [sr, up2, va_up, hj]
    show Sum.inl (E.2.2.1 a, z, Sum.inr (Sum.inr (Sum.inr (Sum.inr (fun j => ((sr w a i.toNatClampNeg (some b)).2.2 a j).map E.2.1))))) = _
    rw [e1]) (fun b e' hb => sr_ne hb _ _ _)
  refine W.aast G.1 G.2.1 (h1 a _ (mk_at hS0)) (fun q h => by cases h) (fun h => by cases h) k1 k2 rfl hkC ⟨h0, by show _ < (arrV _ _ _).slots.size; rw [arrV_size]; exact hlt⟩ g1 (fun q h => by rw [g3] at h; cases h) (by rw [g2]; exact hkC) (by rw [g2]; exact va_assign hcls) rfl rfl hd fun H1 e z1 oq => ?_
  have hP1 : nH T E n (sr w a i.toNatClampNeg (some b)) H1 := by
    show va_P E.1 vwCl (mk (T.take n) E.2.1 E.2.2.1 _) H1
    rw [hmk]
    refine va_P.set h1 hD (mk_at hS0) ?_ oq
    show H1[E.2.1 a]? = some (vp_cell _ _)
    rw [e]
    show some ((vp_cell _ (_, .inr (.inr (.inr (.inr _))))).setSlot _ _) = _
    rw [vp_cell_q, vp_cell_q, arrV_store]
    congr 2
    funext q
    by_cases hq : q = i.toNatClampNeg
    · subst hq
      simp [updV, va_up, va_rf]
    · simp [updV, va_up, hq]
  exact k p l _ s m args below meth c H1 _ ls E G hK hP1 hBw ⟨hS.1.put z1 oq (hD.2 a _ (mk_at hS0)), by rw [z1]; exact hS.2.1, hS.2.2⟩ h3
theorem gn_vret (hd : decode M.2.1 pc = .ok (.return_, 1)) (hr : M.2.2.2.1 = none) (hc : cells ≤ mc ∧ slots ≤ ms) (hn : n = n') (hw : w = w') : GoN T M mc ms n0 n' w' pc lv [] n w cells slots := by
  intro p l e s m args below meth c H locs ls E G hK h1 hB hS h3
  subst hn
  subst hw
  have hlocks := G.2.2.2.2.2.2.1
  refine W.widen (k := mc) (n := ms) hc.1 hc.2 ?_
  exact W.vret G.1 G.2.1 (G.2.2.1.trans hr) (fun t ht hW => ⟨rfl, va_K.moved hW.alike hK, by rw [ht]; exact h1, hB, by rw [ht]; exact hS.2.1, hS.2.2.1, hS.2.2.2, hS.1.F ht⟩) hS.1.2.2 hd
/-- a constructor called in a constructor -/
theorem gn_call {M' : Mth} {own : String} {idx a n2 mc1 ms1 : Nat} {w2 : Wd} (hd : decode M.2.1 pc = .ok (.invokespecial idx, 3)) (ho : M.1.cls = own) (hc : CAt own idx M' 0) (hin : Cond.instanceMethod M'.1 ∈ TBL) (hy1 : M'.1.name = "<init>") (hr1 : M'.2.2.2.1 = none) (hD : M'.2.2.2.2 + 1 ≤ M.2.2.2.2) (hcat : (st.map fun v => v.category).sum ≤ 8) (hroom : cells + mc1 ≤ mc ∧ slots + ms1 ≤ ms)
    (hcall : CN T M' [.ref a] n w n2 w2 mc1 ms1) (k : GoN T M mc ms n0 n' w' (pc + 3) lv st n2 w2 (cells + mc1) (slots + ms1)) : GoN T M mc ms n0 n' w' pc lv (.ref a :: st) n w cells slots := by
  intro p l e s m args below meth c H locs ls E G hK h1 hB hS h3
  obtain ⟨c1, c2, c3, c4, c5, c6⟩ := hc
  have hts : ∀ x ∈ TBL, x.before args s = true := fun x hx => G.2.2.2.2.2.1 x (List.mem_cons_of_mem _ hx)
  obtain ⟨N1, N2, N3, N4, N5, N6, N7, N8⟩ := id G.2.2.2.2.2.2.2.2
  have hNK : ∀ U : State, U.heap = H → s.WarmedH U.vm → nK T E n U := fun U hU hW => by
    refine ⟨va_K.moved hW.alike hK, fun w hw => NST_warm w hw s U hW (N2 w hw), fun z x hx => by rw [hW.alike.findClass]; exact N3 z x hx, va_AO.moved hW.alike N4, fun z hz hz9 => ?_, fun i j hi hj hij => ?_, fun z hz => ?_, hS.2.2.2⟩
    · rw [hU, hS.2.1, N5 z (Nat.le_trans hS.2.2.1 hz) hz9]
      have := hS.2.2.1
      omega
    · have hl := hS.2.2.2
      by_cases d1 : i < n0 <;> by_cases d2 : j < n0
      · exact N6 i j d1 d2 hij
      · have := N7 i d1
        rw [hij, N5 j (by omega) (by omega)] at this
        omega
      · have := N7 j d2
        rw [← hij, N5 i (by omega) (by omega)] at this
        omega
      · rw [N5 i (by omega) (by omega), N5 j (by omega) (by omega)] at hij
        omega
    · have hl := hS.2.2.2
      rw [hU, hS.2.1]
      by_cases d1 : z < n0
      · have := N7 z d1
        omega
      · rw [N5 z (by omega) (by omega)]
        omega
  have hpre : PreS s H (fun v U => v = ([Value.ref a].map (rv E.2.1)).toArray ∧ U.heap.size = H.size ∧ nK T E n U ∧ nH T E n w U.heap ∧ gB n w) [Value.ref (E.2.1 a)] := by
    refine ⟨fun x U g mk q => ⟨q.1, q.2.1, ⟨va_K.moved (u := U) (U := U.calling g mk x) (Vm.Alike.refl U.vm) q.2.2.1.1, fun w hw => va_Nw.same (u := U) (U := U.calling g mk x) (NST_tabs w hw) rfl (q.2.2.1.2.1 w hw), q.2.2.1.2.2.1, va_AO.moved (u := U) (U := U.calling g mk x) (Vm.Alike.refl U.vm) q.2.2.1.2.2.2.1, q.2.2.1.2.2.2.2⟩, q.2.2.2⟩, fun U hU hW => ⟨rfl, by rw [hU], hNK U hU hW, by rw [hU]; exact h1, hB⟩⟩
  have hfix : CallFix p m c M.2.1 M.2.2.1 s args TBL own := ⟨G.1, G.2.1, G.2.2.2.1, ho ▸ G.2.2.2.2.1, hts⟩
  have hlo : 8 + (M'.2.2.1 + 11) + (rmN M' mc1 ms1).locals ≤ (rmN M mc ms).locals := by show 8 + (M'.2.2.1 + 11) + M'.2.2.2.2 * 60 ≤ M.2.2.2.2 * 60; omega
  have hM := hcall l E H.size
  have hrun : va_Run p l e (rmN M mc ms) s m args below meth c H locs cells slots mc1 ms1 (F0 m pc ls (.ref (E.2.1 a) :: st.map (rv E.2.1))) (st.map (rv E.2.1)) (nQ T E n n2 w2 [Value.ref (E.2.1 a)].toArray) (nA E n H.size) := by
    rw [hr1] at c2
    rcases c1 with c1 | ⟨host, c1⟩
    · exact va_runI (As := []) (rest := st.map (rv E.2.1)) hfix hM ⟨⟨rfl, rfl, hD, hlo, mW_warm hts (hr1 ▸ c2), by unfold mW; rw [hr1]; exact List.mem_cons_self, hts _ c2, hts _ c3, c4, params_of c5, hts _ c1⟩, hy1, hts _ hin⟩ hpre rfl rfl h3.1 rfl (lv_room (by rw [sum_cat]; exact hcat)) hd hroom
    · exact va_runIN (As := []) (rest := st.map (rv E.2.1)) hfix hM ⟨⟨⟨rfl, rfl, hD, hlo, mW_warm hts (hr1 ▸ c2), by unfold mW; rw [hr1]; exact List.mem_cons_self⟩, hts _ c2, hts _ c3, c4, params_of c5, va_Nw.use (NST_tabs _ c1) (N2 _ c1)⟩, hy1, hts _ hin⟩ hpre rfl rfl h3.1 rfl (lv_room (by rw [sum_cat]; exact hcat)) hd hroom
  intro T9 hT X
  obtain ⟨v, st₀, t, T', Ls, g0, X', hL, e1, e2, ⟨hv, qK, qH, qB, qz, qn, qn2, hz, hk⟩, stp⟩ := hrun T9 hT X
  have hv : v = none := Outcome.returned.inj hv
  subst hv
  rw [g0] at hz hk qz
  have hAsub : ∀ q, nA E n H.size q → nA E n0 s.heap.size q := by
    intro q hq
    rcases hq with ⟨z, hz1, rfl⟩ | hq
    · by_cases d1 : z < n0
      · exact Or.inl ⟨z, d1, rfl⟩
      · exact Or.inr (by rw [N5 z (by omega) (by have := hS.2.2.2; omega)]; omega)
    · exact Or.inr (Nat.le_trans hS.1.1 hq)
  obtain ⟨t2, a1, b1⟩ := k p l e s m args below meth c T'.heap (locs ++ Ls) ls E G (va_K.moved (by rw [← e2]; exact X'.warmed.alike.symm) qK) (by rw [e1]; exact qH) qB
    ⟨⟨Nat.le_trans hS.1.1 (by rw [e1]; exact hz), fun q g1 g2 => by rw [e1, hk q (Nat.lt_of_lt_of_le g1 hS.1.1) (fun z => g2 (hAsub q z))]; exact hS.1.2.1 q g1 g2, fun q hq => by
      rcases List.mem_append.mp hq with h | h
      · exact hS.1.2.2 q h
      · exact hAsub _ (hL q h)⟩, by rw [e1, qz, hS.2.1]; have := hS.2.2.1; omega, Nat.le_trans hS.2.2.1 qn, qn2⟩ h3 T' rfl X'
  exact ⟨t2, stp t2 a1, b1⟩
end GON
