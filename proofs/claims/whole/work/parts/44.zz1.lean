/-! methods that may throw: the rules of GoX, out of those of Go -/
def rmX (d : Nat) : Room := { frames := d, cells := 1, slots := 6, locals := d * 60 }
def xNm : String := "java/util/NoSuchElementException"
def xNs : List String := ["java/lang/RuntimeException", "java/lang/Exception"]
def xWs : List Cond := vx_at0 RX10 353 xNm xNs
def xNG : List Cond := xWs.filter (fun w => !goodWord w)
def xXC (S : Sh) (E : En) (P : Wd → Prop) : String → State → State → Prop := vx_X P (fun nm u t => nm = xNm ∧ eH S E u t.heap) (eA S E)
def XSt (S : Sh) (E : En) (s : State) : Prop := (∀ w ∈ xNG, va_Nw w s) ∧ vx_Zq Bundle.tN "UNASSIGNED_STACK" Bundle.steD (eA S E) s s.heap ∧ vx_Zq Bundle.tN "SUPPRESSED_SENTINEL" Bundle.listD (eA S E) s s.heap
def XPre (S : Sh) (E : En) (l : Launch) (s : State) (c : Code) : Prop := l.stackTraces = false ∧ (∀ x ∈ c.exceptionTable.toList, False) ∧ XSt S E s
def GoX (S : Sh) (M : Mth) (pc : Nat) (lv : List (Nat × Value)) (st : List Value) (w : Wd) (Q : Option Value → Wd → Prop) (P : Wd → Prop) : Prop :=
  ∀ (p : Program) (l : Launch) (e : Env) (s : State) (m : MethodId) (args : Array Value) (below : List Frame) (meth : Method) (c : Code) (H : Heap) (locs : List Loc) (ls : Array Slot) (E : En),
    gPre S M E p s m args meth c → eH S E w H → va_S (eA S E) s.heap H locs → lv_has ls M.2.2.1 (lv.map fun q => (q.1, rv E.2.1 q.2)) → XPre S E l s c →
    W p l e (rmX M.2.2.2.2) s m args below meth c H locs 0 0 (vx_MQ below (mQ S E Q) (xXC S E P) args s 1 6 (eA S E)) (F0 m pc ls (st.map (rv E.2.1)))
section GOX
variable {S : Sh} {M : Mth} {pc : Nat} {lv : List (Nat × Value)} {st : List Value} {w : Wd} {Q : Option Value → Wd → Prop} {P : Wd → Prop}
theorem xg_iconst {n : Int} {v : Int32} (hd : decode M.2.1 pc = .ok (.iconst n, 1)) (hv : Int32.ofInt n = v) (k : GoX S M (pc + 1) lv (.int v :: st) w Q P) : GoX S M pc lv st w Q P := by
  intro p l e s m args below meth c H locs ls E G h1 h2 h3 hX
  exact lv_iconst G.1 G.2.1 hd hv (k p l e s m args below meth c H locs ls E G h1 h2 h3 hX)
theorem xg_iload_n {j : Fin 4} {i : Nat} {x : Int32} (hd : decode M.2.1 pc = .ok (.iload_n j, 1)) (hi : (j : Nat) = i) (q : Nat) (hq : lv[q]? = some (i, .int x)) (k : GoX S M (pc + 1) lv (.int x :: st) w Q P) : GoX S M pc lv st w Q P := by
  intro p l e s m args below meth c H locs ls E G h1 h2 h3 hX
  exact lv_iload_n G.1 G.2.1 hd hi (lv_here h3 q hq) (k p l e s m args below meth c H locs ls E G h1 h2 h3 hX)
theorem xg_aload_n {j : Fin 4} {i : Nat} {x : Nat} (hd : decode M.2.1 pc = .ok (.aload_n j, 1)) (hi : (j : Nat) = i) (q : Nat) (hq : lv[q]? = some (i, .ref x)) (k : GoX S M (pc + 1) lv (.ref x :: st) w Q P) : GoX S M pc lv st w Q P := by
  intro p l e s m args below meth c H locs ls E G h1 h2 h3 hX
  exact lv_aload_n G.1 G.2.1 hd hi (lv_here h3 q hq) (k p l e s m args below meth c H locs ls E G h1 h2 h3 hX)
theorem xg_aload {i : Nat} {x : Nat} (hd : decode M.2.1 pc = .ok (.aload i, 2)) (q : Nat) (hq : lv[q]? = some (i, .ref x)) (k : GoX S M (pc + 2) lv (.ref x :: st) w Q P) : GoX S M pc lv st w Q P := by
  intro p l e s m args below meth c H locs ls E G h1 h2 h3 hX
  exact lv_aload G.1 G.2.1 hd (lv_here h3 q hq) (k p l e s m args below meth c H locs ls E G h1 h2 h3 hX)
theorem xg_aloadN {i : Nat} (hd : decode M.2.1 pc = .ok (.aload i, 2)) (q : Nat) (hq : lv[q]? = some (i, .null)) (k : GoX S M (pc + 2) lv (.null :: st) w Q P) : GoX S M pc lv st w Q P := by
  intro p l e s m args below meth c H locs ls E G h1 h2 h3 hX
  exact lv_aloadN G.1 G.2.1 hd (lv_here h3 q hq) (k p l e s m args below meth c H locs ls E G h1 h2 h3 hX)
theorem xg_istore_n {i : Nat} {lv2 : List (Nat × Value)} {j : Fin 4} {x : Int32} (hd : decode M.2.1 pc = .ok (.istore_n j, 1)) (hi : (j : Nat) = i) (hn : i < M.2.2.1) (hl : lvS i (.int x) lv = lv2) (k : GoX S M (pc + 1) lv2 st w Q P) : GoX S M pc lv ((.int x) :: st) w Q P := by
  intro p l e s m args below meth c H locs ls E G h1 h2 h3 hX
  exact lv_istore_n G.1 G.2.1 hd hi h3 hn rfl (fun ls2 h4 => k p l e s m args below meth c H locs ls2 E G h1 h2 (lvS_has hl h4) hX)
theorem xg_astore {i : Nat} {lv2 : List (Nat × Value)} {x : Nat} (hd : decode M.2.1 pc = .ok (.astore i, 2)) (hn : i < M.2.2.1) (hl : lvS i (.ref x) lv = lv2) (k : GoX S M (pc + 2) lv2 st w Q P) : GoX S M pc lv ((.ref x) :: st) w Q P := by
  intro p l e s m args below meth c H locs ls E G h1 h2 h3 hX
  exact lv_astore G.1 G.2.1 hd h3 hn rfl (fun ls2 h4 => k p l e s m args below meth c H locs ls2 E G h1 h2 (lvS_has hl h4) hX)
theorem xg_astoreN {i : Nat} {lv2 : List (Nat × Value)} (hd : decode M.2.1 pc = .ok (.astore i, 2)) (hn : i < M.2.2.1) (hl : lvS i .null lv = lv2) (k : GoX S M (pc + 2) lv2 st w Q P) : GoX S M pc lv (.null :: st) w Q P := by
  intro p l e s m args below meth c H locs ls E G h1 h2 h3 hX
  exact lv_astoreN G.1 G.2.1 hd h3 hn rfl (fun ls2 h4 => k p l e s m args below meth c H locs ls2 E G h1 h2 (lvS_has hl h4) hX)
theorem xg_iinc {i : Nat} {n : Int} {x : Int32} {lv2 : List (Nat × Value)} (hd : decode M.2.1 pc = .ok (.iinc i n, 3)) (q : Nat) (hq : lv[q]? = some (i, .int x)) (hn : i < M.2.2.1) {v : Int32} (hv : x + Int32.ofInt n = v) (hl : lvS i (.int v) lv = lv2) (k : GoX S M (pc + 3) lv2 st w Q P) : GoX S M pc lv st w Q P := by
  intro p l e s m args below meth c H locs ls E G h1 h2 h3 hX
  exact lv_iinc G.1 G.2.1 hd h3 (k := q) (by rw [List.getElem?_map, hq]; rfl) hv hn rfl (fun ls2 h4 => k p l e s m args below meth c H locs ls2 E G h1 h2 (lvS_has hl h4) hX)
theorem xg_goto {off : Int} {tgt : Nat} (hd : decode M.2.1 pc = .ok (.goto off, 3)) (ht : (pc : Int) + off = (tgt : Int)) (k : GoX S M tgt lv st w Q P) : GoX S M pc lv st w Q P := by
  intro p l e s m args below meth c H locs ls E G h1 h2 h3 hX
  exact lv_goto G.1 G.2.1 hd ht (k p l e s m args below meth c H locs ls E G h1 h2 h3 hX)
theorem xg_ifnullR {off : Int} {x : Nat} (hd : decode M.2.1 pc = .ok (.ifnull off, 3)) (k : GoX S M (pc + 3) lv st w Q P) : GoX S M pc lv (.ref x :: st) w Q P := by
  intro p l e s m args below meth c H locs ls E G h1 h2 h3 hX
  exact lv_ifnull G.1 G.2.1 hd (k p l e s m args below meth c H locs ls E G h1 h2 h3 hX)
theorem xg_ifnullN {off : Int} {tgt : Nat} (hd : decode M.2.1 pc = .ok (.ifnull off, 3)) (ht : (pc : Int) + off = (tgt : Int)) (k : GoX S M tgt lv st w Q P) : GoX S M pc lv (.null :: st) w Q P := by
  intro p l e s m args below meth c H locs ls E G h1 h2 h3 hX
  exact lv_ifnullN G.1 G.2.1 hd ht (k p l e s m args below meth c H locs ls E G h1 h2 h3 hX)
theorem xg_icmp_ne {x y : Int32} {off : Int} {tgt : Nat} (hd : decode M.2.1 pc = .ok (.if_icmp .ne off, 3)) (ht : (pc : Int) + off = (tgt : Int)) (kt : ¬ x = y → GoX S M tgt lv st w Q P) (kf : x = y → GoX S M (pc + 3) lv st w Q P) : GoX S M pc lv (.int y :: .int x :: st) w Q P := by
  intro p l e s m args below meth c H locs ls E G h1 h2 h3 hX
  exact lv_icmp_ne G.1 G.2.1 hd ht (fun q => kt q p l e s m args below meth c H locs ls E G h1 h2 h3 hX) (fun q => kf q p l e s m args below meth c H locs ls E G h1 h2 h3 hX)
theorem xg_icmp_ge {x y : Int32} {off : Int} {tgt : Nat} (hd : decode M.2.1 pc = .ok (.if_icmp .ge off, 3)) (ht : (pc : Int) + off = (tgt : Int)) (kt : y ≤ x → GoX S M tgt lv st w Q P) (kf : ¬ y ≤ x → GoX S M (pc + 3) lv st w Q P) : GoX S M pc lv (.int y :: .int x :: st) w Q P := by
  intro p l e s m args below meth c H locs ls E G h1 h2 h3 hX
  exact lv_icmp_ge G.1 G.2.1 hd ht (fun q => kt q p l e s m args below meth c H locs ls E G h1 h2 h3 hX) (fun q => kf q p l e s m args below meth c H locs ls E G h1 h2 h3 hX)
theorem xg_if_ne {x : Int32} {off : Int} {tgt : Nat} (hd : decode M.2.1 pc = .ok (.ifCond .ne off, 3)) (ht : (pc : Int) + off = (tgt : Int)) (kt : ¬ x = 0 → GoX S M tgt lv st w Q P) (kf : x = 0 → GoX S M (pc + 3) lv st w Q P) : GoX S M pc lv (.int x :: st) w Q P := by
  intro p l e s m args below meth c H locs ls E G h1 h2 h3 hX
  exact lv_if_ne G.1 G.2.1 hd ht (fun q => kt q p l e s m args below meth c H locs ls E G h1 h2 h3 hX) (fun q => kf q p l e s m args below meth c H locs ls E G h1 h2 h3 hX)
theorem xg_get {own : String} {idx cI j t a : Nat} {v : Value} (hd : decode M.2.1 pc = .ok (.getfield idx, 3)) (ho : M.1.cls = own) (hf : FAt own idx cI j t) (hS : S[a]? = some (.inl cI)) (hv : ∀ φ, fv φ w a j t = rv φ v) (k : GoX S M (pc + 3) lv (v :: st) w Q P) : GoX S M pc lv (.ref a :: st) w Q P := by
  intro p l e s m args below meth c H locs ls E G h1 h2 h3 hX
  obtain ⟨C, T, N, f1, f2, f3, f4, f5⟩ := hf
  have hv2 : (fl E.2.1 w a (KD.getD cI []))[j]? = some (rv E.2.1 v) := by rw [fl_at f4, hv]
  have hts := fun x hx => G.2.2.2.2.2.1 x (List.mem_cons_of_mem _ hx)
  rcases f5 with f5 | ⟨host, f5⟩
  · exact va_get (Ts := TBL) G.1 G.2.1 hts f3 (ho ▸ G.2.2.2.2.1) G.2.2.2.2.2.2.2.1 h1 a (mk_at hS) f1 j f2 (hts _ f5) (fun _ h => h) hv2 hd (k p l e s m args below meth c H locs ls E G h1 h2 h3 hX)
  · exact va_getN (Ts := TBL) G.1 G.2.1 hts f3 (ho ▸ G.2.2.2.2.1) G.2.2.2.2.2.2.2.1 h1 a (mk_at hS) f1 j f2 (va_Nw.use (NST_tabs _ f5) (G.2.2.2.2.2.2.2.2.2.1 _ f5)) (fun _ h => h) hv2 hd (k p l e s m args below meth c H locs ls E G h1 h2 h3 hX)
theorem xg_getI {own : String} {idx cI j a : Nat} (hd : decode M.2.1 pc = .ok (.getfield idx, 3)) (ho : M.1.cls = own) (hf : FAt own idx cI j 0) (hS : S[a]? = some (.inl cI)) (k : GoX S M (pc + 3) lv (.int (wi w a j) :: st) w Q P) : GoX S M pc lv (.ref a :: st) w Q P := xg_get hd ho hf hS (fun _ => rfl) k
theorem xg_getR {own : String} {idx cI j a b : Nat} (hd : decode M.2.1 pc = .ok (.getfield idx, 3)) (ho : M.1.cls = own) (hf : FAt own idx cI j 3) (hS : S[a]? = some (.inl cI)) (hb : wr w a j = some b) (k : GoX S M (pc + 3) lv (.ref b :: st) w Q P) : GoX S M pc lv (.ref a :: st) w Q P := xg_get (v := .ref b) hd ho hf hS (fun φ => by show va_rf ((w.2.2 a j).map φ) = _; rw [show w.2.2 a j = some b from hb]; rfl) k
theorem xg_iret {v : Int32} (hd : decode M.2.1 pc = .ok (.ireturn, 1)) (hr : M.2.2.2.1 = some .int) (hq : Q (some (.int v)) w) : GoX S M pc lv [.int v] w Q P := by
  intro p l e s m args below meth c H locs ls E G h1 h2 h3 hX
  have hlocks := G.2.2.2.2.2.2.1
  refine vx_ret (W.widen (k := 1) (n := 6) (by decide) (by decide) ?_)
  exact W.iret G.1 G.2.1 (G.2.2.1.trans hr) (fun t ht _ => g_qOK (r := some (.int v)) hq h1 h2 ht) h2.2.2 hd
theorem xg_after {Q' : Option Value → Wd → Prop} {p : Program} {l : Launch} {e : Env} {s : State} {m : MethodId} {args : Array Value} {below : List Frame} {meth : Method} {c : Code} {H : Heap} {locs : List Loc} {ls : Array Slot} {E : En} {a : Array Value} {st0 : List Value}
    (G : gPre S M E p s m args meth c) (hX : XPre S E l s c) (h2 : va_S (eA S E) s.heap H locs) (h3 : lv_has ls M.2.2.1 (lv.map fun q => (q.1, rv E.2.1 q.2)))
    (hr : va_Run p l e (rmX M.2.2.2.2) s m args below meth c H locs 0 0 0 0 (F0 m pc ls st0) (st.map (rv E.2.1)) (mQ S E Q' a) (eA S E)) (k : ∀ r w', Q' r w' → GoX S M (pc + 3) lv (r.toList ++ st) w' Q P) :
    W p l e (rmX M.2.2.2.2) s m args below meth c H locs 0 0 (vx_MQ below (mQ S E Q) (xXC S E P) args s 1 6 (eA S E)) (F0 m pc ls st0) := by
  intro T hT X
  obtain ⟨v, st₀, t, T', L, h0, X', hL, e1, e2, ⟨r, w', hv, hq, hH, hz, hk⟩, stp⟩ := hr T hT X
  have hv : v = r.map (rv E.2.1) := Outcome.returned.inj hv
  subst hv
  rw [h0] at hz hk
  obtain ⟨t2, a1, b1⟩ := k r w' hq p l e s m args below meth c T'.heap (locs ++ L) ls E G (by rw [e1]; exact hH)
    ⟨Nat.le_trans h2.1 (by rw [e1]; exact hz), fun q g1 g2 => by rw [e1, hk q (Nat.lt_of_lt_of_le g1 h2.1) g2]; exact h2.2.1 q g1 g2, fun q hq => by
      rcases List.mem_append.mp hq with h | h
      · exact h2.2.2 q h
      · exact hL q h⟩ h3 hX T' rfl X'
  refine ⟨t2, stp t2 ?_, b1⟩
  have : ((r.map (rv E.2.1)).toList ++ st.map (rv E.2.1)) = (r.toList ++ st).map (rv E.2.1) := by cases r <;> rfl
  show Steps p.tables e below (T'.setTop { F0 m pc ls st0 with pc := pc + 3, stack := (r.map (rv E.2.1)).toList ++ st.map (rv E.2.1) }) t2
  rw [this]
  exact a1
theorem xg_callV {M' : Mth} {own : String} {idx n a cI : Nat} {as st2 : List Value} (hd : decode M.2.1 pc = .ok (.invokevirtual idx, 3)) (ho : M.1.cls = own) (hc : CAt own idx M' n) (hin : Cond.instanceMethod M'.1 ∈ TBL ∧ Cond.selects M'.1.cls M'.1 M'.1 ∈ TBL) (hD : M'.2.2.2.2 + 1 ≤ M.2.2.2.2) (hS : S[a]? = some (.inl cI)) (hcl : ∃ q, vwCl[cI]? = some q ∧ q.1 = M'.1.cls) (hn : as.length = n) (hs : as.reverse ++ .ref a :: st = st2) (hcat : (st.map fun v => v.category).sum ≤ 8)
    (k : Cl S M' (.ref a :: as) w (fun r w' => GoX S M (pc + 3) lv (r.toList ++ st) w' Q P)) : GoX S M pc lv st2 w Q P := by
  subst hs
  intro p l e s m args below meth c H locs ls E G h1 h2 h3 hX
  obtain ⟨c1, c2, c3, c4, c5, c6⟩ := hc
  obtain ⟨q, hq, hq2⟩ := hcl
  have hts : ∀ x ∈ TBL, x.before args s = true := fun x hx => G.2.2.2.2.2.1 x (List.mem_cons_of_mem _ hx)
  have hrec := va_recv G.2.2.2.2.2.2.2.1 h1 hq (mk_at hS)
  rw [hq2] at hrec
  have hpre : PreV s H M'.1.cls (E.2.1 a) (mP S E (.ref a :: as) w) (as.map (rv E.2.1)) := ⟨mP_blind E _ w, hrec, fun U hU hW => ⟨rfl, eK.moved hW (fun x g1 g2 => by rw [hU]; exact h2.2.1 x g1 g2) G.2.2.2.2.2.2.2, by rw [hU]; exact h1⟩⟩
  have hfix : CallFix p m c M.2.1 M.2.2.1 s args TBL own := ⟨G.1, G.2.1, G.2.2.2.1, ho ▸ G.2.2.2.2.1, hts⟩
  have hlo : 8 + (M'.2.2.1 + 11) + (rmD M'.2.2.2.2).locals ≤ (rmX M.2.2.2.2).locals := by show 8 + (M'.2.2.1 + 11) + M'.2.2.2.2 * 60 ≤ M.2.2.2.2 * 60; omega
  refine xg_after G hX h2 h3 (Q' := fun r w' => GoX S M (pc + 3) lv (r.toList ++ st) w' Q P) (a := (Value.ref (E.2.1 a) :: as.map (rv E.2.1)).toArray) ?_ (fun r w' h => h)
  rcases c1 with c1 | ⟨host, c1⟩
  · exact va_runV (As := as.map (rv E.2.1)) (rest := st.map (rv E.2.1)) hfix (k l E) ⟨⟨rfl, rfl, hD, hlo, mW_warm hts c2, List.mem_cons_self, hts _ c2, hts _ c3, c4, params_of c5, hts _ c1⟩, hts _ hin.1, hts _ hin.2⟩ hpre rfl (by rw [List.length_map]; exact hn) h3.1 (map_rev_app _ _ _) (lv_room (by rw [sum_cat]; exact hcat)) hd ⟨Nat.zero_le _, Nat.zero_le _⟩
  · exact va_runVN (As := as.map (rv E.2.1)) (rest := st.map (rv E.2.1)) hfix (k l E) ⟨⟨⟨rfl, rfl, hD, hlo, mW_warm hts c2, List.mem_cons_self⟩, hts _ c2, hts _ c3, c4, params_of c5, va_Nw.use (NST_tabs _ c1) (G.2.2.2.2.2.2.2.2.2.1 _ c1)⟩, hts _ hin.1, hts _ hin.2⟩ hpre rfl (by rw [List.length_map]; exact hn) h3.1 (map_rev_app _ _ _) (lv_room (by rw [sum_cat]; exact hcat)) hd ⟨Nat.zero_le _, Nat.zero_le _⟩
end GOX
